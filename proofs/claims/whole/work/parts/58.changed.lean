/-! changed -/
def SW (S T : Nat → Int32) : Nat → Int32 := fun i => if 9 ≤ i ∧ i < 15 then T i else S i
theorem sw_n {S T : Nat → Int32} {i : Nat} (h : i < 9 ∨ 15 ≤ i) : SW S T i = S i := if_neg (by omega)
theorem sw_y {S T : Nat → Int32} {s : Nat} (h : s < 6) : SW S T (9 + s) = T (9 + s) := if_pos (by omega)
theorem sw_fct (S T : Nat → Int32) : fctS (SW S T) = fctS S := by
  funext l
  unfold fctS dmpS
  rw [sw_n (by omega), sw_n (by omega), sw_n (by omega), sw_n (by omega), sw_n (by omega), sw_n (by omega), sw_n (by omega), sw_n (by omega)]
theorem sw_swl (cs : List Cls) (S T : Nat → Int32) : swlS cs (SW S T) = swlS cs S := by
  have e : swxS cs (SW S T) = swxS cs S := by
    unfold swxS dmpS
    rw [sw_fct, sw_n (by omega), sw_n (by omega)]
  unfold swlS
  rw [e, sw_n (by omega), sw_n (by omega)]
theorem sw_hng (S T : Nat → Int32) : hngS (SW S T) = hngS S := by
  unfold hngS
  rw [sw_n (by omega), sw_n (by omega), sw_n (by omega), sw_n (by omega), sw_n (by omega)]
theorem sw_bnd (S T : Nat → Int32) : bndS (SW S T) = bndS S := by
  unfold bndS
  rw [sw_n (by omega), sw_n (by omega), sw_n (by omega)]
theorem sw_ok {m : Nat} {S T : Nat → Int32} (h : okS m S) (k : okS m T) : okS m (SW S T) := by
  obtain ⟨h1, h2, h3, h4, h5, h6, h7, h8, h9, h10, h11⟩ := h
  refine ⟨?_, ?_, ?_, ?_, ?_, ?_, ?_, ?_, fun s hs => ?_, ?_, ?_⟩
  · rw [sw_n (by omega)]; exact h1
  · rw [sw_n (by omega)]; exact h2
  · rw [sw_n (by omega)]; exact h3
  · rw [sw_n (by omega)]; exact h4
  · rw [sw_n (by omega)]; exact h5
  · rw [sw_n (by omega)]; exact h6
  · rw [sw_n (by omega)]; exact h7
  · rw [sw_n (by omega)]; exact h8
  · rw [sw_y hs]; exact k.2.2.2.2.2.2.2.2.1 s hs
  · rw [sw_n (by omega)]; exact h10
  · rw [sw_n (by omega)]; exact h11
theorem ctS_cg {p q : Nat → Bool} : ∀ (k i : Nat) (c : Int32), (∀ s, s < i + k → p s = q s) → ctS p k i c = ctS q k i c
  | 0, _, _, _ => rfl
  | k + 1, i, c, h => by
    simp only [ctS, h i (by omega)]
    exact ctS_cg k (i + 1) _ (fun s hs => h s (by omega))
def ct6 (a b c d e f : Bool) : Int32 := ctS (fun i => match i with | 0 => a | 1 => b | 2 => c | 3 => d | 4 => e | _ => f) 6 0 0
theorem ct6_is (p : Nat → Bool) : ctS p 6 0 0 = ct6 (p 0) (p 1) (p 2) (p 3) (p 4) (p 5) := rfl
theorem on_M (M : Mem) : ∀ (n : Nat) (a b : Int32), f_M_ones_l4 M n a b = f_M_ones_l4 (zM 0) n a b
  | 0, _, _ => rfl
  | n + 1, a, b => by simp only [f_M_ones_l4, lte, on_M M n]
theorem ones6 : ∀ a b c d e f : Bool, f_M_ones (or6 a b c d e f) (zM 0) = some (ct6 a b c d e f) := by decide +kernel
theorem ones_m (p : Nat → Bool) (M : Mem) : f_M_ones (orS p 6 0 0) M = some (ctS p 6 0 0) := by
  have e : f_M_ones (orS p 6 0 0) M = f_M_ones (orS p 6 0 0) (zM 0) := on_M M _ _ _
  rw [e, or6_is, ct6_is]; exact ones6 _ _ _ _ _ _
/-- a course's door against a row of cuts -/
theorem with_l4 {C : Mem} {t H p m : Nat} {cs : List Cls} {S T : Nat → Int32} (hC : CoT C t H cs S) (ho : okS m S) (hw : wfH cs) (hT : ∀ s, s < 6 → mI C p s = T (9 + s) ∧ 0 ≤ T (9 + s) ∧ T (9 + s) ≤ 99) (hp : lnA p = 6) : ∀ (k fuel i : Nat) (c : Int32), k < fuel → i + k = 6 → f_Co_rubsWith_l4 t p C fuel c (Int32.ofNat i) = some (ctS (rubP cs (SW S T)) k i c)
  | k, 0, _, _, h, _ => by omega
  | 0, fuel + 1, i, c, _, hi' => by
    have c6 : (6 : Int32) ≤ Int32.ofNat i := (le6 (by omega)).mpr (by omega)
    simp only [f_Co_rubsWith_l4, if_pos c6]; rfl
  | k + 1, fuel + 1, i, c, _, hi' => by
    have c6 : ¬ (6 : Int32) ≤ Int32.ofNat i := fun q => by have := (le6 (by omega)).mp q; omega
    have c6' : ¬ (Int32.ofNat (lnA p)) ≤ Int32.ofNat i := by rw [hp]; exact c6
    have h6 : i < 6 := by omega
    have hr : inR (Int32.ofNat i) (lnA p) := by rw [hp]; exact oN_in (by omega) h6
    have hx : (Int32.ofNat i).toNatClampNeg = i := oN_ix (by omega)
    have ih := fun c => with_l4 hC ho hw hT hp k fuel (i + 1) c (by omega) (by omega)
    obtain ⟨⟨hD, h2, h3, h4, h5⟩, h6', h7, h8⟩ := id hC
    have e4 : mI C (t + 393217) 4 = S 4 := hD.1.2.2.2.2
    obtain ⟨t1, t2⟩ := hT i h6
    have q := sub_neg t2 (tku_ok h6 (swl_ok ho hw) (hng_ok ho) (bnd_ok ho) ho.2.2.2.2.2.2.2.2.2.1 ho.2.2.2.1)
    have hP : rubP cs (SW S T) i = decide (T (9 + i) - tkuS (Int32.ofNat i) (swlS cs S) (hngS S) (bndS S) (S 15) (S 4) < 0) := by
      unfold rubP gapS
      rw [sw_swl, sw_hng, sw_bnd, sw_y h6, sw_n (by omega), sw_n (by omega)]
    simp only [f_Co_rubsWith_l4, if_neg c6, if_neg c6', gd_pos hr, hx, h2, h6', h7, h8, e4, t1, tku_m, lte, oN_s, ctS]
    by_cases z : T (9 + i) < tkuS (Int32.ofNat i) (swlS cs S) (hngS S) (bndS S) (S 15) (S 4)
    · rw [if_neg (Int32.not_le.mpr z), if_pos (show rubP cs (SW S T) i = true by rw [hP]; exact decide_eq_true (q.mpr z))]; exact ih _
    · rw [if_pos (Int32.not_lt.mp z), if_neg (show ¬ rubP cs (SW S T) i = true by rw [hP]; exact fun y => z (q.mp (of_decide_eq_true y)))]; exact ih _
def swP (a b x k : Nat) : Prop := x = 13632267 ∧ ((6 * a ≤ k ∧ k < 6 * a + 6) ∨ (6 * b ≤ k ∧ k < 6 * b + 6))
theorem swap_l2 {M : Mem} {a b : Nat} (ha : a < 4) (hb : b < 4) (hab : a ≠ b) : ∀ (k fuel i : Nat) (M1 : Mem), k < fuel → i + k = 6 → Fi (swP a b) M M1 → (∀ s, s < 6 → mI M1 13632267 (6 * a + s) = (if s < i then mI M 13632267 (6 * b + s) else mI M 13632267 (6 * a + s)) ∧ mI M1 13632267 (6 * b + s) = (if s < i then mI M 13632267 (6 * a + s) else mI M 13632267 (6 * b + s))) → ∃ M', f_M_swapCuts_l2 fuel (Int32.ofNat a) (Int32.ofNat b) (Int32.ofNat i) M1 = some M' ∧ Fi (swP a b) M M' ∧ (∀ s, s < 6 → mI M' 13632267 (6 * a + s) = mI M 13632267 (6 * b + s) ∧ mI M' 13632267 (6 * b + s) = mI M 13632267 (6 * a + s))
  | k, 0, _, _, h, _, _, _ => by omega
  | 0, fuel + 1, i, M1, _, hi', hF, hI => by
    have c6 : (6 : Int32) ≤ Int32.ofNat i := (le6 (by omega)).mpr (by omega)
    refine ⟨M1, by simp only [f_M_swapCuts_l2, if_pos c6], hF, fun s hs => ?_⟩
    obtain ⟨x, y⟩ := hI s hs
    rw [if_pos (by omega)] at x y
    exact ⟨x, y⟩
  | k + 1, fuel + 1, i, M1, _, hi', hF, hI => by
    have c6 : ¬ (6 : Int32) ≤ Int32.ofNat i := fun q => by have := (le6 (by omega)).mp q; omega
    have h6 : i < 6 := by omega
    have ra : inR (Int32.ofNat (6 * a + i)) 24 := oN_in (by omega) (by omega)
    have rb : inR (Int32.ofNat (6 * b + i)) 24 := oN_in (by omega) (by omega)
    have xa : (Int32.ofNat (6 * a + i)).toNatClampNeg = 6 * a + i := oN_ix (by omega)
    have xb : (Int32.ofNat (6 * b + i)).toNatClampNeg = 6 * b + i := oN_ix (by omega)
    obtain ⟨x, y⟩ := hI i h6
    rw [if_neg (by omega)] at x y
    have F2 : Fi (swP a b) M (setI (setI M1 13632267 (6 * a + i) (mI M 13632267 (6 * b + i))) 13632267 (6 * b + i) (mI M 13632267 (6 * a + i))) := (hF.set ⟨rfl, Or.inl (by omega)⟩ _).set ⟨rfl, Or.inr (by omega)⟩ _
    obtain ⟨M', r1, r2, r3⟩ := swap_l2 ha hb hab k fuel (i + 1) _ (by omega) (by omega) F2 (fun s hs => by
      obtain ⟨u, w⟩ := hI s hs
      by_cases e : s = i
      · subst e
        rw [if_pos (by omega), if_pos (by omega)]
        exact ⟨(mSk (by omega)).trans mSe, mSe⟩
      · rw [mSk (by omega), mSk (by omega), mSk (by omega), mSk (by omega), u, w]
        by_cases z : s < i
        · rw [if_pos z, if_pos z, if_pos (by omega), if_pos (by omega)]; exact ⟨rfl, rfl⟩
        · rw [if_neg z, if_neg z, if_neg (by omega), if_neg (by omega)]; exact ⟨rfl, rfl⟩)
    refine ⟨M', ?_, r2, r3⟩
    simp only [f_M_swapCuts_l2, if_neg c6, ix6 ha h6, ix6 hb h6, gd_pos ra, gd_pos rb, xa, xb, lte, oN_s, x, y]
    exact r1
theorem swap_m {M : Mem} {a b : Nat} (ha : a < 4) (hb : b < 4) (hab : a ≠ b) : ∃ M', f_M_swapCuts (Int32.ofNat a) (Int32.ofNat b) M = some M' ∧ Fi (swP a b) M M' ∧ (∀ s, s < 6 → mI M' 13632267 (6 * a + s) = mI M 13632267 (6 * b + s) ∧ mI M' 13632267 (6 * b + s) = mI M 13632267 (6 * a + s)) :=
  swap_l2 ha hb hab 6 200 0 M (by omega) (by omega) Fi.rf (fun s hs => by rw [if_neg (by omega), if_neg (by omega)]; exact ⟨rfl, rfl⟩)
theorem MoS.sw {M M' : Mem} {a b j : Nat} {S T : Nat → Int32} (h : MoS M j S) (hF : Fi (swP a b) M M') (hc : ∀ s, s < 6 → mI M' 13632267 (6 * j + s) = T (9 + s)) : MoS M' j (SW S T) := by
  obtain ⟨⟨a1, a2, a3, a4, a5, a6, a7⟩, b, c1, c2, c3⟩ := h
  have e : ∀ x k, x ≠ 13632267 → mI M' x k = mI M x k := fun x k q => hF.1 x k fun z => q z.1
  refine ⟨⟨?_, ?_, ?_, ?_, ?_, ?_, ?_⟩, fun s hs => ?_, ?_, ?_, ?_⟩
  · rw [e _ _ (by decide), sw_n (by omega)]; exact a1
  · rw [e _ _ (by decide), sw_n (by omega)]; exact a2
  · rw [e _ _ (by decide), sw_n (by omega)]; exact a3
  · rw [e _ _ (by decide), sw_n (by omega)]; exact a4
  · rw [e _ _ (by decide), sw_n (by omega)]; exact a5
  · rw [e _ _ (by decide), sw_n (by omega)]; exact a6
  · rw [e _ _ (by decide), sw_n (by omega), sw_n (by omega)]; exact a7
  · rw [sw_y hs]; exact hc s hs
  · rw [e _ _ (by decide), sw_n (by omega)]; exact c1
  · rw [e _ _ (by decide), sw_n (by omega)]; exact c2
  · rw [sw_n (by omega)]; exact c3
theorem sw_self (S : Nat → Int32) : SW S S = S := by
  funext i
  unfold SW
  split <;> rfl
theorem less_all {C M C1 M1 : Mem} {hid n m b i j : Nat} {cs : List Cls} (hE : En C M hid n m b cs) (hF : Fr kC C C1) (hJ : Fi jM M M1) (hij : i < j) (hjn : j < n) : ∃ r C2 M2, f_D_rubsLessChanged (786436 + 655360 * i) (786436 + 655360 * j) C1 = some (r, C2) ∧ f_M_areChanged (Int32.ofNat i) (Int32.ofNat j) M1 = some (r, M2) ∧ Fr kC C C2 ∧ Fi jM M M2 := by
  obtain ⟨h1, h2, h3, h4, h5, -, hm9, hA, hG, -⟩ := hE
  have n4 := h5.2.1
  have hi4 : i < 4 := by omega
  have hj4 : j < 4 := by omega
  have hin : i < n := by omega
  obtain ⟨hSi, hoi⟩ : MoS M i (stC C (786436 + 655360 * i)) ∧ okS m (stC C (786436 + 655360 * i)) := h5.2.2.2.2 i hin
  obtain ⟨hSj, hoj⟩ : MoS M j (stC C (786436 + 655360 * j)) ∧ okS m (stC C (786436 + 655360 * j)) := h5.2.2.2.2 j hjn
  have di := dlo hi4
  have dj := dlo hj4
  have li : lnA (786436 + 655360 * i + 393415) = 6 := by unfold lnA; omega
  have lj : lnA (786436 + 655360 * j + 393415) = 6 := by unfold lnA; omega
  have Di := stC_do C (786436 + 655360 * i)
  have Dj := stC_do C (786436 + 655360 * j)
  obtain ⟨di', ei⟩ : ∃ x, x = 786436 + 655360 * i := ⟨_, rfl⟩
  obtain ⟨dj', ej⟩ : ∃ x, x = 786436 + 655360 * j := ⟨_, rfl⟩
  rw [← ei] at hSi hoi di li Di ⊢
  rw [← ej] at hSj hoj dj lj Dj ⊢
  -- the class
  obtain ⟨C2, a1, a2, a3, -⟩ := begin_c (t := 7602179) (d := di') (Or.inl rfl) di (hRep_k hF h2) h3
  rw [stC_fr hF di] at a2
  have F2 := hF.trans (a3.mono coA1)
  obtain ⟨C3, b1, b2', b3, -⟩ := begin_c (t := 9043971) (d := dj') (Or.inr rfl) (by omega) (hRep_k F2 h2) h3
  rw [stC_fr F2 dj] at b2'
  have F3 := F2.trans (b3.mono coA2)
  have a4 : CoT C3 7602179 hid cs (stC C di') := by
    obtain ⟨⟨x1, x2, x3, x4, x5⟩, x6, x7, x8⟩ := a2
    have nn : ∀ k, mI C3 7602179 k = mI C2 7602179 k := fun k => b3.1 _ _ (by unfold coA; omega)
    exact ⟨⟨x1.fr b3 (fun k => by unfold coA; omega) (fun k => by unfold coA; omega) (fun k => by unfold coA; omega) (fun k => by unfold coA; omega), (nn _).trans x2, (nn _).trans x3, (b3.2.1 _ _ (by unfold coA; omega)).trans x4, hRep_k F3 h2⟩, (nn _).trans x6, (nn _).trans x7, (nn _).trans x8⟩
  have ci : ∀ s, s < 6 → mI C3 (di' + 393415) s = stC C di' (9 + s) ∧ 0 ≤ stC C di' (9 + s) ∧ stC C di' (9 + s) ≤ 99 := fun s hs => ⟨(F3.1 _ _ (by unfold kC; omega)).trans (Di.2.2.2 s hs), hoi.2.2.2.2.2.2.2.2.1 s hs⟩
  have cj : ∀ s, s < 6 → mI C3 (dj' + 393415) s = stC C dj' (9 + s) ∧ 0 ≤ stC C dj' (9 + s) ∧ stC C dj' (9 + s) ≤ 99 := fun s hs => ⟨(F3.1 _ _ (by unfold kC; omega)).trans (Dj.2.2.2 s hs), hoj.2.2.2.2.2.2.2.2.1 s hs⟩
  have w1 : f_Co_rubsWith 7602179 (di' + 393415) C3 = some (ctS (rubP cs (SW (stC C di') (stC C di'))) 6 0 0) := with_l4 a4 hoi h3 ci li 6 200 0 0 (by omega) (by omega)
  have w2 : f_Co_rubsWith 9043971 (dj' + 393415) C3 = some (ctS (rubP cs (SW (stC C dj') (stC C dj'))) 6 0 0) := with_l4 b2' hoj h3 cj lj 6 200 0 0 (by omega) (by omega)
  have w3 : f_Co_rubsWith 7602179 (dj' + 393415) C3 = some (ctS (rubP cs (SW (stC C di') (stC C dj'))) 6 0 0) := with_l4 a4 hoi h3 cj lj 6 200 0 0 (by omega) (by omega)
  have w4 : f_Co_rubsWith 9043971 (di' + 393415) C3 = some (ctS (rubP cs (SW (stC C dj') (stC C di'))) 6 0 0) := with_l4 b2' hoj h3 ci li 6 200 0 0 (by omega) (by omega)
  rw [sw_self] at w1 w2
  have hC : f_D_rubsLessChanged di' dj' C1 = some (if ctS (rubP cs (stC C di')) 6 0 0 + ctS (rubP cs (stC C dj')) 6 0 0 ≤ ctS (rubP cs (SW (stC C di') (stC C dj'))) 6 0 0 + ctS (rubP cs (SW (stC C dj') (stC C di'))) 6 0 0 then 0 else 1, C3) := by
    have hh1 := (hold_k hF).trans h1
    have hh2 := (hold_k F2).trans h1
    simp only [f_D_rubsLessChanged, hh1, bdg, gd_pos h2.1, a1, hh2, b1, w1, w2, w3, w4, lte]
    split <;> rfl
  -- the model
  have hJA := h5.fi hJ
  have hJH := h4.fi hJ
  obtain ⟨ti, -⟩ : MoS M1 i (stC C (786436 + 655360 * i)) ∧ okS m (stC C (786436 + 655360 * i)) := hJA.2.2.2.2 i hin
  obtain ⟨tj, -⟩ : MoS M1 j (stC C (786436 + 655360 * j)) ∧ okS m (stC C (786436 + 655360 * j)) := hJA.2.2.2.2 j hjn
  rw [← ei] at ti
  rw [← ej] at tj
  obtain ⟨M2, m1, m2⟩ := rubs_m hi4 ti hoi h3 hJH
  obtain ⟨M3, m3, m4⟩ := rubs_m hj4 (tj.pil m2) hoj h3 (hJH.pil m2)
  have p23 := m2.trans m4
  obtain ⟨M4, s1, s2, s3⟩ := swap_m (M := M3) hi4 hj4 (by omega)
  have ti3 := ti.pil p23
  have tj3 := tj.pil p23
  have ti4 : MoS M4 i (SW (stC C di') (stC C dj')) := ti3.sw s2 fun s hs => (s3 s hs).1.trans (tj3.2.1 s hs)
  have tj4 : MoS M4 j (SW (stC C dj') (stC C di')) := tj3.sw s2 fun s hs => (s3 s hs).2.trans (ti3.2.1 s hs)
  have hH4 : MHb M4 cs b := (hJH.pil p23).fr (fun a ha k => s2.1 a k (by unfold mReg at ha; unfold swP; omega)) (s2.1 12451850 13 (by unfold swP; omega))
  obtain ⟨M5, m5, m6⟩ := rubs_m hi4 ti4 (sw_ok hoi hoj) h3 hH4
  obtain ⟨M6, m7, m8⟩ := rubs_m hj4 (tj4.pil m6) (sw_ok hoj hoi) h3 (hH4.pil m6)
  obtain ⟨M7, s4, s5, s6⟩ := swap_m (M := M6) hi4 hj4 (by omega)
  have p46 := m6.trans m8
  have fin : Fi jM M M7 := by
    refine hJ.trans ⟨fun a k hk => ?_, by rw [s5.2.1, p46.2.2.1, s2.2.1, p23.2.2.1], by rw [s5.2.2, p46.2.2.2, s2.2.2, p23.2.2.2]⟩
    have npil : ¬ pilP a k := fun z => hk (pil_jM a k z)
    by_cases q : swP i j a k
    · obtain ⟨q0, q1⟩ := q
      subst q0
      have nc : ∀ x, mI M6 13632267 x = mI M4 13632267 x := fun x => p46.1 _ _ (by unfold pilP; omega)
      have nc3 : ∀ x, mI M3 13632267 x = mI M1 13632267 x := fun x => p23.1 _ _ (by unfold pilP; omega)
      rcases q1 with q1 | q1
      · obtain ⟨s, hs, rfl⟩ : ∃ s, s < 6 ∧ k = 6 * i + s := ⟨k - 6 * i, by omega, by omega⟩
        rw [(s6 s hs).1, nc, (s3 s hs).2, nc3]
      · obtain ⟨s, hs, rfl⟩ : ∃ s, s < 6 ∧ k = 6 * j + s := ⟨k - 6 * j, by omega, by omega⟩
        rw [(s6 s hs).2, nc, (s3 s hs).1, nc3]
    · rw [s5.1 a k q, p46.1 a k npil, s2.1 a k q, p23.1 a k npil]
  have hM : f_M_areChanged (Int32.ofNat i) (Int32.ofNat j) M1 = some (if ctS (rubP cs (stC C di')) 6 0 0 + ctS (rubP cs (stC C dj')) 6 0 0 ≤ ctS (rubP cs (SW (stC C di') (stC C dj'))) 6 0 0 + ctS (rubP cs (SW (stC C dj') (stC C di'))) 6 0 0 then 0 else 1, M7) := by
    have o1 : f_M_ones (rubS cs (stC C di')) M2 = some (ctS (rubP cs (stC C di')) 6 0 0) := ones_m _ _
    have o2 : f_M_ones (rubS cs (stC C dj')) M3 = some (ctS (rubP cs (stC C dj')) 6 0 0) := ones_m _ _
    have o3 : f_M_ones (rubS cs (SW (stC C di') (stC C dj'))) M5 = some (ctS (rubP cs (SW (stC C di') (stC C dj'))) 6 0 0) := ones_m _ _
    have o4 : f_M_ones (rubS cs (SW (stC C dj') (stC C di'))) M6 = some (ctS (rubP cs (SW (stC C dj') (stC C di'))) 6 0 0) := ones_m _ _
    simp only [f_M_areChanged, m1, bdg, ap2g, o1, m3, o2, lte, s1, m5, o3, m7, o4, s4]
    split <;> rfl
  exact ⟨_, C3, M7, hC, hM, F3, fin⟩
theorem chg_in {C M : Mem} {hid n m b i : Nat} {cs : List Cls} (hE : En C M hid n m b cs) (hin : i < n) {K1 K2 : Int32 → Int32 → Int32 → Int32 → Mem → Option (Int32 × Mem)} {v1 : Int32} : ∀ (k f1 f2 j : Nat) (v2 v3 : Int32) (C1 M1 : Mem), k < f1 → k < f2 → j + k = n → i < j → Fr kC C C1 → Fi jM M M1 → ∃ u2 u3 C2 M2, f_D_changed_l37 K1 f1 v1 v2 v3 (Int32.ofNat i) (Int32.ofNat j) C1 = K1 v1 u2 u3 (Int32.ofNat (i + 1)) C2 ∧ f_M_changed_l35 K2 f2 v1 v2 v3 (Int32.ofNat i) (Int32.ofNat j) M1 = K2 v1 u2 u3 (Int32.ofNat (i + 1)) M2 ∧ Fr kC C C2 ∧ Fi jM M M2
  | k, 0, _, _, _, _, _, _, h, _, _, _, _, _ => by omega
  | k, _, 0, _, _, _, _, _, _, h, _, _, _, _ => by omega
  | 0, f1 + 1, f2 + 1, j, v2, v3, C1, M1, _, _, hj, hij, hF, hJ => by
    have n4 := hE.2.2.2.2.1.2.1
    have c1 : mI C1 131077 2 = Int32.ofNat n := (hF.1 _ _ (by unfold kC; omega)).trans hE.2.2.2.2.2.1
    have m1 : mI M1 12451850 1 = Int32.ofNat n := (hJ.1 _ _ (by unfold jM; omega)).trans hE.2.2.2.2.1.1
    have c : Int32.ofNat n ≤ Int32.ofNat j := (oN_le (by omega) (by omega)).mpr (by omega)
    refine ⟨v2, v3, C1, M1, ?_, ?_, hF, hJ⟩
    · simp only [f_D_changed_l37, c1, if_pos c, lte, oN_s]
    · simp only [f_M_changed_l35, m1, if_pos c, lte, oN_s]
  | k + 1, f1 + 1, f2 + 1, j, v2, v3, C1, M1, _, _, hj, hij, hF, hJ => by
    have n4 := hE.2.2.2.2.1.2.1
    have c1 : mI C1 131077 2 = Int32.ofNat n := (hF.1 _ _ (by unfold kC; omega)).trans hE.2.2.2.2.2.1
    have m1 : mI M1 12451850 1 = Int32.ofNat n := (hJ.1 _ _ (by unfold jM; omega)).trans hE.2.2.2.2.1.1
    have c : ¬ Int32.ofNat n ≤ Int32.ofNat j := fun q => by have := (oN_le (by omega) (by omega)).mp q; omega
    obtain ⟨r, C2, M2, l1, l2, l3, l4⟩ := less_all hE hF hJ hij (by omega)
    have ri : inR (Int32.ofNat i) 4 := oN_in (by omega) (by omega)
    have rj : inR (Int32.ofNat j) 4 := oN_in (by omega) (by omega)
    have xi : (Int32.ofNat i).toNatClampNeg = i := oN_ix (by omega)
    have xj : (Int32.ofNat j).toNatClampNeg = j := oN_ix (by omega)
    have go := fun v2 v3 => chg_in hE hin (K1 := K1) (K2 := K2) (v1 := v1) k f1 f2 (j + 1) v2 v3 C2 M2 (by omega) (by omega) (by omega) (by omega) l3 l4
    by_cases q : r = 0
    · obtain ⟨u2, u3, C3, M3, g1, g2, g3, g4⟩ := go v2 v3
      refine ⟨u2, u3, C3, M3, ?_, ?_, g3, g4⟩
      · rw [← g1]
        simp only [f_D_changed_l37, c1, if_neg c, gd_pos ri, gd_pos rj, xi, xj, l1, bdg, ap2g, if_pos q, lte, oN_s]
      · rw [← g2]
        simp only [f_M_changed_l35, m1, if_neg c, l2, bdg, ap2g, if_pos q, lte, oN_s]
    · by_cases z : v2 = 0
      · obtain ⟨u2, u3, C3, M3, g1, g2, g3, g4⟩ := go (v2 + 1) (10 * Int32.ofNat i + Int32.ofNat j)
        refine ⟨u2, u3, C3, M3, ?_, ?_, g3, g4⟩
        · rw [← g1]
          simp only [f_D_changed_l37, c1, if_neg c, gd_pos ri, gd_pos rj, xi, xj, l1, bdg, ap2g, if_neg q, if_pos z, lte, oN_s]
        · rw [← g2]
          simp only [f_M_changed_l35, m1, if_neg c, l2, bdg, ap2g, if_neg q, if_pos z, lte, oN_s]
      · obtain ⟨u2, u3, C3, M3, g1, g2, g3, g4⟩ := go (v2 + 1) v3
        refine ⟨u2, u3, C3, M3, ?_, ?_, g3, g4⟩
        · rw [← g1]
          simp only [f_D_changed_l37, c1, if_neg c, gd_pos ri, gd_pos rj, xi, xj, l1, bdg, ap2g, if_neg q, if_neg z, lte, oN_s]
        · rw [← g2]
          simp only [f_M_changed_l35, m1, if_neg c, l2, bdg, ap2g, if_neg q, if_neg z, lte, oN_s]
theorem chg_out {C M : Mem} {hid n m b : Nat} {cs : List Cls} (hE : En C M hid n m b cs) {v1 : Int32} : ∀ (k f1 f2 i : Nat) (v2 v3 : Int32) (C1 M1 : Mem), k < f1 → k < f2 → i + k = n → Fr kC C C1 → Fi jM M M1 → ∃ a C2 M2, f_D_changed_l19 f1 v1 v2 v3 (Int32.ofNat i) C1 = some (a, C2) ∧ f_M_changed_l20 f2 v1 v2 v3 (Int32.ofNat i) M1 = some (a, M2) ∧ Fr kC C C2 ∧ Fi jM M M2
  | k, 0, _, _, _, _, _, _, h, _, _, _, _ => by omega
  | k, _, 0, _, _, _, _, _, _, h, _, _, _ => by omega
  | 0, f1 + 1, f2 + 1, i, v2, v3, C1, M1, _, _, hi', hF, hJ => by
    have n4 := hE.2.2.2.2.1.2.1
    have c1 : mI C1 131077 2 = Int32.ofNat n := (hF.1 _ _ (by unfold kC; omega)).trans hE.2.2.2.2.2.1
    have m1 : mI M1 12451850 1 = Int32.ofNat n := (hJ.1 _ _ (by unfold jM; omega)).trans hE.2.2.2.2.1.1
    have c : Int32.ofNat n ≤ Int32.ofNat i := (oN_le (by omega) (by omega)).mpr (by omega)
    by_cases q : v1 = 0
    · exact ⟨v2, C1, M1, by simp only [f_D_changed_l19, c1, if_pos c, if_pos q], by simp only [f_M_changed_l20, m1, if_pos c, if_pos q], hF, hJ⟩
    · exact ⟨v3, C1, M1, by simp only [f_D_changed_l19, c1, if_pos c, if_neg q], by simp only [f_M_changed_l20, m1, if_pos c, if_neg q], hF, hJ⟩
  | k + 1, f1 + 1, f2 + 1, i, v2, v3, C1, M1, _, _, hi', hF, hJ => by
    have n4 := hE.2.2.2.2.1.2.1
    have c1 : mI C1 131077 2 = Int32.ofNat n := (hF.1 _ _ (by unfold kC; omega)).trans hE.2.2.2.2.2.1
    have m1 : mI M1 12451850 1 = Int32.ofNat n := (hJ.1 _ _ (by unfold jM; omega)).trans hE.2.2.2.2.1.1
    have c : ¬ Int32.ofNat n ≤ Int32.ofNat i := fun q => by have := (oN_le (by omega) (by omega)).mp q; omega
    obtain ⟨u2, u3, C2, M2, g1, g2, g3, g4⟩ := chg_in hE (i := i) (by omega) (K1 := f_D_changed_l19 f1) (K2 := f_M_changed_l20 f2) (v1 := v1) (n - (i + 1)) 200 200 (i + 1) v2 v3 C1 M1 (by omega) (by omega) (by omega) (by omega) hF hJ
    obtain ⟨a, C3, M3, r1, r2, r3, r4⟩ := chg_out hE (v1 := v1) k f1 f2 (i + 1) u2 u3 C2 M2 (by omega) (by omega) (by omega) g3 g4
    refine ⟨a, C3, M3, ?_, ?_, r3, r4⟩
    · rw [← r1, ← g1]
      simp only [f_D_changed_l19, c1, if_neg c, lte, oN_s]
    · rw [← r2, ← g2]
      simp only [f_M_changed_l20, m1, if_neg c, lte, oN_s]
theorem sim_changed {hs : Nat → List Cls} {C M : Mem} (h : Rel hs C M) (p1 : Int32) : Sim C M (f_D_changed p1 C) (f_M_changed p1) := by
  by_cases h9 : 0 ≤ p1 ∧ p1 ≤ 1
  · obtain ⟨hid, n, m, b, cs, hE⟩ := enter h
    have n4 := hE.2.2.2.2.1.2.1
    obtain ⟨a, C', M', x1, x2, x3, x4⟩ := chg_out hE (v1 := p1) n 200 200 0 0 (-5) C M (by omega) (by omega) (by omega) Fr.rf Fi.rf
    refine sim_ask h (a := a) (C' := C') (M' := M') ?_ x3 ?_ x4
    · simp only [f_D_changed, wi1 h9, if_neg i10]
      exact x1
    · simp only [f_M_changed, mi1 h9, if_neg i10]
      exact x2
  · refine sim_no (-1) h ?_ ?_
    · simp only [f_D_changed, wi0 h9, if_true]
    · simp only [f_M_changed, mi0 h9, if_true]
