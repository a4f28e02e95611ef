theorem holds_m {M : Mem} {j c a : Nat} {code : List Int32} (hj : j < 4) (hc : c < 60) (ha : a + code.length ≤ 600) (hlen : code.length ≤ 100) (hfr : mI M 14288779 c = Int32.ofNat a) (hto : mI M 14419851 c = Int32.ofNat (a + code.length)) (hs : ∀ k, k < code.length → mI M 14568203 (a + k) = trS (code.getD k 0)) (hd : depS code 0 = some 1) {M1 : Mem} (hf : Fr pilP M M1) : ∃ M2, f_M_holds (Int32.ofNat c) (Int32.ofNat j) M1 = some (bI (hdS (fcM M j) code), M2) ∧ Fr pilP M M2 := by
  unfold f_M_holds
  rw [gd_pos (oN_in (by omega) hc), oN_ix (by omega), lte, hf.1 14288779 c (by decide : ¬ (14288779 : Nat) = 14945421), hfr]
  exact holds_l10 hj hc ha hlen hto hs code.length 200 0 M1 [] (by omega) (by omega) hd (by decide) hf (fun i hi' => by simp at hi')
/-- what a word's clauses that hold say together -/
def suS (w : Int32) (F : Nat → Int32) (cs : List Cls) (n : Int32) : Int32 := cs.foldl (fun n q => if q.1 = w ∧ hdS F q.2.2 = true then n + q.2.1 else n) n
def sumS (w : Int32) (F : Nat → Int32) (cs : List Cls) : Int32 := suS w F cs 0
theorem suS_c (w : Int32) (F : Nat → Int32) (q : Cls) (cs : List Cls) (n : Int32) : suS w F (q :: cs) n = suS w F cs (if q.1 = w ∧ hdS F q.2.2 = true then n + q.2.1 else n) := rfl
theorem bI1 {b : Bool} : bI b = 0 ↔ b = false := by cases b <;> decide
theorem total_l16 {C : Mem} {x p v4 : Nat} {F : Nat → Int32} {cs : List Cls} {w : Int32} (hw : w ≤ 1) (hwf : wfH cs) (hp : lnA p = 6) (hF : ∀ l, l < 6 → mI C p l = F l) (h16 : v4 % 32 = 16) (hln : lnA v4 = cs.length) (hc : ∀ c, c < cs.length → CRep C (mR C v4 c) (cs.getD c (0, 0, []))) : ∀ (k fuel i : Nat) (n : Int32), k < fuel → i + k = cs.length → f_Hs_total_l16 x p C fuel w n v4 (Int32.ofNat cs.length) (Int32.ofNat i) = some (suS w F (cs.drop i) n)
  | k, 0, _, _, h, _ => by omega
  | 0, fuel + 1, i, n, _, hi' => by
    have h10 := hwf.1
    simp only [f_Hs_total_l16]
    rw [if_pos ((oN_le (by omega) (by omega)).mpr (by omega)), List.drop_of_length_le (by omega)]; rfl
  | k + 1, fuel + 1, i, n, hf, hi' => by
    have h10 := hwf.1
    have hil : i < cs.length := by omega
    have hq := hc i hil
    have hqw := hwf.2 _ (getD_mem hil (0, 0, []))
    rw [drop_c hil (0, 0, []), suS_c]
    generalize cs.getD i (0, 0, []) = q at hq hqw ⊢
    have ih := fun m => total_l16 (x := x) hw hwf hp hF h16 hln hc k fuel (i + 1) m (by omega) (by omega)
    simp only [f_Hs_total_l16]
    rw [if_neg (fun q => by have := (oN_le (by omega) (by omega)).mp q; omega), gd_pos h16, gd_pos (oN_in (by omega) (by rw [hln]; exact hil)), oN_ix (by omega), lte, gd_pos hq.1, hq.2.2.1]
    by_cases e : q.1 = w
    · rw [if_pos e, holds_c hq hp hF hqw.2.2.2.2.1 (hqw.2.2.2.2.2 (by rw [e]; exact hw)), bdg]
      by_cases b : hdS F q.2.2 = true
      · rw [b, if_neg (by decide), if_pos ⟨e, rfl⟩, lte, lte, hq.2.2.2.1, oN_s]; exact ih _
      · rw [Bool.eq_false_iff.mpr b, if_pos (by decide), if_neg (fun z => Bool.noConfusion z.2), lte, oN_s]; exact ih _
    · rw [if_neg e, if_neg (fun z => e z.1), lte, oN_s]; exact ih _
theorem total_c {C : Mem} {id p : Nat} {F : Nat → Int32} {cs : List Cls} {w : Int32} (h : HRep C id cs) (hw : w ≤ 1) (hwf : wfH cs) (hp : lnA p = 6) (hF : ∀ l, l < 6 → mI C p l = F l) : f_Hs_total id w p C = some (sumS w F cs) := by
  obtain ⟨h1, h2, h3, h4, h5, h6, h7, h8, h9⟩ := h
  unfold f_Hs_total
  rw [lte, gd_pos (by omega), lte, h8]
  exact total_l16 hw hwf hp hF h6 h8 h9 cs.length 200 0 0 (by have := hwf.1; omega) (by omega)
/-! the model's house -/
def MHb (M : Mem) (cs : List Cls) (b : Nat) : Prop := b + cs.length ≤ 60 ∧ f_M_begin M = Int32.ofNat b ∧ f_M_behind M = some (Int32.ofNat (b + cs.length)) ∧ ∀ c, c < cs.length → mI M 14026635 (b + c) = (cs.getD c (0, 0, [])).1 ∧ mI M 14157707 (b + c) = (cs.getD c (0, 0, [])).2.1 ∧ ((cs.getD c (0, 0, [])).1 ≤ 1 → ∃ a : Nat, mI M 14288779 (b + c) = Int32.ofNat a ∧ mI M 14419851 (b + c) = Int32.ofNat (a + (cs.getD c (0, 0, [])).2.2.length) ∧ a + (cs.getD c (0, 0, [])).2.2.length ≤ 600 ∧ ∀ k, k < (cs.getD c (0, 0, [])).2.2.length → mI M 14568203 (a + k) = trS ((cs.getD c (0, 0, [])).2.2.getD k 0))
theorem MHb.fr {M M' : Mem} (hI : ∀ a, mReg a → ∀ k, mI M' a k = mI M a k) (h13 : mI M' 12451850 13 = mI M 12451850 13) {cs : List Cls} {b : Nat} (h : MHb M cs b) : MHb M' cs b := by
  obtain ⟨h1, h2, h3, h4⟩ := h
  refine ⟨h1, ?_, ?_, fun c hc => ?_⟩
  · unfold f_M_begin at h2 ⊢; rw [h13]; exact h2
  · unfold f_M_behind at h3 ⊢; rw [h13, hI 13893835 (Or.inl rfl)]; exact h3
  · obtain ⟨a1, a2, a3⟩ := h4 c hc
    refine ⟨by rw [hI 14026635 (Or.inr (Or.inl rfl))]; exact a1, by rw [hI 14157707 (Or.inr (Or.inr (Or.inl rfl)))]; exact a2, fun w => ?_⟩
    obtain ⟨a, b1, b2, b3, b4⟩ := a3 w
    exact ⟨a, by rw [hI 14288779 (Or.inr (Or.inr (Or.inr (Or.inl rfl))))]; exact b1, by rw [hI 14419851 (Or.inr (Or.inr (Or.inr (Or.inr (Or.inl rfl)))))]; exact b2, b3, fun k hk => by rw [hI 14568203 (Or.inr (Or.inr (Or.inr (Or.inr (Or.inr rfl)))))]; exact b4 k hk⟩
theorem mReg_ne {a b : Nat} (h : mReg a) (hb : ¬ mReg b) : a ≠ b := fun e => hb (e ▸ h)
theorem MHb.pil {M M' : Mem} (h : Fr pilP M M') {cs : List Cls} {b : Nat} (k : MHb M cs b) : MHb M' cs b :=
  k.fr (fun a ha k => h.1 a k (mReg_ne ha (by unfold mReg; simp))) (h.1 12451850 13 (by decide : ¬ (12451850 : Nat) = 14945421))
theorem sumOf_l8 {M : Mem} {cs : List Cls} {b j : Nat} {w : Int32} (hj : j < 4) (hw : w ≤ 1) (hwf : wfH cs) (h : MHb M cs b) : ∀ (k fuel i : Nat) (n : Int32) (M1 : Mem), k < fuel → i + k = cs.length → Fr pilP M M1 → ∃ M2, f_M_sumOf_l8 fuel w (Int32.ofNat j) n (Int32.ofNat (b + i)) M1 = some (suS w (fcM M j) (cs.drop i) n, M2) ∧ Fr pilP M M2
  | k, 0, _, _, _, h, _, _ => by omega
  | 0, fuel + 1, i, n, M1, _, hi', hf => by
    have h10 := hwf.1
    have hb := h.1
    refine ⟨M1, ?_, hf⟩
    simp only [f_M_sumOf_l8]
    rw [(h.pil hf).2.2.1, bdg, if_pos ((oN_le (by omega) (by omega)).mpr (by omega)), List.drop_of_length_le (by omega)]; rfl
  | k + 1, fuel + 1, i, n, M1, hfu, hi', hf => by
    have h10 := hwf.1
    have hb := h.1
    have hil : i < cs.length := by omega
    obtain ⟨a1, a2, -⟩ := (h.pil hf).2.2.2 i hil
    have a3 := (h.2.2.2 i hil).2.2
    have hqw := hwf.2 _ (getD_mem hil (0, 0, []))
    rw [drop_c hil (0, 0, []), suS_c]
    generalize cs.getD i (0, 0, []) = q at a1 a2 a3 hqw ⊢
    have ih := fun m M' hM => sumOf_l8 hj hw hwf h k fuel (i + 1) m M' (by omega) (by omega) hM
    simp only [f_M_sumOf_l8]
    rw [(h.pil hf).2.2.1, bdg, if_neg (fun q => by have := (oN_le (by omega) (by omega)).mp q; omega), gd_pos (oN_in (by omega) (by omega)), oN_ix (by omega), a1]
    by_cases e : q.1 = w
    · obtain ⟨a, c1, c2, c3, c4⟩ := a3 (by rw [e]; exact hw)
      obtain ⟨M2, d1, d2⟩ := holds_m (M := M) hj (c := b + i) (by omega) c3 hqw.2.2.2.2.1 c1 c2 c4 (hqw.2.2.2.2.2 (by rw [e]; exact hw)) hf
      rw [if_pos e, d1, b2g]
      have a2' : mI M2 14157707 (b + i) = q.2.1 := ((d2.1 14157707 (b + i) (by decide : ¬ (14157707 : Nat) = 14945421)).trans (hf.1 14157707 (b + i) (by decide : ¬ (14157707 : Nat) = 14945421)).symm).trans a2
      by_cases z : hdS (fcM M j) q.2.2 = true
      · rw [z, if_neg (by decide), if_pos ⟨e, rfl⟩, gd_pos (oN_in (by omega) (by omega)), lte, lte, a2', oN_s]; exact ih _ _ d2
      · rw [Bool.eq_false_iff.mpr z, if_pos (by decide), if_neg (fun z => Bool.noConfusion z.2), lte, lte, oN_s, show n + 0 = n by grind]; exact ih _ _ d2
    · rw [if_neg e, if_neg (fun z => e z.1), lte, lte, oN_s, show n + 0 = n by grind]; exact ih _ _ hf
theorem sumOf_m {M : Mem} {cs : List Cls} {b j : Nat} {w : Int32} (hj : j < 4) (hw : w ≤ 1) (hwf : wfH cs) (h : MHb M cs b) : ∃ M2, f_M_sumOf w (Int32.ofNat j) M = some (sumS w (fcM M j) cs, M2) ∧ Fr pilP M M2 := by
  unfold f_M_sumOf
  rw [lte, h.2.1]
  exact sumOf_l8 hj hw hwf h cs.length 200 0 0 M (by have := hwf.1; omega) (by omega) Fr.rf
theorem lastOf_l8 {M : Mem} {cs : List Cls} {b : Nat} {w : Int32} (hwf : wfH cs) (h : MHb M cs b) : ∀ (k fuel i : Nat) (n : Int32), k < fuel → i + k = cs.length → f_M_lastOf_l8 M fuel w n (Int32.ofNat (b + i)) = some (lastS w n (cs.drop i))
  | k, 0, _, _, h, _ => by omega
  | 0, fuel + 1, i, n, _, hi' => by
    have h10 := hwf.1
    have hb := h.1
    simp only [f_M_lastOf_l8]
    rw [h.2.2.1, bdg, if_pos ((oN_le (by omega) (by omega)).mpr (by omega)), List.drop_of_length_le (by omega)]; rfl
  | k + 1, fuel + 1, i, n, hfu, hi' => by
    have h10 := hwf.1
    have hb := h.1
    have hil : i < cs.length := by omega
    obtain ⟨a1, a2, -⟩ := h.2.2.2 i hil
    rw [drop_c hil (0, 0, [])]
    generalize cs.getD i (0, 0, []) = q at a1 a2 ⊢
    have ih := fun m => lastOf_l8 (w := w) hwf h k fuel (i + 1) m (by omega) (by omega)
    have hc : lastS w n (q :: cs.drop (i + 1)) = lastS w (if q.1 = w then q.2.1 else n) (cs.drop (i + 1)) := rfl
    simp only [f_M_lastOf_l8]
    rw [hc, h.2.2.1, bdg, if_neg (fun q => by have := (oN_le (by omega) (by omega)).mp q; omega), gd_pos (oN_in (by omega) (by omega)), oN_ix (by omega), a1]
    by_cases e : q.1 = w
    · rw [if_pos e, if_pos e, gd_pos (oN_in (by omega) (by omega)), lte, lte, a2, oN_s]; exact ih _
    · rw [if_neg e, if_neg e, lte, oN_s]; exact ih _
theorem lastOf_m {M : Mem} {cs : List Cls} {b : Nat} {w n : Int32} (hwf : wfH cs) (h : MHb M cs b) : f_M_lastOf w n M = some (lastS w n cs) := by
  unfold f_M_lastOf
  rw [lte, h.2.1]
  exact lastOf_l8 hwf h cs.length 200 0 n (by have := hwf.1; omega) (by omega)
theorem hasSwell_l5 {M : Mem} {cs : List Cls} {b : Nat} (hwf : wfH cs) (h : MHb M cs b) : ∀ (k fuel i : Nat), k < fuel → i + k = cs.length → f_M_hasSwell_l5 M fuel (Int32.ofNat (b + i)) = some (swS (cs.drop i))
  | k, 0, _, h, _ => by omega
  | 0, fuel + 1, i, _, hi' => by
    have h10 := hwf.1
    have hb := h.1
    simp only [f_M_hasSwell_l5]
    rw [h.2.2.1, bdg, if_pos ((oN_le (by omega) (by omega)).mpr (by omega)), List.drop_of_length_le (by omega)]; rfl
  | k + 1, fuel + 1, i, hfu, hi' => by
    have h10 := hwf.1
    have hb := h.1
    have hil : i < cs.length := by omega
    obtain ⟨a1, a2, -⟩ := h.2.2.2 i hil
    rw [drop_c hil (0, 0, [])]
    generalize cs.getD i (0, 0, []) = q at a1 a2 ⊢
    have ih := hasSwell_l5 hwf h k fuel (i + 1) (by omega) (by omega)
    simp only [f_M_hasSwell_l5]
    rw [h.2.2.1, bdg, if_neg (fun q => by have := (oN_le (by omega) (by omega)).mp q; omega), gd_pos (oN_in (by omega) (by omega)), oN_ix (by omega), a1]
    by_cases e : q.1 = 0
    · rw [if_pos e]; unfold swS; simp [e]
    · rw [if_neg e, lte, oN_s]
      have : swS (q :: cs.drop (i + 1)) = swS (cs.drop (i + 1)) := by unfold swS; rw [List.any_cons, show (q.1 == 0) = false from beq_eq_false_iff_ne.mpr e, Bool.false_or]
      rw [this]; exact ih
theorem hasSwell_m {M : Mem} {cs : List Cls} {b : Nat} (hwf : wfH cs) (h : MHb M cs b) : f_M_hasSwell M = some (swS cs) := by
  unfold f_M_hasSwell
  rw [lte, h.2.1]
  exact hasSwell_l5 hwf h cs.length 200 0 (by have := hwf.1; omega) (by omega)
/-- the house that holds, on both sides -/
theorem hold_at {hs : Nat → List Cls} {C M : Mem} (h : Rel hs C M) : ∃ id cs b, f_D_holdingHouse C = some id ∧ HRep C id cs ∧ wfH cs ∧ MHb M cs b := by
  have e1 := h.eq (i := 63) (by decide) (by unfold inImg; omega)
  have e2 := h.lo (i := 63) (by decide) (by unfold inImg; omega)
  have e3 := h.hi (i := 63) (by decide) (by unfold inImg; omega)
  have e4 := h.2.2.1.1
  change (-1 : Int32) ≤ _ at e2
  change _ ≤ (5 : Int32) at e3
  have c1 : mI C 131077 5 = rdI C (ce 63) := rfl
  have m1 : mI M 12451850 13 = rdI C (ce 63) := e1.symm
  generalize rdI C (ce 63) = v at *
  by_cases hv : 0 ≤ v
  · obtain ⟨f, hf, rfl⟩ := oN_of (p := v) ⟨hv, e3⟩ (n := 6) (by decide)
    obtain ⟨a1, a2, a3⟩ := h.2.1.2 f hf e4
    have hx : (Int32.ofNat f).toNatClampNeg = f := oN_ix (by omega)
    have hr : inR (Int32.ofNat f) 6 := oN_in (by omega) hf
    refine ⟨mR C 7471311 f, hs f, 10 * f, ?_, a1, a3, ?_, ?_, ?_, ?_⟩
    · unfold f_D_holdingHouse
      rw [c1, wi1 ⟨hv, e3⟩, if_neg i10, gd_pos hr, lte, hx, if_neg]
      have := a1.1
      omega
    · have := a3.1; omega
    · unfold f_M_begin
      rw [m1, if_pos hv]
      have := ix6 (j := f) (s := 0)
      apply Int32.toInt_inj.mp
      rw [Int32.toInt_mul, oN_int (by omega), oN_int (by omega)]
      show (10 * (f : Int)).bmod _ = _
      rw [Int.bmod_eq_of_le] <;> omega
    · unfold f_M_behind
      rw [m1, if_pos hv, gd_pos hr, hx, a2.1]
      have h10 := a3.1
      congr 1
      apply Int32.toInt_inj.mp
      rw [Int32.toInt_add, Int32.toInt_mul, oN_int (by omega), oN_int (by omega), oN_int (by omega)]
      show ((10 * (f : Int)).bmod _ + _).bmod _ = _
      rw [Int.bmod_eq_of_le (n := 10 * (f : Int))] <;> first | (rw [Int.bmod_eq_of_le] <;> omega) | omega
    · intro c hc
      obtain ⟨b1, b2', b3⟩ := a2.2 c hc
      refine ⟨b1, b2', fun w => ?_⟩
      obtain ⟨a, d1, d2, d3, d4⟩ := b3 w
      exact ⟨a, d1, d2, by omega, d4⟩
  · refine ⟨7208966, [], 0, ?_, h.2.1.1, ⟨by decide, fun q hq => by simp at hq⟩, by decide, ?_, ?_, fun c hc => by simp at hc⟩
    · unfold f_D_holdingHouse
      rw [c1, wi0 (fun z => hv z.1), if_pos rfl, if_pos rfl]
    · unfold f_M_begin
      rw [m1, if_neg hv]; rfl
    · unfold f_M_behind
      rw [m1, if_neg hv]; rfl
theorem sim_told {hs : Nat → List Cls} {C M : Mem} (h : Rel hs C M) (p1 : Int32) : SimR (f_D_told p1 C) (f_M_told p1 M) := by
  obtain ⟨id, cs, b, h1, h2, h3, h4⟩ := hold_at h
  by_cases hp : 10 ≤ p1 ∧ p1 ≤ 21
  · have hq : 0 ≤ p1 - 10 ∧ p1 - 10 ≤ 11 := by grind
    have hr := inR_le (n := 12) hq (by decide)
    obtain ⟨e1, e2, e3, e4, e5⟩ := ce_air (inR_ix hr)
    refine ⟨rdI C (ce (p1 - 10).toNatClampNeg), ?_, ?_⟩
    · simp only [f_D_told, wi1 hp, if_neg i10, gd_pos hr, e1]; rfl
    · rw [h.eq e3 (by unfold inImg; have := inR_ix hr; omega)]
      simp only [f_M_told, mi1 hp, if_neg i10, gd_pos hr, e2]; rfl
  · simp only [f_D_told, f_M_told, wi0 hp, mi0 hp, if_true]
    by_cases e0 : p1 = 0
    · rw [if_pos e0, if_pos e0, h1, bdg, gd_pos h2.1, lastOf_m h3 h4, bdg]
      exact ⟨_, rfl, by rw [h2.2.2.2.1]⟩
    by_cases e1 : p1 = 1
    · rw [if_neg e0, if_neg e0, if_pos e1, if_pos e1, h1, bdg, gd_pos h2.1, lastOf_m h3 h4, bdg]
      exact ⟨_, rfl, by rw [h2.2.2.2.2.1]⟩
    rw [if_neg e0, if_neg e0, if_neg e1, if_neg e1]
    by_cases e2 : p1 = 2
    · rw [if_pos e2, if_pos e2]
      exact ⟨_, rfl, congrArg some (h.eq (i := 62) (by decide) (by unfold inImg; omega)).symm⟩
    by_cases e3 : p1 = 3
    · rw [if_neg e2, if_neg e2, if_pos e3, if_pos e3]
      exact ⟨_, rfl, congrArg some (h.eq (i := 61) (by decide) (by unfold inImg; omega)).symm⟩
    rw [if_neg e2, if_neg e2, if_neg e3, if_neg e3]
    exact ⟨_, rfl, rfl⟩
