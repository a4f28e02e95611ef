/-! month -/
theorem tk_e {d : Nat} {C : Mem} {S : Nat → Int32} (h : DoS C d S) (a : Int32) : f_Dr_takeUp d a C = some (setI (setI C (d + 131143) 0 (watS a (S 5) (S 7))) (d + 131143) 1 (watS a (S 6) (S 8))) := by
  obtain ⟨-, ⟨b0, b1⟩, ⟨c0, c1⟩, -⟩ := h
  unfold f_Dr_takeUp
  refine (tk_step (n := 199) (i := 0) (by decide) C).trans ?_
  refine (tk_step (n := 198) (i := 1) (by decide) _).trans ?_
  rw [mSk (by decide), mSk (by decide), b0, b1, c0, c1]
  exact tk_end (n := 197) _
/-- the facts' row of a door -/
def fcP (j a _ : Nat) : Prop := a = 786436 + 655360 * j + 524487
theorem rel_facts {hs : Nat → List Cls} {C M C' : Mem} {j d : Nat} (hd : d = 786436 + 655360 * j) (hj : j < 4) (h : Rel hs C M) (hC : Fr (oneP (d + 524487)) C C') : Rel hs C' M := by
  subst hd
  obtain ⟨a1, a2, a3, a4, a5, a6⟩ := h
  have nn : ∀ a k, a ≠ 786436 + 655360 * j + 524487 → mI C' a k = mI C a k := fun a k q => hC.1 a k q
  have key : (List.range nC).all (fun i => (List.range 4).all fun j => !((ce i).1 == 786436 + 655360 * j + 524487)) = true := by decide +kernel
  have nC' : ∀ i, i < nC → rdI C' (ce i) = rdI C (ce i) := fun i hi' => nn _ _ (by
    have := List.all_eq_true.mp (allC key hi') j (List.mem_range.mpr hj)
    simpa using this)
  refine ⟨a1.gen nC' (fun _ _ => rfl), a2.fr (fun a ha k => nn a k (by unfold hReg at ha; omega)) (fun a ha k => hC.2.1 a k (by show a ≠ _; unfold hReg at ha; omega)) (nC' _ (by decide)) (fun _ _ _ => rfl), a3.fr (fun k hk _ => nC' k hk), a4.fr (fun p hp => nn _ _ ?_) (fun j _ => ⟨rfl, rfl⟩) (nC' _ (by decide)) (nC' _ (by decide)) (nC' _ (by decide)), ?_, by rw [hC.2.2.2, a6]⟩
  · obtain ⟨i, hi', q⟩ := hp
    rcases q with e | e | e | e | e | e <;> (subst e; simp only; omega)
  · intro t k ht hk
    rw [hC.2.2.1]; exact a5 t k ht hk
theorem rel_pil {hs : Nat → List Cls} {C M M' : Mem} (h : Rel hs C M) (hM : Fr pilP M M') : Rel hs C M' := rel_ask h Fr.rf (hM.mono pil_jM).fi
theorem ap2g {α β : Type} (r : α) (M : Mem) (g : α → Mem → Option β) : ap2 g (r, M) = g r M := Eq.trans rfl rfl
theorem stC16 (C : Mem) (d : Nat) : stC C d 16 = mI C 131077 4 := by
  unfold stC
  rw [if_neg (by decide), if_neg (by decide), if_neg (by decide), if_neg (by decide), if_neg (by decide)]
theorem tak16 (a : Int32) (S : Nat → Int32) : takS a S 16 = S 16 := by
  unfold takS
  rw [if_neg (by decide), if_neg (by decide)]
theorem tak3 (a : Int32) (S : Nat → Int32) : takS a S 3 = S 3 := by
  unfold takS
  rw [if_neg (by decide), if_neg (by decide)]
theorem month_c {C C1 C2 : Mem} {d j n f1 hid fr : Nat} {a X T s3 : Int32} (hd : d = 786436 + 655360 * j) (hn : n ≤ 4) (hj : j < 4) (hjn : j < n) (e60 : mI C 131077 2 = Int32.ofNat n) (kd : d % 131072 = 4) (t1 : f_Dr_takeUp d a C = some C1) (m16 : mI C1 131077 4 = X) (j1 : f_Dr_factsIn d X C1 = some (fr, C2)) (h2 : hid % 131072 = 6) (hf : fr % 32 = 11) (tot : f_Hs_total hid 1 fr C2 = some T) (e3 : mI C2 d 3 = s3) : f_D_month_l42 (f1 + 1) hid a (Int32.ofNat j) C = f_D_month_l42 f1 hid a (Int32.ofNat (j + 1)) (setI C2 d 3 (mnI 20 (s3 + T))) := by
  have hx : (Int32.ofNat j).toNatClampNeg = j := oN_ix (by omega)
  have hc : ¬ Int32.ofNat n ≤ Int32.ofNat j := fun q => by have := (oN_le (by omega) (by omega)).mp q; omega
  have hr : inR (Int32.ofNat j) 4 := oN_in (by omega) hj
  have dr : f_Dr_drawOut d T C2 = some (setI C2 d 3 (mnI 20 (s3 + T))) := by unfold f_Dr_drawOut; rw [lte, e3]
  simp only [f_D_month_l42, e60, if_neg hc, gd_pos hr, hx, ← hd, lte, gd_pos kd, t1, bdg, m16, j1, b2g, gd_pos h2, gd_pos hf, tot, dr, oN_s, ap2g]
theorem month_i {hs : Nat → List Cls} {C M : Mem} (h : Rel hs C M) {j hid n m : Nat} {a : Int32} (hn4 : n ≤ 4) (hj : j < 4) (hh : f_D_holdingHouse C = some hid) (hn : mI M 12451850 1 = Int32.ofNat n) (hm : mI C 131077 4 = Int32.ofNat m) (hjn : j < n) (ha : 0 ≤ a ∧ a ≤ 99) {f1 f2 : Nat} : ∃ C2 M2, f_D_month_l42 (f1 + 1) hid a (Int32.ofNat j) C = f_D_month_l42 f1 hid a (Int32.ofNat (j + 1)) C2 ∧ f_M_goMonth_l2 (f2 + 1) a (Int32.ofNat j) M = f_M_goMonth_l2 f2 a (Int32.ofNat (j + 1)) M2 ∧ Rel hs C2 M2 ∧ mZ C2 = mZ C ∧ (∀ k, mI C2 131077 k = mI C 131077 k) ∧ mR C2 7471311 = mR C 7471311 ∧ (∀ k, mI M2 12451850 k = mI M 12451850 k) := by
  obtain ⟨id', n', m', b, cs, hE⟩ := enter h
  obtain ⟨h1, h2, h3, h4, h5, h6, h7, h8, h9, h10, h11⟩ := hE
  have ei : id' = hid := by rw [h1] at hh; exact Option.some.inj hh
  subst ei
  have h54 := h5.2.1
  have en : n' = n := by
    have := h5.1.symm.trans hn
    have q1 := oN_ix (i := n') (by omega)
    have q2 := oN_ix (i := n) (by omega)
    rw [this, q2] at q1; exact q1.symm
  subst en
  obtain ⟨d, hd⟩ : ∃ d, d = 786436 + 655360 * j := ⟨_, rfl⟩
  obtain ⟨hS, ho⟩ : MoS M j (stC C (786436 + 655360 * j)) ∧ okS m' (stC C (786436 + 655360 * j)) := h5.2.2.2.2 j hjn
  have hD := stC_do C d
  rw [← hd] at hS ho
  obtain ⟨e1, e2, e3, e4, e5⟩ := ce_w0 hj
  obtain ⟨g1, g2, g3, g4, g5⟩ := ce_w1 hj
  obtain ⟨k1, k2', k3', k4, k5⟩ := ce_sag hj
  have z := dnz j
  have kd := dkd j
  rw [← hd] at e1 g1 k1 z kd
  have w0 := wat_ok (p := stC C d 7) ha ho.2.2.2.2.1
  have w1 := wat_ok (p := stC C d 8) ha ho.2.2.2.2.2.1
  obtain ⟨M2, d1, d2, d3, d4, M8, d5, d6⟩ := door_month (fuel := f2) hj h5.1 ((oN_lt (by omega) (by omega)).mpr hjn) hS ho h3 h4 ha
  have r1 := (h.set e3 (by omega) (v := watS a (stC C d 5) (stC C d 7)) (by rw [e4]; exact w0.1) (by rw [e5]; exact w0.2)).set g3 (by omega) (v := watS a (stC C d 6) (stC C d 8)) (by rw [g4]; exact w1.1) (by rw [g5]; exact w1.2)
  rw [e1, e2, g1, g2] at r1
  obtain ⟨C1, t1, t2, t3⟩ := tk_c hD a
  rw [tk_e hD a] at t1
  have t1 := Option.some.inj t1
  obtain ⟨C2, j1, j2, j3⟩ := facts_c t2
  have H2 : HRep C2 id' cs := by
    refine h2.fr (fun a ha k => ?_) (fun a ha k => ?_)
    · rw [j3.1 _ _ (show a ≠ _ by unfold hReg at ha; omega), t3.1 _ _ (show a ≠ _ by unfold hReg at ha; omega)]
    · rw [j3.2.1 _ _ (show a ≠ _ by unfold hReg at ha; omega), t3.2.1 _ _ (show a ≠ _ by unfold hReg at ha; omega)]
  have r1' : Rel hs C1 (setI (setI M 12976267 j (watS a (stC C d 5) (stC C d 7))) 13107339 j (watS a (stC C d 6) (stC C d 8))) := by rw [← t1]; exact r1
  have r2 := rel_pil (rel_facts hd hj r1' j3) d5
  have hsm := sumS_ok (w := 1) (F := fctS (takS a (stC C d))) h3
  have hv : 0 ≤ mnI 20 (stC C d 3 + sumS 1 (fctS (takS a (stC C d))) cs) ∧ mnI 20 (stC C d 3 + sumS 1 (fctS (takS a (stC C d))) cs) ≤ 20 := (pas_ok ho h3 ha).2.2.1
  have r3 := r2.set k3' (by omega) (v := mnI 20 (stC C d 3 + sumS 1 (fctS (takS a (stC C d))) cs)) (by rw [k4]; exact hv.1) (by rw [k5]; exact hv.2)
  rw [k1, k2'] at r3
  have D2 : DoS C2 d (takS a (stC C d)) := t2.fr1 j3 (by omega) (by omega) (by omega) (by omega)
  have nn : ∀ a k, a ≠ d + 524487 → a ≠ d + 131143 → mI C2 a k = mI C a k := fun a k q q2 => (j3.1 a k q).trans (t3.1 a k q2)
  refine ⟨setI C2 d 3 (mnI 20 (stC C d 3 + sumS 1 (fctS (takS a (stC C d))) cs)), M2, ?_, d1, by rw [d6]; exact r3, ?_, fun k => ?_, ?_, fun k => d3.1 _ _ (by unfold dmP; omega)⟩
  · have e60 : mI C 131077 2 = Int32.ofNat n' := h6
    have m16 : mI C1 131077 4 = takS a (stC C d) 16 := by rw [tak16, stC16]; exact t3.1 _ _ (show (131077 : Nat) ≠ _ by omega)
    have s3 : mI C2 d 3 = stC C d 3 := by rw [← tak3 a (stC C d)]; exact D2.1.2.2.2.1
    have f32 : (d + 524487) % 32 = 11 ∧ lnA (d + 524487) = 6 := ⟨by omega, by unfold lnA; omega⟩
    have tt : f_Dr_takeUp d a C = some C1 := by rw [tk_e hD a, t1]
    exact month_c hd h54 hj hjn e60 kd tt m16 j1 h2.1 f32.1 (total_c H2 (by decide) h3 f32.2 j2) s3
  · exact j3.2.2.2.trans t3.2.2.2
  · rw [mS (by omega)]; exact nn _ _ (by omega) (by omega)
  · funext k
    show mR C2 7471311 k = _
    rw [j3.2.1 _ _ (show (7471311 : Nat) ≠ _ by omega), t3.2.1 _ _ (show (7471311 : Nat) ≠ _ by omega)]
theorem hold_same {C C2 : Mem} (h1 : ∀ k, mI C2 131077 k = mI C 131077 k) (h2 : mR C2 7471311 = mR C 7471311) : f_D_holdingHouse C2 = f_D_holdingHouse C := by
  unfold f_D_holdingHouse f_D_within
  rw [h1, h2]
theorem month_all {hs : Nat → List Cls} {hid n m : Nat} {a : Int32} (hn4 : n ≤ 4) (ha : 0 ≤ a ∧ a ≤ 99) (hm : m < 9999) : ∀ (k f1 f2 i : Nat) (C M : Mem), k < f1 → k < f2 → i + k = n → Rel hs C M → f_D_holdingHouse C = some hid → mI M 12451850 1 = Int32.ofNat n → mI C 131077 4 = Int32.ofNat m → ∃ r C' M', f_D_month_l42 f1 hid a (Int32.ofNat i) C = some (r, C') ∧ f_M_goMonth_l2 f2 a (Int32.ofNat i) M = some M' ∧ mI M' 12451850 3 = r ∧ Rel hs C' M' ∧ mZ C' = mZ C
  | k, 0, _, _, _, _, h, _, _, _, _, _, _ => by omega
  | k, _, 0, _, _, _, _, h, _, _, _, _, _ => by omega
  | 0, f1 + 1, f2 + 1, i, C, M, _, _, hi', h, hh, hn, hmo => by
    obtain ⟨id', n', m', b, cs, hE⟩ := enter h
    obtain ⟨h1, h2, h3, h4, h5, h6, h7, h8, h9, h10, h11⟩ := hE
    have ei : id' = hid := by rw [h1] at hh; exact Option.some.inj hh
    subst ei
    have hl := lastS_wf (w := 2) (n := 0) h3 (by decide)
    have cm : mI M 12451850 3 = Int32.ofNat m := by rw [h5.2.2.1, ← h10, hmo]
    have e60 : mI C 131077 2 = Int32.ofNat n := h6.trans (h5.1.symm.trans hn)
    have lb := h5.2.2.2.1
    have hi62 : Int32.ofNat (m + 1) ≤ 9999 := (oN_le (i := 9999) (by omega) (by omega)).mpr (by omega)
    have lo62 : 0 ≤ Int32.ofNat (m + 1) := (oN_le (m := 0) (by omega) (by omega)).mpr (by omega)
    have r1 := h.set (i := 62) (by decide) (by decide) (v := Int32.ofNat (m + 1)) lo62 hi62
    have hH1 : MHb (setI M 12451850 3 (Int32.ofNat (m + 1))) cs b := h4.go (Fr.rf.set (Or.inr (Or.inr ⟨rfl, Or.inr rfl⟩)) _)
    have hs2 : ∀ y, f_D_sunk (mI M 12451850 2) (Int32.ofNat (m + 1)) y (zM 0) = if (m + 1) % 12 = 0 then mnI 20 (mI M 12451850 2 + y) else mI M 12451850 2 := fun y => by
      unfold f_D_sunk
      rw [oN_mod (by omega)]
      by_cases q : (m + 1) % 12 = 0
      · rw [q, if_pos (by decide), if_pos rfl]
      · rw [if_neg q, if_neg]
        intro e
        have := oN_ix (i := (m + 1) % 12) (by omega)
        rw [e] at this
        exact q this.symm
    have vl : 0 ≤ f_D_sunk (mI M 12451850 2) (Int32.ofNat (m + 1)) (lastS 2 0 cs) (zM 0) ∧ f_D_sunk (mI M 12451850 2) (Int32.ofNat (m + 1)) (lastS 2 0 cs) (zM 0) ≤ 20 := by
      rw [hs2]
      generalize lastS 2 0 cs = y at *
      generalize mI M 12451850 2 = x at *
      split
      · unfold mnI
        split <;> grind
      · exact lb
    have r2 := r1.set (i := 61) (by decide) (by decide) (v := f_D_sunk (mI M 12451850 2) (Int32.ofNat (m + 1)) (lastS 2 0 cs) (zM 0)) vl.1 vl.2
    have uC : f_D_month_l42 (f1 + 1) id' a (Int32.ofNat i) C = some (Int32.ofNat (m + 1), setI (setI C 131077 4 (Int32.ofNat (m + 1))) 131077 3 (f_D_sunk (mI M 12451850 2) (Int32.ofNat (m + 1)) (lastS 2 0 cs) (zM 0))) := by
      have hr := h2.2.1
      have q1 : ∀ Y, mI (setI (setI C 131077 4 (Int32.ofNat (m + 1))) 131077 3 Y) 131077 4 = Int32.ofNat (m + 1) := fun Y => (mSk (by decide)).trans mSe
      have q2 : mI (setI C 131077 4 (Int32.ofNat (m + 1))) 131077 4 = Int32.ofNat (m + 1) := mSe
      have q3 : mI (setI C 131077 4 (Int32.ofNat (m + 1))) 131077 3 = mI M 12451850 2 := (mSk (by decide)).trans h11
      have q4 : mI (setI C 131077 4 (Int32.ofNat (m + 1))) id' 2 = lastS 2 0 cs := (mS (by unfold hReg at hr; omega)).trans h2.2.2.2.1
      simp only [f_D_month_l42]
      rw [e60, if_pos ((oN_le (by omega) (by omega)).mpr (by omega)), lte, hmo, oN_s, gd_pos h2.1, lte, q3, q2, q4, q1]
      rfl
    have uM : f_M_goMonth_l2 (f2 + 1) a (Int32.ofNat i) M = if (m + 1) % 12 = 0 then some (setI (setI M 12451850 3 (Int32.ofNat (m + 1))) 12451850 2 (mnI 20 (mI M 12451850 2 + lastS 2 0 cs))) else some (setI M 12451850 3 (Int32.ofNat (m + 1))) := by
      have q2 : mI (setI M 12451850 3 (Int32.ofNat (m + 1))) 12451850 2 = mI M 12451850 2 := mSk (by decide)
      simp only [f_M_goMonth_l2]
      rw [hn, if_pos ((oN_le (by omega) (by omega)).mpr (by omega)), lte, cm, oN_s, mSe, oN_mod (by omega), lastOf_m h3 hH1, bdg, lte, q2, lte, lte, ← mn20]
      by_cases q : (m + 1) % 12 = 0
      · rw [q, if_pos (by decide), if_pos rfl]
        by_cases y : mI M 12451850 2 + lastS 2 0 cs ≤ 20
        · rw [if_pos y, if_pos y]
        · rw [if_neg y, if_neg y]
      · rw [if_neg q, if_neg (fun e => by have := (oN_le (m := (m + 1) % 12) (i := 0) (by omega) (by omega)).mp e; omega)]
    by_cases q : (m + 1) % 12 = 0
    · refine ⟨_, _, setI (setI M 12451850 3 (Int32.ofNat (m + 1))) 12451850 2 (mnI 20 (mI M 12451850 2 + lastS 2 0 cs)), uC, uM.trans (if_pos q), (mSk (by decide)).trans mSe, ?_, rfl⟩
      have : mnI 20 (mI M 12451850 2 + lastS 2 0 cs) = f_D_sunk (mI M 12451850 2) (Int32.ofNat (m + 1)) (lastS 2 0 cs) (zM 0) := by rw [hs2, if_pos q]
      rw [this]; exact r2
    · refine ⟨_, _, setI M 12451850 3 (Int32.ofNat (m + 1)), uC, uM.trans (if_neg q), mSe, ?_, rfl⟩
      have e : f_D_sunk (mI M 12451850 2) (Int32.ofNat (m + 1)) (lastS 2 0 cs) (zM 0) = mI M 12451850 2 := by rw [hs2, if_neg q]
      rw [e] at r2 ⊢
      have : setI (setI M 12451850 3 (Int32.ofNat (m + 1))) 12451850 2 (mI M 12451850 2) = setI M 12451850 3 (Int32.ofNat (m + 1)) := by
        have q2 : mI (setI M 12451850 3 (Int32.ofNat (m + 1))) 12451850 2 = mI M 12451850 2 := mSk (by decide)
        rw [← q2, setI_same]
      rw [← this]; exact r2
  | k + 1, f1 + 1, f2 + 1, i, C, M, _, _, hi', h, hh, hn, hmo => by
    obtain ⟨C2, M2, a1, a2, a3, a4, a5, a6, a7⟩ := month_i h (j := i) (f1 := f1) (f2 := f2) hn4 (by omega) hh hn hmo (by omega) ha
    obtain ⟨r, C3, M3, b1, b2', b3, b4, b5⟩ := month_all hn4 ha hm k f1 f2 (i + 1) C2 M2 (by omega) (by omega) (by omega) a3 ((hold_same a5 a6).trans hh) ((a7 1).trans hn) ((a5 4).trans hmo)
    exact ⟨r, C3, M3, a1.trans b1, a2.trans b2', b3, b4, b5.trans a4⟩
theorem sim_month {hs : Nat → List Cls} {C M : Mem} (h : Rel hs C M) : Sim C M (f_D_month C) f_M_month := by
  obtain ⟨hid, n, m, b, cs, hE⟩ := enter h
  obtain ⟨h1, h2, h3, h4, h5, h6, h7, h8, h9, h10, h11⟩ := hE
  by_cases hm : m < 9999
  · have h12 : m % 12 < 12 := Nat.mod_lt _ (by decide)
    obtain ⟨r, C', M', a1, a2, a3, a4, a5⟩ := month_all h5.2.1 (h8 _ h12) hm n 200 200 0 C M (by have := h5.2.1; omega) (by have := h5.2.1; omega) (by omega) h h1 h5.1 h10
    refine sim_of h (a := r) (C' := C') (M' := M') ?_ a5 ?_ a4
    · have hlt : Int32.ofNat m < 9999 := (oN_lt (i := 9999) (by omega) (by omega)).mpr hm
      unfold f_D_month
      rw [h10, if_pos hlt, h1, bdg, oN_mod (by omega), gd_pos (oN_in (by omega) h12), oN_ix (by omega), lte]
      exact a1
    · have a2' : f_M_goMonth (mI C 262539 (m % 12)) M = some M' := a2
      unfold f_M_month f_M_goOn
      rw [h5.2.2.1, if_neg (fun e => by
        have := oN_ix (i := m) (by omega)
        rw [e] at this
        have t : (9999 : Int32).toNatClampNeg = 9999 := by decide
        omega), oN_mod (by omega), gd_pos (oN_in (by omega) h12), oN_ix (by omega), h9 _ h12, a2', bdg, bdg, a3]
  · have e : m = 9999 := by omega
    subst e
    refine sim_no (-3) h ?_ ?_
    · unfold f_D_month
      rw [h10, if_neg (by decide)]
    · unfold f_M_month
      rw [h5.2.2.1, if_pos (by decide)]
