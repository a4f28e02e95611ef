/-! looked, odds, mean -/
theorem in_abs {x n : Int32} (hx : -40000 ≤ x ∧ x ≤ 40000) (hn : 0 ≤ n ∧ n ≤ 9) (M : Mem) : f_M_in x (-n) n M = if abI x ≤ n then 1 else 0 := by
  by_cases q : -n ≤ x ∧ x ≤ n
  · rw [mi1 q, if_pos]
    unfold abI
    split <;> grind
  · rw [mi0 q, if_neg]
    intro z
    apply q
    unfold abI at z
    split at z
    · exact ⟨by grind, by grind⟩
    · exact ⟨by grind, by grind⟩
theorem sub_ok {a b : Int32} (ha : -30000 ≤ a ∧ a ≤ 30000) (hb : -99 ≤ b ∧ b ≤ 99) : -40000 ≤ a - b ∧ a - b ≤ 40000 := ⟨by grind, by grind⟩
theorem Gn.bk {M0 M1 : Mem} {n m b : Nat} {cs : List Cls} {A : Nat → Int32} {SS : Nat → Nat → Int32} (h : Gn M0 M1 n m b cs A SS) {a k : Nat} (hk : a = 15466891 ∨ a = 15597963 ∨ (a = 12451850 ∧ k = 37)) : mI M1 a k = mI M0 a k := h.2.2.1.1 a k (by unfold xP goP jM; omega)
theorem look_all {M0 : Mem} {n b j hid kb : Nat} {cs : List Cls} {A : Nat → Int32} {v2 : Int32} (hv : 0 ≤ v2 ∧ v2 ≤ 9) (hkb : kb ≤ 12) (hj : j < n) (hj4 : j < 4) (hw : wfH cs) (hA : airA A) {Rs Rg : Nat → Int32} (hR : ∀ i, i < 12 → i < kb → 0 ≤ Rs i ∧ Rs i ≤ 5 ∧ -99 ≤ Rg i ∧ Rg i ≤ 99) (hRM : ∀ q, q < 12 → mI M0 15466891 q = Rs q ∧ mI M0 15597963 q = Rg q) (hcM : mI M0 12451850 37 = Int32.ofNat kb) : ∀ (k f1 f2 i m : Nat) (SS : Nat → Nat → Int32) (C1 M1 : Mem), k < f1 → k < f2 → i + k = kb → m + k < 50000 → CoT C1 7602179 hid cs (SS j) → (∀ q, q < 12 → mI C1 8651147 q = A q ∧ mI C1 524683 q = Rs q ∧ mI C1 655755 q = Rg q) → mI C1 131077 8 = Int32.ofNat kb → (∃ m' SS', Gn M0 M1 n m' b cs A SS') → (∃ M2, (if Int32.ofNat i ≤ 0 then some M1 else f_M_goOn M1) = some M2 ∧ Gn M0 M2 n m b cs A SS) → ∃ a C' M', f_D_looked_l34 f1 v2 (Int32.ofNat i) C1 = some (a, C') ∧ f_M_looked_l34 f2 (Int32.ofNat j) v2 (-5) (Int32.ofNat i) M1 = some (a, M') ∧ Fr kC C1 C' ∧ Fi jM M0 M'
  | k, 0, _, _, _, _, _, _, h, _, _, _, _, _, _, _, _ => by omega
  | k, _, 0, _, _, _, _, _, _, h, _, _, _, _, _, _, _ => by omega
  | 0, f1 + 1, f2 + 1, i, m, SS, C1, M1, _, _, hi', hm, hC, hG, hc, hM, _ => by
    obtain ⟨m', SS', hM⟩ := hM
    obtain ⟨M3, b1, b2', b3⟩ := hM.back
    have c : Int32.ofNat kb ≤ Int32.ofNat i := (oN_le (by omega) (by omega)).mpr (by omega)
    have hcM1 : mI M1 12451850 37 = Int32.ofNat kb := (hM.bk (Or.inr (Or.inr ⟨rfl, rfl⟩))).trans hcM
    refine ⟨-5, C1, M3, ?_, ?_, Fr.rf, b3⟩
    · simp only [f_D_looked_l34, hc, if_pos c]
    · simp only [f_M_looked_l34, hcM1, if_pos c, b1, bdg]
  | k + 1, f1 + 1, f2 + 1, i, m, SS, C1, M1, _, _, hi', hm, hC, hG, hc, hM1, hgo => by
    obtain ⟨m', SS', hM1⟩ := hM1
    obtain ⟨M2, hg1, hM⟩ := hgo
    have i12 : i < 12 := by omega
    have c : ¬ Int32.ofNat kb ≤ Int32.ofNat i := fun q => by have := (oN_le (by omega) (by omega)).mp q; omega
    have hr : inR (Int32.ofNat i) 12 := oN_in (by omega) i12
    have hx : (Int32.ofNat i).toNatClampNeg = i := oN_ix (by omega)
    have hcM1 : mI M1 12451850 37 = Int32.ofNat kb := (hM1.bk (Or.inr (Or.inr ⟨rfl, rfl⟩))).trans hcM
    obtain ⟨hS, ho⟩ := hM.door hj
    obtain ⟨hr1, hr2, hr3, hr4⟩ := hR i i12 (by omega)
    obtain ⟨s, hs6, es⟩ := oN_of ⟨hr1, hr2⟩ (n := 6) (by decide)
    obtain ⟨M3, g1, g2⟩ := gap_m hj4 hs6 hS ho hw hM.2.2.2.1
    have hM3 := hM.pil g2
    have e1 : mI M2 15466891 i = Int32.ofNat s := (hM.bk (Or.inl rfl)).trans ((hRM i i12).1.trans es)
    have e2 : mI M3 15597963 i = Rg i := (hM3.bk (Or.inr (Or.inl rfl))).trans (hRM i i12).2
    have c1 : mI C1 524683 i = Int32.ofNat s := (hG i i12).2.1.trans es
    have c2 : mI C1 655755 i = Rg i := (hG i i12).2.2
    have gk := gap_ok ho hw hs6
    have ia := fun M => in_abs (sub_ok gk ⟨hr3, hr4⟩) hv M
    have n5 : ¬ (0 : Int32) ≤ -5 := by decide
    have l34 : f_M_looked_l34 (f2 + 1) (Int32.ofNat j) v2 (-5) (Int32.ofNat i) M1 = f_M_looked_b56 (f_M_looked_l34 f2) (Int32.ofNat j) v2 (Int32.ofNat i) M2 := by
      simp only [f_M_looked_l34, hcM1, if_neg c, if_neg n5]
      by_cases z : Int32.ofNat i ≤ 0
      · rw [if_pos z] at hg1
        rw [if_pos z, Option.some.inj hg1]
      · rw [if_neg z] at hg1
        rw [if_neg z, hg1, bdg]
    rw [l34]
    by_cases q : abI (gapS cs (SS j) s - Rg i) ≤ v2
    · obtain ⟨C2, d1, d2, d3⟩ := goOn_c (t := 7602179) (n := 1) (Or.inl rfl) hw hA (by omega) (by omega) hC.1 ho (fun q hq => (hG q hq).1)
      have d1' : f_Co_goOn 7602179 1 C1 = some C2 := d1
      obtain ⟨M4, r1, r2⟩ := hM3.go (by omega) hw hA
      obtain ⟨a, C', M', x1, x2, x3, x4⟩ := look_all hv hkb hj hj4 hw hA hR hRM hcM k f1 f2 (i + 1) (m + 1) _ C2 M3 (by omega) (by omega) (by omega) (by omega) d2 (fun q hq => by
        obtain ⟨y1, y2, y3⟩ := hG q hq
        exact ⟨(d3.1 _ _ (by unfold coP; omega)).trans y1, (d3.1 _ _ (by unfold coP; omega)).trans y2, (d3.1 _ _ (by unfold coP; omega)).trans y3⟩) ((d3.1 _ _ (by unfold coP; omega)).trans hc) ⟨_, _, hM3⟩ ⟨M4, by
          have : ¬ Int32.ofNat (i + 1) ≤ 0 := fun z => by have := (oN_le (m := i + 1) (i := 0) (by omega) (by omega)).mp z; omega
          rw [if_neg this]; exact r1, r2⟩
      refine ⟨a, C', M', ?_, ?_, (d3.mono coP1).trans x3, x4⟩
      · simp only [f_D_looked_l34, hc, if_neg c, gd_pos hr, hx, c1, gap_c hC hs6, bdg, c2, if_pos q, d1', lte, oN_s]
        exact x1
      · simp only [f_M_looked_b56, gd_pos hr, hx, e1, g1, bdg, ap2g, e2, ia, if_pos q, if_neg i10, lte, oN_s]
        exact x2
    · obtain ⟨M4, b1, b2', b3⟩ := hM3.back
      have hcM3 : mI M3 12451850 37 = Int32.ofNat kb := (hM3.bk (Or.inr (Or.inr ⟨rfl, rfl⟩))).trans hcM
      have ge : (0 : Int32) ≤ Int32.ofNat i := (oN_le (m := 0) (by omega) (by omega)).mpr (by omega)
      refine ⟨Int32.ofNat i, C1, M4, ?_, ?_, Fr.rf, b3⟩
      · simp only [f_D_looked_l34, hc, if_neg c, gd_pos hr, hx, c1, gap_c hC hs6, bdg, c2, if_neg q]
      · simp only [f_M_looked_b56, gd_pos hr, hx, e1, g1, bdg, ap2g, e2, ia, if_neg q, if_true, lte, oN_s]
        match f2, ‹k + 1 < f2 + 1› with
        | f2 + 1, _ =>
          simp only [f_M_looked_l34, hcM3, if_pos ge, b1, bdg]
          by_cases w : Int32.ofNat kb ≤ Int32.ofNat (i + 1)
          · rw [if_pos w]
          · rw [if_neg w]
theorem sim_looked {hs : Nat → List Cls} {C M : Mem} (h : Rel hs C M) (p1 p2 : Int32) : Sim C M (f_D_looked p1 p2 C) (f_M_looked p1 p2) := by
  rcases door_at h p1 with ⟨j, hj, ej, e0, hr, hlt, eC, eM⟩ | ⟨eC, eM⟩
  · by_cases h9 : 0 ≤ p2 ∧ p2 ≤ 9
    · obtain ⟨hid, n, m, b, cs, hE⟩ := enter h
      have hjn := door_n h hE hj (by rw [← e0]; exact hlt)
      obtain ⟨M1, k1, k2⟩ := Gn.start hE
      obtain ⟨h1, h2, h3, h4, h5, -, hm9, hA, -⟩ := hE
      obtain ⟨C1, n1, n2, n3, n4⟩ := now_c h1 h2 h3 (dlo hj)
      have b1 := h.lo (i := 64) (by decide) (by unfold inImg; omega)
      have b2' := h.hi (i := 64) (by decide) (by unfold inImg; omega)
      have b3 := h.eq (i := 64) (by decide) (by unfold inImg; omega)
      obtain ⟨kb, hkb, ekb⟩ := oN_of (p := rdI C (ce 64)) (k := 12) ⟨b1, b2'⟩ (n := 13) (by decide)
      have cb : mI C 131077 8 = Int32.ofNat kb := ekb
      have mb : mI M 12451850 37 = Int32.ofNat kb := (show mI M 12451850 37 = rdI C (ce 64) from b3.symm).trans ekb
      have rows : ∀ i, i < 12 → (mI M 15466891 i = mI C 524683 i ∧ mI M 15597963 i = mI C 655755 i) ∧ 0 ≤ mI C 524683 i ∧ mI C 524683 i ≤ 5 ∧ -99 ≤ mI C 655755 i ∧ mI C 655755 i ≤ 99 := fun i hi' => by
        obtain ⟨e1, e2, e3, e4, e5, e6, e7, e8, e9, e10⟩ := ce_row hi'
        have a1 := h.eq e3 (by unfold inImg; omega)
        have a2 := h.lo e3 (by unfold inImg; omega)
        have a3 := h.hi e3 (by unfold inImg; omega)
        have a4 := h.eq e8 (by unfold inImg; omega)
        have a5 := h.lo e8 (by unfold inImg; omega)
        have a6 := h.hi e8 (by unfold inImg; omega)
        rw [e1, e2] at a1
        rw [e1, e4] at a2
        rw [e1, e5] at a3
        rw [e6, e7] at a4
        rw [e6, e9] at a5
        rw [e6, e10] at a6
        exact ⟨⟨a1.symm, a4.symm⟩, a2, a3, a5, a6⟩
      obtain ⟨a, C', M', x1, x2, x3, x4⟩ := look_all (Rs := mI C 524683) (Rg := mI C 655755) (v2 := p2) h9 (by omega) hjn hj h3 hA (fun i hi' _ => (rows i hi').2) (fun i hi' => (rows i hi').1) mb kb 200 200 0 m _ C1 M1 (by omega) (by omega) (by omega) (by omega) n2 (fun q hq => ⟨n4 q hq, n3.1 _ _ (by unfold kC; omega), n3.1 _ _ (by unfold kC; omega)⟩) ((n3.1 _ _ (by unfold kC; omega)).trans cb) ⟨_, _, k2⟩ ⟨M1, if_pos (by decide), k2⟩
      have z := dnz j
      have kd := dkd j
      generalize 786436 + 655360 * j = d at *
      refine sim_ask h (a := a) (C' := C') (M' := M') ?_ (n3.trans x3) ?_ x4
      · simp only [f_D_looked, eC, bdg, if_neg z, wi1 h9, if_neg i10, gd_pos kd, n1, ap2g]
        exact x1
      · simp only [f_M_looked, eM, if_neg i10, mi1 h9, k1, bdg]
        rw [e0]; exact x2
    · refine sim_no (-2) h ?_ ?_
      · simp only [f_D_looked, eC, bdg, if_neg (dnz j), wi0 h9, if_true]
      · simp only [f_M_looked, eM, mi0 h9, if_neg i10, if_true]
  · exact sim_no (-1) h (by simp only [f_D_looked, eC, bdg, if_true]) (by simp only [f_M_looked, eM, if_true])
