/-! THE CALLS, ONE BY ONE: both answer the same, and the relation stays -/
def bump (M : Mem) (z : Nat) : Mem := (mV M, z, M.2.2)
/-- a call that the class and the model answer alike -/
def Sim (C M : Mem) (x : Option (Int32 × Mem)) (y : Mem → Option (Int32 × Mem)) : Prop := ∃ a C' hs' M', x = some (a, C') ∧ mZ C ≤ mZ C' ∧ y (bump M (mZ C')) = some (a, M') ∧ Rel hs' C' M'
theorem sim_of {hs : Nat → List Cls} {C M C' M' : Mem} {a : Int32} {x : Option (Int32 × Mem)} {y : Mem → Option (Int32 × Mem)} (h : Rel hs C M) (hx : x = some (a, C')) (hz : mZ C' = mZ C) (hy : y M = some (a, M')) (hR : Rel hs C' M') : Sim C M x y :=
  ⟨a, C', hs, M', hx, Nat.le_of_eq hz.symm, by rw [hz, h.2.2.2.2.2]; exact hy, hR⟩
theorem sim_no {hs : Nat → List Cls} {C M : Mem} (a : Int32) {x : Option (Int32 × Mem)} {y : Mem → Option (Int32 × Mem)} (h : Rel hs C M) (hx : x = some (a, C)) (hy : y M = some (a, M)) : Sim C M x y := sim_of h hx rfl hy h
theorem wi1 {p l k : Int32} (h : l ≤ p ∧ p ≤ k) (M : Mem) : f_D_within p l k M = 1 := by
  unfold f_D_within; rw [if_neg (Int32.not_lt.mpr h.1), if_neg (Int32.not_lt.mpr h.2)]
theorem wi0 {p l k : Int32} (h : ¬ (l ≤ p ∧ p ≤ k)) (M : Mem) : f_D_within p l k M = 0 := by
  unfold f_D_within
  by_cases q : p < l
  · rw [if_pos q]
  · rw [if_neg q, if_pos (by grind)]
theorem mi1 {p l k : Int32} (h : l ≤ p ∧ p ≤ k) (M : Mem) : f_M_in p l k M = 1 := wi1 h M
theorem mi0 {p l k : Int32} (h : ¬ (l ≤ p ∧ p ≤ k)) (M : Mem) : f_M_in p l k M = 0 := wi0 h M
theorem i10 : ¬ (1 : Int32) = 0 := by decide
theorem inR_le {p k : Int32} {n : Nat} (h : 0 ≤ p ∧ p ≤ k) (hn : k.toInt < n) : inR p n := by
  have h1 := Int32.le_iff_toInt_le.mp h.1
  have h2 := Int32.le_iff_toInt_le.mp h.2
  exact ⟨h1, by omega⟩
theorem ix_le {p k : Int32} {n : Nat} (h : 0 ≤ p ∧ p ≤ k) (hn : k.toInt < n) : p.toNatClampNeg < n := inR_ix (inR_le h hn)
theorem ofN_ix {p : Int32} (h : 0 ≤ p) : Int32.ofNat p.toNatClampNeg = p := by
  have h1 := Int32.le_iff_toInt_le.mp h
  have e : p.toNatClampNeg = p.toInt.toNat := rfl
  have h2 : p.toInt < 2147483648 := Int32.toInt_lt p
  apply Int32.toInt_inj.mp
  rw [Int32.toInt_ofNat_of_lt (by rw [e]; omega), e]
  have : (0 : Int32).toInt = 0 := rfl
  omega
theorem ce_air {i : Nat} (h : i < 12) : ce i = (262539, i) ∧ me i = (12583307, i) ∧ i < nC ∧ lo i = 0 ∧ hi i = 99 := by
  have : (List.range 12).all (fun i => ce i == (262539, i) && me i == (12583307, i) && decide (i < nC) && lo i == 0 && hi i == 99) = true := by decide +kernel
  have := List.all_eq_true.mp this i (List.mem_range.mpr h)
  simpa [and_assoc] using this
theorem sim_air {hs : Nat → List Cls} {C M : Mem} (h : Rel hs C M) (p1 p2 : Int32) : Sim C M (f_D_air p1 p2 C) (f_M_air p1 p2) := by
  by_cases hp : 0 ≤ p1 ∧ p1 ≤ 11
  · by_cases hq : 0 ≤ p2 ∧ p2 ≤ 99
    · have hr := inR_le (n := 12) hp (by decide)
      obtain ⟨e1, e2, e3, e4, e5⟩ := ce_air (inR_ix hr)
      refine sim_of h (a := rdI C (ce p1.toNatClampNeg)) (C' := wrI C (ce p1.toNatClampNeg) p2) (M' := wrI M (me p1.toNatClampNeg) p2) ?_ rfl ?_ (h.set e3 (by have := inR_ix hr; omega) (by rw [e4]; exact hq.1) (by rw [e5]; exact hq.2))
      · simp only [f_D_air, wi1 hp, wi1 hq, if_neg i10, gd_pos hr, lt, e1]; rfl
      · rw [h.eq e3 (by have := inR_ix hr; unfold inImg; omega)]
        simp only [f_M_air, mi1 hp, mi1 hq, if_neg i10, gd_pos hr, lt, e2]; rfl
    · exact sim_no (-2) h (by simp only [f_D_air, wi1 hp, wi0 hq, if_neg i10, if_true]) (by simp only [f_M_air, mi1 hp, mi0 hq, if_neg i10, if_true])
  · exact sim_no (-1) h (by simp only [f_D_air, wi0 hp, if_true]) (by simp only [f_M_air, mi0 hp, if_true])
theorem sim_lean {hs : Nat → List Cls} {C M : Mem} (h : Rel hs C M) (p1 : Int32) : Sim C M (f_D_lean p1 C) (f_M_lean p1) := by
  by_cases hp : 0 ≤ p1 ∧ p1 ≤ 20
  · refine sim_of h (a := rdI C (ce 61)) (C' := wrI C (ce 61) p1) (M' := wrI M (me 61) p1) ?_ rfl ?_ (h.set (by decide) (by decide) hp.1 hp.2)
    · simp only [f_D_lean, wi1 hp, if_neg i10, lt]; rfl
    · rw [h.eq (i := 61) (by decide) (by unfold inImg; omega)]
      simp only [f_M_lean, mi1 hp, if_neg i10, lt]; rfl
  · exact sim_no (-2) h (by simp only [f_D_lean, wi0 hp, if_true]) (by simp only [f_M_lean, mi0 hp, if_true])
theorem ce_kind {j : Nat} (h : j < 4) : ce (12 + 12 * j) = (786436 + 655360 * j, 1) ∧ me (12 + 12 * j) = (12714123, j) ∧ 12 + 12 * j < nC ∧ lo (12 + 12 * j) = 0 ∧ hi (12 + 12 * j) = 6 := by
  have : (List.range 4).all (fun j => ce (12 + 12 * j) == (786436 + 655360 * j, 1) && me (12 + 12 * j) == (12714123, j) && decide (12 + 12 * j < nC) && lo (12 + 12 * j) == 0 && hi (12 + 12 * j) == 6) = true := by decide +kernel
  have := List.all_eq_true.mp this j (List.mem_range.mpr h)
  simpa [and_assoc] using this
theorem ce_v {j : Nat} (h : j < 4) : ce (13 + 12 * j) = (786436 + 655360 * j, 2) ∧ me (13 + 12 * j) = (12845195, j) ∧ 13 + 12 * j < nC ∧ lo (13 + 12 * j) = 0 ∧ hi (13 + 12 * j) = 9 := by
  have : (List.range 4).all (fun j => ce (13 + 12 * j) == (786436 + 655360 * j, 2) && me (13 + 12 * j) == (12845195, j) && decide (13 + 12 * j < nC) && lo (13 + 12 * j) == 0 && hi (13 + 12 * j) == 9) = true := by decide +kernel
  have := List.all_eq_true.mp this j (List.mem_range.mpr h)
  simpa [and_assoc] using this
theorem ce_sag {j : Nat} (h : j < 4) : ce (14 + 12 * j) = (786436 + 655360 * j, 3) ∧ me (14 + 12 * j) = (13369483, j) ∧ 14 + 12 * j < nC ∧ lo (14 + 12 * j) = 0 ∧ hi (14 + 12 * j) = 20 := by
  have : (List.range 4).all (fun j => ce (14 + 12 * j) == (786436 + 655360 * j, 3) && me (14 + 12 * j) == (13369483, j) && decide (14 + 12 * j < nC) && lo (14 + 12 * j) == 0 && hi (14 + 12 * j) == 20) = true := by decide +kernel
  have := List.all_eq_true.mp this j (List.mem_range.mpr h)
  simpa [and_assoc] using this
theorem ce_pack {j : Nat} (h : j < 4) : ce (15 + 12 * j) = (786436 + 655360 * j, 4) ∧ me (15 + 12 * j) = (13500555, j) ∧ 15 + 12 * j < nC ∧ lo (15 + 12 * j) = 0 ∧ hi (15 + 12 * j) = 9 := by
  have : (List.range 4).all (fun j => ce (15 + 12 * j) == (786436 + 655360 * j, 4) && me (15 + 12 * j) == (13500555, j) && decide (15 + 12 * j < nC) && lo (15 + 12 * j) == 0 && hi (15 + 12 * j) == 9) = true := by decide +kernel
  have := List.all_eq_true.mp this j (List.mem_range.mpr h)
  simpa [and_assoc] using this
theorem ce_w0 {j : Nat} (h : j < 4) : ce (16 + 12 * j) = (786436 + 655360 * j + 131143, 0) ∧ me (16 + 12 * j) = (12976267, j) ∧ 16 + 12 * j < nC ∧ lo (16 + 12 * j) = 0 ∧ hi (16 + 12 * j) = 99 := by
  have : (List.range 4).all (fun j => ce (16 + 12 * j) == (786436 + 655360 * j + 131143, 0) && me (16 + 12 * j) == (12976267, j) && decide (16 + 12 * j < nC) && lo (16 + 12 * j) == 0 && hi (16 + 12 * j) == 99) = true := by decide +kernel
  have := List.all_eq_true.mp this j (List.mem_range.mpr h)
  simpa [and_assoc] using this
theorem ce_w1 {j : Nat} (h : j < 4) : ce (17 + 12 * j) = (786436 + 655360 * j + 131143, 1) ∧ me (17 + 12 * j) = (13107339, j) ∧ 17 + 12 * j < nC ∧ lo (17 + 12 * j) = 0 ∧ hi (17 + 12 * j) = 99 := by
  have : (List.range 4).all (fun j => ce (17 + 12 * j) == (786436 + 655360 * j + 131143, 1) && me (17 + 12 * j) == (13107339, j) && decide (17 + 12 * j < nC) && lo (17 + 12 * j) == 0 && hi (17 + 12 * j) == 99) = true := by decide +kernel
  have := List.all_eq_true.mp this j (List.mem_range.mpr h)
  simpa [and_assoc] using this
theorem ce_cut {j s : Nat} (h : j < 4) (h2 : s < 6) : ce (18 + 12 * j + s) = (786436 + 655360 * j + 393415, s) ∧ me (18 + 12 * j + s) = (13632267, 6 * j + s) ∧ 18 + 12 * j + s < nC ∧ lo (18 + 12 * j + s) = 0 ∧ hi (18 + 12 * j + s) = 99 := by
  have : (List.range 4).all (fun j => (List.range 6).all fun s => ce (18 + 12 * j + s) == (786436 + 655360 * j + 393415, s) && me (18 + 12 * j + s) == (13632267, 6 * j + s) && decide (18 + 12 * j + s < nC) && lo (18 + 12 * j + s) == 0 && hi (18 + 12 * j + s) == 99) = true := by decide +kernel
  have := List.all_eq_true.mp (List.all_eq_true.mp this j (List.mem_range.mpr h)) s (List.mem_range.mpr h2)
  simpa [and_assoc] using this
theorem door_lim {hs : Nat → List Cls} {C M : Mem} (h : Rel hs C M) : 0 ≤ rdI C (ce 60) ∧ rdI C (ce 60) ≤ 4 ∧ mI C 131077 2 = rdI C (ce 60) ∧ mI M 12451850 1 = rdI C (ce 60) :=
  ⟨h.lo (i := 60) (by decide) (by unfold inImg; omega), h.hi (i := 60) (by decide) (by unfold inImg; omega), rfl, (h.eq (i := 60) (by decide) (by unfold inImg; omega)).symm⟩
/-- a door's number, or none -/
theorem door_at {hs : Nat → List Cls} {C M : Mem} (h : Rel hs C M) (p : Int32) : (∃ j : Nat, j < 4 ∧ p.toNatClampNeg = j ∧ p = Int32.ofNat j ∧ inR p 4 ∧ p < rdI C (ce 60) ∧ f_D_doorAt p C = some (786436 + 655360 * j) ∧ f_M_isDoor p M = 1) ∨ (f_D_doorAt p C = some 0 ∧ f_M_isDoor p M = 0) := by
  obtain ⟨d1, d2, d3, d4⟩ := door_lim h
  by_cases hp : 0 ≤ p ∧ p ≤ rdI C (ce 60) - 1
  · have hq : 0 ≤ p ∧ p ≤ 3 := ⟨hp.1, by grind⟩
    have hr := inR_le (n := 4) hq (by decide)
    refine Or.inl ⟨p.toNatClampNeg, inR_ix hr, rfl, (ofN_ix hp.1).symm, hr, by grind, ?_, ?_⟩
    · unfold f_D_doorAt; rw [d3, wi1 hp, if_neg i10, gd_pos hr]
    · unfold f_M_isDoor; rw [d4, mi1 hp]
  · refine Or.inr ⟨?_, ?_⟩
    · unfold f_D_doorAt; rw [d3, wi0 hp, if_pos rfl]
    · unfold f_M_isDoor; rw [d4, mi0 hp]
theorem dnz (j : Nat) : ¬ 786436 + 655360 * j = 0 := by omega
theorem dkd (j : Nat) : (786436 + 655360 * j) % 131072 = 4 := by omega
theorem sim_water {hs : Nat → List Cls} {C M : Mem} (h : Rel hs C M) (p1 p2 p3 : Int32) : Sim C M (f_D_water p1 p2 p3 C) (f_M_water p1 p2 p3) := by
  rcases door_at h p1 with ⟨j, hj, ej, -, hr, -, eC, eM⟩ | ⟨eC, eM⟩
  · by_cases hp : 0 ≤ p2 ∧ p2 ≤ 1
    · by_cases hq : 0 ≤ p3 ∧ p3 ≤ 99
      · have hr2 := inR_le (n := 2) hp (by decide)
        rcases (show p2 = 0 ∨ p2 = 1 by grind) with e | e
        · subst e
          obtain ⟨e1, e2, e3, e4, e5⟩ := ce_w0 hj
          refine sim_of h (a := rdI C (ce (16 + 12 * j))) (C' := wrI C (ce (16 + 12 * j)) p3) (M' := wrI M (me (16 + 12 * j)) p3) ?_ rfl ?_ (h.set e3 (by omega) (by rw [e4]; exact hq.1) (by rw [e5]; exact hq.2))
          · simp only [f_D_water, eC, bd_some, if_neg (dnz j), wi1 hp, wi1 hq, if_neg i10, gd_pos (dkd j), gd_pos hr2, lt, e1]; rfl
          · rw [h.eq e3 (by unfold inImg; omega)]
            simp only [f_M_water, f_M_water_b53, eM, mi1 hp, mi1 hq, if_neg i10, if_true, gd_pos hr, lt, e2, ej]; rfl
        · subst e
          obtain ⟨e1, e2, e3, e4, e5⟩ := ce_w1 hj
          refine sim_of h (a := rdI C (ce (17 + 12 * j))) (C' := wrI C (ce (17 + 12 * j)) p3) (M' := wrI M (me (17 + 12 * j)) p3) ?_ rfl ?_ (h.set e3 (by omega) (by rw [e4]; exact hq.1) (by rw [e5]; exact hq.2))
          · simp only [f_D_water, eC, bd_some, if_neg (dnz j), wi1 hp, wi1 hq, if_neg i10, gd_pos (dkd j), gd_pos hr2, lt, e1]; rfl
          · rw [h.eq e3 (by unfold inImg; omega)]
            simp only [f_M_water, f_M_water_b53, eM, mi1 hp, mi1 hq, if_neg i10, gd_pos hr, lt, e2, ej]; rfl
      · exact sim_no (-2) h (by simp only [f_D_water, eC, bd_some, if_neg (dnz j), wi1 hp, wi0 hq, if_neg i10, if_true]) (by simp only [f_M_water, eM, mi1 hp, mi0 hq, if_neg i10, if_true])
    · exact sim_no (-1) h (by simp only [f_D_water, eC, bd_some, if_neg (dnz j), wi0 hp, if_true]) (by simp only [f_M_water, eM, mi0 hp, if_neg i10, if_true])
  · exact sim_no (-1) h (by simp only [f_D_water, eC, bd_some, if_true]) (by simp only [f_M_water, eM, if_true])
theorem sim_sag {hs : Nat → List Cls} {C M : Mem} (h : Rel hs C M) (p1 p2 : Int32) : Sim C M (f_D_sag p1 p2 C) (f_M_sag p1 p2) := by
  rcases door_at h p1 with ⟨j, hj, ej, -, hr, -, eC, eM⟩ | ⟨eC, eM⟩
  · by_cases hq : 0 ≤ p2 ∧ p2 ≤ 20
    · obtain ⟨e1, e2, e3, e4, e5⟩ := ce_sag hj
      refine sim_of h (a := rdI C (ce (14 + 12 * j))) (C' := wrI C (ce (14 + 12 * j)) p2) (M' := wrI M (me (14 + 12 * j)) p2) ?_ rfl ?_ (h.set e3 (by omega) (by rw [e4]; exact hq.1) (by rw [e5]; exact hq.2))
      · simp only [f_D_sag, eC, bd_some, if_neg (dnz j), wi1 hq, if_neg i10, gd_pos (dkd j), lt, e1]; rfl
      · rw [h.eq e3 (by unfold inImg; omega)]
        simp only [f_M_sag, eM, mi1 hq, if_neg i10, gd_pos hr, lt, e2, ej]; rfl
    · exact sim_no (-2) h (by simp only [f_D_sag, eC, bd_some, if_neg (dnz j), wi0 hq, if_true]) (by simp only [f_M_sag, eM, mi0 hq, if_neg i10, if_true])
  · exact sim_no (-1) h (by simp only [f_D_sag, eC, bd_some, if_true]) (by simp only [f_M_sag, eM, if_true])
