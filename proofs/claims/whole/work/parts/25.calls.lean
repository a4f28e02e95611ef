/-! more calls -/
theorem mn_le {a b : Int32} (h : a ≤ b) : mnI a b = a := by unfold mnI; grind
theorem mn_ge {a b : Int32} (h : b ≤ a) : mnI a b = b := by unfold mnI; grind
theorem mx_le {a b : Int32} (h : a ≤ b) : mxI a b = b := by unfold mxI; grind
theorem mx_ge {a b : Int32} (h : b ≤ a) : mxI a b = a := by unfold mxI; grind
theorem ce_sign {i : Nat} (h : i < 100) : ce (181 + i) = (6818955, i) ∧ me (181 + i) = (13765771, i) ∧ 181 + i < nC ∧ lo (181 + i) = 0 ∧ hi (181 + i) = 127 := by
  have : (List.range 100).all (fun i => ce (181 + i) == (6818955, i) && me (181 + i) == (13765771, i) && decide (181 + i < nC) && lo (181 + i) == 0 && hi (181 + i) == 127) = true := by decide +kernel
  have := List.all_eq_true.mp this i (List.mem_range.mpr h)
  simpa [and_assoc] using this
theorem ce_row {i : Nat} (h : i < 12) : ce (65 + i) = (524683, i) ∧ me (65 + i) = (15466891, i) ∧ 65 + i < nC ∧ lo (65 + i) = 0 ∧ hi (65 + i) = 5 ∧ ce (77 + i) = (655755, i) ∧ me (77 + i) = (15597963, i) ∧ 77 + i < nC ∧ lo (77 + i) = -99 ∧ hi (77 + i) = 99 := by
  have : (List.range 12).all (fun i => ce (65 + i) == (524683, i) && me (65 + i) == (15466891, i) && decide (65 + i < nC) && lo (65 + i) == 0 && hi (65 + i) == 5 && ce (77 + i) == (655755, i) && me (77 + i) == (15597963, i) && decide (77 + i < nC) && lo (77 + i) == -99 && hi (77 + i) == 99) = true := by decide +kernel
  have := List.all_eq_true.mp this i (List.mem_range.mpr h)
  simpa [and_assoc] using this
theorem ce_body {i : Nat} (h : i < 20) : ce (282 + i) = (10617483, i) ∧ me (282 + i) = (17171083, i) ∧ 282 + i < nC ∧ lo (282 + i) = 0 ∧ hi (282 + i) = 100 := by
  have : (List.range 20).all (fun i => ce (282 + i) == (10617483, i) && me (282 + i) == (17171083, i) && decide (282 + i < nC) && lo (282 + i) == 0 && hi (282 + i) == 100) = true := by decide +kernel
  have := List.all_eq_true.mp this i (List.mem_range.mpr h)
  simpa [and_assoc] using this
theorem sim_feed {hs : Nat → List Cls} {C M : Mem} (h : Rel hs C M) (p1 : Int32) : Sim C M (f_D_feed p1 C) (f_M_feed p1) := by
  by_cases hp : 0 ≤ p1 ∧ p1 ≤ 127
  · have l1 := h.lo (i := 180) (by decide) (by unfold inImg; omega)
    have l2 := h.hi (i := 180) (by decide) (by unfold inImg; omega)
    have l3 := h.eq (i := 180) (by decide) (by unfold inImg; omega)
    have q1 : mI C 6684679 0 = rdI C (ce 180) := rfl
    have q2 : mI M 12451850 14 = rdI C (ce 180) := l3.symm
    change 0 ≤ _ at l1
    change _ ≤ (100 : Int32) at l2
    generalize hn : rdI C (ce 180) = n at *
    by_cases hf : n = 100
    · refine sim_no (-4) h ?_ ?_
      · simp only [f_D_feed, f_Tx_append, wi1 hp, if_neg i10, q1, hf]; rfl
      · simp only [f_M_feed, mi1 hp, if_neg i10, q2, hf, if_true]
    · have hk : 0 ≤ n ∧ n ≤ 99 := ⟨l1, by grind⟩
      have hlt : n < 100 := by grind
      have hr := inR_le (n := 100) hk (by decide)
      obtain ⟨e1, e2, e3, e4, e5⟩ := ce_sign (inR_ix hr)
      have ht : n.toNatClampNeg < 100 := inR_ix hr
      have s1 := h.set e3 (by omega) (v := p1) (by rw [e4]; exact hp.1) (by rw [e5]; exact hp.2)
      have s2 := s1.set (i := 180) (by decide) (by decide) (v := n + 1) (show 0 ≤ n + 1 by grind) (show n + 1 ≤ 100 by grind)
      refine sim_of h (a := n + 1) ?_ ?_ ?_ s2
      · simp only [f_D_feed, f_Tx_append, wi1 hp, if_neg i10, q1, if_pos hlt, gd_pos hr, lt, b2, e1]
        show some (mI C 6684679 0 + 1, _) = _
        rw [q1]
        show some (_, setI (setI C 6818955 n.toNatClampNeg p1) 6684679 0 (mI C 6684679 0 + 1)) = _
        rw [q1]; rfl
      · rfl
      · simp only [f_M_feed, mi1 hp, if_neg i10, q2, if_neg hf, gd_pos hr, lt, e2]
        show some (mI M 12451850 14 + 1, setI (setI M 13765771 n.toNatClampNeg p1) 12451850 14 (mI M 12451850 14 + 1)) = _
        rw [q2]; rfl
  · exact sim_no (-2) h (by simp only [f_D_feed, wi0 hp, if_true]) (by simp only [f_M_feed, mi0 hp, if_true])
theorem sim_book {hs : Nat → List Cls} {C M : Mem} (h : Rel hs C M) (p1 p2 : Int32) : Sim C M (f_D_book p1 p2 C) (f_M_book p1 p2) := by
  by_cases hm : p1 = -1
  · refine sim_of h (a := 0) (C' := wrI C (ce 64) 0) (M' := wrI M (me 64) 0) ?_ rfl ?_ (h.set (by decide) (by decide) (by decide) (by decide))
    · simp only [f_D_book, hm, if_true, lt]; rfl
    · simp only [f_M_book, hm, if_true, lt]; rfl
  by_cases hp : 0 ≤ p1 ∧ p1 ≤ 5
  · by_cases hq : -99 ≤ p2 ∧ p2 ≤ 99
    · have l1 := h.lo (i := 64) (by decide) (by unfold inImg; omega)
      have l2 := h.hi (i := 64) (by decide) (by unfold inImg; omega)
      have l3 := h.eq (i := 64) (by decide) (by unfold inImg; omega)
      have q1 : mI C 131077 8 = rdI C (ce 64) := rfl
      have q2 : mI M 12451850 37 = rdI C (ce 64) := l3.symm
      change 0 ≤ _ at l1
      change _ ≤ (12 : Int32) at l2
      generalize hn : rdI C (ce 64) = n at *
      by_cases hf : n = 12
      · refine sim_no (-4) h ?_ ?_
        · simp only [f_D_book, f_D_isSpot, if_neg hm, wi1 hp, wi1 hq, if_neg i10, q1, hf]; rfl
        · simp only [f_M_book, f_M_isSpot, if_neg hm, mi1 hp, mi1 hq, if_neg i10, q2, hf, if_true]
      · have hk : 0 ≤ n ∧ n ≤ 11 := ⟨l1, by grind⟩
        have hlt : n < 12 := by grind
        have hr := inR_le (n := 12) hk (by decide)
        obtain ⟨e1, e2, e3, e4, e5, g1, g2, g3, g4, g5⟩ := ce_row (inR_ix hr)
        have ht : n.toNatClampNeg < 12 := inR_ix hr
        have s1 := h.set e3 (by omega) (v := p1) (by rw [e4]; exact hp.1) (by rw [e5]; exact hp.2)
        have s2 := s1.set g3 (by omega) (v := p2) (by rw [g4]; exact hq.1) (by rw [g5]; exact hq.2)
        have s3 := s2.set (i := 64) (by decide) (by decide) (v := n + 1) (show 0 ≤ n + 1 by grind) (show n + 1 ≤ 12 by grind)
        refine sim_of h (a := n + 1) ?_ ?_ ?_ s3
        · have w1 : ∀ k v, mI (setI C 524683 k v) 131077 8 = n := fun k v => q1
          have w2 : ∀ k v k' v', mI (setI (setI C 524683 k v) 655755 k' v') 131077 8 = n := fun k v k' v' => q1
          simp only [f_D_book, f_D_isSpot, if_neg hm, wi1 hp, wi1 hq, if_neg i10, q1, if_pos hlt, gd_pos hr, lt, e1, g1, w1, w2]; rfl
        · rfl
        · have w1 : ∀ k v, mI (setI M 15466891 k v) 12451850 37 = n := fun k v => q2
          have w2 : ∀ k v k' v', mI (setI (setI M 15466891 k v) 15597963 k' v') 12451850 37 = n := fun k v k' v' => q2
          simp only [f_M_book, f_M_isSpot, if_neg hm, mi1 hp, mi1 hq, if_neg i10, q2, if_neg hf, gd_pos hr, lt, e2, g2, w1, w2]; rfl
    · exact sim_no (-2) h (by simp only [f_D_book, f_D_isSpot, if_neg hm, wi1 hp, wi0 hq, if_neg i10, if_true]) (by simp only [f_M_book, f_M_isSpot, if_neg hm, mi1 hp, mi0 hq, if_neg i10, if_true])
  · exact sim_no (-1) h (by simp only [f_D_book, f_D_isSpot, if_neg hm, wi0 hp, if_true]) (by simp only [f_M_book, f_M_isSpot, if_neg hm, mi0 hp, if_true])
/-- a call that changes nothing -/
def SimR {α : Type} (x y : Option α) : Prop := ∃ a, x = some a ∧ y = some a
theorem sim_count {hs : Nat → List Cls} {C M : Mem} (h : Rel hs C M) (p1 : Int32) : f_D_count p1 C = f_M_count p1 M := by
  have a1 := h.eq (i := 60) (by decide) (by unfold inImg; omega)
  have a2 := h.eq (i := 179) (by decide) (by unfold inImg; omega)
  have a3 := h.eq (i := 64) (by decide) (by unfold inImg; omega)
  have a4 := h.eq (i := 180) (by decide) (by unfold inImg; omega)
  have a5 := h.eq (i := 281) (by decide) (by unfold inImg; omega)
  change mI C 131077 2 = mI M 12451850 1 at a1
  change mI C 9 6 = mI M 12451850 12 at a2
  change mI C 131077 8 = mI M 12451850 37 at a3
  change mI C 6684679 0 = mI M 12451850 14 at a4
  change mI C 10485761 1 = mI M 12451850 57 at a5
  unfold f_D_count f_M_count
  rw [a1, a2, a3, a4, a5]
theorem sim_trace {hs : Nat → List Cls} {C M : Mem} (h : Rel hs C M) (p1 : Int32) : SimR (f_D_trace p1 C) (f_M_trace p1 M) := by
  have a5 := h.eq (i := 281) (by decide) (by unfold inImg; omega)
  have l1 := h.lo (i := 281) (by decide) (by unfold inImg; omega)
  have q1 : mI C 10485761 1 = rdI C (ce 281) := rfl
  have q2 : mI M 12451850 57 = rdI C (ce 281) := a5.symm
  change 0 ≤ _ at l1
  generalize rdI C (ce 281) = n at *
  by_cases hp : 0 ≤ p1 ∧ p1 ≤ 19
  · by_cases hn : n ≤ p1
    · refine ⟨-1, ?_, ?_⟩
      · have : ¬ (0 ≤ p1 ∧ p1 ≤ mnI n 20 - 1) := by
          rw [mn_le (by grind)]; grind
        simp only [f_D_trace, f_Acts_keptCount, q1, wi0 this, if_true]
      · simp only [f_M_trace, mi1 hp, if_neg i10, q2, if_pos hn]
    · have hr := inR_le (n := 20) hp (by decide)
      obtain ⟨e1, e2, e3, e4, e5⟩ := ce_body (inR_ix hr)
      have ht : p1.toNatClampNeg < 20 := inR_ix hr
      have e := h.eq e3 (by unfold inImg; omega)
      rw [e1, e2] at e
      change mI C 10617483 _ = mI M 17171083 _ at e
      refine ⟨mI C 10617483 p1.toNatClampNeg, ?_, ?_⟩
      · have : 0 ≤ p1 ∧ p1 ≤ mnI n 20 - 1 := by
          unfold mnI; grind
        simp only [f_D_trace, f_Acts_keptCount, q1, wi1 this, if_neg i10, gd_pos hr]
      · simp only [f_M_trace, mi1 hp, if_neg i10, q2, if_neg hn, gd_pos hr, e]
  · refine ⟨-1, ?_, ?_⟩
    · have : ¬ (0 ≤ p1 ∧ p1 ≤ mnI n 20 - 1) := by
        unfold mnI; grind
      simp only [f_D_trace, f_Acts_keptCount, q1, wi0 this, if_true]
    · simp only [f_M_trace, mi0 hp, if_true]
