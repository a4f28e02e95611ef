/-! mend, taken -/
theorem ix6 {j s : Nat} (hj : j < 4) (hs : s < 6) : 6 * Int32.ofNat j + Int32.ofNat s = Int32.ofNat (6 * j + s) := by
  rw [Int32.ofNat_add, Int32.ofNat_mul]; rfl
theorem sim_cut {hs : Nat → List Cls} {C M : Mem} (h : Rel hs C M) {j s : Nat} (hj : j < 4) (h6 : s < 6) {n : Int32} (h1 : -9 ≤ n) (h2 : n ≤ 9) : ∃ a C' M', f_Dr_cutMore (786436 + 655360 * j) (Int32.ofNat s) n C = some (a, C') ∧ mZ C' = mZ C ∧ f_M_planes (Int32.ofNat j) (Int32.ofNat s) n M = some (a, M') ∧ Rel hs C' M' := by
  obtain ⟨e1, e2, e3, e4, e5⟩ := ce_cut hj h6
  have l1 := h.lo e3 (by unfold inImg; omega)
  have l2 := h.hi e3 (by unfold inImg; omega)
  have l3 := h.eq e3 (by unfold inImg; omega)
  rw [e4] at l1; rw [e5] at l2
  have q1 : mI C (786436 + 655360 * j + 393415) s = rdI C (ce (18 + 12 * j + s)) := by rw [e1]; rfl
  have q2 : mI M 13632267 (6 * j + s) = rdI C (ce (18 + 12 * j + s)) := by rw [l3, e2]; rfl
  generalize hx : rdI C (ce (18 + 12 * j + s)) = x at *
  have hr := oN_in (i := s) (n := 6) (by omega) h6
  have hr2 := oN_in (i := 6 * j + s) (n := 24) (by omega) (by omega)
  have st := fun (v : Int32) (h1 : 0 ≤ v) (h2 : v ≤ 99) => h.set (v := v) e3 (by omega) (by rw [e4]; exact h1) (by rw [e5]; exact h2)
  have hC : f_Dr_cutMore (786436 + 655360 * j) (Int32.ofNat s) n C = some (x, setI C (786436 + 655360 * j + 393415) s (mxI 0 (mnI 99 (x + n)))) := by
    simp only [f_Dr_cutMore, gd_pos hr, lt, oN_ix (show s < 2147483648 by omega), q1]
  by_cases c1 : x + n ≤ 99
  · by_cases c2 : 0 ≤ x + n
    · refine ⟨x, _, setI M 13632267 (6 * j + s) (x + n), hC, rfl, ?_, ?_⟩
      · simp only [f_M_planes, ix6 hj h6, gd_pos hr2, lt, oN_ix (show 6 * j + s < 2147483648 by omega), q2, if_pos c1, if_pos c2]
      · rw [mn_ge c1, mx_le c2]
        have := st _ c2 c1
        rw [e1, e2] at this; exact this
    · refine ⟨x, _, setI M 13632267 (6 * j + s) 0, hC, rfl, ?_, ?_⟩
      · simp only [f_M_planes, ix6 hj h6, gd_pos hr2, lt, oN_ix (show 6 * j + s < 2147483648 by omega), q2, if_pos c1, if_neg c2]
      · rw [mn_ge c1, mx_ge (by grind)]
        have := st 0 (by decide) (by decide)
        rw [e1, e2] at this; exact this
  · refine ⟨x, _, setI M 13632267 (6 * j + s) 99, hC, rfl, ?_, ?_⟩
    · simp only [f_M_planes, ix6 hj h6, gd_pos hr2, lt, oN_ix (show 6 * j + s < 2147483648 by omega), q2, if_neg c1]
    · rw [mn_le (by grind), mx_le (by decide)]
      have := st 99 (by decide) (by decide)
      rw [e1, e2] at this; exact this
theorem sim_pack {hs : Nat → List Cls} {C M : Mem} (h : Rel hs C M) {j : Nat} (hj : j < 4) {n : Int32} (h1 : 0 ≤ n) (h2 : n ≤ 9) : ∃ a C' M', f_Dr_packMore (786436 + 655360 * j) n C = some (a, C') ∧ mZ C' = mZ C ∧ f_M_packed (Int32.ofNat j) n M = some (a, M') ∧ Rel hs C' M' := by
  obtain ⟨e1, e2, e3, e4, e5⟩ := ce_pack hj
  have l1 := h.lo e3 (by unfold inImg; omega)
  have l2 := h.hi e3 (by unfold inImg; omega)
  have l3 := h.eq e3 (by unfold inImg; omega)
  rw [e4] at l1; rw [e5] at l2
  have q1 : mI C (786436 + 655360 * j) 4 = rdI C (ce (15 + 12 * j)) := by rw [e1]; rfl
  have q2 : mI M 13500555 j = rdI C (ce (15 + 12 * j)) := by rw [l3, e2]; rfl
  generalize hx : rdI C (ce (15 + 12 * j)) = x at *
  have hr2 := oN_in (i := j) (n := 4) (by omega) hj
  have st := fun (v : Int32) (h1 : 0 ≤ v) (h2 : v ≤ 9) => h.set (v := v) e3 (by omega) (by rw [e4]; exact h1) (by rw [e5]; exact h2)
  have hC : f_Dr_packMore (786436 + 655360 * j) n C = some (x, setI C (786436 + 655360 * j) 4 (mnI 9 (x + n))) := by
    simp only [f_Dr_packMore, lt, q1]
  by_cases c1 : x + n ≤ 9
  · refine ⟨x, _, setI M 13500555 j (x + n), hC, rfl, ?_, ?_⟩
    · simp only [f_M_packed, gd_pos hr2, lt, oN_ix (show j < 2147483648 by omega), q2, if_pos c1]
    · rw [mn_ge c1]
      have := st (x + n) (by grind) c1
      rw [e1, e2] at this; exact this
  · refine ⟨x, _, setI M 13500555 j 9, hC, rfl, ?_, ?_⟩
    · simp only [f_M_packed, gd_pos hr2, lt, oN_ix (show j < 2147483648 by omega), q2, if_neg c1]
    · rw [mn_le (by grind)]
      have := st 9 (by decide) (by decide)
      rw [e1, e2] at this; exact this
theorem setI_same (C : Mem) (a k : Nat) : setI C a k (mI C a k) = C := by
  have : up2 (mI C) a k (mI C a k) = mI C := by
    funext b j
    unfold up2
    by_cases q : b = a ∧ j = k
    · rw [if_pos q, q.1, q.2]
    · rw [if_neg q]
  unfold setI; rw [this]; rfl
theorem sim_coat {hs : Nat → List Cls} {C M : Mem} (h : Rel hs C M) {j : Nat} (hj : j < 4) {s : Int32} (h6 : s = 0 ∨ s = 1) : ∃ a C' M', f_Dr_paintSide (786436 + 655360 * j) s C = some (a, C') ∧ mZ C' = mZ C ∧ f_M_paints (Int32.ofNat j) s M = some (a, M') ∧ Rel hs C' M' := by
  obtain ⟨x1, x2, x3⟩ := h.2.2.2.1.1 j hj
  have hr2 := oN_in (i := j) (n := 4) (by omega) hj
  generalize hu : mI C (786436 + 655360 * j + 262215) 0 = u at *
  generalize hv : mI C (786436 + 655360 * j + 262215) 1 = v at *
  rcases h6 with e | e
  · subst e
    have := h.paint hj (u := 1) (v := v) (w := 1 + 2 * v) (Or.inr rfl) x2 rfl
    refine ⟨u, wrI C (786436 + 655360 * j + 262215, 0) 1, wrI M (13238411, j) (1 + 2 * v), ?_, rfl, ?_, ?_⟩
    · rw [← hu]; rfl
    · simp only [f_M_paints, gd_pos hr2, lt, oN_ix (show j < 2147483648 by omega), x3]
      rcases x1 with e | e <;> rcases x2 with e' | e' <;> (subst e; subst e'; rfl)
    · have e : wrI (wrI C (786436 + 655360 * j + 262215, 0) 1) (786436 + 655360 * j + 262215, 1) v = wrI C (786436 + 655360 * j + 262215, 0) 1 := by
        have := setI_same (wrI C (786436 + 655360 * j + 262215, 0) 1) (786436 + 655360 * j + 262215) 1
        rw [mI_wrI, if_neg (by simp), hv] at this
        exact this
      rw [e] at this; exact this
  · subst e
    have := h.paint hj (u := u) (v := 1) (w := u + 2 * 1) x1 (Or.inr rfl) rfl
    refine ⟨v, wrI C (786436 + 655360 * j + 262215, 1) 1, wrI M (13238411, j) (u + 2 * 1), ?_, rfl, ?_, ?_⟩
    · rw [← hv]; rfl
    · simp only [f_M_paints, gd_pos hr2, lt, oN_ix (show j < 2147483648 by omega), x3]
      rcases x1 with e | e <;> rcases x2 with e' | e' <;> (subst e; subst e'; rfl)
    · have e : wrI C (786436 + 655360 * j + 262215, 0) u = C := by
        have := setI_same C (786436 + 655360 * j + 262215) 0
        rw [hu] at this
        exact this
      rw [e] at this; exact this
theorem n30 : ((3 : Int32) = 0) = False := eq_false (by decide)
theorem n31 : ((3 : Int32) = 1) = False := eq_false (by decide)
theorem n32 : ((3 : Int32) = 2) = False := eq_false (by decide)
theorem n34 : ((3 : Int32) = 4) = False := eq_false (by decide)
theorem oN_of {p k : Int32} (h : 0 ≤ p ∧ p ≤ k) {n : Nat} (hn : k.toInt < n) : ∃ s : Nat, s < n ∧ p = Int32.ofNat s := ⟨p.toNatClampNeg, ix_le h hn, (ofN_ix h.1).symm⟩
theorem sim_mend {hs : Nat → List Cls} {C M : Mem} (h : Rel hs C M) (p1 p2 p3 p4 : Int32) : Sim C M (f_D_mend p1 p2 p3 p4 C) (f_M_mend p1 p2 p3 p4) := by
  rcases door_at h p1 with ⟨j, hj, ej, e0, hr, -, eC, eM⟩ | ⟨eC, eM⟩
  · by_cases hm : 0 ≤ p2 ∧ p2 ≤ 4
    · have hc : p2 = 0 ∨ p2 = 1 ∨ p2 = 2 ∨ p2 = 3 ∨ p2 = 4 := by grind
      have k4 := dkd j
      have nz := dnz j
      obtain ⟨d, hd⟩ : ∃ d, d = 786436 + 655360 * j := ⟨_, rfl⟩
      rw [← hd] at k4 nz eC
      have fC : ∀ {a C' M'} {x : Option (Int32 × Mem)}, x = some (a, C') → mZ C' = mZ C → f_M_mend p1 p2 p3 p4 M = some (a, M') → Rel hs C' M' → Sim C M x (f_M_mend p1 p2 p3 p4) := fun hx hz hy hR => sim_of h hx hz hy hR
      rcases hc with e | e | e | e | e
      · subst e
        by_cases hp : 0 ≤ p3 ∧ p3 ≤ 5
        · by_cases hq : 0 ≤ p4 ∧ p4 ≤ 9
          · obtain ⟨s, hs6, es⟩ := oN_of hp (n := 6) (by decide)
            obtain ⟨a, C', M', y1, y2, y3, y4⟩ := sim_cut h hj hs6 (n := p4) (by grind) hq.2
            rw [← hd] at y1
            refine sim_of h (a := a) (C' := C') (M' := M') ?_ y2 ?_ y4
            · simp only [f_D_mend, f_D_mend_b55, f_D_isPlaceOfMend, f_D_isSpot, eC, bd_some, if_neg nz, wi1 hm, wi1 hp, wi1 hq, if_neg i10, if_true, gd_pos k4]
              rw [es, y1]; rfl
            · simp only [f_M_mend, f_M_mend_b54, f_M_isWhere, f_M_isSpot, eM, mi1 hm, mi1 hp, mi1 hq, if_neg i10, if_true]
              rw [es, e0, y3]; rfl
          · exact sim_no (-2) h (by simp only [f_D_mend, f_D_isPlaceOfMend, f_D_isSpot, eC, bd_some, if_neg nz, wi1 hm, wi1 hp, wi0 hq, if_neg i10, if_true]; rfl) (by simp only [f_M_mend, f_M_isWhere, f_M_isSpot, eM, mi1 hm, mi1 hp, mi0 hq, if_neg i10, if_true]; rfl)
        · exact sim_no (-1) h (by simp only [f_D_mend, f_D_isPlaceOfMend, f_D_isSpot, eC, bd_some, if_neg nz, wi1 hm, wi0 hp, if_neg i10, if_true]) (by simp only [f_M_mend, f_M_isWhere, f_M_isSpot, eM, mi1 hm, mi0 hp, if_neg i10, if_true])
      · subst e
        by_cases hq : 0 ≤ p4 ∧ p4 ≤ 9
        · obtain ⟨a, C', M', y1, y2, y3, y4⟩ := sim_pack h hj (n := p4) hq.1 hq.2
          rw [← hd] at y1
          refine sim_of h (a := a) (C' := C') (M' := M') ?_ y2 ?_ y4
          · show bd (f_D_doorAt p1 C) _ = _
            rw [eC]
            show (if d = 0 then _ else if f_D_within 1 0 4 C = 0 then _ else if (1 : Int32) = 0 then _ else if f_D_within p4 0 9 C = 0 then _ else f_D_mend_b55 1 p3 p4 (d) C) = _
            rw [if_neg nz, wi1 hm, wi1 hq, if_neg i10, if_neg i10, if_neg i10]
            show gd ((d) % 131072 = 4) _ = _
            rw [gd_pos k4, y1]; rfl
          · show (if f_M_isDoor p1 M = 0 then _ else if f_M_in 1 0 4 M = 0 then _ else if (1 : Int32) = 0 then _ else if f_M_in p4 0 9 M = 0 then _ else b2 (f_M_packed p1 p4 M) _) = _
            rw [eM, mi1 hm, mi1 hq, if_neg i10, if_neg i10, if_neg i10, if_neg i10, e0, y3]; rfl
        · refine sim_no (-2) h ?_ ?_
          · show bd (f_D_doorAt p1 C) _ = _
            rw [eC]
            show (if d = 0 then _ else if f_D_within 1 0 4 C = 0 then _ else if (1 : Int32) = 0 then _ else if f_D_within p4 0 9 C = 0 then _ else f_D_mend_b55 1 p3 p4 (d) C) = _
            rw [if_neg nz, wi1 hm, wi0 hq, if_neg i10, if_neg i10, if_pos rfl]
          · show (if f_M_isDoor p1 M = 0 then _ else if f_M_in 1 0 4 M = 0 then _ else if (1 : Int32) = 0 then _ else if f_M_in p4 0 9 M = 0 then _ else b2 (f_M_packed p1 p4 M) _) = _
            rw [eM, mi1 hm, mi0 hq, if_neg i10, if_neg i10, if_neg i10, if_pos rfl]
      · subst e
        obtain ⟨e1, e2, e3, e4, e5⟩ := ce_sag hj
        rw [← hd] at e1
        refine sim_of h (a := rdI C (ce (14 + 12 * j))) (C' := wrI C (ce (14 + 12 * j)) 0) (M' := wrI M (me (14 + 12 * j)) 0) ?_ rfl ?_ (h.set e3 (by omega) (by rw [e4]; decide) (by rw [e5]; decide))
        · show bd (f_D_doorAt p1 C) _ = _
          rw [eC]
          show (if d = 0 then _ else if f_D_within 2 0 4 C = 0 then _ else if (1 : Int32) = 0 then _ else f_D_mend_b55 2 p3 p4 (d) C) = _
          rw [if_neg nz, wi1 hm, if_neg i10, if_neg i10]
          show gd ((d) % 131072 = 4) _ = _
          rw [gd_pos k4, e1]; rfl
        · rw [h.eq e3 (by unfold inImg; omega)]
          show (if f_M_isDoor p1 M = 0 then _ else if f_M_in 2 0 4 M = 0 then _ else if (1 : Int32) = 0 then _ else gd (inR p1 4) _) = _
          rw [eM, mi1 hm, if_neg i10, if_neg i10, if_neg i10]
          simp only [gd_pos hr, lt, e2, ej]; rfl
      · subst e
        by_cases hp : 0 ≤ p3 ∧ p3 ≤ 1
        · obtain ⟨a, C', M', y1, y2, y3, y4⟩ := sim_coat h hj (s := p3) (by grind)
          rw [← hd] at y1
          refine sim_of h (a := a) (C' := C') (M' := M') ?_ y2 ?_ y4
          · simp only [f_D_mend, f_D_mend_b55, f_D_isPlaceOfMend, eC, bd_some, if_neg nz, wi1 hm, wi1 hp, if_neg i10, if_true, gd_pos k4, y1, n32, n30, n31]; rfl
          · simp only [f_M_mend, f_M_mend_b54, f_M_isWhere, eM, mi1 hm, mi1 hp, if_neg i10, if_true, n32, n30, n31]
            rw [e0, y3]; rfl
        · refine sim_no (-1) h ?_ ?_
          · simp only [f_D_mend, f_D_isPlaceOfMend, eC, bd_some, if_neg nz, wi1 hm, wi0 hp, if_neg i10, if_true, n30, n34]; rfl
          · simp only [f_M_mend, f_M_isWhere, eM, mi1 hm, mi0 hp, if_neg i10, if_true, n30]; rfl
      · subst e
        by_cases hp : 0 ≤ p3 ∧ p3 ≤ 5
        · by_cases hq : 0 ≤ p4 ∧ p4 ≤ 9
          · obtain ⟨s, hs6, es⟩ := oN_of hp (n := 6) (by decide)
            obtain ⟨a, C', M', y1, y2, y3, y4⟩ := sim_cut h hj hs6 (n := -p4) (by grind) (by grind)
            rw [← hd] at y1
            refine sim_of h (a := a) (C' := C') (M' := M') ?_ y2 ?_ y4
            · show bd (f_D_doorAt p1 C) _ = _
              rw [eC]
              show (if d = 0 then _ else if f_D_within 4 0 4 C = 0 then _ else if f_D_within p3 0 5 C = 0 then _ else if f_D_within p4 0 9 C = 0 then _ else f_D_mend_b55 4 p3 p4 (d) C) = _
              rw [if_neg nz, wi1 hm, wi1 hp, wi1 hq, if_neg i10, if_neg i10, if_neg i10]
              show gd ((d) % 131072 = 4) _ = _
              rw [gd_pos k4, es, y1]; rfl
            · show (if f_M_isDoor p1 M = 0 then _ else if f_M_in 4 0 4 M = 0 then _ else if f_M_in p3 0 5 M = 0 then _ else if f_M_in p4 0 9 M = 0 then _ else b2 (f_M_planes p1 p3 (-p4) M) _) = _
              rw [eM, mi1 hm, mi1 hp, mi1 hq, if_neg i10, if_neg i10, if_neg i10, if_neg i10, e0, es, y3]; rfl
          · refine sim_no (-2) h ?_ ?_
            · show bd (f_D_doorAt p1 C) _ = _
              rw [eC]
              show (if d = 0 then _ else if f_D_within 4 0 4 C = 0 then _ else if f_D_within p3 0 5 C = 0 then _ else if f_D_within p4 0 9 C = 0 then _ else f_D_mend_b55 4 p3 p4 (d) C) = _
              rw [if_neg nz, wi1 hm, wi1 hp, wi0 hq, if_neg i10, if_neg i10, if_pos rfl]
            · show (if f_M_isDoor p1 M = 0 then _ else if f_M_in 4 0 4 M = 0 then _ else if f_M_in p3 0 5 M = 0 then _ else if f_M_in p4 0 9 M = 0 then _ else b2 (f_M_planes p1 p3 (-p4) M) _) = _
              rw [eM, mi1 hm, mi1 hp, mi0 hq, if_neg i10, if_neg i10, if_neg i10, if_pos rfl]
        · refine sim_no (-1) h ?_ ?_
          · show bd (f_D_doorAt p1 C) _ = _
            rw [eC]
            show (if d = 0 then _ else if f_D_within 4 0 4 C = 0 then _ else if f_D_within p3 0 5 C = 0 then _ else if f_D_within p4 0 9 C = 0 then _ else f_D_mend_b55 4 p3 p4 (d) C) = _
            rw [if_neg nz, wi1 hm, wi0 hp, if_neg i10, if_pos rfl]
          · show (if f_M_isDoor p1 M = 0 then _ else if f_M_in 4 0 4 M = 0 then _ else if f_M_in p3 0 5 M = 0 then _ else if f_M_in p4 0 9 M = 0 then _ else b2 (f_M_planes p1 p3 (-p4) M) _) = _
            rw [eM, mi1 hm, mi0 hp, if_neg i10, if_neg i10, if_pos rfl]
    · exact sim_no (-1) h (by simp only [f_D_mend, eC, bd_some, if_neg (dnz j), wi0 hm, if_true]) (by simp only [f_M_mend, eM, mi0 hm, if_neg i10, if_true])
  · exact sim_no (-1) h (by simp only [f_D_mend, eC, bd_some, if_true]) (by simp only [f_M_mend, eM, if_true])
