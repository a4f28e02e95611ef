/-! taken, doors, tapes -/
theorem take_k {C M : Mem} {k p : Int32} (hk : 0 ≤ k ∧ k ≤ 6) (hp : 0 ≤ p ∧ p ≤ 6) : ∃ a, (bd (f_D_isUnder k p C) fun r3 => if r3 = 0 then some (-12) else some k) = some a ∧ (if p = 0 then some k else if k = p then some k else if p = 1 then if k = 4 then some k else f_M_taken_b51 M p k else f_M_taken_b51 M p k) = some a := by
  obtain ⟨i, hi', ei⟩ := oN_of hk (n := 7) (by decide)
  obtain ⟨j, hj', ej⟩ := oN_of hp (n := 7) (by decide)
  subst ei; subst ej
  rcases (show i = 0 ∨ i = 1 ∨ i = 2 ∨ i = 3 ∨ i = 4 ∨ i = 5 ∨ i = 6 by omega) with e | e | e | e | e | e | e <;> subst e <;> rcases (show j = 0 ∨ j = 1 ∨ j = 2 ∨ j = 3 ∨ j = 4 ∨ j = 5 ∨ j = 6 by omega) with e | e | e | e | e | e | e <;> subst e <;> exact ⟨_, rfl, rfl⟩
theorem sim_taken {hs : Nat → List Cls} {C M : Mem} (h : Rel hs C M) (p1 p2 : Int32) : SimR (f_D_taken p1 p2 C) (f_M_taken p1 p2 M) := by
  by_cases hp : 0 ≤ p2 ∧ p2 ≤ 6
  · rcases door_at h p1 with ⟨j, hj, ej, e0, hr, -, eC, eM⟩ | ⟨eC, eM⟩
    · obtain ⟨e1, e2, e3, e4, e5⟩ := ce_kind hj
      have l1 := h.lo e3 (by unfold inImg; omega)
      have l2 := h.hi e3 (by unfold inImg; omega)
      have l3 := h.eq e3 (by unfold inImg; omega)
      rw [e4] at l1; rw [e5] at l2
      have q1 : mI C (786436 + 655360 * j) 1 = rdI C (ce (12 + 12 * j)) := by rw [e1]; rfl
      have q2 : mI M 12714123 j = rdI C (ce (12 + 12 * j)) := by rw [l3, e2]; rfl
      obtain ⟨a, y1, y2⟩ := take_k (C := C) (M := M) ⟨l1, l2⟩ hp
      refine ⟨a, ?_, ?_⟩
      · simp only [f_D_taken, wi1 hp, if_neg i10, eC, bd_some, if_neg (dnz j), gd_pos (dkd j), q1]
        exact y1
      · simp only [f_M_taken, mi1 hp, if_neg i10, eM, gd_pos hr, lt, ej, q2]
        exact y2
    · exact ⟨-11, by simp only [f_D_taken, wi1 hp, if_neg i10, eC, bd_some, if_true], by simp only [f_M_taken, mi1 hp, if_neg i10, eM, if_true]⟩
  · exact ⟨-2, by simp only [f_D_taken, wi0 hp, if_true], by simp only [f_M_taken, mi0 hp, if_true]⟩
/-! tapes -/
theorem ce_tape {t : Nat} (h : t < 6) : ce (302 + t) = (10878984 + 262144 * t, 0) ∧ me (302 + t) = (17301707, t) ∧ 302 + t < nC ∧ lo (302 + t) = -1 ∧ hi (302 + t) = 4 ∧ ce (308 + t) = (10878984 + 262144 * t, 1) ∧ me (308 + t) = (17432779, t) ∧ 308 + t < nC ∧ lo (308 + t) = 0 ∧ hi (308 + t) = 60 := by
  have : (List.range 6).all (fun t => ce (302 + t) == (10878984 + 262144 * t, 0) && me (302 + t) == (17301707, t) && decide (302 + t < nC) && lo (302 + t) == -1 && hi (302 + t) == 4 && ce (308 + t) == (10878984 + 262144 * t, 1) && me (308 + t) == (17432779, t) && decide (308 + t < nC) && lo (308 + t) == 0 && hi (308 + t) == 60) = true := by decide +kernel
  have := List.all_eq_true.mp this t (List.mem_range.mpr h)
  simpa [and_assoc] using this
theorem tape_at (C M : Mem) (p : Int32) : (∃ t : Nat, t < 6 ∧ p.toNatClampNeg = t ∧ p = Int32.ofNat t ∧ inR p 6 ∧ f_D_tapeAt p C = some (10878984 + 262144 * t) ∧ f_M_isTape p M = 1) ∨ (f_D_tapeAt p C = some 0 ∧ f_M_isTape p M = 0) := by
  by_cases hp : 0 ≤ p ∧ p ≤ 5
  · have hr := inR_le (n := 6) hp (by decide)
    refine Or.inl ⟨p.toNatClampNeg, inR_ix hr, rfl, (ofN_ix hp.1).symm, hr, ?_, ?_⟩
    · unfold f_D_tapeAt; rw [wi1 hp, if_neg i10, gd_pos hr]
    · unfold f_M_isTape; rw [mi1 hp]
  · refine Or.inr ⟨?_, ?_⟩
    · unfold f_D_tapeAt; rw [wi0 hp, if_pos rfl]
    · unfold f_M_isTape; rw [mi0 hp]
theorem tnz (t : Nat) : ¬ 10878984 + 262144 * t = 0 := by omega
theorem tkd (t : Nat) : (10878984 + 262144 * t) % 131072 = 8 := by omega
/-- what both know of a tape -/
theorem tape_of {hs : Nat → List Cls} {C M : Mem} (h : Rel hs C M) {t : Nat} (ht : t < 6) : ∃ s n : Int32, mI C (10878984 + 262144 * t) 0 = s ∧ mI M 17301707 t = s ∧ mI C (10878984 + 262144 * t) 1 = n ∧ mI M 17432779 t = n ∧ -1 ≤ s ∧ s ≤ 4 ∧ 0 ≤ n ∧ n ≤ 60 := by
  obtain ⟨e1, e2, e3, e4, e5, g1, g2, g3, g4, g5⟩ := ce_tape ht
  refine ⟨rdI C (ce (302 + t)), rdI C (ce (308 + t)), by rw [e1]; rfl, ?_, by rw [g1]; rfl, ?_, by rw [← e4]; exact h.lo e3 (by unfold inImg; omega), by rw [← e5]; exact h.hi e3 (by unfold inImg; omega), by rw [← g4]; exact h.lo g3 (by unfold inImg; omega), by rw [← g5]; exact h.hi g3 (by unfold inImg; omega)⟩
  · rw [h.eq e3 (by unfold inImg; omega), e2]; rfl
  · rw [h.eq g3 (by unfold inImg; omega), g2]; rfl
theorem ix60 {t i : Nat} : 60 * Int32.ofNat t + Int32.ofNat i = Int32.ofNat (60 * t + i) := by
  rw [Int32.ofNat_add, Int32.ofNat_mul]; rfl
theorem sim_read {hs : Nat → List Cls} {C M : Mem} (h : Rel hs C M) (p1 p2 : Int32) : SimR (f_D_read p1 p2 C) (f_M_read p1 p2 M) := by
  rcases tape_at C M p1 with ⟨t, ht, et, e0, hr, eC, eM⟩ | ⟨eC, eM⟩
  · obtain ⟨s, n, a1, a2, a3, a4, b1, b2, b3, b4⟩ := tape_of h ht
    have hz : s = -1 → n = 0 := by
      have := h.2.2.1.2.2 t ht
      obtain ⟨e1, e2, e3, e4, e5, g1, g2, g3, g4, g5⟩ := ce_tape ht
      rw [e1, g1] at this
      rw [← a1, ← a3]; exact this
    by_cases hs1 : s < 0
    · have hn : n = 0 := hz (by grind)
      have no : ¬ (0 ≤ p2 ∧ p2 ≤ n - 1) := by grind
      exact ⟨-9223372036854775808, by simp only [f_D_read, f_Tp_hasPlace, eC, bd_some, if_neg (tnz t), gd_pos (tkd t), a3, wi0 no, if_true], by simp only [f_M_read, eM, if_neg i10, gd_pos hr, et, a2, if_pos hs1]⟩
    · by_cases hp : 0 ≤ p2 ∧ p2 ≤ n - 1
      · have hp' : 0 ≤ p2 ∧ p2 ≤ 59 := ⟨hp.1, by grind⟩
        have hr2 := inR_le (n := 60) hp' (by decide)
        obtain ⟨i, hi', ei⟩ := oN_of hp' (n := 60) (by decide)
        have hr3 := oN_in (i := 60 * t + i) (n := 360) (by omega) (by omega)
        refine ⟨mL C (10878984 + 262144 * t + 132996) i, ?_, ?_⟩
        · simp only [f_D_read, f_Tp_hasPlace, eC, bd_some, if_neg (tnz t), gd_pos (tkd t), a3, wi1 hp, if_neg i10, gd_pos hr2]
          rw [ei, oN_ix (by omega)]
        · simp only [f_M_read, eM, if_neg i10, gd_pos hr, et, a2, if_neg hs1, a4, mi1 hp]
          rw [e0, ei, ix60, gd_pos hr3, oN_ix (by omega), h.2.2.2.2.1 t i ht hi']
      · exact ⟨-9223372036854775808, by simp only [f_D_read, f_Tp_hasPlace, eC, bd_some, if_neg (tnz t), gd_pos (tkd t), a3, wi0 hp, if_true], by simp only [f_M_read, eM, if_neg i10, gd_pos hr, et, a2, if_neg hs1, a4, mi0 hp, if_true]⟩
  · exact ⟨-9223372036854775808, by simp only [f_D_read, eC, bd_some, if_true], by simp only [f_M_read, eM, if_true]⟩
