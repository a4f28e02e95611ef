/-! THE BEGINNING -/
theorem RI_bump {C M : Mem} {n : Nat} (h : RI C M) : RI (bump C n) M := h
theorem mZ_bmp (C : Mem) (n : Nat) : mZ (bump C n) = n := rfl
theorem rel_0 : Rel (fun _ => []) (bump C0 136) M0 := by
  refine ⟨RI_bump RI_0, ⟨?_, fun f hf hlt => ?_⟩, ⟨by decide +kernel, fun q => ?_, fun t ht => ?_⟩, ⟨fun j hj => ?_, fun j hj hlt => ?_, fun q => ?_⟩, fun t k ht hk => ?_, ?_⟩
  · refine ⟨by decide, by unfold hReg; omega, by decide +kernel, by decide +kernel, by decide +kernel, by decide +kernel, ?_, by decide +kernel, fun c hc => by simp at hc⟩
    have : mR (bump C0 136) 7208966 0 = 7340048 := by decide +kernel
    rw [this]; unfold hReg; omega
  · have : rdI (bump C0 136) (ce 179) = 0 := by decide +kernel
    rw [this] at hlt
    have := (oN_lt (m := f) (i := 0) (by omega) (by omega)).mp hlt
    omega
  · have : rdI (bump C0 136) (ce 178) = 0 := by decide +kernel
    rw [this] at q
    exact absurd q (by decide)
  · have key : (List.range 6).all (fun t => rdI (bump C0 136) (ce (308 + t)) == 0) = true := by decide +kernel
    intro _
    simpa using List.all_eq_true.mp key t (List.mem_range.mpr ht)
  · have key : (List.range 4).all (fun j => mI (bump C0 136) (786436 + 655360 * j + 262215) 0 == 0 && mI (bump C0 136) (786436 + 655360 * j + 262215) 1 == 0 && mI M0 13238411 j == 0) = true := by decide +kernel
    have := List.all_eq_true.mp key j (List.mem_range.mpr hj)
    simp only [Bool.and_eq_true, beq_iff_eq] at this
    obtain ⟨⟨a, b⟩, c⟩ := this
    rw [a, b, c]
    exact ⟨Or.inl rfl, Or.inl rfl, rfl⟩
  · have : rdI (bump C0 136) (ce 60) = 0 := by decide +kernel
    rw [this] at hlt
    have := (oN_lt (m := j) (i := 0) (by omega) (by omega)).mp hlt
    omega
  · have : rdI (bump C0 136) (ce 178) = 0 := by decide +kernel
    rw [this] at q
    exact absurd q (by decide)
  · have key : (List.range 6).all (fun t => (List.range 60).all fun k => mL (bump C0 136) (10878984 + 262144 * t + 132996) k == mL M0 17575180 (60 * t + k)) = true := by decide +kernel
    have := List.all_eq_true.mp (List.all_eq_true.mp key t (List.mem_range.mpr ht)) k (List.mem_range.mpr hk)
    simpa using this
  · rw [mZ_bmp, M0_z]

theorem hLt_0 : hLt M0 := fun i hi => by
  have key : (List.range 20).all (fun i => mI M0 14811787 i == Lt.getD i 0) = true := by decide +kernel
  simpa using List.all_eq_true.mp key i (List.mem_range.mpr hi)
theorem hv_0 : 7471311 ∈ mV (bump C0 136) := by decide +kernel
theorem hz_0 : 136 ≤ mZ (bump C0 136) := by decide +kernel
