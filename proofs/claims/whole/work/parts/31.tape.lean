/-! tape -/
theorem Rel.tape {hs : Nat → List Cls} {C M : Mem} (h : Rel hs C M) {t : Nat} (ht : t < 6) {s n : Int32} (s1 : -1 ≤ s) (s2 : s ≤ 4) (n1 : 0 ≤ n) (n2 : n ≤ 60) (hz : s = -1 → n = 0) : Rel hs (wrI (wrI C (10878984 + 262144 * t, 0) s) (10878984 + 262144 * t, 1) n) (wrI (wrI M (17301707, t) s) (17432779, t) n) := by
  obtain ⟨e1, e2, e3, e4, e5, g1, g2, g3, g4, g5⟩ := ce_tape ht
  rw [← e1, ← e2, ← g1, ← g2]
  obtain ⟨a1, a2, a3, a4, a5, a6⟩ := h
  have nz : ∀ k, k < nC → k ≠ 302 + t → k ≠ 308 + t → rdI (wrI (wrI C (ce (302 + t)) s) (ce (308 + t)) n) (ce k) = rdI C (ce k) := fun k hk h1 h2 => by rw [rd_ne fun q => h2 (ce_inj hk g3 q), rd_ne fun q => h1 (ce_inj hk e3 q)]
  have r1 := a1.set e3 (by omega) (v := s) (by rw [e4]; exact s1) (by rw [e5]; exact s2)
  have r2 := r1.set g3 (by omega) (v := n) (by rw [g4]; exact n1) (by rw [g5]; exact n2)
  refine ⟨r2, RHs.fr (C := C) (M := M) (fun a ha k => ?_) (fun _ _ _ => rfl) (nz 179 (by decide) (by omega) (by omega)) (fun a ha k => ?_) a2, ?_, RX.fr (C := C) (M := M) (fun p hp => ?_) (fun j _ => ⟨?_, ?_⟩) (nz 60 (by decide) (by omega) (by omega)) (nz 149 (by decide) (by omega) (by omega)) (nz 178 (by decide) (by omega) (by omega)) a4, a5, a6⟩
  · rw [mI_ne (ne_of_P ha (ce_reg g3)), mI_ne (ne_of_P ha (ce_reg e3))]
  · rw [mI_ne (ne_of_P ha (me_reg g3).1), mI_ne (ne_of_P ha (me_reg e3).1)]
  · unfold RHo
    rw [nz 63 (by decide) (by omega) (by omega), nz 179 (by decide) (by omega) (by omega), nz 178 (by decide) (by omega) (by omega), nz 152 (by decide) (by omega) (by omega)]
    refine ⟨a3.1, a3.2.1, fun u hu => ?_⟩
    by_cases e : u = t
    · subst e
      rw [rd_ne fun q => absurd (ce_inj e3 g3 q) (by omega), rd_wr, if_pos rfl, rd_wr, if_pos rfl]
      exact hz
    · rw [nz (302 + u) (by unfold nC; omega) (by omega) (by omega), nz (308 + u) (by unfold nC; omega) (by omega) (by omega)]
      exact a3.2.2 u hu
  · rw [rd_ne (ne_of_P hp (ce_pn g3)), rd_ne (ne_of_P hp (ce_pn e3))]
  · rw [mI_ne (me_reg g3).2.1.symm, mI_ne (me_reg e3).2.1.symm]
  · rw [mI_ne (me_reg g3).2.2.symm, mI_ne (me_reg e3).2.2.symm]
theorem Rel.emptied {hs : Nat → List Cls} {C M : Mem} (h : Rel hs C M) {t : Nat} (ht : t < 6) : Rel hs (filL C (10878984 + 262144 * t + 132996) 0 60 0) (filL M 17575180 0 60 (60 * t + 0)) := by
  obtain ⟨x1, x2, x3⟩ := filL_same (10878984 + 262144 * t + 132996) 0 60 0 C
  obtain ⟨y1, y2, y3⟩ := filL_same 17575180 0 60 (60 * t + 0) M
  refine h.longs x1 x2 x3 y1 y3 fun u k hu hk => ?_
  rw [filL_at, filL_at]
  by_cases e : u = t
  · rw [if_pos (by omega), if_pos (by omega)]
  · rw [if_neg (by omega), if_neg (by omega)]; exact h.2.2.2.2.1 u k hu hk
