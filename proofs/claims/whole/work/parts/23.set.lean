/-! SETTING CELLS KEEPS THE RELATION -/
theorem allC {p : Nat → Bool} (h : (List.range nC).all p = true) {i : Nat} (hi : i < nC) : p i = true := List.all_eq_true.mp h i (List.mem_range.mpr hi)
theorem ce_reg {i : Nat} (hi : i < nC) : ¬ hReg (ce i).1 := by
  have := allC (p := fun i => decide ((ce i).1 < 7208966) || (decide (7602179 ≤ (ce i).1) && decide ((ce i).1 < 12451840))) (by decide +kernel) hi
  simp only [Bool.or_eq_true, Bool.and_eq_true, decide_eq_true_eq] at this
  unfold hReg; omega
theorem me_reg {i : Nat} (hi : i < nC) : ¬ mReg (me i).1 ∧ (me i).1 ≠ 13238411 ∧ (me i).1 ≠ 16384139 := by
  have := allC (p := fun i => !((me i).1 == 13893835) && !((me i).1 == 14026635) && !((me i).1 == 14157707) && !((me i).1 == 14288779) && !((me i).1 == 14419851) && !((me i).1 == 14568203) && !((me i).1 == 13238411) && !((me i).1 == 16384139)) (by decide +kernel) hi
  simp only [Bool.and_eq_true, Bool.not_eq_true', beq_eq_false_iff_ne] at this
  unfold mReg
  refine ⟨?_, this.1.2, this.2⟩
  rintro (q | q | q | q | q | q) <;> simp_all
theorem ce_pn {i : Nat} (hi : i < nC) : ¬ pnC (ce i) := by
  have := allC (p := fun i => (List.range 4).all fun j => !(ce i == (786436 + 655360 * j + 262215, 0)) && !(ce i == (786436 + 655360 * j + 262215, 1)) && !(ce i == (786436 + 655360 * j, 0)) && !(ce i == (4063236 + 655360 * j + 262215, 0)) && !(ce i == (4063236 + 655360 * j + 262215, 1)) && !(ce i == (4063236 + 655360 * j, 0))) (by decide +kernel) hi
  rintro ⟨j, hj, h⟩
  have := List.all_eq_true.mp this j (List.mem_range.mpr hj)
  simp only [Bool.and_eq_true, Bool.not_eq_true', beq_eq_false_iff_ne] at this
  rcases h with q | q | q | q | q | q <;> simp_all
theorem mI_wrI (C : Mem) (p : Nat × Nat) (v : Int32) (a k : Nat) : mI (wrI C p v) a k = if a = p.1 ∧ k = p.2 then v else mI C a k := rfl
theorem mR_wrI (C : Mem) (p : Nat × Nat) (v : Int32) : mR (wrI C p v) = mR C := rfl
theorem mL_wrI (C : Mem) (p : Nat × Nat) (v : Int32) : mL (wrI C p v) = mL C := rfl
theorem mZ_wrI (C : Mem) (p : Nat × Nat) (v : Int32) : mZ (wrI C p v) = mZ C := rfl
theorem mI_ne {C : Mem} {p : Nat × Nat} {v : Int32} {a k : Nat} (h : a ≠ p.1) : mI (wrI C p v) a k = mI C a k := if_neg fun q => h q.1
theorem rd_ne {C : Mem} {p q : Nat × Nat} {v : Int32} (h : q ≠ p) : rdI (wrI C p v) q = rdI C q := by rw [rd_wr, if_neg h]
theorem ne_of_P {α : Type} {P : α → Prop} {a b : α} (ha : P a) (hb : ¬ P b) : a ≠ b := fun e => hb (e ▸ ha)
/-- a class's cell that no part of the relation looks at -/
def jkC (p : Nat × Nat) : Prop := cJ p ∧ ¬ hReg p.1 ∧ ¬ pnC p
def jkM (p : Nat × Nat) : Prop := mJ p ∧ ¬ mReg p.1 ∧ p.1 ≠ 13238411 ∧ p.1 ≠ 16384139
theorem Rel.set {hs : Nat → List Cls} {C M : Mem} (h : Rel hs C M) {i : Nat} (hi' : i < nC) (hx : i ≠ 60 ∧ i ≠ 63 ∧ i ≠ 149 ∧ i ≠ 152 ∧ i ≠ 178 ∧ i ≠ 179 ∧ i < 302) {v : Int32} (h1 : lo i ≤ v) (h2 : v ≤ hi i) : Rel hs (wrI C (ce i) v) (wrI M (me i) v) := by
  obtain ⟨a1, a2, a3, a4, a5, a6⟩ := h
  obtain ⟨x1, x2, x3, x4, x5, x6, x7⟩ := hx
  have nz : ∀ k, k < nC → k ≠ i → rdI (wrI C (ce i) v) (ce k) = rdI C (ce k) := fun k hk hne => by rw [rd_wr, if_neg fun q => hne (ce_inj hk hi' q)]
  have nI : ∀ a, hReg a → ∀ k, mI (wrI C (ce i) v) a k = mI C a k := fun a ha k => mI_ne (ne_of_P ha (ce_reg hi'))
  have nM : ∀ a, mReg a → ∀ k, mI (wrI M (me i) v) a k = mI M a k := fun a ha k => mI_ne (ne_of_P ha (me_reg hi').1)
  refine ⟨a1.set hi' x5 h1 h2, a2.fr nI (fun _ _ _ => rfl) (nz _ (by decide) x6.symm) nM, a3.fr (fun k hk hq => nz k hk (by omega)), a4.fr (fun p hp => rd_ne (ne_of_P hp (ce_pn hi'))) (fun j _ => ⟨mI_ne (me_reg hi').2.1.symm, mI_ne (me_reg hi').2.2.symm⟩) (nz _ (by decide) x1.symm) (nz _ (by decide) x3.symm) (nz _ (by decide) x5.symm), a5, a6⟩
theorem Rel.jC {hs : Nat → List Cls} {C M : Mem} (h : Rel hs C M) {p : Nat × Nat} (hp : jkC p) (v : Int32) : Rel hs (wrI C p v) M := by
  obtain ⟨a1, a2, a3, a4, a5, a6⟩ := h
  obtain ⟨p1, p2, p3⟩ := hp
  have nz : ∀ k, k < nC → rdI (wrI C p v) (ce k) = rdI C (ce k) := fun k hk => by rw [rd_wr, if_neg (p1 k hk)]
  refine ⟨a1.junkC p1 v, a2.fr (fun a ha k => mI_ne (ne_of_P ha p2)) (fun _ _ _ => rfl) (nz _ (by decide)) (fun _ _ _ => rfl), a3.fr (fun k hk _ => nz k hk), a4.fr (fun p' hp' => rd_ne (ne_of_P hp' p3)) (fun _ _ => ⟨rfl, rfl⟩) (nz _ (by decide)) (nz _ (by decide)) (nz _ (by decide)), a5, a6⟩
theorem Rel.jM {hs : Nat → List Cls} {C M : Mem} (h : Rel hs C M) {p : Nat × Nat} (hp : jkM p) (v : Int32) : Rel hs C (wrI M p v) := by
  obtain ⟨a1, a2, a3, a4, a5, a6⟩ := h
  obtain ⟨p1, p2, p3⟩ := hp
  exact ⟨a1.junkM p1 v, a2.fr (fun _ _ _ => rfl) (fun _ _ _ => rfl) rfl (fun a ha k => mI_ne (ne_of_P ha p2)), a3, a4.fr (fun _ _ => rfl) (fun j _ => ⟨mI_ne p3.1.symm, mI_ne p3.2.symm⟩) rfl rfl rfl, a5, a6⟩
/-- the same value stands in both -/
theorem Rel.eq {hs : Nat → List Cls} {C M : Mem} (h : Rel hs C M) {i : Nat} (hi' : i < nC) (hn : ¬ inImg i) : rdI C (ce i) = rdI M (me i) := (h.1 i hi' (Or.inl hn)).1
theorem Rel.lo {hs : Nat → List Cls} {C M : Mem} (h : Rel hs C M) {i : Nat} (hi' : i < nC) (hn : ¬ inImg i) : lo i ≤ rdI C (ce i) := (h.1 i hi' (Or.inl hn)).2.1
theorem Rel.hi {hs : Nat → List Cls} {C M : Mem} (h : Rel hs C M) {i : Nat} (hi' : i < nC) (hn : ¬ inImg i) : rdI C (ce i) ≤ hi i := (h.1 i hi' (Or.inl hn)).2.2
