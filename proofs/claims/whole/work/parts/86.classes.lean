theorem pr_at {A : Array Value} {s : State} {ty : FieldType} (h : (Cond.arrayClass ty).before A s = true) : ∃ cA : ClassId, ArrOfT s cA ty ∧ s.vm.findClass ("[" ++ ty.toString) = some cA := by
  obtain ⟨cA, kA, comp, h1, h2, h3⟩ := Cond.arrayClass_spec h
  exact ⟨cA, fun n z => ⟨(fun k h => by cases h), kA, h2, comp, h3⟩, h1⟩
theorem ob_at {A : Array Value} {s : State} {C : String} (h : (Cond.arrayOver (.object C)).before A s = true) : ∃ cA : ClassId, ArrOfT s cA (.object C) ∧ va_RA s cA (.object C) := by
  obtain ⟨comp, cA, kA, h1, h2, h3, h4, h5⟩ := Cond.arrayOver_spec h
  exact ⟨cA, fun n z => ⟨(fun k h => by cases h), kA, h3, comp, h4⟩, kA, comp, h3, h4, h1, h5⟩
theorem k_at {A : Array Value} {s : State} (hts : ∀ w ∈ lw_tbl, w.before A s = true) : ∃ D : DN, va_K D.1 vwCl (tysD D) s := by
  obtain ⟨G, hG⟩ := kn_at hts
  obtain ⟨c0, a0, b0⟩ := pr_at (hts (Cond.arrayClass .int) (by decide +kernel))
  obtain ⟨c1, a1, b1⟩ := pr_at (hts (Cond.arrayClass .long) (by decide +kernel))
  obtain ⟨c2, a2, b2⟩ := pr_at (hts (Cond.arrayClass .boolean) (by decide +kernel))
  obtain ⟨c3, a3, b3⟩ := ob_at (hts (Cond.arrayOver (.object RX3)) (by decide +kernel))
  obtain ⟨c4, a4, b4⟩ := ob_at (hts (Cond.arrayOver (.object RX5)) (by decide +kernel))
  obtain ⟨c5, a5, b5⟩ := ob_at (hts (Cond.arrayOver (.object RX1)) (by decide +kernel))
  obtain ⟨c6, a6, b6⟩ := ob_at (hts (Cond.arrayOver (.object RX7)) (by decide +kernel))
  refine ⟨(G, fun i => match i with | 0 => c0 | 1 => c1 | 2 => c2 | 3 => c3 | 4 => c4 | 5 => c5 | _ => c6), hG, fun k q hk => ?_⟩
  have hl := (List.getElem?_eq_some_iff.mp hk).1
  have hl7 : k < 7 := hl
  rcases (show k = 0 ∨ k = 1 ∨ k = 2 ∨ k = 3 ∨ k = 4 ∨ k = 5 ∨ k = 6 by omega) with rfl | rfl | rfl | rfl | rfl | rfl | rfl
  · cases hk; exact ⟨a0, b0⟩
  · cases hk; exact ⟨a1, b1⟩
  · cases hk; exact ⟨a2, b2⟩
  · cases hk; exact ⟨a3, b3⟩
  · cases hk; exact ⟨a4, b4⟩
  · cases hk; exact ⟨a5, b5⟩
  · cases hk; exact ⟨a6, b6⟩
