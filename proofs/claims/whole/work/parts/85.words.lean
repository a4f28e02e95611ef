/-! what the start gives: easy parts -/
theorem gT_at {A : Array Value} {s : State} (hts : ∀ w ∈ lw_tbl, w.before A s = true) : ∀ w ∈ gT, w.before A s = true := fun w h => hts w (List.mem_filter.mp h).1
theorem nW_at {A : Array Value} {s : State} (hts : ∀ w ∈ lw_tbl, w.before A s = true) : ∀ w, w ∈ nW → va_Nw w s := fun w h => by
  obtain ⟨h1, h2⟩ := List.mem_filter.mp h
  have hb := hts w h1
  cases w <;> first | exact va_Nw.of rfl hb | cases h2
theorem aO_at {A : Array Value} {s : State} (hts : ∀ w ∈ lw_tbl, w.before A s = true) : va_AO RX3 s ∧ va_AO RX5 s ∧ va_AO RX1 s ∧ va_AO RX7 s :=
  ⟨va_AO.of (hts (Cond.arrayOver (.object RX3)) (by decide +kernel)), va_AO.of (hts (Cond.arrayOver (.object RX5)) (by decide +kernel)), va_AO.of (hts (Cond.arrayOver (.object RX1)) (by decide +kernel)), va_AO.of (hts (Cond.arrayOver (.object RX7)) (by decide +kernel))⟩
theorem kn_at {A : Array Value} {s : State} (hts : ∀ w ∈ lw_tbl, w.before A s = true) : ∃ G : va_G, ∀ (c : Nat) (q : vw_C), vwCl[c]? = some q → u_Kn s q.1 q.2.1 q.2.2 (G.1 c) (G.2 c) := by
  have key : ∀ c : Nat, ∃ r : ClassId × (Nat → Nat), ∀ q : vw_C, vwCl[c]? = some q → u_Kn s q.1 q.2.1 q.2.2 r.1 r.2 := fun c => by
    cases h : vwCl[c]? with
    | none => exact ⟨(0, fun _ => 0), fun q hq => by cases hq⟩
    | some q0 =>
      have hc : c < 10 := (List.getElem?_eq_some_iff.mp h).1
      have hq : q0 = clT (c + 1) := by
        have := clT_get (t := c + 1) (by omega) (by omega)
        rw [Nat.add_sub_cancel, h] at this
        exact Option.some.inj this
      have hin : (Cond.instantiable (clT (c + 1)).1 (nF (c + 1))) ∈ lw_tbl := by
        have k : (List.range 10).all (fun c => decide ((Cond.instantiable (clT (c + 1)).1 (nF (c + 1))) ∈ lw_tbl)) = true := by decide +kernel
        exact of_decide_eq_true (List.all_eq_true.mp k c (List.mem_range.mpr hc))
      obtain ⟨cC, iS, hk⟩ := u_known (gT_at hts) (clT_in (t := c + 1) (by omega) (by omega)) (hts _ hin)
      exact ⟨(cC, iS), fun q e => by cases e; rw [hq]; exact hk⟩
  exact ⟨(fun c => (Classical.choose (key c)).1, fun c => (Classical.choose (key c)).2), fun c q hq => Classical.choose_spec (key c) q hq⟩
