theorem vr_at {b : Nat} {s : State} {adK : Nat → Nat} (hts : ∀ w ∈ lw_tbl, w.before #[Value.ref b] s = true) (h : ∀ i : Nat, i < 6 → (Term.string RX6 (sIx i)).eval #[Value.ref b] s none [] s = some (.ref (adK i))) : ∀ i, i < 6 → vk_R RX6 (sIx i) (sTx i) (adK i) s := fun i hi => by
  have h2 := h i hi
  rcases (show i = 0 ∨ i = 1 ∨ i = 2 ∨ i = 3 ∨ i = 4 ∨ i = 5 by omega) with rfl | rfl | rfl | rfl | rfl | rfl <;> exact vk_R.of (hts _ (by decide +kernel)) h2
theorem env_at {b : Nat} {s : State} (hts : ∀ w ∈ lw_tbl, w.before #[Value.ref b] s = true) (hg : (Jvm.Cond.and given_1 narrow_1).before #[Value.ref b] s = true) : ∃ (D : DN) (E : EN), E.1 = s.heap.size ∧ envOK D E s := by
  have hs := flat_of_before _ hg
  have hA : ∀ a : Nat, a < s.heap.size → ¬ (fun q : Nat => s.heap.size ≤ q) a := fun a h z => absurd h (Nat.not_lt.mpr z)
  obtain ⟨D, hK⟩ := k_at hts
  obtain ⟨t, hab1, hab2⟩ := ab_at (A := fun q : Nat => s.heap.size ≤ q) hts hg hA
  have hcs := z_at (A := fun q : Nat => s.heap.size ≤ q) hts hg hA
  obtain ⟨adK, adV, hst, hev⟩ := st_at (A := fun q : Nat => s.heap.size ≤ q) hg hA
  have hfm : va_Zq RPre "SIOOBE_FORMATTER" RBiF (fun q : Nat => s.heap.size ≤ q) s s.heap := va_Zqof (hts _ (by decide +kernel)) (hts _ (by decide +kernel)) (hs _ (by decide +kernel)) hA
  obtain ⟨o, ho⟩ : ∃ o : Option Nat, va_Z RPre "SIOOBE_FORMATTER" RBiF (va_rf o) (fun q : Nat => s.heap.size ≤ q) s s.heap := by
    rcases hfm with h | ⟨t, h⟩
    · exact ⟨none, h⟩
    · exact ⟨some t, h⟩
  obtain ⟨o1, o2, o3, o4⟩ := aO_at hts
  exact ⟨D, (s.heap.size, adK, adV, t, o), rfl, hK, hab1, hab2, hcs, ho, hst, vr_at hts hev, nW_at hts, o1, o2, o3, o4⟩
