/-! ALL CLAUSES OF A TEXT -/
def gtP (f a k : Nat) : Prop := (a = 12451850 ∧ (k = 15 ∨ k = 16 ∨ k = 25 ∨ k = 26 ∨ k = 27)) ∨ (a = 14568203 ∧ 100 * f ≤ k) ∨ a = 14683307 ∨ ((a = 14026635 ∨ a = 14157707 ∨ a = 14288779 ∨ a = 14419851) ∧ 10 * f ≤ k) ∨ (a = 13893835 ∧ k = f)
theorem mtK_gt {f sB kk : Nat} (h : 100 * f ≤ sB) (hk : 10 * f ≤ kk) : ∀ a k, mtK sB kk a k → gtP f a k := fun a k q => by
  unfold mtK mtP at q; unfold gtP; dsimp only at q; omega
theorem ix10 (f i : Nat) : 10 * Int32.ofNat f + Int32.ofNat i = Int32.ofNat (10 * f + i) := by
  rw [Int32.ofNat_add, Int32.ofNat_mul]; rfl
theorem MCl.fr {M M' : Mem} {k sB : Nat} {q : Cls} {sB' k' : Nat} (h : MCl M k sB q) (hF : Fz (mtK sB' k') M M') (hk : k ≠ k') (hs : sB + q.2.2.length ≤ sB') : MCl M' k sB q := by
  obtain ⟨h1, h2, h3⟩ := h
  have nn : ∀ a t, ¬ mtK sB' k' a t → mI M' a t = mI M a t := fun a t z => (hF.1 a t z).1
  refine ⟨(nn _ _ (by unfold mtK mtP; dsimp only; omega)).trans h1, (nn _ _ (by unfold mtK mtP; dsimp only; omega)).trans h2, fun w => ?_⟩
  obtain ⟨x1, x2, x3⟩ := h3 w
  exact ⟨(nn _ _ (by unfold mtK mtP; dsimp only; omega)).trans x1, (nn _ _ (by unfold mtK mtP; dsimp only; omega)).trans x2, fun t ht => (nn _ _ (by unfold mtK mtP; dsimp only; omega)).trans (x3 t ht)⟩
theorem MCl.set {M : Mem} {k sB : Nat} {q : Cls} (h : MCl M k sB q) (f : Nat) (v : Int32) : MCl (setI M 13893835 f v) k sB q := by
  obtain ⟨h1, h2, h3⟩ := h
  refine ⟨(mS (by decide)).trans h1, (mS (by decide)).trans h2, fun w => ?_⟩
  obtain ⟨x1, x2, x3⟩ := h3 w
  exact ⟨(mS (by decide)).trans x1, (mS (by decide)).trans x2, fun t ht => (mS (by decide)).trans (x3 t ht)⟩
theorem MCl.fz {P : Nat → Nat → Prop} {M M' : Mem} {k sB : Nat} {q : Cls} (h : MCl M k sB q) (hF : Fz P M M') (hP : ∀ a t, a ≠ 12451850 → ¬ P a t) : MCl M' k sB q := by
  obtain ⟨h1, h2, h3⟩ := h
  have nn : ∀ a t, a ≠ 12451850 → mI M' a t = mI M a t := fun a t z => (hF.1 a t (hP a t z)).1
  refine ⟨(nn _ _ (by decide)).trans h1, (nn _ _ (by decide)).trans h2, fun w => ?_⟩
  obtain ⟨x1, x2, x3⟩ := h3 w
  exact ⟨(nn _ _ (by decide)).trans x1, (nn _ _ (by decide)).trans x2, fun t ht => (nn _ _ (by decide)).trans (x3 t ht)⟩
/-- a sign is taken: only the place moves -/
def atP (a k : Nat) : Prop := a = 12451850 ∧ k = 15
theorem takes_m' {T : Nat → Int32} {n sB a d : Nat} {M : Mem} {W out : List Int32} (h : MX T n sB M a W d out) (ht : txt T n) {c : Int32} (hc : 0 ≤ c) : ∃ M', f_M_takes c M = some (if nx T n a = c then 1 else 0, M') ∧ MX T n sB M' (if nx T n a = c then a + 1 else a) W d out ∧ Fz atP M M' := by
  have hx := h.2.2.1
  unfold f_M_takes
  rw [next_m h ht, bdg]
  by_cases q : nx T n a = c
  · have han := nx_lt q hc
    rw [if_pos q, if_pos q, if_pos q, lte, hx, oN_s]
    exact ⟨_, rfl, h.at (by omega), Fz.rf.set ⟨rfl, rfl⟩ _⟩
  · rw [if_neg q, if_neg q, if_neg q]
    exact ⟨M, rfl, h, Fz.rf⟩
/-- the clauses so far, on both sides -/
def Sofar (f sB : Nat) (C M : Mem) (qs : List Cls) : Prop := ∀ j, j < qs.length → CRz (mZ C) C (mR C 6947152 j) (qs.getD j (0, 0, [])) ∧ wfq (qs.getD j (0, 0, [])) ∧ ∃ s, 100 * f ≤ s ∧ s + (qs.getD j (0, 0, [])).2.2.length ≤ sB ∧ MCl M (10 * f + j) s (qs.getD j (0, 0, []))
theorem getD_app1 {qs : List Cls} {q : Cls} {j : Nat} (h : j < qs.length) : (qs ++ [q]).getD j (0, 0, []) = qs.getD j (0, 0, []) := by
  simp [List.getD, List.getElem?_append_left h]
theorem getD_app2 {qs : List Cls} {q : Cls} : (qs ++ [q]).getD qs.length (0, 0, []) = q := by
  simp [List.getD]
theorem goes_l {T : Nat → Int32} {n f z0 : Nat} (ht : txt T n) (hf5 : f ≤ 5) (hz0 : 95 ≤ z0) {C0 M0 : Mem} : ∀ (m i f1 f2 sB a d : Nat) (C M : Mem) (code W : List Int32) (qs : List Cls), i + m = 10 → 0 < m → m < f1 + 1 → m < f2 + 1 → 100 * f ≤ sB → sB ≤ 100 * f + a → CX T n C a code → MX T n sB M a W d [] → hLt M → z0 ≤ mZ C → Fz (ctN z0) C0 C → Fz (gtP f) M0 M → qs.length = i → Sofar f sB C M qs →
  (∃ C' M' qs' sB', f_Tx_parse_b36 (f_Tx_parse_l12 f1) (Int32.ofNat i) C = some (-1, C') ∧ f_M_goesText_l15 (f2 + 1) (Int32.ofNat f) (Int32.ofNat i) M = some (1, M') ∧ qs'.length ≤ 10 ∧ Sofar f sB' C' M' qs' ∧ sB' ≤ 100 * f + 100 ∧ mI C' 6684679 4 = Int32.ofNat qs'.length ∧ mI M' 13893835 f = Int32.ofNat qs'.length ∧ Fz (ctN z0) C0 C' ∧ Fz (gtP f) M0 M' ∧ z0 ≤ mZ C') ∨
  (∃ a' C' M', f_Tx_parse_b36 (f_Tx_parse_l12 f1) (Int32.ofNat i) C = some (Int32.ofNat a', C') ∧ a' ≤ n ∧ f_M_goesText_l15 (f2 + 1) (Int32.ofNat f) (Int32.ofNat i) M = some (0, M') ∧ mI M' 12451850 15 = Int32.ofNat a' ∧ Fz (ctN z0) C0 C' ∧ Fz (gtP f) M0 M')
  | 0, _, _, _, _, _, _, _, _, _, _, _, _, h, _, _, _, _, _, _, _, _, _, _, _, _ => by omega
  | m + 1, i, f1, f2, sB, a, d, C, M, code, W, qs, him, _, hf1, hf2, hsB, hI, hC, hM, hL, hz, hFC, hFM, hql, hS => by
    have hn := ht.1
    have hrf : inR (Int32.ofNat f) 6 := oN_in (by omega) (by omega)
    have hxf : (Int32.ofNat f).toNatClampNeg = f := oN_ix (by omega)
    rcases clause_j (i := i) (z0 := mZ C) (K := f_Tx_parse_l12 f1) (k := 10 * f + i) ht hsB hf5 (by omega) (by omega) hC hM hI hL (by omega) (Nat.le_refl _) (by omega) with ⟨a', q, C', M', code', x, W', d', c1, c2, c3, c4, c5, c6, c7, c8, c9, c10, c11, c12, c13, c14⟩ | ⟨a', C', M', c1, c2, c3, c4, c5, c6⟩
    · have ha' := c3.2.2.2.1
      have z' : z0 ≤ mZ C' := Nat.le_trans hz c4.2
      have hFM' : Fz (gtP f) M0 (setI M' 13893835 f (Int32.ofNat (i + 1))) := (hFM.trans (c12.mono (mtK_gt hsB (by omega)))).set (Or.inr (Or.inr (Or.inr (Or.inr ⟨rfl, rfl⟩)))) _
      have up : ∀ y t, ctN (mZ C) y t → ctN z0 y t := fun y t w => by
        rcases w with w | w | w | w
        · exact Or.inl w
        · exact Or.inr (Or.inl w)
        · exact Or.inr (Or.inr (Or.inl w))
        · exact Or.inr (Or.inr (Or.inr (by omega)))
      have hFC' : Fz (ctN z0) C0 C' := hFC.trans (c4.mono up)
      have M6x := c10.to (x := 13893835) (Or.inr (Or.inr (Or.inr (Or.inr rfl)))) f (Int32.ofNat (i + 1))
      have hS' : Sofar f (sB + q.2.2.length) C' (setI M' 13893835 f (Int32.ofNat (i + 1))) (qs ++ [q]) := fun j hj => by
        rw [List.length_append, List.length_singleton] at hj
        by_cases e : j < qs.length
        · rw [getD_app1 e]
          obtain ⟨s1, s2, s, s3, s4, s5⟩ := hS j e
          refine ⟨?_, s2, s, s3, by omega, (s5.fr c12 (by omega) s4).set _ _⟩
          rw [c7 j (by omega)]
          exact s1.fr c4 c4.2
        · have e' : j = qs.length := by omega
          rw [e', getD_app2, hql]
          refine ⟨?_, c14, sB, hsB, Nat.le_refl _, c13.set _ _⟩
          rw [c6]; exact c5
      have g15 : mI (setI M' 13893835 f (Int32.ofNat (i + 1))) 12451850 15 = Int32.ofNat a' := M6x.2.2.1
      have g14 : mI (setI M' 13893835 f (Int32.ofNat (i + 1))) 12451850 14 = Int32.ofNat n := M6x.1
      have gM : f_M_goesText_l15 (f2 + 1) (Int32.ofNat f) (Int32.ofNat i) M = if Int32.ofNat a' = Int32.ofNat n then some (1, setI M' 13893835 f (Int32.ofNat (i + 1))) else if Int32.ofNat (i + 1) = 10 then some (0, setI M' 13893835 f (Int32.ofNat (i + 1))) else b2 (f_M_takes 59 (setI M' 13893835 f (Int32.ofNat (i + 1)))) fun r8 M7 => if r8 = 0 then some (0, M7) else f_M_goesText_l15 f2 (Int32.ofNat f) (Int32.ofNat (i + 1)) M7 := by
        simp only [f_M_goesText_l15, ix10, c9, bdg, ap2g, if_neg i10, lte, oN_s, gd_pos hrf, hxf, g15, g14]
      have hLM : hLt (setI M' 13893835 f (Int32.ofNat (i + 1))) := fun t ht' => (mS (by decide)).trans ((hL.fz c12 (mtK_lt _ _)) t ht')
      have cn : mI (setI M' 13893835 f (Int32.ofNat (i + 1))) 13893835 f = Int32.ofNat (i + 1) := mSe
      generalize setI M' 13893835 f (Int32.ofNat (i + 1)) = M6 at *
      by_cases en : a' = n
      · refine Or.inl ⟨C', M6, qs ++ [q], sB + q.2.2.length, ?_, ?_, by rw [List.length_append, List.length_singleton]; omega, hS', by omega, ?_, ?_, hFC', hFM', z'⟩
        · rw [c1, if_neg (by omega)]
        · rw [gM, en, if_pos rfl]
        · rw [c8, List.length_append, List.length_singleton, hql]
        · rw [cn, List.length_append, List.length_singleton, hql]
      · have n1 : ¬ Int32.ofNat a' = Int32.ofNat n := fun e => en (by
          have a1 := oN_ix (i := a') (by omega)
          have a2 := oN_ix (i := n) (by omega)
          rw [e] at a1
          omega)
        rw [if_pos (by omega)] at c1
        rw [if_neg n1] at gM
        by_cases e10 : i + 1 = 10
        · have e10' : Int32.ofNat (i + 1) = 10 := by rw [e10]; rfl
          have le10 : (10 : Int32) ≤ Int32.ofNat (i + 1) := by rw [e10']; decide
          obtain ⟨f1', e1'⟩ : ∃ f1', f1 = f1' + 1 := ⟨f1 - 1, by omega⟩
          rw [e1'] at c1 ⊢
          refine Or.inr ⟨a', C', M6, ?_, ha', ?_, g15, hFC', hFM'⟩
          · rw [c1]
            simp only [f_Tx_parse_l12, if_pos le10, c3.2.2.1]
          · rw [gM, if_pos e10']
        · have e10' : ¬ Int32.ofNat (i + 1) = 10 := oN_ne (j := 10) (by omega) (by omega) e10
          have le10 : ¬ (10 : Int32) ≤ Int32.ofNat (i + 1) := fun z => by have := (oN_le (m := 10) (by omega) (by omega)).mp z; omega
          have le0 : ¬ Int32.ofNat (i + 1) ≤ 0 := fun z => by have := (oN_le (m := i + 1) (i := 0) (by omega) (by omega)).mp z; omega
          rw [if_neg e10'] at gM
          obtain ⟨C2, t1, t2, t3⟩ := takes_c c3 ht (c := 59) (by decide)
          obtain ⟨M7, s1, s2, s3⟩ := takes_m' M6x ht (c := 59) (by decide)
          have hFC2 : Fz (ctN z0) C0 C2 := hFC'.trans (t3.mono (ctP_N z0))
          have hFM7 : Fz (gtP f) M0 M7 := hFM'.trans (s3.mono fun y t z => Or.inl ⟨z.1, Or.inl z.2⟩)
          obtain ⟨f1', e1'⟩ : ∃ f1', f1 = f1' + 1 := ⟨f1 - 1, by omega⟩
          obtain ⟨f2', e2'⟩ : ∃ f2', f2 = f2' + 1 := ⟨f2 - 1, by omega⟩
          rw [e1'] at c1 ⊢
          rw [e2'] at gM ⊢
          by_cases q59 : nx T n a' = 59
          · have han := nx_lt q59 (by decide)
            rw [if_pos q59] at t1 t2 s1 s2
            have hS7 : Sofar f (sB + q.2.2.length) C2 M7 (qs ++ [q]) := fun j hj => by
              obtain ⟨u1, u2, s, u3, u4, u5⟩ := hS' j hj
              refine ⟨?_, u2, s, u3, u4, u5.fz s3 (fun y t z w => z w.1)⟩
              rw [(t3.1 6947152 j (by unfold ctP; omega)).2.1]
              exact u1.fr (t3.mono (ctP_N _)) t3.2
            have rr := goes_l ht hf5 hz0 (C0 := C0) (M0 := M0) m (i + 1) f1' f2' (sB + q.2.2.length) (a' + 1) d' C2 M7 code' W' (qs ++ [q]) (by omega) (by omega) (by omega) (by omega) (by omega) (by omega) t2 s2 (hLM.fz s3 (fun k => by unfold atP; omega)) (Nat.le_trans z' t3.2) hFC2 hFM7 (by rw [List.length_append, List.length_singleton, hql]) hS7
            have uC : f_Tx_parse_b36 (f_Tx_parse_l12 (f1' + 1)) (Int32.ofNat i) C = f_Tx_parse_b36 (f_Tx_parse_l12 f1') (Int32.ofNat (i + 1)) C2 := by
              rw [c1]
              simp only [f_Tx_parse_l12, if_neg le10, if_neg le0, t1, bdg, ap2g, if_neg i10]
            have uM : f_M_goesText_l15 (f2' + 1 + 1) (Int32.ofNat f) (Int32.ofNat i) M = f_M_goesText_l15 (f2' + 1) (Int32.ofNat f) (Int32.ofNat (i + 1)) M7 := by
              rw [gM, s1, b2g, if_neg i10]
            rw [uC, uM]; exact rr
          · rw [if_neg q59] at t1 t2 s1 s2
            refine Or.inr ⟨a', C2, M7, ?_, ha', ?_, s2.2.2.1, hFC2, hFM7⟩
            · rw [c1]
              simp only [f_Tx_parse_l12, if_neg le10, if_neg le0, t1, bdg, ap2g, if_true, t2.2.2.1]
            · rw [gM, s1, b2g, if_pos rfl]
    · refine Or.inr ⟨a', C', M', c1, c2, ?_, c5, hFC.trans (c3.mono fun y t w => by
        rcases w with w | w | w | w
        · exact Or.inl w
        · exact Or.inr (Or.inl w)
        · exact Or.inr (Or.inr (Or.inl w))
        · exact Or.inr (Or.inr (Or.inr (by omega)))), hFM.trans (c6.mono (mtK_gt hsB (by omega)))⟩
      simp only [f_M_goesText_l15, ix10, c4, bdg, ap2g, if_true]
