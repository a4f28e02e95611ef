/-! rows of factors, rows of those -/
theorem b122_m {T : Nat → Int32} {n sB a d f fuel k : Nat} {M : Mem} {pend W out : List Int32} {c : Int32} (hc : c = 38 ∨ c = 124) (ht : txt T n) (hp : pend = [] ∨ pend = [38] ∨ (c ≠ 38 ∧ pnd pend)) (h : MX T n sB M a (pend ++ W) d out) (h38 : W.headD 0 ≠ 38) (h124 : W.headD 0 = 124 → c = 38) (hl : W.length < 98) (hs : sB + out.length + pend.length ≤ 600) (hf : 100 * f ≤ sB) (ha : a < n) : ∃ M', f_M_takesE_b122 (f_M_takesE_l22 fuel) (Int32.ofNat k) c M = f_M_takesE_l22 fuel (Int32.ofNat k) 1 M' ∧ MX T n sB M' (a + 1) (c :: W) d (out ++ pend.map (fun x => -x)) ∧ Fz (mtP (sB, k)) M M' := by
  obtain ⟨M3, s1, s2, s3⟩ := settle_p (f := f) (kk := k) (s := c) hp h h38 h124 hl hs hf
  have h1 := s2.push c
  have h2 := h1.at (a' := a + 1) (by omega)
  refine ⟨_, ?_, h2, s3.trans (((Fz.rf.set (Or.inr (Or.inr (Or.inl rfl))) _).set (Or.inl ⟨rfl, Or.inr (Or.inr (Or.inr (Or.inl rfl)))⟩) _).set (Or.inl ⟨rfl, Or.inl rfl⟩) _)⟩
  have hr : inR (Int32.ofNat W.length) 101 := oN_in (by omega) (by omega)
  have hx : (Int32.ofNat W.length).toNatClampNeg = W.length := oN_ix (by omega)
  have e26 : mI (setI M3 14683307 W.length c) 12451850 26 = Int32.ofNat W.length := (mS (by decide)).trans s2.wl
  have e15 : mI (setI (setI M3 14683307 W.length c) 12451850 26 (Int32.ofNat (W.length + 1))) 12451850 15 = Int32.ofNat a := h1.2.2.1
  simp only [f_M_takesE_b122, s1, bdg, s2.wl, gd_pos hr, hx, lte, e26, oN_s, e15]
theorem all_loop {T : Nat → Int32} {n f sB k fc d : Nat} (ht : txt T n) (hf : 100 * f ≤ sB) (hf5 : f ≤ 5) (iF : FacT T n f sB k fc d) {C0 M0 : Mem} {a fuel : Nat} {code W out : List Int32} (hca : code.length ≤ a) (hI : sB + out.length + W.length ≤ 100 * f + a) (hW : W.headD 0 ≠ 33 ∧ W.headD 0 ≠ 38) : ∀ (m q a1 fuel1 f1 : Nat) (C M : Mem) (cs pend out1 : List Int32), n - a1 ≤ m → n - a1 < f1 → 4 * q ≤ a1 → a + 3 ≤ a1 → CX T n C a1 (code ++ cs) → Fz ctP C0 C → cs.length + a ≤ a1 → dpt cs (a1 - a) → MX T n sB M a1 (pend ++ W) d out1 → out1 ++ pend.map (fun x => -x) = out ++ cs.map trS → (pend = [] ∨ pend = [38]) → n - a1 < fuel1 → Fz (mtP (sB, k)) M0 M → f_M_takesE_l22 fuel (Int32.ofNat k) 1 M0 = f_M_takesE_l22 fuel1 (Int32.ofNat k) 0 M →
  (∃ a' cs' C' M1 fuel' pend' out', f_Tx_takesAllOf_l12 (f_rec_takes fc) f1 (Int32.ofNat d) (Int32.ofNat q) C = some (1, C') ∧ CX T n C' a' (code ++ cs') ∧ a + 3 ≤ a' ∧ cs'.length + a ≤ a' ∧ dpt cs' (a' - a) ∧ Fz ctP C0 C' ∧ MX T n sB M1 a' (pend' ++ W) d out' ∧ out' ++ pend'.map (fun x => -x) = out ++ cs'.map trS ∧ okAll pend' (nx T n a') ∧ n - a' < fuel' ∧ Fz (mtP (sB, k)) M0 M1 ∧ f_M_takesE_l22 fuel (Int32.ofNat k) 1 M0 = f_M_takesE_l22 fuel' (Int32.ofNat k) 0 M1) ∨
  (∃ a' code' C' M1, f_Tx_takesAllOf_l12 (f_rec_takes fc) f1 (Int32.ofNat d) (Int32.ofNat q) C = some (0, C') ∧ CX T n C' a' code' ∧ code'.length + a ≤ code.length + a' ∧ a ≤ a' ∧ Fz ctP C0 C' ∧ Fz (mtP (sB, k)) M0 M1 ∧ mI M1 12451850 15 = Int32.ofNat a' ∧ f_M_takesE_l22 fuel (Int32.ofNat k) 1 M0 = some (0, M1))
  | m, q, a1, fuel1, 0, C, M, cs, pend, out1, _, h, _, _, _, _, _, _, _, _, _, _, _, _ => by omega
  | m, q, a1, 0, f1 + 1, C, M, cs, pend, out1, _, _, _, _, _, _, _, _, _, _, _, h, _, _ => by omega
  | m, q, a1, fuel1 + 1, f1 + 1, C, M, cs, pend, out1, hm, hf1, hq, ha1, hC, hFC, hcl, hdp, hM, hle, hp, hfu, hFM, hmod => by
    have hn := ht.1
    have han := hC.2.2.2.1
    have c100 : ¬ (100 : Int32) ≤ Int32.ofNat q := fun z => by have := (oN_le (m := 100) (by omega) (by omega)).mp z; omega
    obtain ⟨C1, x1, x2, x3⟩ := takes_c hC ht (c := 38) (by decide)
    by_cases q38 : nx T n a1 = 38
    · have ha := nx_lt q38 (by decide)
      rw [if_pos q38] at x1 x2
      have le := len_eq hle
      obtain ⟨M1, p1, p2, p3⟩ := b122_m (f := f) (fuel := fuel1) (k := k) (c := 38) (Or.inl rfl) ht (hp.elim Or.inl fun z => Or.inr (Or.inl z)) hM hW.2 (fun _ => rfl) (by omega) (by omega) hf ha
      rw [hle] at p2
      have hm2 : f_M_takesE_l22 fuel (Int32.ofNat k) 1 M0 = f_M_takesE_l22 fuel1 (Int32.ofNat k) 1 M1 := by
        rw [hmod, l22_have hM ht, if_pos q38, q38]; exact p1
      rcases iF C1 M1 (a1 + 1) (code ++ cs) (38 :: W) (out ++ cs.map trS) fuel1 x2 p2 (by simp; omega) (by simp [lead]) (by omega) with ⟨a2, ds, C2, M2, fuel2, r1, r2, r3, r4, r5, r6, r7, r8, r9, r10⟩ | ⟨a2, code', C2, M2, r1, r2, r3, r4, r5, r6, r7, r8⟩
      · have ha2 := r2.2.2.2.1
        have cl := r2.2.2.2.2.2.2
        obtain ⟨C3, y1, y2, y3⟩ := add_c r2 ht (by simp only [List.length_append]; omega) (-2)
        have wn := whole_no (fuel := 199) r7 (by rw [List.length_cons]; omega) (by simp)
        have hm3 : f_M_takesE_l22 fuel (Int32.ofNat k) 1 M0 = f_M_takesE_l22 fuel2 (Int32.ofNat k) 0 M2 := by
          rw [hm2, r10]
          have : f_M_whole M2 = some M2 := wn
          rw [this, bdg]
        have rec' := all_loop ht hf hf5 iF hca hI hW (m - 1) (q + 1) a2 fuel2 f1 C3 M2 (cs ++ ds ++ [-2]) [38] (out ++ cs.map trS ++ ds.map trS) (by omega) (by omega) (by omega) (by omega) (by rw [← List.append_assoc, ← List.append_assoc]; exact y2) ((hFC.trans x3).trans (r6.trans y3)) (by simp; omega) (dpt_mono (dpt_op (Or.inl rfl) hdp r5 (by omega)) (by omega)) r7 (by simp only [List.map_append, List.append_assoc]; rfl) (Or.inr rfl) r8 (hFM.trans (p3.trans r9)) hm3
        have uC : f_Tx_takesAllOf_l12 (f_rec_takes fc) (f1 + 1) (Int32.ofNat d) (Int32.ofNat q) C = f_Tx_takesAllOf_l12 (f_rec_takes fc) f1 (Int32.ofNat d) (Int32.ofNat (q + 1)) C3 := by
          simp only [f_Tx_takesAllOf_l12, if_neg c100, x1, bdg, ap2g, if_neg i10, r1, y1, lte, oN_s]
        rw [uC]; exact rec'
      · refine Or.inr ⟨a2, code', C2, M2, ?_, r2, by rw [List.length_append] at r3; omega, by omega, (hFC.trans x3).trans r5, (hFM.trans p3).trans r6, r7, hm2.trans r8⟩
        simp only [f_Tx_takesAllOf_l12, if_neg c100, x1, bdg, ap2g, if_neg i10, r1, if_true]
    · rw [if_neg q38] at x1 x2
      refine Or.inl ⟨a1, cs, C1, M, fuel1 + 1, pend, out1, ?_, x2, ha1, hcl, hdp, hFC.trans x3, hM, hle, ⟨hp, q38⟩, hfu, hFM, hmod⟩
      simp only [f_Tx_takesAllOf_l12, if_neg c100, x1, bdg, ap2g, if_true]
theorem all_step {T : Nat → Int32} {n f sB k fc d : Nat} (ht : txt T n) (hf : 100 * f ≤ sB) (hf5 : f ≤ 5) (iF : FacT T n f sB k fc d) : AllT T n f sB k (fc + 1) d := by
  intro C M a code W out fuel hC hM hI hW hfu
  have hn := ht.1
  have hca := hC.2.2.2.2.2.2
  rcases iF C M a code W out fuel hC hM hI (by rw [lead0 hW.1]; omega) hfu with ⟨a2, ds, C2, M2, fuel2, r1, r2, r3, r4, r5, r6, r7, r8, r9, r10⟩ | ⟨a2, code', C2, M2, r1, r2, r3, r4, r5, r6, r7, r8⟩
  · have ha2 := r2.2.2.2.1
    have wn := whole_no (fuel := 199) r7 (by omega) hW.1
    have hm3 : f_M_takesE_l22 fuel (Int32.ofNat k) 1 M = f_M_takesE_l22 fuel2 (Int32.ofNat k) 0 M2 := by
      rw [r10]
      have : f_M_whole M2 = some M2 := wn
      rw [this, bdg]
    have uC : f_rec_takes (fc + 1) 1 (Int32.ofNat d) C = f_Tx_takesAllOf_l12 (f_rec_takes fc) 200 (Int32.ofNat d) (Int32.ofNat 0) C2 := by
      rw [rt1]
      simp only [f_Tx_takesAllOf, r1, bdg, ap2g, if_neg i10]
      rfl
    rcases all_loop ht hf hf5 iF (code := code) (out := out) hca hI hW (n - a2) 0 a2 fuel2 200 C2 M2 ds [] (out ++ ds.map trS) (by omega) (by omega) (by omega) r3 r2 r6 r4 r5 r7 (by simp) (Or.inl rfl) r8 r9 hm3 with ⟨a', cs', C', M1, fuel', pend', out', g1, g2, g3, g4, g5, g6, g7, g8, g9, g10, g11, g12⟩ | ⟨a', code', C', M1, g1, g2, g3, g4, g5, g6, g7, g8⟩
    · exact Or.inl ⟨a', cs', C', M1, fuel', pend', out', uC.trans g1, g2, g3, g4, g5, g6, g7, g8, g9, g10, g11, g12⟩
    · exact Or.inr ⟨a', code', C', M1, uC.trans g1, g2, g3, g4, g5, g6, g7, g8⟩
  · refine Or.inr ⟨a2, code', C2, M2, ?_, r2, r3, r4, r5, r6, r7, r8⟩
    rw [rt1]
    simp only [f_Tx_takesAllOf, r1, bdg, ap2g, if_true]
