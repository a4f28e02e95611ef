/-! rows of those, joined by or -/
theorem any_loop {T : Nat → Int32} {n f sB k fc d : Nat} (ht : txt T n) (hf : 100 * f ≤ sB) (hf5 : f ≤ 5) (iA : AllT T n f sB k fc d) {C0 M0 : Mem} {a fuel : Nat} {code W out : List Int32} (hca : code.length ≤ a) (hI : sB + out.length + W.length ≤ 100 * f + a) (hW : W.headD 0 ≠ 33 ∧ W.headD 0 ≠ 38 ∧ W.headD 0 ≠ 124) : ∀ (m q a1 fuel1 f1 : Nat) (C M : Mem) (cs pend out1 : List Int32), n - a1 ≤ m → n - a1 < f1 → 4 * q ≤ a1 → a + 3 ≤ a1 → CX T n C a1 (code ++ cs) → Fz ctP C0 C → cs.length + a ≤ a1 → dpt cs (a1 - a) → MX T n sB M a1 (pend ++ W) d out1 → out1 ++ pend.map (fun x => -x) = out ++ cs.map trS → pnd pend → nx T n a1 ≠ 38 → n - a1 < fuel1 → Fz (mtP (sB, k)) M0 M → f_M_takesE_l22 fuel (Int32.ofNat k) 1 M0 = f_M_takesE_l22 fuel1 (Int32.ofNat k) 0 M →
  (∃ a' cs' C' M1 fuel' pend' out', f_Tx_takesAnyOf_l12 (f_rec_takes fc) f1 (Int32.ofNat d) (Int32.ofNat q) C = some (1, C') ∧ CX T n C' a' (code ++ cs') ∧ a + 3 ≤ a' ∧ cs'.length + a ≤ a' ∧ dpt cs' (a' - a) ∧ Fz ctP C0 C' ∧ MX T n sB M1 a' (pend' ++ W) d out' ∧ out' ++ pend'.map (fun x => -x) = out ++ cs'.map trS ∧ okAny pend' (nx T n a') ∧ n - a' < fuel' ∧ Fz (mtP (sB, k)) M0 M1 ∧ f_M_takesE_l22 fuel (Int32.ofNat k) 1 M0 = f_M_takesE_l22 fuel' (Int32.ofNat k) 0 M1) ∨
  (∃ a' code' C' M1, f_Tx_takesAnyOf_l12 (f_rec_takes fc) f1 (Int32.ofNat d) (Int32.ofNat q) C = some (0, C') ∧ CX T n C' a' code' ∧ code'.length + a ≤ code.length + a' ∧ a ≤ a' ∧ Fz ctP C0 C' ∧ Fz (mtP (sB, k)) M0 M1 ∧ mI M1 12451850 15 = Int32.ofNat a' ∧ f_M_takesE_l22 fuel (Int32.ofNat k) 1 M0 = some (0, M1))
  | m, q, a1, fuel1, 0, C, M, cs, pend, out1, _, h, _, _, _, _, _, _, _, _, _, _, _, _, _ => by omega
  | m, q, a1, 0, f1 + 1, C, M, cs, pend, out1, _, _, _, _, _, _, _, _, _, _, _, _, h, _, _ => by omega
  | m, q, a1, fuel1 + 1, f1 + 1, C, M, cs, pend, out1, hm, hf1, hq, ha1, hC, hFC, hcl, hdp, hM, hle, hp, hn38, hfu, hFM, hmod => by
    have hn := ht.1
    have han := hC.2.2.2.1
    have c100 : ¬ (100 : Int32) ≤ Int32.ofNat q := fun z => by have := (oN_le (m := 100) (by omega) (by omega)).mp z; omega
    obtain ⟨C1, x1, x2, x3⟩ := takes_c hC ht (c := 124) (by decide)
    by_cases q124 : nx T n a1 = 124
    · have ha := nx_lt q124 (by decide)
      rw [if_pos q124] at x1 x2
      have le := len_eq hle
      obtain ⟨M1, p1, p2, p3⟩ := b122_m (f := f) (fuel := fuel1) (k := k) (c := 124) (Or.inr rfl) ht (Or.inr (Or.inr ⟨by decide, hp⟩)) hM hW.2.1 (fun z => absurd z hW.2.2) (by omega) (by omega) hf ha
      rw [hle] at p2
      have hm2 : f_M_takesE_l22 fuel (Int32.ofNat k) 1 M0 = f_M_takesE_l22 fuel1 (Int32.ofNat k) 1 M1 := by
        rw [hmod, l22_have hM ht, if_neg hn38, if_pos q124, q124]; exact p1
      rcases iA C1 M1 (a1 + 1) (code ++ cs) (124 :: W) (out ++ cs.map trS) fuel1 x2 p2 (by simp; omega) ⟨by simp, by simp⟩ (by omega) with ⟨a2, ds, C2, M2, fuel2, pend2, out2, r1, r2, r3, r4, r5, r6, r7, r8, ⟨r9, r10⟩, r11, r12, r13⟩ | ⟨a2, code', C2, M2, r1, r2, r3, r4, r5, r6, r7, r8⟩
      · have ha2 := r2.2.2.2.1
        have cl := r2.2.2.2.2.2.2
        obtain ⟨C3, y1, y2, y3⟩ := add_c r2 ht (by simp only [List.length_append]; omega) (-3)
        have hm3 : f_M_takesE_l22 fuel (Int32.ofNat k) 1 M0 = f_M_takesE_l22 fuel2 (Int32.ofNat k) 0 M2 := by rw [hm2, r13]
        have r7' : MX T n sB M2 a2 ((pend2 ++ [124]) ++ W) d out2 := by rw [List.append_assoc]; exact r7
        have pn : pnd (pend2 ++ [124]) := by
          rcases r9 with z | z
          · rw [z]; exact Or.inr (Or.inr (Or.inl rfl))
          · rw [z]; exact Or.inr (Or.inr (Or.inr rfl))
        have hle2 : out2 ++ (pend2 ++ [124]).map (fun x => -x) = out ++ (cs ++ ds ++ [-3]).map trS := by
          rw [List.map_append, ← List.append_assoc, r8]
          simp only [List.map_append, List.append_assoc]
          rfl
        have rec' := any_loop ht hf hf5 iA hca hI hW (m - 1) (q + 1) a2 fuel2 f1 C3 M2 (cs ++ ds ++ [-3]) (pend2 ++ [124]) out2 (by omega) (by omega) (by omega) (by omega) (by rw [← List.append_assoc, ← List.append_assoc]; exact y2) ((hFC.trans x3).trans (r6.trans y3)) (by simp; omega) (dpt_mono (dpt_op (Or.inr rfl) hdp r5 (by omega)) (by omega)) r7' hle2 pn r10 r11 (hFM.trans (p3.trans r12)) hm3
        have uC : f_Tx_takesAnyOf_l12 (f_rec_takes fc) (f1 + 1) (Int32.ofNat d) (Int32.ofNat q) C = f_Tx_takesAnyOf_l12 (f_rec_takes fc) f1 (Int32.ofNat d) (Int32.ofNat (q + 1)) C3 := by
          simp only [f_Tx_takesAnyOf_l12, if_neg c100, x1, bdg, ap2g, if_neg i10, r1, y1, lte, oN_s]
        rw [uC]; exact rec'
      · refine Or.inr ⟨a2, code', C2, M2, ?_, r2, by rw [List.length_append] at r3; omega, by omega, (hFC.trans x3).trans r5, (hFM.trans p3).trans r6, r7, hm2.trans r8⟩
        simp only [f_Tx_takesAnyOf_l12, if_neg c100, x1, bdg, ap2g, if_neg i10, r1, if_true]
    · rw [if_neg q124] at x1 x2
      refine Or.inl ⟨a1, cs, C1, M, fuel1 + 1, pend, out1, ?_, x2, ha1, hcl, hdp, hFC.trans x3, hM, hle, ⟨hp, hn38, q124⟩, hfu, hFM, hmod⟩
      simp only [f_Tx_takesAnyOf_l12, if_neg c100, x1, bdg, ap2g, if_true]
theorem any_step {T : Nat → Int32} {n f sB k fc d : Nat} (ht : txt T n) (hf : 100 * f ≤ sB) (hf5 : f ≤ 5) (iA : AllT T n f sB k fc d) : AnyT T n f sB k (fc + 1) d := by
  intro C M a code W out fuel hC hM hI hW hfu
  have hn := ht.1
  have hca := hC.2.2.2.2.2.2
  rcases iA C M a code W out fuel hC hM hI ⟨hW.1, hW.2.1⟩ hfu with ⟨a2, ds, C2, M2, fuel2, pend2, out2, r1, r2, r3, r4, r5, r6, r7, r8, ⟨r9, r10⟩, r11, r12, r13⟩ | ⟨a2, code', C2, M2, r1, r2, r3, r4, r5, r6, r7, r8⟩
  · have ha2 := r2.2.2.2.1
    have pn : pnd pend2 := by
      rcases r9 with z | z
      · exact Or.inl z
      · exact Or.inr (Or.inl z)
    have uC : f_rec_takes (fc + 1) 0 (Int32.ofNat d) C = f_Tx_takesAnyOf_l12 (f_rec_takes fc) 200 (Int32.ofNat d) (Int32.ofNat 0) C2 := by
      rw [rt0]
      simp only [f_Tx_takesAnyOf, r1, bdg, ap2g, if_neg i10]
      rfl
    rcases any_loop ht hf hf5 iA (code := code) (out := out) hca hI hW (n - a2) 0 a2 fuel2 200 C2 M2 ds pend2 out2 (by omega) (by omega) (by omega) r3 r2 r6 r4 r5 r7 r8 pn r10 r11 r12 r13 with ⟨a', cs', C', M1, fuel', pend', out', g1, g2, g3, g4, g5, g6, g7, g8, g9, g10, g11, g12⟩ | ⟨a', code', C', M1, g1, g2, g3, g4, g5, g6, g7, g8⟩
    · exact Or.inl ⟨a', cs', C', M1, fuel', pend', out', uC.trans g1, g2, g3, g4, g5, g6, g7, g8, g9, g10, g11, g12⟩
    · exact Or.inr ⟨a', code', C', M1, uC.trans g1, g2, g3, g4, g5, g6, g7, g8⟩
  · refine Or.inr ⟨a2, code', C2, M2, ?_, r2, r3, r4, r5, r6, r7, r8⟩
    rw [rt0]
    simp only [f_Tx_takesAnyOf, r1, bdg, ap2g, if_true]
theorem fac_all {T : Nat → Int32} {n f sB k : Nat} (ht : txt T n) (hf : 100 * f ≤ sB) (hf5 : f ≤ 5) (hk : k < 60) (hfk : 10 * f ≤ k) : ∀ (e d fc : Nat), d + e = 4 → FacT T n f sB k (fc + 1 + 3 * e) d
  | 0, d, fc, h => by
    have : d = 4 := by omega
    subst this
    exact fac_last ht hf hf5
  | e + 1, d, fc, h => by
    have i1 := fac_all ht hf hf5 hk hfk e (d + 1) fc (by omega)
    have i2 := any_step ht hf hf5 (all_step ht hf hf5 i1)
    have i3 := fac_all ht hf hf5 hk hfk e (d + 1) (fc + 3) (by omega)
    have e1 : fc + 3 + 1 + 3 * e = fc + 1 + 3 * e + 1 + 1 + 1 := by omega
    rw [e1] at i3
    have i4 := fac_step ht hf hf5 hk hfk (by omega) i3 i2
    have e2 : fc + 1 + 3 * (e + 1) = fc + 1 + 3 * e + 1 + 1 + 1 := by omega
    rw [e2]; exact i4
theorem any_top {T : Nat → Int32} {n f sB k : Nat} (ht : txt T n) (hf : 100 * f ≤ sB) (hf5 : f ≤ 5) (hk : k < 60) (hfk : 10 * f ≤ k) : AnyT T n f sB k 24 0 :=
  any_step ht hf hf5 (all_step ht hf hf5 (fac_all ht hf hf5 hk hfk 4 0 9 rfl))
/-- an expression, from its first sign on -/
def mtQ (sk : Nat × Nat) (a k : Nat) : Prop := mtP sk a k ∨ (a = 14288779 ∧ k = sk.2)
theorem MX.zero {T : Nat → Int32} {n sB a d : Nat} {M : Mem} {W out : List Int32} (h : MX T n sB M a W d out) : MX T n sB (setI (setI M 12451850 26 0) 12451850 27 0) a [] 0 out := by
  obtain ⟨x1, x2, x3, x4, x5, x6, x7, x8, x9⟩ := h
  refine ⟨?_, fun i hi' => ?_, ?_, x4, ?_, fun i hi' => ?_, ?_, fun i hi' => ?_, ?_⟩
  · rw [mSk (by decide), mSk (by decide)]; exact x1
  · rw [mS (by decide), mS (by decide)]; exact x2 i hi'
  · rw [mSk (by decide), mSk (by decide)]; exact x3
  · rw [mSk (by decide), mSk (by decide)]; exact x5
  · rw [mS (by decide), mS (by decide)]; exact x6 i hi'
  · rw [mSk (by decide), mSe]; rfl
  · simp at hi'
  · rw [mSe]; rfl
theorem expr_j {T : Nat → Int32} {n f sB k a d : Nat} {C M : Mem} {W0 : List Int32} (ht : txt T n) (hf : 100 * f ≤ sB) (hf5 : f ≤ 5) (hk : k < 60) (hfk : 10 * f ≤ k) (hC : CX T n C a []) (hM : MX T n sB M a W0 d []) (hI : sB ≤ 100 * f + a) :
  (∃ a' cs C' M1, f_rec_takes 24 0 0 C = some (1, C') ∧ CX T n C' a' cs ∧ cs.length + a ≤ a' ∧ depS cs 0 = some 1 ∧ Fz ctP C C' ∧ MX T n sB M1 a' [] 0 (cs.map trS) ∧ Fz (mtQ (sB, k)) M M1 ∧ f_M_takesE (Int32.ofNat k) M = some (1, M1) ∧ mI M1 14288779 k = Int32.ofNat sB ∧ mI M1 14419851 k = Int32.ofNat (sB + cs.length) ∧ a < a') ∨
  (∃ a' code' C' M1, f_rec_takes 24 0 0 C = some (0, C') ∧ CX T n C' a' code' ∧ a ≤ a' ∧ Fz ctP C C' ∧ Fz (mtQ (sB, k)) M M1 ∧ mI M1 12451850 15 = Int32.ofNat a' ∧ f_M_takesE (Int32.ofNat k) M = some (0, M1)) := by
  have hn := ht.1
  have han := hC.2.2.2.1
  have hrk : inR (Int32.ofNat k) 60 := oN_in (by omega) hk
  have hxk : (Int32.ofNat k).toNatClampNeg = k := oN_ix (by omega)
  have z1 := hM.zero
  have e25 : mI (setI (setI M 12451850 26 0) 12451850 27 0) 12451850 25 = Int32.ofNat sB := z1.2.2.2.2.1
  have z2 := z1.to (x := 14288779) (Or.inr (Or.inl rfl)) k (Int32.ofNat sB)
  have fz2 : Fz (mtQ (sB, k)) M (setI (setI (setI M 12451850 26 0) 12451850 27 0) 14288779 k (Int32.ofNat sB)) := ((Fz.rf.set (Or.inl (Or.inl ⟨rfl, Or.inr (Or.inr (Or.inr (Or.inl rfl)))⟩)) _).set (Or.inl (Or.inl ⟨rfl, Or.inr (Or.inr (Or.inr (Or.inr rfl)))⟩)) _).set (Or.inr ⟨rfl, rfl⟩) _
  have eE : f_M_takesE (Int32.ofNat k) M = f_M_takesE_l22 200 (Int32.ofNat k) 1 (setI (setI (setI M 12451850 26 0) 12451850 27 0) 14288779 k (Int32.ofNat sB)) := by
    simp only [f_M_takesE, lte, gd_pos hrk, hxk, e25]
  have ef : mI (setI (setI (setI M 12451850 26 0) 12451850 27 0) 14288779 k (Int32.ofNat sB)) 14288779 k = Int32.ofNat sB := mSe
  generalize setI (setI (setI M 12451850 26 0) 12451850 27 0) 14288779 k (Int32.ofNat sB) = M2 at *
  rcases any_top (k := k) ht hf hf5 hk hfk C M2 a [] [] [] 200 hC z2 (by simp; omega) ⟨by simp, by simp, by simp⟩ (by omega) with ⟨a', cs, C', M3, fuel', pend, out', r1, r2, r3, r4, r5, r6, r7, r8, ⟨r9, r10, r11⟩, r12, r13, r14⟩ | ⟨a', code', C', M3, r1, r2, r3, r4, r5, r6, r7, r8⟩
  · have ha' := r2.2.2.2.1
    have le := len_eq r8
    obtain ⟨M4, s1, s2, s3⟩ := settle_p (f := f) (kk := k) (s := 124) (Or.inr (Or.inr ⟨by decide, r9⟩)) r7 (by simp) (by simp) (by simp) (by simp at le; omega) hf
    rw [r8] at s2
    have s2' : MX T n sB M4 a' [] 0 (cs.map trS) := by simpa using s2
    have s4 := s2'.to (x := 14419851) (Or.inl rfl) k (mI M4 12451850 25)
    have f4 : Fz (mtP (sB, k)) M4 (setI M4 14419851 k (mI M4 12451850 25)) := Fz.rf.set (Or.inr (Or.inr (Or.inr ⟨rfl, rfl⟩))) _
    have e25' : mI M4 12451850 25 = Int32.ofNat (sB + cs.length) := by
      have := s2'.2.2.2.2.1
      rw [List.length_map] at this; exact this
    have fall := (r13.trans s3).trans f4
    match fuel', r12 with
    | fuel' + 1, r12 =>
      have w0 : mI (setI M4 14419851 k (mI M4 12451850 25)) 12451850 26 = 0 := s4.wl
      refine Or.inl ⟨a', cs, C', setI M4 14419851 k (mI M4 12451850 25), r1, by simpa using r2, r4, ?_, r6, s4, fz2.trans (fall.mono fun a k q => Or.inl q), ?_, ?_, mSe.trans e25', by omega⟩
      · have := r5 [] 0 (by omega)
        rw [List.append_nil] at this
        rw [this]; rfl
      · rw [eE, r14, l22_have r7 ht, if_neg r10, if_neg r11, s1, bdg, gd_pos hrk, hxk, lte, if_pos w0]
      · rw [(fall.1 14288779 k (by unfold mtP; simp)).1]; exact ef
  · exact Or.inr ⟨a', code', C', M3, r1, r2, r4, r5, fz2.trans (r6.mono fun a k q => Or.inl q), r7, eE.trans r8⟩
