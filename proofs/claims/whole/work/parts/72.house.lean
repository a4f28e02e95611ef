/-! house -/
def h6P (a k : Nat) : Prop := a = 6684679 ∧ k = 6
theorem hat_fr (X : Mem) : Fz h6P (hat X) X ∧ mZ X = mZ (hat X) := by
  refine ⟨⟨fun a k q => ⟨?_, rfl, rfl⟩, Nat.le_refl _⟩, rfl⟩
  unfold hat
  exact (if_neg q).symm
theorem any_int (x : Int32) : ∃ L : Nat, x = Int32.ofNat L := ⟨x.toBitVec.toNat, by
  apply Int32.toBitVec_inj.mp
  show x.toBitVec = BitVec.ofNat 32 x.toBitVec.toNat
  simp⟩
theorem parse_0 (n : Nat) (C : Mem) : f_Tx_parse_l12 (n + 1) 0 C = f_Tx_parse_b36 (f_Tx_parse_l12 n) (Int32.ofNat 0) C := by
  have c10 : ¬ (10 : Int32) ≤ 0 := by decide
  have c0 : (0 : Int32) ≤ 0 := by decide
  simp only [f_Tx_parse_l12, if_neg c10, if_pos c0]
  rfl
theorem house_core {hs : Nat → List Cls} {C M : Mem} (h : Rel hs C M) (hcl : cl C) (hv : 7471311 ∈ mV C) (hz : 136 ≤ mZ C) (hL : hLt M) (hK : ∀ X r X', f_M_house X = some (r, X') → mZ X' = mZ X) {Mb : Mem} (bI' : mI Mb = mI M) (bR : mR Mb = mR M) (bL : mL Mb = mL M) : ∃ a C' M', f_D_house C = some (a, C') ∧ f_M_house Mb = some (a, M') ∧ mZ C ≤ mZ C' ∧ ∀ X : Mem, (∀ a k, mI X a k = mI M' a k) → mL X = mL M' → mZ X = mZ C' → ∃ hs', Rel hs' C' X := by
  have c179 : mI C 9 6 = rdI C (ce 179) := rfl
  have l179 := h.lo (i := 179) (by decide) (by unfold inImg; omega)
  have u179 := h.hi (i := 179) (by decide) (by unfold inImg; omega)
  have e179 := h.eq (i := 179) (by decide) (by unfold inImg; omega)
  obtain ⟨f, hf7, ef⟩ := oN_of (p := rdI C (ce 179)) (k := 6) ⟨l179, u179⟩ (n := 7) (by decide)
  have cf : mI C 9 6 = Int32.ofNat f := ef
  have mf : mI Mb 12451850 12 = Int32.ofNat f := by rw [bI']; exact (show mI M 12451850 12 = rdI M (me 179) from rfl).trans (e179.symm.trans ef)
  have l180 := h.lo (i := 180) (by decide) (by unfold inImg; omega)
  have u180 := h.hi (i := 180) (by decide) (by unfold inImg; omega)
  have e180 := h.eq (i := 180) (by decide) (by unfold inImg; omega)
  obtain ⟨n, hn, en⟩ := oN_of (p := rdI C (ce 180)) (k := 100) ⟨l180, u180⟩ (n := 101) (by decide)
  have cn : mI C 6684679 0 = Int32.ofNat n := en
  have mn : mI Mb 12451850 14 = Int32.ofNat n := by rw [bI']; exact (show mI M 12451850 14 = rdI M (me 180) from rfl).trans (e180.symm.trans en)
  by_cases f6 : f = 6
  · -- no more houses
    have lt6 : ¬ Int32.ofNat f < 6 := by rw [f6]; decide
    have eq6 : Int32.ofNat f = 6 := by rw [f6]; rfl
    refine ⟨-4, C, Mb, ?_, ?_, Nat.le_refl _, fun X x1 x2 x3 => ⟨hs, ?_⟩⟩
    · simp only [f_D_house, cf, if_neg lt6]
    · simp only [f_M_house, mf, if_pos eq6]
    · exact rel_ask (M := bump M (mZ X)) (C := C) (by
        obtain ⟨a1, a2, a3, a4, a5, a6⟩ := h
        exact ⟨a1, a2, a3, a4, a5, x3.symm⟩) Fr.rf ⟨fun a k _ => by rw [x1, bI']; rfl, by rw [x2, bL]; rfl, rfl⟩
  have hf5 : f ≤ 5 := by omega
  have lt6 : Int32.ofNat f < 6 := (oN_lt (i := 6) (by omega) (by omega)).mpr (by omega)
  have eq6 : ¬ Int32.ofNat f = 6 := oN_ne (j := 6) (by omega) (by omega) f6
  -- the text
  have sig : ∀ i, i < 100 → mI M 13765771 i = mI C 6818955 i ∧ 0 ≤ mI C 6818955 i ∧ mI C 6818955 i ≤ 127 := fun i hi' => by
    obtain ⟨e1, e2, e3, e4, e5⟩ := ce_sign hi'
    have a1 := h.eq e3 (by unfold inImg; omega)
    have a2 := h.lo e3 (by unfold inImg; omega)
    have a3 := h.hi e3 (by unfold inImg; omega)
    rw [e1, e2] at a1
    rw [e1, e4] at a2
    rw [e1, e5] at a3
    exact ⟨a1.symm, a2, a3⟩
  have ht : txt (mI C 6818955) n := ⟨by omega, fun i hi' => (sig i (by omega)).2⟩
  generalize hC2 : setI (setI C 6684679 2 0) 6684679 4 0 = C2
  have F2 : Fz (ctN (mZ C)) C (hat C2) := by
    rw [← hC2]
    exact ((Fz.rf.set (Or.inl (Or.inl ⟨rfl, Or.inl rfl⟩)) _).set (Or.inr (Or.inl ⟨rfl, rfl⟩)) _).set (Or.inl (Or.inl ⟨rfl, Or.inr rfl⟩)) _
  have z2 : mZ (hat C2) = mZ C := by rw [← hC2]; rfl
  have X2 : CX (mI C 6818955) n (hat C2) 0 [] := by
    rw [← hC2]
    refine ⟨?_, fun i hi' => ?_, ?_, Nat.zero_le _, mSe, fun i hi' => by simp at hi', Nat.le_refl _⟩
    · unfold hat; rw [mSk (by decide), mSk (by decide), mSk (by decide)]; exact cn
    · unfold hat; rw [mS (by decide), mS (by decide), mS (by decide)]
    · unfold hat; rw [mSk (by decide), mSk (by decide), mSe]; rfl
  generalize hM2 : setI (setI Mb 12451850 15 0) 12451850 25 (Int32.ofNat (100 * f)) = M2
  have G2 : Fz (gtP f) Mb M2 := by
    rw [← hM2]
    exact (Fz.rf.set (Or.inl ⟨rfl, Or.inl rfl⟩) _).set (Or.inl ⟨rfl, Or.inr (Or.inr (Or.inl rfl))⟩) _
  have mtx : ∀ i, i < n → mI M2 13765771 i = mI C 6818955 i := fun i hi' => by
    rw [← hM2, mS (by decide), mS (by decide), bI']; exact (sig i (by omega)).1
  have m14 : mI M2 12451850 14 = Int32.ofNat n := by rw [← hM2, mSk (by decide), mSk (by decide)]; exact mn
  have m15 : mI M2 12451850 15 = Int32.ofNat 0 := by rw [← hM2, mSk (by decide), mSe]; rfl
  have m25 : mI M2 12451850 25 = Int32.ofNat (100 * f + 0) := by rw [← hM2, mSe]; rfl
  obtain ⟨L, eL⟩ := any_int (mI M2 12451850 26)
  obtain ⟨d, ed⟩ := any_int (mI M2 12451850 27)
  have XM : MX (mI C 6818955) n (100 * f) M2 0 ((List.range L).map fun i => mI M2 14683307 (L - 1 - i)) d [] := by
    refine ⟨m14, mtx, m15, Nat.zero_le _, m25, fun i hi' => by simp at hi', ?_, fun i hi' => ?_, ed⟩
    · rw [List.length_map, List.length_range]; exact eL
    · rw [List.length_map, List.length_range] at hi' ⊢
      simp [List.getD, hi']
  have hLb : hLt M2 := fun i hi' => by
    rw [← hM2, mS (by decide), mS (by decide), bI']; exact hL i hi'
  have goes := goes_l (z0 := mZ C) ht hf5 (by omega) (C0 := C) (M0 := Mb) 10 0 199 199 (100 * f) 0 d (hat C2) M2 [] _ [] (by omega) (by omega) (by omega) (by omega) (Nat.le_refl _) (by omega) X2 XM hLb (by rw [z2]; exact Nat.le_refl _) F2 G2 rfl (fun j hj => by simp at hj)
  have uP : f_Tx_parse C = f_Tx_parse_b36 (f_Tx_parse_l12 199) (Int32.ofNat 0) C2 := by
    have c10 : ¬ (10 : Int32) ≤ 0 := by decide
    have c0 : (0 : Int32) ≤ 0 := by decide
    unfold f_Tx_parse
    rw [lte, lte, hC2]
    exact (parse_0 199 C2)
  have h100 : (100 : Int32) * Int32.ofNat f = Int32.ofNat (100 * f) := by rw [Int32.ofNat_mul]; rfl
  have uG : f_M_goesText (Int32.ofNat f) Mb = f_M_goesText_l15 (199 + 1) (Int32.ofNat f) (Int32.ofNat 0) M2 := by
    unfold f_M_goesText
    rw [lte, lte, h100, hM2]; rfl
  -- the class's text, whatever codeLength was
  have tr : ∀ x C', f_Tx_parse_b36 (f_Tx_parse_l12 199) (Int32.ofNat 0) (hat C2) = some (x, C') → ∃ C3, f_Tx_parse C = some (x, C3) ∧ Fz h6P C' C3 ∧ mZ C3 = mZ C' := fun x C' hx => by
    rcases b36_hat (f_Tx_parse_l12 199) (Int32.ofNat 0) C2 with q | ⟨y, C3, q1, q2⟩
    · exact ⟨C', by rw [uP, q]; exact hx, Fz.rf, rfl⟩
    · rw [hx] at q2
      have e := Option.some.inj q2
      have e1 : x = y := congrArg Prod.fst e
      have e2 : C' = hat C3 := congrArg Prod.snd e
      obtain ⟨w1, w2⟩ := hat_fr C3
      refine ⟨C3, by rw [uP, q1, e1], by rw [e2]; exact w1, by rw [e2]; exact w2⟩
  have h6ct : ∀ a k, h6P a k → ctN (mZ C) a k := fun a k q => Or.inl (Or.inl ⟨q.1, Or.inr q.2⟩)
  rcases goes with ⟨C', M', qs, sB', g1, g2, g3, g4, g5, g6, g7, g8, g9, g10⟩ | ⟨a', C', M', g1, g2, g3, g4, g5, g6⟩
  · obtain ⟨C3, t1, t2, t3⟩ := tr _ _ g1
    have F3 : Fz (ctN (mZ C)) C C3 := g8.trans (t2.mono h6ct)
    have z3 : mZ C ≤ mZ C3 := F3.2
    generalize hC4 : setI C3 6684679 0 0 = C4
    have F4 : Fz (hcP (mZ C) f) C C4 := by
      rw [← hC4]
      exact Fz.set (P := hcP (mZ C) f) (F3.mono fun a k q => Or.inl q) (Or.inr (Or.inl ⟨rfl, rfl⟩)) _
    have z4 : mZ C4 = mZ C3 := by rw [← hC4]; rfl
    have s4 : ∀ j, j < qs.length → CRz (mZ C4) C4 (mR C4 6947152 j) (qs.getD j (0, 0, [])) := fun j hj => by
      obtain ⟨u1, -⟩ := g4 j hj
      have e : mR C4 6947152 j = mR C' 6947152 j := by
        rw [← hC4, mR_setI]
        exact (t2.1 6947152 j (by unfold h6P; omega)).2.1
      rw [e]
      have u2 : CRz (mZ C3) C3 (mR C' 6947152 j) (qs.getD j (0, 0, [])) := u1.fr (t2.mono fun a k q => Or.inl (Or.inl ⟨q.1, Or.inr q.2⟩)) (by rw [t3]; exact Nat.le_refl _)
      obtain ⟨⟨k1, k2, k3, k4, k5, k6, k7, k8⟩, k9, k10⟩ := u2
      have ne : ∀ x, hReg x → x ≠ 6684679 := fun x hx => by unfold hReg at hx; omega
      rw [z4]
      have mRe : ∀ a k, mR C4 a k = mR C3 a k := fun a k => by rw [← hC4, mR_setI]
      have mIe : ∀ a k, hReg a → mI C4 a k = mI C3 a k := fun a k ha => by rw [← hC4, mS (ne a ha)]
      refine ⟨⟨k1, k2, (mIe _ _ k2).trans k3, (mIe _ _ k2).trans k4, ?_, ?_, ?_, fun k hk => ?_⟩, k9, ?_⟩
      · rw [mRe]; exact k5
      · rw [mRe]; exact k6
      · rw [mRe]; exact k7
      · rw [mRe, mIe _ _ k6]; exact k8 k hk
      · rw [mRe]; exact k10
    have e44 : mI C4 6684679 4 = Int32.ofNat qs.length := by
      rw [← hC4, mSk (by decide)]
      exact ((t2.1 6684679 4 (by unfold h6P; omega)).1).trans g6
    obtain ⟨C5, x, b1, b2', b3, b4⟩ := built_c g3 (by omega) e44 s4
    have F5 : Fz (hcP (mZ C) f) C C5 := F4.trans (b3.mono fun a k q => Or.inl (Or.inr (Or.inr (Or.inr (by unfold neP at q; omega)))))
    have c4 : mI C4 9 6 = Int32.ofNat f := by
      rw [← hC4, mS (by decide)]
      exact ((F3.1 9 6 (by unfold ctN ctP; omega)).1).trans cf
    have c5 : mI C5 9 6 = Int32.ofNat f := ((b3.1 9 6 (by unfold neP; omega)).1).trans c4
    have l5 : mI C5 6684679 0 = 0 := ((b3.1 6684679 0 (by unfold neP; omega)).1).trans (by rw [← hC4]; exact mSe)
    generalize hC6 : setR C5 7471311 f x = C6
    have F6 : Fz (hcP (mZ C) f) C C6 := by rw [← hC6]; exact F5.setr (Or.inr (Or.inr (Or.inr (Or.inr ⟨rfl, rfl⟩)))) _
    have c6 : mI C6 9 6 = Int32.ofNat f := by rw [← hC6, mI_setR]; exact c5
    have l6 : mI C6 6684679 0 = 0 := by rw [← hC6, mI_setR]; exact l5
    generalize hC9 : setI (setI C6 131077 5 (Int32.ofNat f)) 9 6 (Int32.ofNat (f + 1)) = C9
    have F9 : Fz (hcP (mZ C) f) C C9 := by
      rw [← hC9]
      exact (F6.set (Or.inr (Or.inr (Or.inl ⟨rfl, rfl⟩))) _).set (Or.inr (Or.inr (Or.inr (Or.inl ⟨rfl, rfl⟩)))) _
    have a9 : mI C9 131077 5 = Int32.ofNat f := by rw [← hC9, mS (by decide), mSe]
    have d9 : mI C9 9 6 = Int32.ofNat (f + 1) := by rw [← hC9, mSe]
    have l9 : mI C9 6684679 0 = 0 := by rw [← hC9, mS (by decide), mS (by decide)]; exact l6
    have R9 : ∀ a k, mR C9 a k = if a = 7471311 ∧ k = f then x else mR C5 a k := fun a k => by rw [← hC9, mR_setI, mR_setI, ← hC6, mR_setR]
    have z9 : mZ C9 = mZ C5 := by rw [← hC9, ← hC6]; rfl
    -- the model
    have n12 : mI M' 12451850 12 = Int32.ofNat f := ((g9.1 12451850 12 (by unfold gtP; omega)).1).trans mf
    generalize hN5 : setI (setI (setI M' 12451850 14 0) 12451850 13 (Int32.ofNat f)) 12451850 12 (Int32.ofNat (f + 1)) = N5
    have GN : Fz (hmP f) Mb N5 := by
      rw [← hN5]
      exact ((Fz.set (P := hmP f) (g9.mono fun a k q => Or.inl q) (Or.inr ⟨rfl, Or.inr (Or.inr rfl)⟩) _).set (Or.inr ⟨rfl, Or.inr (Or.inl rfl)⟩) _).set (Or.inr ⟨rfl, Or.inl rfl⟩) _
    have n13' : mI N5 12451850 13 = Int32.ofNat f := by rw [← hN5, mSk (by decide), mSe]
    have n12' : mI N5 12451850 12 = Int32.ofNat (f + 1) := by rw [← hN5, mSe]
    have n14' : mI N5 12451850 14 = 0 := by rw [← hN5, mSk (by decide), mSk (by decide), mSe]
    have nO : ∀ a k, a ≠ 12451850 → mI N5 a k = mI M' a k := fun a k q => by rw [← hN5, mS q, mS q, mS q]
    refine ⟨Int32.ofNat f, C9, N5, ?_, ?_, ?_, fun X x1 x2 x3 => ?_⟩
    · have hrf : inR (Int32.ofNat f) 6 := oN_in (by omega) (by omega)
      have hxf : (Int32.ofNat f).toNatClampNeg = f := oN_ix (by omega)
      have c8 : mI (setI C6 131077 5 (Int32.ofNat f)) 9 6 = Int32.ofNat f := (mS (by decide)).trans c6
      simp only [f_D_house, cf, if_pos lt6, t1, bdg, ap2g, lte, hC4, if_true, b1, gd_pos b2'.1, c4, gd_pos hrf, hxf, hC6, c6, c8, oN_s, hC9, a9]
    · have n12b : mI (setI M' 12451850 14 0) 12451850 12 = Int32.ofNat f := (mSk (by decide)).trans n12
      have n12c : mI (setI (setI M' 12451850 14 0) 12451850 13 (Int32.ofNat f)) 12451850 12 = Int32.ofNat f := (mSk (by decide)).trans n12b
      simp only [f_M_house, mf, if_neg eq6, uG, g2, bdg, ap2g, if_neg i10, lte, n12b, n12c, oN_s, hN5, n13']
    · rw [z9]
      have := b3.2
      omega
    · refine ⟨fun g => if g = f then qs else hs g, ?_⟩
      have hzM : mZ M ≤ mZ C9 := by
        rw [← h.2.2.2.2.2, z9]
        have := b3.2
        omega
      have FY : Fz (hmP f) M (mV M, mZ C9, mW M, mI N5, mL N5, mR M) := by
        refine ⟨fun a k q => ?_, hzM⟩
        obtain ⟨y1, y2, y3⟩ := GN.1 a k q
        exact ⟨y1.trans (by rw [bI']), rfl, y3.trans (by rw [bL])⟩
      have key : Rel (fun g => if g = f then qs else hs g) C9 (mV M, mZ C9, mW M, mI N5, mL N5, mR M) := by
        refine rel_house (z0 := mZ C) (by omega) h F9 FY ⟨l9, n14'⟩ (u := Int32.ofNat f) ⟨a9, n13'⟩ (c := Int32.ofNat (f + 1)) ⟨d9, n12'⟩ ⟨?_, ?_⟩ ⟨?_, ?_⟩ ?_ ?_ ⟨?_, fun g hg hlt => ?_⟩ rfl
        · exact Int32.le_trans (show (-1 : Int32) ≤ 0 by decide) ((oN_le (m := 0) (by omega) (by omega)).mpr (by omega))
        · exact (oN_le (i := 5) (by omega) (by omega)).mpr (by omega)
        · exact (oN_le (m := 0) (by omega) (by omega)).mpr (by omega)
        · exact (oN_le (i := 6) (by omega) (by omega)).mpr (by omega)
        · exact (oN_lt (by omega) (by omega)).mpr (by omega)
        · rw [ef]; exact (oN_le (by omega) (by omega)).mpr (by omega)
        · exact h.2.1.1.old F9 (by omega) (Or.inl rfl) (fun c hc => by simp at hc)
        · rw [show rdI C9 (ce 179) = Int32.ofNat (f + 1) from d9] at hlt
          have hgf := (oN_lt (by omega) (by omega)).mp hlt
          by_cases e : g = f
          · subst e
            dsimp only
            rw [if_pos rfl, R9, if_pos ⟨rfl, rfl⟩]
            refine ⟨?_, ⟨(nO _ _ (by decide)).trans g7, fun c hc => ?_⟩, g3, fun q hq => ?_⟩
            · have FF : Fz (hcP (mZ C5) g) C5 C9 := by
                rw [← hC9, ← hC6]
                exact ((Fz.rf.setr (Or.inr (Or.inr (Or.inr (Or.inr ⟨rfl, rfl⟩)))) _).set (Or.inr (Or.inr (Or.inl ⟨rfl, rfl⟩))) _).set (Or.inr (Or.inr (Or.inr (Or.inl ⟨rfl, rfl⟩)))) _
              exact b2'.old FF b4.1 (Or.inr b4.2.1) b4.2.2
            · obtain ⟨-, -, s, u3, u4, u5, u6, u7⟩ := g4 c hc
              refine ⟨(nO _ _ (by decide)).trans u5, (nO _ _ (by decide)).trans u6, fun w => ?_⟩
              obtain ⟨y1, y2, y3⟩ := u7 w
              exact ⟨s, (nO _ _ (by decide)).trans y1, (nO _ _ (by decide)).trans y2, by omega, fun k hk => (nO _ _ (by decide)).trans (y3 k hk)⟩
            · obtain ⟨c, hc, rfl⟩ := List.mem_iff_getElem.mp hq
              have u2 := (g4 c hc).2.1
              rw [getD_e hc] at u2
              exact u2
          · dsimp only
            rw [if_neg e]
            obtain ⟨o1, o2, o3⟩ := h.2.1.2 g (by omega) (by rw [ef]; exact (oN_lt (by omega) (by omega)).mpr (by omega))
            have r9 : mR C9 7471311 g = mR C 7471311 g := (F9.1 7471311 g (by unfold hcP ctN ctP; omega)).2.1
            rw [r9]
            obtain ⟨p1, p2, p3⟩ := places hcl o1 ((hcl _ hv).2.2.2 g)
            exact ⟨o1.old F9 p1 (Or.inr p2) p3, o2.old FY (by omega) o3.1, o3⟩
      exact rel_ask key Fr.rf ⟨fun a k _ => (x1 a k).trans rfl, x2.trans rfl, x3.trans rfl⟩
  · obtain ⟨C3, t1, t2, t3⟩ := tr _ _ g1
    have F3 : Fz (ctN (mZ C)) C C3 := g5.trans (t2.mono h6ct)
    have z3 : mZ C ≤ mZ C3 := F3.2
    generalize hC9 : setI C3 6684679 0 0 = C9
    have F9 : Fz (hcP (mZ C) f) C C9 := by
      rw [← hC9]
      exact Fz.set (P := hcP (mZ C) f) (F3.mono fun a k q => Or.inl q) (Or.inr (Or.inl ⟨rfl, rfl⟩)) _
    have z9 : mZ C9 = mZ C3 := by rw [← hC9]; rfl
    have a9 : mI C9 131077 5 = mI C 131077 5 := by
      rw [← hC9, mS (by decide)]; exact (F3.1 131077 5 (by unfold ctN ctP; omega)).1
    have d9 : mI C9 9 6 = Int32.ofNat f := by
      rw [← hC9, mS (by decide)]; exact ((F3.1 9 6 (by unfold ctN ctP; omega)).1).trans cf
    have l9 : mI C9 6684679 0 = 0 := by rw [← hC9]; exact mSe
    have n12 : mI M' 12451850 12 = Int32.ofNat f := ((g6.1 12451850 12 (by unfold gtP; omega)).1).trans mf
    have n13 : mI M' 12451850 13 = mI M 12451850 13 := by rw [(g6.1 12451850 13 (by unfold gtP; omega)).1, bI']
    generalize hN5 : setI M' 12451850 14 0 = N5
    have GN : Fz (hmP f) Mb N5 := by
      rw [← hN5]
      exact Fz.set (P := hmP f) (g6.mono fun a k q => Or.inl q) (Or.inr ⟨rfl, Or.inr (Or.inr rfl)⟩) _
    have n14' : mI N5 12451850 14 = 0 := by rw [← hN5]; exact mSe
    have n12' : mI N5 12451850 12 = Int32.ofNat f := by rw [← hN5, mSk (by decide)]; exact n12
    have n13' : mI N5 12451850 13 = mI M 12451850 13 := by rw [← hN5, mSk (by decide)]; exact n13
    have n15' : mI N5 12451850 15 = Int32.ofNat a' := by rw [← hN5, mSk (by decide)]; exact g4
    refine ⟨(-10) - Int32.ofNat a', C9, N5, ?_, ?_, by omega, fun X x1 x2 x3 => ?_⟩
    · have nm1 : ¬ Int32.ofNat a' = -1 := fun e => by
        have : 0 ≤ Int32.ofNat a' := (oN_le (m := 0) (by omega) (by omega)).mpr (by omega)
        rw [e] at this
        exact absurd this (by decide)
      simp only [f_D_house, cf, if_pos lt6, t1, bdg, ap2g, lte, hC9, if_neg nm1]
    · simp only [f_M_house, mf, if_neg eq6, uG, g3, bdg, ap2g, if_true, lte, hN5, n15']
    · refine ⟨hs, ?_⟩
      have hzM : mZ M ≤ mZ C9 := by rw [← h.2.2.2.2.2, z9]; omega
      have FY : Fz (hmP f) M (mV M, mZ C9, mW M, mI N5, mL N5, mR M) := by
        refine ⟨fun a k q => ?_, hzM⟩
        obtain ⟨y1, y2, y3⟩ := GN.1 a k q
        exact ⟨y1.trans (by rw [bI']), rfl, y3.trans (by rw [bL])⟩
      have e63 := h.eq (i := 63) (by decide) (by unfold inImg; omega)
      have l63 := h.lo (i := 63) (by decide) (by unfold inImg; omega)
      have u63 := h.hi (i := 63) (by decide) (by unfold inImg; omega)
      have key : Rel hs C9 (mV M, mZ C9, mW M, mI N5, mL N5, mR M) := by
        refine rel_house (z0 := mZ C) (by omega) h F9 FY ⟨l9, n14'⟩ (u := rdI C (ce 63)) ⟨a9, ?_⟩ (c := Int32.ofNat f) ⟨d9, n12'⟩ ⟨l63, u63⟩ ⟨?_, ?_⟩ ?_ ?_ ⟨?_, fun g hg hlt => ?_⟩ rfl
        · exact n13'.trans e63.symm
        · exact (oN_le (m := 0) (by omega) (by omega)).mpr (by omega)
        · exact (oN_le (i := 6) (by omega) (by omega)).mpr (by omega)
        · rw [← ef]; exact h.2.2.1.1
        · rw [ef]; exact (oN_le (by omega) (by omega)).mpr (Nat.le_refl _)
        · exact h.2.1.1.old F9 (by omega) (Or.inl rfl) (fun c hc => by simp at hc)
        · rw [show rdI C9 (ce 179) = Int32.ofNat f from d9] at hlt
          have hgf := (oN_lt (by omega) (by omega)).mp hlt
          obtain ⟨o1, o2, o3⟩ := h.2.1.2 g (by omega) (by rw [ef]; exact hlt)
          have r9 : mR C9 7471311 g = mR C 7471311 g := (F9.1 7471311 g (by unfold hcP ctN ctP; omega)).2.1
          rw [r9]
          obtain ⟨p1, p2, p3⟩ := places hcl o1 ((hcl _ hv).2.2.2 g)
          exact ⟨o1.old F9 p1 (Or.inr p2) p3, o2.old FY (by omega) o3.1, o3⟩
      exact rel_ask key Fr.rf ⟨fun a k _ => (x1 a k).trans rfl, x2.trans rfl, x3.trans rfl⟩
theorem sim_house {hs : Nat → List Cls} {C M : Mem} (h : Rel hs C M) (hcl : cl C) (hv : 7471311 ∈ mV C) (hz : 136 ≤ mZ C) (hL : hLt M) (hK : ∀ X r X', f_M_house X = some (r, X') → mZ X' = mZ X) : Sim C M (f_D_house C) f_M_house := by
  obtain ⟨a, C', M', x1, x2, x3, -⟩ := house_core h hcl hv hz hL hK (Mb := M) rfl rfl rfl
  obtain ⟨a2, C2, M2, y1, y2, y3, y4⟩ := house_core h hcl hv hz hL hK (Mb := bump M (mZ C')) rfl rfl rfl
  have e := Option.some.inj (x1.symm.trans y1)
  have e1 : a = a2 := congrArg Prod.fst e
  have e2 : C' = C2 := congrArg Prod.snd e
  subst e1 e2
  obtain ⟨hs', hR⟩ := y4 M2 (fun _ _ => rfl) rfl ((hK _ _ _ y2).trans rfl)
  exact ⟨a, C', hs', M2, x1, x3, y2, hR⟩
