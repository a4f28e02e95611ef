/-! numbers, letters, tests -/
def dg (T : Nat → Int32) (n a : Nat) : Prop := 48 ≤ nx T n a ∧ nx T n a ≤ 57
theorem dg_lt {T : Nat → Int32} {n a : Nat} (h : dg T n a) : a < n ∧ 48 ≤ T a ∧ T a ≤ 57 := by
  unfold dg nx at h
  by_cases q : a < n
  · rw [if_pos q] at h; exact ⟨q, h⟩
  · rw [if_neg q] at h; exact absurd h.1 (by decide)
theorem num_stop {T : Nat → Int32} {n a fuel j : Nat} {C : Mem} {code : List Int32} (h : CX T n C a code) (ht : txt T n) (hj : j < 2) (hd : ¬ dg T n a) (v : Int32) : f_Tx_takenNumber_l4 (fuel + 1) v (Int32.ofNat j) C = some (v, C) := by
  obtain ⟨x1, x2, x3, x4, x5, x6, x7⟩ := h
  have hn := ht.1
  have c2 : ¬ (2 : Int32) ≤ Int32.ofNat j := fun z => by have := (oN_le (m := 2) (by omega) (by omega)).mp z; omega
  simp only [f_Tx_takenNumber_l4]
  rw [if_neg c2, x1, x3]
  by_cases q : a < n
  · have hle : ¬ Int32.ofNat n ≤ Int32.ofNat a := fun z => by have := (oN_le (by omega) (by omega)).mp z; omega
    have hr : inR (Int32.ofNat a) 100 := oN_in (by omega) (by omega)
    have hx : (Int32.ofNat a).toNatClampNeg = a := oN_ix (by omega)
    rw [if_neg hle, gd_pos hr, hx, x2 a q]
    unfold dg nx at hd
    rw [if_pos q] at hd
    by_cases z : T a < 48
    · rw [if_pos z]
    · rw [if_neg z, gd_pos hr, if_pos]
      exact Int32.not_le.mp fun w => hd ⟨Int32.not_lt.mp z, w⟩
  · have hle : Int32.ofNat n ≤ Int32.ofNat a := (oN_le (by omega) (by omega)).mpr (by omega)
    rw [if_pos hle]
theorem num_step {T : Nat → Int32} {n a fuel j : Nat} {C : Mem} {code : List Int32} (h : CX T n C a code) (ht : txt T n) (hj : j < 2) (hd : dg T n a) (v : Int32) : f_Tx_takenNumber_l4 (fuel + 1) v (Int32.ofNat j) C = f_Tx_takenNumber_l4 fuel (((mxI 0 v * 10) + T a) - 48) (Int32.ofNat (j + 1)) (setI C 6684679 2 (Int32.ofNat (a + 1))) := by
  obtain ⟨x1, x2, x3, x4, x5, x6, x7⟩ := h
  have hn := ht.1
  obtain ⟨q, d1, d2⟩ := dg_lt hd
  have c2 : ¬ (2 : Int32) ≤ Int32.ofNat j := fun z => by have := (oN_le (m := 2) (by omega) (by omega)).mp z; omega
  have hle : ¬ Int32.ofNat n ≤ Int32.ofNat a := fun z => by have := (oN_le (by omega) (by omega)).mp z; omega
  have hr : inR (Int32.ofNat a) 100 := oN_in (by omega) (by omega)
  have hx : (Int32.ofNat a).toNatClampNeg = a := oN_ix (by omega)
  simp only [f_Tx_takenNumber_l4, if_neg c2, x1, x3, if_neg hle, gd_pos hr, hx, x2 a q, if_neg (Int32.not_lt.mpr d1), if_neg (Int32.not_lt.mpr d2), lte, oN_s]
theorem num_full {fuel : Nat} {C : Mem} (v : Int32) : f_Tx_takenNumber_l4 (fuel + 1) v (Int32.ofNat 2) C = some (v, C) := by
  simp only [f_Tx_takenNumber_l4]
  exact if_pos (by decide)
theorem mx0 : mxI 0 (-1) = 0 := by decide
/-- a number at a: its value, or -1, and where it ends -/
def numO (T : Nat → Int32) (n a : Nat) (v : Int32) (a' : Nat) : Prop := (¬ dg T n a ∧ v = -1 ∧ a' = a) ∨ (dg T n a ∧ a < a' ∧ 0 ≤ v ∧ v ≤ 99)
theorem d9 {x : Int32} (h : 48 ≤ x ∧ x ≤ 57) : 0 ≤ ((0 * 10) + x) - 48 ∧ ((0 * 10) + x) - 48 ≤ 9 ∧ ((10 * 0) + x) - 48 = ((0 * 10) + x) - 48 := ⟨by grind, by grind, by grind⟩
theorem d99 {x y : Int32} (h : 48 ≤ x ∧ x ≤ 57) (hy : 0 ≤ y ∧ y ≤ 9) : 0 ≤ ((mxI 0 y * 10) + x) - 48 ∧ ((mxI 0 y * 10) + x) - 48 ≤ 99 ∧ ((10 * y) + x) - 48 = ((mxI 0 y * 10) + x) - 48 := by
  have e : mxI 0 y = y := mx_le hy.1
  rw [e]
  exact ⟨by grind, by grind, by grind⟩
theorem isDigit_m {T : Nat → Int32} {n sB a d : Nat} {M : Mem} {W out : List Int32} (h : MX T n sB M a W d out) (ht : txt T n) : (dg T n a → f_M_isDigit M = some 1) ∧ (¬ dg T n a → f_M_isDigit M = some 0) := by
  refine ⟨fun q => ?_, fun q => ?_⟩
  · unfold f_M_isDigit; rw [next_m h ht, bdg, mi1 q]
  · unfold f_M_isDigit; rw [next_m h ht, bdg, mi0 q]
theorem numm_step {T : Nat → Int32} {n sB a d fuel j : Nat} {M : Mem} {W out : List Int32} (h : MX T n sB M a W d out) (ht : txt T n) (hj : j < 2) (hd : dg T n a) {v : Int32} (hv : mI M 12451850 16 = v) : f_M_takesNumber_l16 (fuel + 1) (Int32.ofNat j) M = f_M_takesNumber_l16 fuel (Int32.ofNat (j + 1)) (setI (setI M 12451850 16 (((10 * v) + T a) - 48)) 12451850 15 (Int32.ofNat (a + 1))) := by
  obtain ⟨q, d1, d2⟩ := dg_lt hd
  have c2 : ¬ (2 : Int32) ≤ Int32.ofNat j := fun z => by have := (oN_le (m := 2) (by omega) (by omega)).mp z; omega
  have e : nx T n a = T a := if_pos q
  have nm := next_m h ht
  rw [e] at nm
  have x3 : ∀ y, mI (setI M 12451850 16 y) 12451850 15 = Int32.ofNat a := fun y => (mSk (by decide)).trans h.2.2.1
  simp only [f_M_takesNumber_l16, if_neg c2, (isDigit_m h ht).1 hd, bdg, if_neg i10, nm, hv, lte, x3, oN_s]
theorem numm_stop {T : Nat → Int32} {n sB a d fuel j : Nat} {M : Mem} {W out : List Int32} (h : MX T n sB M a W d out) (ht : txt T n) (hj : j < 2) (hd : ¬ dg T n a) : f_M_takesNumber_l16 (fuel + 1) (Int32.ofNat j) M = some (1, M) := by
  have c2 : ¬ (2 : Int32) ≤ Int32.ofNat j := fun z => by have := (oN_le (m := 2) (by omega) (by omega)).mp z; omega
  simp only [f_M_takesNumber_l16, if_neg c2, (isDigit_m h ht).2 hd, bdg, if_true]
theorem numm_full {fuel : Nat} {M : Mem} : f_M_takesNumber_l16 (fuel + 1) (Int32.ofNat 2) M = some (1, M) := by
  simp only [f_M_takesNumber_l16]
  exact if_pos (by decide)
/-- both take the same number -/
theorem num_j {T : Nat → Int32} {n sB a d : Nat} {f : Nat × Nat} {C M : Mem} {code W out : List Int32} (hC : CX T n C a code) (hM : MX T n sB M a W d out) (ht : txt T n) : ∃ v a' C' M', f_Tx_takenNumber C = some (v, C') ∧ CX T n C' a' code ∧ Fz ctP C C' ∧ numO T n a v a' ∧ f_M_takesNumber M = some (if v < 0 then 0 else 1, M') ∧ MX T n sB M' a' W d out ∧ Fz (mtP f) M M' ∧ (0 ≤ v → mI M' 12451850 16 = v) := by
  by_cases h0 : dg T n a
  · obtain ⟨q0, d1, d2⟩ := dg_lt h0
    obtain ⟨w1, w2, w3⟩ := d9 ⟨d1, d2⟩
    have c1 := hC.at (a' := a + 1) (by omega) (by omega)
    have s1 := num_step (fuel := 199) (j := 0) hC ht (by decide) h0 (-1)
    rw [mx0] at s1
    have m0 := hM.dig 0
    have t1 := numm_step (fuel := 199) (j := 0) m0 ht (by decide) h0 mSe
    have m1 := (m0.dig (((10 * 0) + T a) - 48)).at (a' := a + 1) (by omega)
    have fm1 : Fz (mtP f) M (setI (setI (setI M 12451850 16 0) 12451850 16 (((10 * 0) + T a) - 48)) 12451850 15 (Int32.ofNat (a + 1))) := ((mt_11 (Or.inr (Or.inl rfl)) _).trans (mt_11 (Or.inr (Or.inl rfl)) _)).trans (mt15 _)
    have g1 : mI (setI (setI (setI M 12451850 16 0) 12451850 16 (((10 * 0) + T a) - 48)) 12451850 15 (Int32.ofNat (a + 1))) 12451850 16 = ((0 * 10) + T a) - 48 := ((mSk (by decide)).trans mSe).trans w3
    generalize hv : ((0 * 10) + T a) - 48 = v at *
    have uM : f_M_takesNumber M = f_M_takesNumber_l16 199 (Int32.ofNat 1) (setI (setI (setI M 12451850 16 0) 12451850 16 (((10 * 0) + T a) - 48)) 12451850 15 (Int32.ofNat (a + 1))) := by
      rw [← t1]
      simp only [f_M_takesNumber, (isDigit_m hM ht).1 h0, bdg, if_neg i10, lte]
      rfl
    have uC : f_Tx_takenNumber C = f_Tx_takenNumber_l4 199 v (Int32.ofNat 1) (setI C 6684679 2 (Int32.ofNat (a + 1))) := s1
    generalize setI (setI (setI M 12451850 16 0) 12451850 16 (((10 * 0) + T a) - 48)) 12451850 15 (Int32.ofNat (a + 1)) = M1 at *
    by_cases h1 : dg T n (a + 1)
    · obtain ⟨q1, e1, e2⟩ := dg_lt h1
      obtain ⟨z1, z2, z3⟩ := d99 (y := v) ⟨e1, e2⟩ ⟨w1, w2⟩
      have c2 := c1.at (a' := a + 1 + 1) (by omega) (by omega)
      have s2 := num_step (fuel := 198) (j := 1) c1 ht (by decide) h1 v
      have t2 := numm_step (fuel := 198) (j := 1) m1 ht (by decide) h1 g1
      have m2 := (m1.dig (((10 * v) + T (a + 1)) - 48)).at (a' := a + 1 + 1) (by omega)
      have nn : ¬ ((mxI 0 v * 10) + T (a + 1)) - 48 < 0 := Int32.not_lt.mpr z1
      refine ⟨((mxI 0 v * 10) + T (a + 1)) - 48, a + 1 + 1, _, _, (uC.trans s2).trans (num_full (fuel := 197) _), c2, (cx_fr _).trans (cx_fr _), Or.inr ⟨h0, by omega, z1, z2⟩, ?_, m2, fm1.trans ((mt_11 (Or.inr (Or.inl rfl)) _).trans (mt15 _)), fun _ => ((mSk (by decide)).trans mSe).trans z3⟩
      rw [if_neg nn]
      exact (uM.trans t2).trans (numm_full (fuel := 197))
    · have nn : ¬ v < 0 := Int32.not_lt.mpr w1
      refine ⟨v, a + 1, _, _, uC.trans (num_stop (fuel := 198) (j := 1) c1 ht (by decide) h1 v), c1, cx_fr _, Or.inr ⟨h0, by omega, w1, Int32.le_trans w2 (by decide)⟩, ?_, m1, fm1, fun _ => g1⟩
      rw [if_neg nn]
      exact uM.trans (numm_stop (fuel := 198) (j := 1) m1 ht (by decide) h1)
  · refine ⟨-1, a, C, M, num_stop (fuel := 199) (j := 0) hC ht (by decide) h0 (-1), hC, Fz.rf, Or.inl ⟨h0, rfl, rfl⟩, ?_, hM, Fz.rf, fun z => absurd z (by decide)⟩
    rw [if_pos (by decide)]
    simp only [f_M_takesNumber, (isDigit_m hM ht).2 h0, bdg, if_true]
theorem ix_M (p : Nat) (M : Mem) : ∀ (k : Nat) (a b c : Int32), f_SL_indexOfChar_l7 p M k a b c = f_SL_indexOfChar_l7 p (zM 0) k a b c
  | 0, _, _, _ => rfl
  | k + 1, a, b, c => by simp only [f_SL_indexOfChar_l7, lte, ix_M p M k]
theorem io_M (p : Nat) (x : Int32) (M : Mem) : f_St_indexOf p x M = f_St_indexOf p x (zM 0) := by
  simp only [f_St_indexOf, f_St_indexOf2, f_SL_indexOf, f_SL_indexOfChar, ix_M (p + 1) M]
  rfl
def okL (v : Nat) : Bool := (f_St_indexOf 524307 (((Int32.ofNat v).toUInt32 % 65536).toInt32) (zM 0) == some (f_M_place (Int32.ofNat v) (zM 0))) && (f_St_indexOf 655379 (((Int32.ofNat v).toUInt32 % 65536).toInt32) (zM 0) == some (if f_M_in (Int32.ofNat v) 60 62 (zM 0) = 0 then -1 else Int32.ofNat v - 60)) && decide (-1 ≤ f_M_place (Int32.ofNat v) (zM 0)) && decide (f_M_place (Int32.ofNat v) (zM 0) ≤ 5)
theorem okL_is : (List.range 128).all okL = true := by decide +kernel
theorem lets {x : Int32} (hx : 0 ≤ x ∧ x ≤ 127) (C : Mem) : f_St_indexOf 524307 ((x.toUInt32 % 65536).toInt32) C = some (f_M_place x (zM 0)) ∧ f_St_indexOf 655379 ((x.toUInt32 % 65536).toInt32) C = some (if f_M_in x 60 62 (zM 0) = 0 then -1 else x - 60) ∧ -1 ≤ f_M_place x (zM 0) ∧ f_M_place x (zM 0) ≤ 5 := by
  obtain ⟨v, hv, rfl⟩ := oN_of hx (n := 128) (by decide)
  have := List.all_eq_true.mp okL_is v (List.mem_range.mpr hv)
  simp only [okL, Bool.and_eq_true, beq_iff_eq, decide_eq_true_eq] at this
  obtain ⟨⟨⟨a1, a2⟩, a3⟩, a4⟩ := this
  rw [io_M _ _ C, io_M _ _ C]
  exact ⟨a1, a2, a3, a4⟩
/-- one of a row of letters -/
theorem one_c {T : Nat → Int32} {n a p : Nat} {C : Mem} {code : List Int32} (h : CX T n C a code) (ht : txt T n) {g : Int32 → Int32} (hg : ∀ x, 0 ≤ x ∧ x ≤ 127 → f_St_indexOf p ((x.toUInt32 % 65536).toInt32) C = some (g x)) (g1 : g (-1) = -1) : ∃ C', f_Tx_takenOneOf p C = some (g (nx T n a), C') ∧ CX T n C' (if 0 ≤ g (nx T n a) then a + 1 else a) code ∧ Fz ctP C C' := by
  obtain ⟨x1, x2, x3, x4, x5, x6, x7⟩ := id h
  have hn := ht.1
  have b29 : ∀ w, (0 ≤ w → a < n) → ∃ C', f_Tx_takenOneOf_b29 p w C = some (w, C') ∧ CX T n C' (if 0 ≤ w then a + 1 else a) code ∧ Fz ctP C C' := fun w hw => by
    unfold f_Tx_takenOneOf_b29
    by_cases q : 0 ≤ w
    · have := hw q
      rw [if_pos q, if_pos q, x3, lte, oN_s]
      exact ⟨_, rfl, h.at (by omega) (by omega), cx_fr _⟩
    · rw [if_neg q, if_neg q, x3, lte, Int32.add_zero]
      exact ⟨_, rfl, h.at (Nat.le_refl a) x4, cx_fr _⟩
  unfold f_Tx_takenOneOf nx
  rw [x1, x3]
  by_cases q : a < n
  · have hle : ¬ Int32.ofNat n ≤ Int32.ofNat a := fun z => by have := (oN_le (by omega) (by omega)).mp z; omega
    rw [if_neg hle, if_pos q, gd_pos (oN_in (by omega) (by omega)), oN_ix (by omega), x2 a q, hg _ (ht.2 a q), bdg]
    exact b29 _ (fun _ => q)
  · have hle : Int32.ofNat n ≤ Int32.ofNat a := (oN_le (by omega) (by omega)).mpr (by omega)
    rw [if_pos hle, if_neg q, g1]
    exact b29 (-1) (fun z => absurd z (by decide))
def okC (k : Nat) : Bool := f_Cl_codeOfTest (Int32.ofNat (k / 300)) (Int32.ofNat (k / 100 % 3)) (Int32.ofNat (k % 100)) (zM 0) == Int32.ofNat k && trS (Int32.ofNat k) == ((1000 * Int32.ofNat (k / 300)) + (100 * Int32.ofNat (k / 100 % 3))) + Int32.ofNat (k % 100)
theorem okC_is : (List.range 1800).all okC = true := by decide +kernel
theorem code_ok {l r v : Int32} (hl : 0 ≤ l ∧ l ≤ 5) (hr : 0 ≤ r ∧ r ≤ 2) (hv : 0 ≤ v ∧ v ≤ 99) (C : Mem) : ∃ c, f_Cl_codeOfTest l r v C = c ∧ 0 ≤ c ∧ c < 1800 ∧ trS c = ((1000 * l) + (100 * r)) + v := by
  obtain ⟨i, hi', rfl⟩ := oN_of hl (n := 6) (by decide)
  obtain ⟨j, hj, rfl⟩ := oN_of hr (n := 3) (by decide)
  obtain ⟨k, hk, rfl⟩ := oN_of hv (n := 100) (by decide)
  have := List.all_eq_true.mp okC_is (300 * i + 100 * j + k) (List.mem_range.mpr (by omega))
  simp only [okC, Bool.and_eq_true, beq_iff_eq] at this
  have e1 : (300 * i + 100 * j + k) / 300 = i := by omega
  have e2 : (300 * i + 100 * j + k) / 100 % 3 = j := by omega
  have e3 : (300 * i + 100 * j + k) % 100 = k := by omega
  rw [e1, e2, e3] at this
  refine ⟨Int32.ofNat (300 * i + 100 * j + k), this.1, (oN_le (m := 0) (by omega) (by omega)).mpr (by omega), (oN_lt (i := 1800) (by omega) (by omega)).mpr (by omega), this.2⟩
theorem test_j {T : Nat → Int32} {n sB a d f kk : Nat} {C M : Mem} {code W out : List Int32} (hC : CX T n C a code) (hM : MX T n sB M a W d out) (ht : txt T n) (hf : 100 * f ≤ sB) (hs : sB + out.length ≤ 500 + a) : (∃ a' c C' M1, f_Tx_takesTest C = some (1, C') ∧ CX T n C' a' (code ++ [c]) ∧ a + 3 ≤ a' ∧ 0 ≤ c ∧ c < 1800 ∧ Fz ctP C C' ∧ f_M_takesTest M = (bd (f_M_whole M1) fun M2 => some (1, M2)) ∧ MX T n sB M1 a' W d (out ++ [trS c]) ∧ Fz (mtP (sB, kk)) M M1) ∨ (∃ a' C' M', a ≤ a' ∧ f_Tx_takesTest C = some (0, C') ∧ CX T n C' a' code ∧ Fz ctP C C' ∧ f_M_takesTest M = some (0, M') ∧ MX T n sB M' a' W d out ∧ Fz (mtP (sB, kk)) M M') := by
  have hn := ht.1
  have p1 : f_M_place (-1) (zM 0) = -1 := by decide +kernel
  have nxr : 0 ≤ nx T n a ∧ nx T n a ≤ 127 ∨ nx T n a = -1 := by
    unfold nx
    by_cases q : a < n
    · rw [if_pos q]; exact Or.inl (ht.2 a q)
    · rw [if_neg q]; exact Or.inr rfl
  obtain ⟨C1, a1, a2, a3⟩ := one_c (p := 524307) (g := fun x => f_M_place x (zM 0)) hC ht (fun x hx => (lets hx C).1) p1
  have lr : -1 ≤ f_M_place (nx T n a) (zM 0) ∧ f_M_place (nx T n a) (zM 0) ≤ 5 := by
    rcases nxr with q | q
    · exact (lets q C).2.2
    · rw [q, p1]; decide
  have pl : f_M_place (nx T n a) M = f_M_place (nx T n a) (zM 0) := rfl
  have nm := next_m hM ht
  have hx3 := hM.2.2.1
  by_cases q : 0 ≤ f_M_place (nx T n a) (zM 0)
  · rw [if_pos q] at a2
    have a2n := a2.2.2.2.1
    have M1x := hM.at (a' := a + 1) a2n
    have nm1 := next_m M1x ht
    have fr1 : Fz (mtP (sB, kk)) M (setI M 12451850 15 (Int32.ofNat (a + 1))) := mt15 _
    have r1' : f_M_in (-1) 60 62 (zM 0) = 0 := by decide +kernel
    obtain ⟨C2, b1, b2', b3⟩ := one_c (p := 655379) (g := fun x => if f_M_in x 60 62 (zM 0) = 0 then -1 else x - 60) a2 ht (fun x hx => (lets hx C1).2.1) (if_pos r1')
    have fin : ∀ X : Mem, f_M_in (nx T n (a + 1)) 60 62 X = f_M_in (nx T n (a + 1)) 60 62 (zM 0) := fun _ => rfl
    by_cases r : 60 ≤ nx T n (a + 1) ∧ nx T n (a + 1) ≤ 62
    · have rin : f_M_in (nx T n (a + 1)) 60 62 (zM 0) = 1 := mi1 r _
      have rr : 0 ≤ nx T n (a + 1) - 60 ∧ nx T n (a + 1) - 60 ≤ 2 := ⟨by grind, by grind⟩
      simp only [rin, if_neg i10] at b1 b2'
      rw [if_pos rr.1] at b2'
      have a3n := b2'.2.2.2.1
      have M2x := M1x.at (a' := a + 1 + 1) a3n
      obtain ⟨v, a', C3, M3, v1, v2, v3, v4, v5, v6, v7, v8⟩ := num_j (f := (sB, kk)) b2' M2x ht
      have e15 : mI (setI M 12451850 15 (Int32.ofNat (a + 1))) 12451850 15 = Int32.ofNat (a + 1) := mSe
      by_cases z : v < 0
      · have wa : a ≤ a' := by
          rcases v4 with w | w
          · have := w.2.2; omega
          · exact absurd z (Int32.not_lt.mpr w.2.2.1)
        refine Or.inr ⟨a', C3, M3, wa, ?_, v2, (a3.trans b3).trans v3, ?_, v6, (fr1.trans (mt15 _)).trans v7⟩
        · have nv : ¬ 0 ≤ v := Int32.not_le.mpr z
          simp only [f_Tx_takesTest, a1, bdg, ap2g, if_pos q, b1, f_Tx_takesTest_b21, if_pos rr.1, v1, f_Tx_takesTest_b34, if_neg nv]
        · rw [if_pos z] at v5
          simp only [f_M_takesTest, nm, bdg, lte, pl, if_pos q, hx3, oN_s, nm1, fin, rin, if_neg i10, e15, v5, ap2g, if_true]
      · have v0 : 0 ≤ v := Int32.not_lt.mp z
        have w : dg T n (a + 1 + 1) ∧ a + 1 + 1 < a' ∧ 0 ≤ v ∧ v ≤ 99 := by
          rcases v4 with w | w
          · rw [w.2.1] at v0; exact absurd v0 (by decide)
          · exact w
        obtain ⟨c, k1, k2, k3, k4⟩ := code_ok ⟨q, lr.2⟩ rr w.2.2 C3
        obtain ⟨C4, y1, y2, y3⟩ := add_c v2 ht (by have := hC.2.2.2.2.2.2; omega) c
        have a'n := v6.2.2.2.1
        obtain ⟨M4, z1, z2, z3⟩ := put_m (f := f) (kk := kk) v6 (by omega) hf (((1000 * f_M_place (nx T n a) (zM 0)) + (100 * (nx T n (a + 1) - 60))) + v)
        rw [← k4] at z2
        refine Or.inl ⟨a', c, C4, M4, ?_, y2, by omega, k2, k3, ((a3.trans b3).trans v3).trans y3, ?_, z2, ((fr1.trans (mt15 _)).trans v7).trans z3⟩
        · simp only [f_Tx_takesTest, a1, bdg, ap2g, if_pos q, b1, f_Tx_takesTest_b21, if_pos rr.1, v1, f_Tx_takesTest_b34, if_pos v0, k1, y1]
        · rw [if_neg z] at v5
          simp only [f_M_takesTest, nm, bdg, lte, pl, if_pos q, hx3, oN_s, nm1, fin, rin, if_neg i10, e15, v5, ap2g, v8 v0, z1]
    · have rin : f_M_in (nx T n (a + 1)) 60 62 (zM 0) = 0 := mi0 r _
      have n1 : ¬ (0 : Int32) ≤ -1 := by decide
      simp only [rin, if_true] at b1 b2'
      rw [if_neg n1] at b2'
      refine Or.inr ⟨a + 1, C2, _, by omega, ?_, b2', a3.trans b3, ?_, M1x, fr1⟩
      · simp only [f_Tx_takesTest, a1, bdg, ap2g, if_pos q, b1, f_Tx_takesTest_b21, if_neg n1, f_Tx_takesTest_b34]
      · simp only [f_M_takesTest, nm, bdg, lte, pl, if_pos q, hx3, oN_s, nm1, fin, rin, if_true]
  · rw [if_neg q] at a2
    have n1 : ¬ (0 : Int32) ≤ -1 := by decide
    refine Or.inr ⟨a, C1, M, Nat.le_refl a, ?_, a2, a3, ?_, hM, Fz.rf⟩
    · simp only [f_Tx_takesTest, a1, bdg, ap2g, if_neg q, f_Tx_takesTest_b21, if_neg n1, f_Tx_takesTest_b34]
    · simp only [f_M_takesTest, nm, bdg, lte, pl, if_neg q]
