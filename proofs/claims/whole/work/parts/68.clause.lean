/-! A CLAUSE IS MADE -/
def ctN (z0 a k : Nat) : Prop := ctP a k ∨ (a = 6684679 ∧ k = 4) ∨ a = 6947152 ∨ z0 ≤ a / 131072
theorem ctP_N (z0 : Nat) : ∀ a k, ctP a k → ctN z0 a k := fun _ _ q => Or.inl q
theorem Fz.new {P : Nat → Nat → Prop} {A B : Mem} (h : Fz P A B) {kd : Nat} (hp : ∀ k, P (nid B kd) k) (n : Nat) : Fz P A (newM B kd n) :=
  ⟨fun a i q => by
    obtain ⟨x1, x2, x3⟩ := h.1 a i q
    have ne : ¬ a = nid B kd := fun e => q (e ▸ hp i)
    exact ⟨(if_neg ne).trans x1, (if_neg ne).trans x2, (if_neg ne).trans x3⟩, Nat.le_succ_of_le h.2⟩
theorem Fz.cpy {P : Nat → Nat → Prop} {A B : Mem} (h : Fz P A B) {b : Nat} (hb : ∀ k, P b k) (a sp dp n : Nat) : Fz P A (cpyI B a sp b dp n) :=
  ⟨fun c j q => by
    obtain ⟨x1, x2, x3⟩ := h.1 c j q
    exact ⟨(if_neg (fun e : c = b ∧ dp ≤ j ∧ j < dp + n => q (e.1 ▸ hb j))).trans x1, x2, x3⟩, h.2⟩
def CRz (z : Nat) (C : Mem) (x : Nat) (q : Cls) : Prop := CRep C x q ∧ x / 131072 < z ∧ mR C x 2 / 131072 < z
theorem CRz.fr {z z' : Nat} {C C' : Mem} {x : Nat} {q : Cls} (h : CRz z C x q) (hF : Fz (ctN z) C C') (hz : z ≤ z') : CRz z' C' x q := by
  obtain ⟨⟨h1, h2, h3, h4, h5, h6, h7, h8⟩, p1, p2⟩ := h
  have nn : ∀ a k, hReg a → a / 131072 < z → mI C' a k = mI C a k ∧ mR C' a k = mR C a k := fun a k ha hp => by
    have := hF.1 a k (by unfold hReg at ha; unfold ctN ctP; omega)
    exact ⟨this.1, this.2.1⟩
  have e2 := (nn x 2 h2 p1).2
  refine ⟨⟨h1, h2, (nn x 0 h2 p1).1.trans h3, (nn x 1 h2 p1).1.trans h4, ?_, ?_, ?_, fun k hk => ?_⟩, by omega, ?_⟩
  · rw [e2]; exact h5
  · rw [e2]; exact h6
  · rw [e2]; exact h7
  · rw [e2, (nn _ k h6 p2).1]; exact h8 k hk
  · rw [e2]; omega
theorem CX.fz {P : Nat → Nat → Prop} {T : Nat → Int32} {n a : Nat} {C C' : Mem} {code : List Int32} (h : CX T n C a code) (hF : Fz P C C') (hP : ∀ k, ¬ P 6818955 k ∧ ¬ P 7081099 k ∧ (k = 0 ∨ k = 2 ∨ k = 6 → ¬ P 6684679 k)) : CX T n C' a code := by
  obtain ⟨x1, x2, x3, x4, x5, x6, x7⟩ := h
  exact ⟨((hF.1 _ _ ((hP 0).2.2 (Or.inl rfl))).1).trans x1, fun i hi' => ((hF.1 _ _ (hP i).1).1).trans (x2 i hi'), ((hF.1 _ _ ((hP 2).2.2 (Or.inr (Or.inl rfl)))).1).trans x3, x4, ((hF.1 _ _ ((hP 6).2.2 (Or.inr (Or.inr rfl)))).1).trans x5, fun i hi' => ((hF.1 _ _ (hP i).2.1).1).trans (x6 i hi'), x7⟩
def neP (z0 a _ : Nat) : Prop := z0 ≤ a / 131072
def nwP (z0 a k : Nat) : Prop := (a = 6684679 ∧ k = 4) ∨ a = 6947152 ∨ z0 ≤ a / 131072
theorem nwP_N (z0 : Nat) : ∀ a k, nwP z0 a k → ctN z0 a k := fun _ _ q => Or.inr q
theorem mR_setR (C : Mem) (a k v b j : Nat) : mR (setR C a k v) b j = if b = a ∧ j = k then v else mR C b j := rfl
theorem mI_setR (C : Mem) (a k v : Nat) : mI (setR C a k v) = mI C := rfl
theorem mR_setI (C : Mem) (a k : Nat) (v : Int32) : mR (setI C a k v) = mR C := rfl
theorem b99_c {T : Nat → Int32} {n a i : Nat} {C : Mem} {cs : List Int32} {K : Int32 → Mem → Option (Int32 × Mem)} {w v : Int32} (ht : txt T n) (h : CX T n C a cs) (hl : cs.length < 100) (hz : 95 ≤ mZ C) (hi' : i < 10) : ∃ C' x, f_Tx_parse_b99 K (Int32.ofNat i) w v C = (if a < n then K (Int32.ofNat (i + 1)) C' else some (-1, C')) ∧ CX T n C' a cs ∧ CRz (mZ C') C' x (w, v, cs) ∧ mR C' 6947152 i = x ∧ (∀ j, j ≠ i → mR C' 6947152 j = mR C 6947152 j) ∧ mI C' 6684679 4 = Int32.ofNat (i + 1) ∧ Fz (nwP (mZ C)) C C' := by
  have hn := ht.1
  obtain ⟨x1, x2, x3, x4, x5, x6, x7⟩ := id h
  obtain ⟨x, hx⟩ : ∃ x, x = mZ C * 131072 + 2 := ⟨_, rfl⟩
  obtain ⟨y, hy⟩ : ∃ y, y = (mZ C + 1) * 131072 + (cs.length * 32 + 11) := ⟨_, rfl⟩
  have nx_ : nid C 2 = x := by unfold nid; omega
  have z1 : mZ (newM C 2 3) = mZ C + 1 := rfl
  have ny_ : nid (newM C 2 3) (cs.length * 32 + 11) = y := by
    unfold nid
    rw [z1, hy]
  have px : ∀ k, neP (mZ C) x k := fun k => by unfold neP; omega
  have py : ∀ k, neP (mZ C) y k := fun k => by unfold neP; omega
  have xy : x ≠ y := by omega
  have F1 : Fz (neP (mZ C)) C (newM C 2 3) := Fz.rf.new (by rw [nx_]; exact px) 3
  have F2 : Fz (neP (mZ C)) C (newM (newM C 2 3) (cs.length * 32 + 11) cs.length) := F1.new (by rw [ny_]; exact py) _
  generalize hM2 : newM (newM C 2 3) (cs.length * 32 + 11) cs.length = C2 at F2
  have z2 : mZ C2 = mZ C + 2 := by rw [← hM2]; rfl
  have F3 : Fz (neP (mZ C)) C (cpyI C2 7081099 0 y 0 cs.length) := F2.cpy py _ _ _ _
  have e6 : mI (newM C 2 3) 6684679 6 = Int32.ofNat cs.length := ((F1.1 6684679 6 (by unfold neP; omega)).1).trans x5
  have ly : lnA y = cs.length := by unfold lnA; omega
  have l7 : lnA 7081099 = 100 := by decide
  have c100 : ¬ Int32.ofNat cs.length = Int32.ofNat 100 := fun e => by
    have a1 := oN_ix (i := cs.length) (by omega)
    have a2 := oN_ix (i := 100) (by omega)
    rw [e] at a1
    omega
  have mn : mnI (Int32.ofNat 100) (Int32.ofNat cs.length) = Int32.ofNat cs.length := mn_ge ((oN_le (by omega) (by omega)).mpr (by omega))
  have hxl : (Int32.ofNat cs.length).toNatClampNeg = cs.length := oN_ix (by omega)
  have cp : f_Ar_copyOf 7081099 (Int32.ofNat cs.length) (newM C 2 3) = some (y, cpyI C2 7081099 0 y 0 cs.length) := by
    unfold f_Ar_copyOf
    rw [l7, if_neg c100, gd_pos (oN_in (by omega) (by omega)), hxl, ny_, lte, hM2, lte, ly, mn, hxl]
    have : cpOK 0 0 (Int32.ofNat cs.length) 100 cs.length := by
      have e := oN_int (i := cs.length) (by omega)
      refine ⟨by decide, by decide, ?_, ?_, ?_⟩
      · rw [e]; omega
      · rw [e]
        have : (0 : Int32).toInt = 0 := by decide
        omega
      · rw [e]
        have : (0 : Int32).toInt = 0 := by decide
        omega
    rw [gd_pos this, k0, lte]
  generalize hC3 : cpyI C2 7081099 0 y 0 cs.length = C3 at *
  have z3 : mZ C3 = mZ C + 2 := by rw [← hC3]; exact z2
  have ey : ∀ k, k < cs.length → mI C3 y k = cs.getD k 0 := fun k hk => by
    rw [← hC3, mI_cpyI, if_pos ⟨rfl, Nat.zero_le _, by omega⟩, Nat.zero_add, Nat.sub_zero, (F2.1 7081099 k (by unfold neP; omega)).1]
    exact x6 k hk
  generalize hC4 : setR (setI (setI C3 x 0 w) x 1 v) x 2 y = C4
  have F4 : Fz (neP (mZ C)) C C4 := by
    rw [← hC4]
    exact (((F3.set (px 0) _).set (px 1) _).setr (px 2) _)
  have F4n : Fz (nwP (mZ C)) C C4 := F4.mono fun a k q => Or.inr (Or.inr q)
  have F5 : Fz (nwP (mZ C)) C (setR C4 6947152 i x) := F4n.setr (Or.inr (Or.inl rfl)) _
  have F6 : Fz (nwP (mZ C)) C (setI (setR C4 6947152 i x) 6684679 4 (Int32.ofNat (i + 1))) := F5.set (Or.inl ⟨rfl, rfl⟩) _
  have C6 : CX T n (setI (setR C4 6947152 i x) 6684679 4 (Int32.ofNat (i + 1))) a cs := h.fz F6 fun k => ⟨by unfold nwP; omega, by unfold nwP; omega, fun hk => by unfold nwP; omega⟩
  have z6 : mZ (setI (setR C4 6947152 i x) 6684679 4 (Int32.ofNat (i + 1))) = mZ C + 2 := by
    rw [← hC4]; exact z3
  have R6 : ∀ b j, mR (setI (setR C4 6947152 i x) 6684679 4 (Int32.ofNat (i + 1))) b j = if b = 6947152 ∧ j = i then x else mR C4 b j := fun b j => by rw [mR_setI, mR_setR]
  have R4 : ∀ b j, mR C4 b j = if b = x ∧ j = 2 then y else mR C3 b j := fun b j => by rw [← hC4, mR_setR, mR_setI, mR_setI]
  have I6 : ∀ b j, b ≠ 6684679 → mI (setI (setR C4 6947152 i x) 6684679 4 (Int32.ofNat (i + 1))) b j = mI C4 b j := fun b j hb => by rw [mS hb, mI_setR]
  have I4 : ∀ b j, mI C4 b j = mI (setI (setI C3 x 0 w) x 1 v) b j := fun b j => by rw [← hC4, mI_setR]
  have I4x0 : mI C4 x 0 = w := by rw [I4, mSk (by decide), mSe]
  have I4x1 : mI C4 x 1 = v := by rw [I4, mSe]
  have I4y : ∀ k, mI C4 y k = mI C3 y k := fun k => by
    rw [I4, mS (Ne.symm xy), mS (Ne.symm xy)]
  refine ⟨setI (setR C4 6947152 i x) 6684679 4 (Int32.ofNat (i + 1)), x, ?_, C6, ⟨⟨by omega, by unfold hReg; omega, ?_, ?_, ?_, ?_, ?_, fun k hk => ?_⟩, by rw [z6]; omega, ?_⟩, ?_, fun j hj => ?_, mSe, F6⟩
  · have hr10 : inR (Int32.ofNat i) 10 := oN_in (by omega) hi'
    have hx10 : (Int32.ofNat i).toNatClampNeg = i := oN_ix (by omega)
    have hy32 : y % 32 = 11 := by omega
    have hcl : f_Cl_init x w v y C3 = some C4 := by
      rw [← hC4]
      simp only [f_Cl_init, lte]
    unfold f_Tx_parse_b99
    rw [nx_, lte, lte, e6, cp, b2g, gd_pos hy32, hcl, bdg, gd_pos hr10, hx10, lte, oN_s, lte, C6.2.2.1, C6.1]
    by_cases q : a < n
    · rw [if_pos ((oN_lt (by omega) (by omega)).mpr q), if_pos q, lte]
    · rw [if_neg (fun z => q ((oN_lt (by omega) (by omega)).mp z)), if_neg q]
  · rw [I6 _ _ (by omega)]; exact I4x0
  · rw [I6 _ _ (by omega)]; exact I4x1
  · rw [R6, if_neg (by omega), R4, if_pos ⟨rfl, rfl⟩]; omega
  · rw [R6, if_neg (by omega), R4, if_pos ⟨rfl, rfl⟩]; unfold hReg; omega
  · rw [R6, if_neg (by omega), R4, if_pos ⟨rfl, rfl⟩]; exact ly
  · rw [R6, if_neg (by omega), R4, if_pos ⟨rfl, rfl⟩, I6 _ _ (by omega), I4y]; exact ey k hk
  · rw [R6, if_neg (by omega), R4, if_pos ⟨rfl, rfl⟩, z6]; omega
  · rw [R6, if_pos ⟨rfl, rfl⟩]
  · rw [R6, if_neg (fun z => hj z.2), (F4.1 6947152 j (by unfold neP; omega)).2.1]
/-! A CLAUSE, on both sides -/
def wfq (q : Cls) : Prop := 0 ≤ q.1 ∧ q.1 ≤ 3 ∧ 0 ≤ q.2.1 ∧ q.2.1 ≤ 99 ∧ q.2.2.length ≤ 100 ∧ (q.1 ≤ 1 → depS q.2.2 0 = some 1)
def MCl (M : Mem) (k sB : Nat) (q : Cls) : Prop := mI M 14026635 k = q.1 ∧ mI M 14157707 k = q.2.1 ∧ (q.1 ≤ 1 → mI M 14288779 k = Int32.ofNat sB ∧ mI M 14419851 k = Int32.ofNat (sB + q.2.2.length) ∧ ∀ t, t < q.2.2.length → mI M 14568203 (sB + t) = trS (q.2.2.getD t 0))
theorem MX.re {T : Nat → Int32} {n sB a d : Nat} {M : Mem} {W out : List Int32} (h : MX T n sB M a W d out) {L : Nat} (hL : out.length = L) : MX T n (sB + L) M a W d [] := by
  subst hL
  obtain ⟨x1, x2, x3, x4, x5, x6, x7, x8, x9⟩ := h
  exact ⟨x1, x2, x3, x4, x5, fun i hi' => by simp at hi', x7, x8, x9⟩
theorem wo_w (T : Nat → Int32) (n a : Nat) : woM T n a < 4 := by
  unfold woM
  split
  · split <;> decide
  · split <;> decide
theorem clause_j {T : Nat → Int32} {n f sB k a d i z0 : Nat} {C M : Mem} {code W : List Int32} {K : Int32 → Mem → Option (Int32 × Mem)} (ht : txt T n) (hf : 100 * f ≤ sB) (hf5 : f ≤ 5) (hk : k < 60) (hfk : 10 * f ≤ k) (hC : CX T n C a code) (hM : MX T n sB M a W d []) (hI : sB ≤ 100 * f + a) (hL : hLt M) (hz0 : 95 ≤ z0) (hz : z0 ≤ mZ C) (hi10 : i < 10) :
  (∃ a' q C' M' code' x W' d', f_Tx_parse_b36 K (Int32.ofNat i) C = (if a' < n then K (Int32.ofNat (i + 1)) C' else some (-1, C')) ∧ a < a' ∧ CX T n C' a' code' ∧ Fz (ctN z0) C C' ∧ CRz (mZ C') C' x q ∧ mR C' 6947152 i = x ∧ (∀ j, j ≠ i → mR C' 6947152 j = mR C 6947152 j) ∧ mI C' 6684679 4 = Int32.ofNat (i + 1) ∧ f_M_takesClause (Int32.ofNat k) M = some (1, M') ∧ MX T n (sB + q.2.2.length) M' a' W' d' [] ∧ sB + q.2.2.length ≤ 100 * f + a' ∧ Fz (mtK sB k) M M' ∧ MCl M' k sB q ∧ wfq q) ∨
  (∃ a' C' M', f_Tx_parse_b36 K (Int32.ofNat i) C = some (Int32.ofNat a', C') ∧ a' ≤ n ∧ Fz (ctN z0) C C' ∧ f_M_takesClause (Int32.ofNat k) M = some (0, M') ∧ mI M' 12451850 15 = Int32.ofNat a' ∧ Fz (mtK sB k) M M') := by
  have hn := ht.1
  have hr : inR (Int32.ofNat k) 60 := oN_in (by omega) hk
  have hx : (Int32.ofNat k).toNatClampNeg = k := oN_ix (by omega)
  obtain ⟨C1, w1, w2, w3⟩ := word_c hC ht
  obtain ⟨M1, m1, m2, m3, m4⟩ := head_m hk hM ht hL
  have hw4 := wo_w T n a
  have w3' : Fz (ctN z0) C C1 := w3.mono (ctP_N z0)
  rw [wo_eq] at w1 w2
  by_cases q : lc T n (wl (woM T n a)) a = (wl (woM T n a)).length
  · rw [if_pos q] at w1 w2 m1
    rw [q] at m2
    have hl5 : 5 ≤ (wl (woM T n a)).length := by
      rcases (show woM T n a = 0 ∨ woM T n a = 1 ∨ woM T n a = 2 ∨ woM T n a = 3 by omega) with e | e | e | e <;> rw [e] <;> decide
    generalize hlw : (wl (woM T n a)).length = lw at *
    generalize woM T n a = w at *
    have w0 : 0 ≤ Int32.ofNat w := (oN_le (m := 0) (by omega) (by omega)).mpr (by omega)
    have w3i : Int32.ofNat w ≤ 3 := (oN_le (i := 3) (by omega) (by omega)).mpr (by omega)
    have w1i : Int32.ofNat w ≤ 1 ↔ w ≤ 1 := oN_le (i := 1) (by omega) (by omega)
    dsimp only at w1 w2
    obtain ⟨v, a2, C2, M2, v1, v2, v3, v4, v5, v6, v7, v8⟩ := num_j (f := (sB, k)) w2 m2 ht
    have v3' : Fz (ctN z0) C C2 := w3'.trans (v3.mono (ctP_N z0))
    have fm2 : Fz (mtK sB k) M M2 := m3.trans (v7.mono mtP_K)
    have b36 : f_Tx_parse_b36 K (Int32.ofNat i) C = f_Tx_parse_b53 K (Int32.ofNat i) (Int32.ofNat w) v C2 := by
      simp only [f_Tx_parse_b36, w1, bdg, ap2g, if_pos w0, v1]
    by_cases vn : v < 0
    · refine Or.inr ⟨a2, C2, M2, ?_, v2.2.2.2.1, v3', ?_, v6.2.2.1, fm2⟩
      · rw [b36]
        simp only [f_Tx_parse_b53, if_neg (Int32.not_le.mpr vn), v2.2.2.1]
      · rw [if_pos vn] at v5
        simp only [f_M_takesClause, m1, bdg, ap2g, if_neg i10, v5, if_true]
    · have v0 : 0 ≤ v := Int32.not_lt.mp vn
      have va : a + lw < a2 ∧ v ≤ 99 := by
        rcases v4 with y | y
        · rw [y.2.1] at v0; exact absurd v0 (by decide)
        · exact ⟨y.2.1, y.2.2.2⟩
      rw [if_neg vn] at v5
      have ha2 := v2.2.2.2.1
      -- the code begins anew
      have c3 : CX T n (setI C2 6684679 6 0) a2 [] := by
        obtain ⟨x1, x2, x3, x4, x5, x6, x7⟩ := v2
        exact ⟨(mSk (by decide)).trans x1, fun t ht' => (mS (by decide)).trans (x2 t ht'), (mSk (by decide)).trans x3, x4, mSe, fun t ht' => by simp at ht', by simp⟩
      have f3 : Fz (ctN z0) C (setI C2 6684679 6 0) := v3'.set (Or.inl (Or.inl ⟨rfl, Or.inr rfl⟩)) _
      have b53 : f_Tx_parse_b36 K (Int32.ofNat i) C = if w ≤ 1 then f_Tx_parse_b77 K (Int32.ofNat i) (Int32.ofNat w) v (setI C2 6684679 6 0) else f_Tx_parse_b99 K (Int32.ofNat i) (Int32.ofNat w) v (setI C2 6684679 6 0) := by
        rw [b36]
        simp only [f_Tx_parse_b53, if_pos v0, lte]
        rcases (show w = 0 ∨ w = 1 ∨ w = 2 ∨ w = 3 by omega) with e | e | e | e <;> subst e <;> rfl
      have hm3 : ∀ j, mR (setI C2 6684679 6 0) 6947152 j = mR C 6947152 j := fun j => by
        rw [mR_setI, (v3.1 6947152 j (by unfold ctP; omega)).2.1, (w3.1 6947152 j (by unfold ctP; omega)).2.1]
      generalize setI C2 6684679 6 0 = C3 at *
      have z3 : z0 ≤ mZ C3 := Nat.le_trans hz f3.2
      -- the model's number
      have x13 : (14157707 : Nat) = 14157707 := rfl
      have m5 := v6.to (x := 14157707) (Or.inr (Or.inr (Or.inl rfl))) k v
      have fm5 : Fz (mtK sB k) M (setI M2 14157707 k v) := fm2.set (Or.inr ⟨Or.inr (Or.inl rfl), rfl⟩) _
      have wk5 : mI (setI M2 14157707 k v) 14026635 k = Int32.ofNat w := (mS (by decide)).trans (((v7.1 14026635 k (by unfold mtP; omega)).1).trans m4)
      have nk5 : mI (setI M2 14157707 k v) 14157707 k = v := mSe
      have cl5 : f_M_takesClause (Int32.ofNat k) M = if 1 < Int32.ofNat w then some (1, setI M2 14157707 k v) else b2 (f_M_takes 32 (setI M2 14157707 k v)) fun r7 M6 => if r7 = 0 then some (0, M6) else b2 (f_M_takesE (Int32.ofNat k) M6) fun r9 M8 => if r9 = 0 then some (0, M8) else some (1, M8) := by
        simp only [f_M_takesClause, m1, bdg, ap2g, if_neg i10, v5, gd_pos hr, hx, v8 v0, lte, wk5]
      generalize setI M2 14157707 k v = M5 at *
      by_cases w2' : w ≤ 1
      · have n1 : ¬ 1 < Int32.ofNat w := fun z => Int32.not_lt.mpr (w1i.mpr w2') z
        rw [if_pos w2'] at b53
        rw [if_neg n1] at cl5
        obtain ⟨C4, t1, t2, t3⟩ := takes_c c3 ht (c := 32) (by decide)
        obtain ⟨M6, s1, s2, s3⟩ := takes_m (f := (sB, k)) m5 ht (c := 32) (by decide)
        have f4 : Fz (ctN z0) C C4 := f3.trans (t3.mono (ctP_N z0))
        have fm6 : Fz (mtK sB k) M M6 := fm5.trans (s3.mono mtP_K)
        by_cases q32 : nx T n a2 = 32
        · have han := nx_lt q32 (by decide)
          rw [if_pos q32] at t1 t2 s1 s2
          rcases expr_j (k := k) ht hf hf5 hk hfk t2 s2 (by omega) with ⟨a3, cs, C5, M7, e1, e2, e3, e4, e5, e6, e7, e8, e9, e10, e11⟩ | ⟨a3, code', C5, M7, e1, e2, e3, e4, e5, e6, e7⟩
          · have ha3 := e2.2.2.2.1
            have f5 : Fz (ctN z0) C C5 := f4.trans (e5.mono (ctP_N z0))
            have z5 : z0 ≤ mZ C5 := Nat.le_trans hz f5.2
            obtain ⟨C6, x, g1, g2, g3, g4, g5, g6, g7⟩ := b99_c (K := K) (w := Int32.ofNat w) (v := v) ht e2 (by omega) (by omega) hi10
            have fm7 : Fz (mtK sB k) M M7 := fm6.trans (e7.mono fun y t z => by
              rcases z with z | z
              · exact Or.inl z
              · exact Or.inr ⟨Or.inr (Or.inr z.1), z.2⟩)
            refine Or.inl ⟨a3, (Int32.ofNat w, v, cs), C6, M7, cs, x, [], 0, ?_, by omega, g2, f5.trans (g7.mono fun y t z => ?_), g3, g4, fun j hj => ?_, g6, ?_, e6.re (by simp), by simp only; omega, fm7, ⟨?_, ?_, fun _ => ⟨e9, e10, fun t ht' => ?_⟩⟩, w0, w3i, v0, va.2, by simp only; omega, fun _ => e4⟩
            · rw [b53]
              simp only [f_Tx_parse_b77, t1, bdg, ap2g, if_neg i10, e1]
              exact g1
            · rcases z with z | z | z
              · exact Or.inr (Or.inl z)
              · exact Or.inr (Or.inr (Or.inl z))
              · exact Or.inr (Or.inr (Or.inr (by omega)))
            · rw [g5 j hj]
              have e5' := (e5.1 6947152 j (by unfold ctP; omega)).2.1
              have t3' := (t3.1 6947152 j (by unfold ctP; omega)).2.1
              rw [e5', t3', hm3]
            · rw [cl5, s1, b2g, if_neg i10, e8, b2g, if_neg i10]
            · rw [(e7.1 14026635 k (by unfold mtQ mtP; omega)).1, (s3.1 14026635 k (by unfold mtP; omega)).1]; exact wk5
            · rw [(e7.1 14157707 k (by unfold mtQ mtP; omega)).1, (s3.1 14157707 k (by unfold mtP; omega)).1]; exact nk5
            · have := e6.2.2.2.2.2.1 t (by rw [List.length_map]; exact ht')
              rw [this]
              simp [List.getD, ht']
          · refine Or.inr ⟨a3, C5, M7, ?_, e2.2.2.2.1, f4.trans (e4.mono (ctP_N z0)), ?_, e6, fm6.trans (e5.mono fun y t z => by
              rcases z with z | z
              · exact Or.inl z
              · exact Or.inr ⟨Or.inr (Or.inr z.1), z.2⟩)⟩
            · rw [b53]
              simp only [f_Tx_parse_b77, t1, bdg, ap2g, if_neg i10, e1, if_true, e2.2.2.1]
            · rw [cl5, s1, b2g, if_neg i10, e7, b2g, if_pos rfl]
        · rw [if_neg q32] at t1 t2 s1 s2
          refine Or.inr ⟨a2, C4, M6, ?_, ha2, f4, ?_, s2.2.2.1, fm6⟩
          · rw [b53]
            simp only [f_Tx_parse_b77, t1, bdg, ap2g, if_true, t2.2.2.1]
          · rw [cl5, s1, b2g, if_pos rfl]
      · have n1 : 1 < Int32.ofNat w := Int32.not_le.mp fun z => w2' (w1i.mp z)
        rw [if_neg w2'] at b53
        rw [if_pos n1] at cl5
        obtain ⟨C6, x, g1, g2, g3, g4, g5, g6, g7⟩ := b99_c (K := K) (w := Int32.ofNat w) (v := v) ht c3 (by simp) (by omega) hi10
        refine Or.inl ⟨a2, (Int32.ofNat w, v, []), C6, M5, [], x, W, d, b53.trans g1, by omega, g2, f3.trans (g7.mono fun y t z => ?_), g3, g4, fun j hj => ?_, g6, cl5, m5.re rfl, by simp only [List.length_nil]; omega, fm5, ⟨wk5, nk5, fun z => absurd (w1i.mp z) w2'⟩, w0, w3i, v0, va.2, by simp, fun z => absurd (w1i.mp z) w2'⟩
        · rcases z with z | z | z
          · exact Or.inr (Or.inl z)
          · exact Or.inr (Or.inr (Or.inl z))
          · exact Or.inr (Or.inr (Or.inr (by omega)))
        · rw [g5 j hj, hm3]
  · rw [if_neg q] at w1 w2 m1
    have n1 : ¬ (0 : Int32) ≤ -1 := by decide
    refine Or.inr ⟨a + lc T n (wl (woM T n a)) a, C1, M1, ?_, w2.2.2.2.1, w3', ?_, m2.2.2.1, m3⟩
    · simp only [f_Tx_parse_b36, w1, bdg, ap2g, if_neg n1, f_Tx_parse_b53, w2.2.2.1]
    · simp only [f_M_takesClause, m1, bdg, ap2g, if_true]
