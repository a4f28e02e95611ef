/-! THE TEXT AND ITS SIGNS -/
/-- frames over cells that may be made meanwhile -/
def Fz (P : Nat → Nat → Prop) (C C' : Mem) : Prop := (∀ a k, ¬ P a k → mI C' a k = mI C a k ∧ mR C' a k = mR C a k ∧ mL C' a k = mL C a k) ∧ mZ C ≤ mZ C'
theorem Fz.rf {P : Nat → Nat → Prop} {C : Mem} : Fz P C C := ⟨fun _ _ _ => ⟨rfl, rfl, rfl⟩, Nat.le_refl _⟩
theorem Fz.trans {P : Nat → Nat → Prop} {A B C : Mem} (h : Fz P A B) (k : Fz P B C) : Fz P A C :=
  ⟨fun a i q => by
    obtain ⟨x1, x2, x3⟩ := h.1 a i q
    obtain ⟨y1, y2, y3⟩ := k.1 a i q
    exact ⟨y1.trans x1, y2.trans x2, y3.trans x3⟩, Nat.le_trans h.2 k.2⟩
theorem Fz.mono {P Q : Nat → Nat → Prop} (hPQ : ∀ a k, P a k → Q a k) {A B : Mem} (h : Fz P A B) : Fz Q A B := ⟨fun a i q => h.1 a i fun z => q (hPQ a i z), h.2⟩
theorem Fz.set {P : Nat → Nat → Prop} {A B : Mem} (h : Fz P A B) {a k : Nat} (hp : P a k) (v : Int32) : Fz P A (setI B a k v) :=
  ⟨fun b i q => by
    obtain ⟨x1, x2, x3⟩ := h.1 b i q
    exact ⟨(if_neg (fun e : b = a ∧ i = k => q (e.1 ▸ e.2 ▸ hp))).trans x1, x2, x3⟩, h.2⟩
theorem Fz.setr {P : Nat → Nat → Prop} {A B : Mem} (h : Fz P A B) {a k : Nat} (hp : P a k) (v : Nat) : Fz P A (setR B a k v) :=
  ⟨fun b i q => by
    obtain ⟨x1, x2, x3⟩ := h.1 b i q
    exact ⟨x1, (if_neg (fun e : b = a ∧ i = k => q (e.1 ▸ e.2 ▸ hp))).trans x2, x3⟩, h.2⟩
/-- the class's text: length n, signs T, at a, code -/
def CX (T : Nat → Int32) (n : Nat) (C : Mem) (a : Nat) (code : List Int32) : Prop := mI C 6684679 0 = Int32.ofNat n ∧ (∀ i, i < n → mI C 6818955 i = T i) ∧ mI C 6684679 2 = Int32.ofNat a ∧ a ≤ n ∧ mI C 6684679 6 = Int32.ofNat code.length ∧ (∀ i, i < code.length → mI C 7081099 i = code.getD i 0) ∧ code.length ≤ a
def ctP (a k : Nat) : Prop := (a = 6684679 ∧ (k = 2 ∨ k = 6)) ∨ a = 7081099
def txt (T : Nat → Int32) (n : Nat) : Prop := n ≤ 100 ∧ ∀ i, i < n → 0 ≤ T i ∧ T i ≤ 127
def nx (T : Nat → Int32) (n a : Nat) : Int32 := if a < n then T a else -1
theorem CX.at {T : Nat → Int32} {n a : Nat} {C : Mem} {code : List Int32} (h : CX T n C a code) {a' : Nat} (h1 : a ≤ a') (h2 : a' ≤ n) : CX T n (setI C 6684679 2 (Int32.ofNat a')) a' code := by
  obtain ⟨x1, x2, x3, x4, x5, x6, x7⟩ := h
  exact ⟨(mSk (by decide)).trans x1, fun i hi' => (mS (by decide)).trans (x2 i hi'), mSe, h2, (mSk (by decide)).trans x5, fun i hi' => (mS (by decide)).trans (x6 i hi'), by omega⟩
theorem cx_fr {C : Mem} (v : Int32) : Fz ctP C (setI C 6684679 2 v) := Fz.rf.set (Or.inl ⟨rfl, Or.inl rfl⟩) v
theorem takes_c {T : Nat → Int32} {n a : Nat} {C : Mem} {code : List Int32} (h : CX T n C a code) (ht : txt T n) {c : Int32} (hc : 0 ≤ c) : ∃ C', f_Tx_takes c C = some (if nx T n a = c then 1 else 0, C') ∧ CX T n C' (if nx T n a = c then a + 1 else a) code ∧ Fz ctP C C' := by
  obtain ⟨x1, x2, x3, x4, x5, x6, x7⟩ := id h
  have hn := ht.1
  unfold f_Tx_takes nx
  rw [x1, x3]
  by_cases q : a < n
  · have hle : ¬ Int32.ofNat n ≤ Int32.ofNat a := fun z => by have := (oN_le (by omega) (by omega)).mp z; omega
    rw [if_neg hle, if_pos q, gd_pos (oN_in (by omega) (by omega)), oN_ix (by omega), x2 a q]
    by_cases z : T a = c
    · rw [if_pos z, if_pos z, if_pos z]
      refine ⟨_, ?_, h.at (by omega) (by omega), cx_fr _⟩
      unfold f_Tx_takes_b29
      rw [if_neg (by decide), x3, lte, gd_pos (Or.inr rfl), oN_s]
    · rw [if_neg z, if_neg z, if_neg z]
      refine ⟨_, ?_, h.at (Nat.le_refl a) x4, cx_fr _⟩
      unfold f_Tx_takes_b28 f_Tx_takes_b29
      rw [if_pos rfl, x3, lte, gd_pos (Or.inl rfl), Int32.add_zero]
  · have hle : Int32.ofNat n ≤ Int32.ofNat a := (oN_le (by omega) (by omega)).mpr (by omega)
    have n1 : ¬ (-1 : Int32) = c := fun e => by rw [← e] at hc; exact absurd hc (by decide)
    rw [if_pos hle, if_neg q, if_neg n1, if_neg n1]
    refine ⟨_, ?_, h.at (Nat.le_refl a) x4, cx_fr _⟩
    unfold f_Tx_takes_b28 f_Tx_takes_b29
    rw [if_pos rfl, x3, lte, gd_pos (Or.inl rfl), Int32.add_zero]
theorem add_c {T : Nat → Int32} {n a : Nat} {C : Mem} {code : List Int32} (h : CX T n C a code) (ht : txt T n) (hl : code.length < a) (c : Int32) : ∃ C', f_Tx_addCode c C = some C' ∧ CX T n C' a (code ++ [c]) ∧ Fz ctP C C' := by
  obtain ⟨x1, x2, x3, x4, x5, x6, x7⟩ := h
  have hn := ht.1
  refine ⟨setI (setI C 7081099 code.length c) 6684679 6 (Int32.ofNat (code.length + 1)), ?_, ⟨?_, fun i hi' => ?_, ?_, x4, ?_, fun i hi' => ?_, ?_⟩, (Fz.rf.set (Or.inr rfl) _).set (Or.inl ⟨rfl, Or.inr rfl⟩) _⟩
  · have c100 : ¬ (100 : Int32) ≤ Int32.ofNat code.length := fun z => by have := (oN_le (m := 100) (by omega) (by omega)).mp z; omega
    unfold f_Tx_addCode
    rw [x5, if_neg c100, gd_pos (oN_in (by omega) (by omega)), oN_ix (by omega), lte, mS (by decide), x5, oN_s, lte]
  · rw [mSk (by decide), mS (by decide)]; exact x1
  · rw [mS (by decide), mS (by decide)]; exact x2 i hi'
  · rw [mSk (by decide), mS (by decide)]; exact x3
  · rw [mSe, List.length_append]; rfl
  · rw [mS (by decide)]
    rw [List.length_append] at hi'
    by_cases q : i < code.length
    · rw [mSk (by omega), x6 i q]
      simp [List.getD, List.getElem?_append_left q]
    · have e : i = code.length := by simp at hi'; omega
      subst e
      rw [mSe]; simp [List.getD]
  · rw [List.length_append]; simp; omega
/-! the model's text: at a, waits W (the latest first), open d, signs out from sB on -/
def MX (T : Nat → Int32) (n sB : Nat) (M : Mem) (a : Nat) (W : List Int32) (d : Nat) (out : List Int32) : Prop := mI M 12451850 14 = Int32.ofNat n ∧ (∀ i, i < n → mI M 13765771 i = T i) ∧ mI M 12451850 15 = Int32.ofNat a ∧ a ≤ n ∧ mI M 12451850 25 = Int32.ofNat (sB + out.length) ∧ (∀ i, i < out.length → mI M 14568203 (sB + i) = out.getD i 0) ∧ mI M 12451850 26 = Int32.ofNat W.length ∧ (∀ i, i < W.length → mI M 14683307 (W.length - 1 - i) = W.getD i 0) ∧ mI M 12451850 27 = Int32.ofNat d
/-- what an expression changes in the model: from sk.1 on the signs, sk.2 the clause -/
def mtP (sk : Nat × Nat) (a k : Nat) : Prop := (a = 12451850 ∧ (k = 15 ∨ k = 16 ∨ k = 25 ∨ k = 26 ∨ k = 27)) ∨ (a = 14568203 ∧ sk.1 ≤ k) ∨ a = 14683307 ∨ (a = 14419851 ∧ k = sk.2)
theorem next_m {T : Nat → Int32} {n sB a d : Nat} {M : Mem} {W out : List Int32} (h : MX T n sB M a W d out) (ht : txt T n) : f_M_next M = some (nx T n a) := by
  obtain ⟨x1, x2, x3, x4, -⟩ := h
  have hn := ht.1
  unfold f_M_next nx
  rw [x1, x3]
  by_cases q : a < n
  · have hle : ¬ Int32.ofNat n ≤ Int32.ofNat a := fun z => by have := (oN_le (by omega) (by omega)).mp z; omega
    rw [if_neg hle, if_pos q, gd_pos (oN_in (by omega) (by omega)), oN_ix (by omega), x2 a q]
  · have hle : Int32.ofNat n ≤ Int32.ofNat a := (oN_le (by omega) (by omega)).mpr (by omega)
    rw [if_pos hle, if_neg q]
theorem MX.at {T : Nat → Int32} {n sB a d : Nat} {M : Mem} {W out : List Int32} (h : MX T n sB M a W d out) {a' : Nat} (h2 : a' ≤ n) : MX T n sB (setI M 12451850 15 (Int32.ofNat a')) a' W d out := by
  obtain ⟨x1, x2, x3, x4, x5, x6, x7, x8, x9⟩ := h
  exact ⟨(mSk (by decide)).trans x1, fun i hi' => (mS (by decide)).trans (x2 i hi'), mSe, h2, (mSk (by decide)).trans x5, fun i hi' => (mS (by decide)).trans (x6 i hi'), (mSk (by decide)).trans x7, fun i hi' => (mS (by decide)).trans (x8 i hi'), (mSk (by decide)).trans x9⟩
theorem MX.dig {T : Nat → Int32} {n sB a d : Nat} {M : Mem} {W out : List Int32} (h : MX T n sB M a W d out) (v : Int32) : MX T n sB (setI M 12451850 16 v) a W d out := by
  obtain ⟨x1, x2, x3, x4, x5, x6, x7, x8, x9⟩ := h
  exact ⟨(mSk (by decide)).trans x1, fun i hi' => (mS (by decide)).trans (x2 i hi'), (mSk (by decide)).trans x3, x4, (mSk (by decide)).trans x5, fun i hi' => (mS (by decide)).trans (x6 i hi'), (mSk (by decide)).trans x7, fun i hi' => (mS (by decide)).trans (x8 i hi'), (mSk (by decide)).trans x9⟩
theorem mt15 {f : Nat × Nat} {M : Mem} (v : Int32) : Fz (mtP f) M (setI M 12451850 15 v) := Fz.rf.set (Or.inl ⟨rfl, Or.inl rfl⟩) v
theorem mt_11 {f : Nat × Nat} {M : Mem} {k : Nat} (hk : k = 15 ∨ k = 16 ∨ k = 25 ∨ k = 26 ∨ k = 27) (v : Int32) : Fz (mtP f) M (setI M 12451850 k v) := Fz.rf.set (Or.inl ⟨rfl, hk⟩) v
theorem takes_m {T : Nat → Int32} {n sB a d : Nat} {f : Nat × Nat} {M : Mem} {W out : List Int32} (h : MX T n sB M a W d out) (ht : txt T n) {c : Int32} (hc : 0 ≤ c) : ∃ M', f_M_takes c M = some (if nx T n a = c then 1 else 0, M') ∧ MX T n sB M' (if nx T n a = c then a + 1 else a) W d out ∧ Fz (mtP f) M M' := by
  have hx := h.2.2.1
  unfold f_M_takes
  rw [next_m h ht, bdg]
  by_cases q : nx T n a = c
  · have han : a < n := by
      unfold nx at q
      by_cases z : a < n
      · exact z
      · rw [if_neg z] at q
        rw [← q] at hc; exact absurd hc (by decide)
    rw [if_pos q, if_pos q, if_pos q, lte, hx, oN_s]
    exact ⟨_, rfl, h.at (by omega), mt15 _⟩
  · rw [if_neg q, if_neg q, if_neg q]
    exact ⟨M, rfl, h, Fz.rf⟩
theorem put_m {T : Nat → Int32} {n sB a d f kk : Nat} {M : Mem} {W out : List Int32} (h : MX T n sB M a W d out) (hs : sB + out.length < 600) (hf : 100 * f ≤ sB) (v : Int32) : ∃ M', f_M_put v M = some M' ∧ MX T n sB M' a W d (out ++ [v]) ∧ Fz (mtP (sB, kk)) M M' := by
  obtain ⟨x1, x2, x3, x4, x5, x6, x7, x8, x9⟩ := h
  refine ⟨setI (setI M 14568203 (sB + out.length) v) 12451850 25 (Int32.ofNat (sB + (out.length + 1))), ?_, ⟨?_, fun i hi' => ?_, ?_, x4, ?_, fun i hi' => ?_, ?_, fun i hi' => ?_, ?_⟩, (Fz.rf.set (Or.inr (Or.inl ⟨rfl, Nat.le_add_right _ _⟩)) _).set (Or.inl ⟨rfl, Or.inr (Or.inr (Or.inl rfl))⟩) _⟩
  · unfold f_M_put
    rw [x5, gd_pos (oN_in (by omega) hs), oN_ix (by omega), lte, mS (by decide), x5, oN_s, lte]; rfl
  · rw [mSk (by decide), mS (by decide)]; exact x1
  · rw [mS (by decide), mS (by decide)]; exact x2 i hi'
  · rw [mSk (by decide), mS (by decide)]; exact x3
  · rw [mSe, List.length_append]; rfl
  · rw [mS (by decide)]
    rw [List.length_append] at hi'
    by_cases q : i < out.length
    · rw [mSk (by omega), x6 i q]
      simp [List.getD, List.getElem?_append_left q]
    · have e : i = out.length := by simp at hi'; omega
      subst e
      rw [mSe]; simp [List.getD]
  · rw [mSk (by decide), mS (by decide)]; exact x7
  · rw [mS (by decide), mS (by decide)]; exact x8 i hi'
  · rw [mSk (by decide), mS (by decide)]; exact x9
theorem MX.push {T : Nat → Int32} {n sB a d : Nat} {M : Mem} {W out : List Int32} (h : MX T n sB M a W d out) (v : Int32) : MX T n sB (setI (setI M 14683307 W.length v) 12451850 26 (Int32.ofNat (W.length + 1))) a (v :: W) d out := by
  obtain ⟨x1, x2, x3, x4, x5, x6, x7, x8, x9⟩ := h
  refine ⟨?_, fun i hi' => ?_, ?_, x4, ?_, fun i hi' => ?_, ?_, fun i hi' => ?_, ?_⟩
  · rw [mSk (by decide), mS (by decide)]; exact x1
  · rw [mS (by decide), mS (by decide)]; exact x2 i hi'
  · rw [mSk (by decide), mS (by decide)]; exact x3
  · rw [mSk (by decide), mS (by decide)]; exact x5
  · rw [mS (by decide), mS (by decide)]; exact x6 i hi'
  · rw [mSe]; rfl
  · rw [mS (by decide)]
    rw [List.length_cons] at hi' ⊢
    cases i with
    | zero => rw [show W.length + 1 - 1 - 0 = W.length by omega, mSe]; rfl
    | succ i => rw [mSk (by omega), show W.length + 1 - 1 - (i + 1) = W.length - 1 - i by omega, x8 i (by omega)]; rfl
  · rw [mSk (by decide), mS (by decide)]; exact x9
theorem MX.pop {T : Nat → Int32} {n sB a d : Nat} {M : Mem} {v : Int32} {W out : List Int32} (h : MX T n sB M a (v :: W) d out) : MX T n sB (setI M 12451850 26 (Int32.ofNat W.length)) a W d out := by
  obtain ⟨x1, x2, x3, x4, x5, x6, x7, x8, x9⟩ := h
  refine ⟨?_, fun i hi' => ?_, ?_, x4, ?_, fun i hi' => ?_, ?_, fun i hi' => ?_, ?_⟩
  · rw [mSk (by decide)]; exact x1
  · rw [mS (by decide)]; exact x2 i hi'
  · rw [mSk (by decide)]; exact x3
  · rw [mSk (by decide)]; exact x5
  · rw [mS (by decide)]; exact x6 i hi'
  · rw [mSe]
  · rw [mS (by decide)]
    have := x8 (i + 1) (by rw [List.length_cons]; omega)
    rw [List.length_cons, show W.length + 1 - 1 - (i + 1) = W.length - 1 - i by omega] at this
    rw [this]; rfl
  · rw [mSk (by decide)]; exact x9
theorem MX.op {T : Nat → Int32} {n sB a d : Nat} {M : Mem} {W out : List Int32} (h : MX T n sB M a W d out) (d' : Nat) : MX T n sB (setI M 12451850 27 (Int32.ofNat d')) a W d' out := by
  obtain ⟨x1, x2, x3, x4, x5, x6, x7, x8, x9⟩ := h
  exact ⟨(mSk (by decide)).trans x1, fun i hi' => (mS (by decide)).trans (x2 i hi'), (mSk (by decide)).trans x3, x4, (mSk (by decide)).trans x5, fun i hi' => (mS (by decide)).trans (x6 i hi'), (mSk (by decide)).trans x7, fun i hi' => (mS (by decide)).trans (x8 i hi'), mSe⟩
theorem MX.top {T : Nat → Int32} {n sB a d : Nat} {M : Mem} {v : Int32} {W out : List Int32} (h : MX T n sB M a (v :: W) d out) : mI M 14683307 W.length = v := by
  have := h.2.2.2.2.2.2.2.1 0 (by simp)
  rw [List.length_cons, show W.length + 1 - 1 - 0 = W.length by omega] at this
  exact this
