/-! A CODE'S TRUTH, from the facts that its tests look at: the class keeps truths as bits, the model as a row -/
def tsS (F : Nat → Int32) (c : Int32) : Bool :=
  if c / 100 - c / 100 / 3 * 3 = 0 then decide (F (c / 300).toNatClampNeg < c - c / 100 * 100) else if c / 100 - c / 100 / 3 * 3 = 1 then decide (F (c / 300).toNatClampNeg = c - c / 100 * 100) else decide (c - c / 100 * 100 < F (c / 300).toNatClampNeg)
def stS (F : Nat → Int32) (c : Int32) (st : List Bool) : List Bool :=
  if c = -1 then (!(st.headD false)) :: st.tail else if c = -2 then (st.tail.headD false && st.headD false) :: st.tail.tail else if c = -3 then (st.tail.headD false || st.headD false) :: st.tail.tail else tsS F c :: st
def evS (F : Nat → Int32) (cs : List Int32) (st : List Bool) : List Bool := cs.foldl (fun st c => stS F c st) st
def hdS (F : Nat → Int32) (cs : List Int32) : Bool := (evS F cs []).headD false
def bI (b : Bool) : Int32 := if b then 1 else 0
theorem b2g {α β : Type} (r : α) (M : Mem) (g : α → Mem → Option β) : b2 (some (r, M)) g = g r M := Eq.trans rfl rfl
theorem bdg {α β : Type} (x : α) (g : α → Option β) : bd (some x) g = g x := Eq.trans rfl rfl
/-- a test's parts -/
def okT (n : Nat) : Bool := (let c := Int32.ofNat n
  (c / 300).toNatClampNeg == n / 300 && decide (inR (c / 300) 6) && !decide (c / 300 < 0) && decide (c / 300 < 6) && trS c / 1000 == c / 300 && (c / 300 == Int32.ofNat (n / 300)) && trS c / 100 - trS c / 100 / 10 * 10 == c / 100 - c / 100 / 3 * 3 && trS c - trS c / 100 * 100 == c - c / 100 * 100 && decide (0 ≤ trS c) && !(trS c == -33) && !(c == -1) && !(c == -2) && !(c == -3))
theorem okT_is : (List.range 1800).all okT = true := by decide +kernel
theorem tst {c : Int32} (h : 0 ≤ c ∧ c < 1800) : ∃ l : Nat, l < 6 ∧ (c / 300).toNatClampNeg = l ∧ c / 300 = Int32.ofNat l ∧ inR (c / 300) 6 ∧ ¬ c / 300 < 0 ∧ c / 300 < 6 ∧ trS c / 1000 = Int32.ofNat l ∧ trS c / 100 - trS c / 100 / 10 * 10 = c / 100 - c / 100 / 3 * 3 ∧ trS c - trS c / 100 * 100 = c - c / 100 * 100 ∧ 0 ≤ trS c ∧ ¬ trS c = -33 ∧ ¬ c = -1 ∧ ¬ c = -2 ∧ ¬ c = -3 := by
  obtain ⟨n, hn, rfl⟩ := oN_of (p := c) (k := 1799) ⟨h.1, by grind⟩ (n := 1800) (by decide)
  have := List.all_eq_true.mp okT_is n (List.mem_range.mpr hn)
  simp only [okT, Bool.and_eq_true, beq_iff_eq, decide_eq_true_eq, Bool.not_eq_true', decide_eq_false_iff_not, beq_eq_false_iff_ne] at this
  obtain ⟨⟨⟨⟨⟨⟨⟨⟨⟨⟨⟨⟨a1, a2⟩, a3⟩, a4⟩, a5⟩, a6⟩, a7⟩, a8⟩, a9⟩, a10⟩, a11⟩, a12⟩, a13⟩ := this
  exact ⟨n / 300, by omega, a1, a6, a2, a3, a4, a5.trans a6, a7, a8, a9, a10, a11, a12, a13⟩
theorem getD_e {α : Type} {cs : List α} {i : Nat} (h : i < cs.length) (d : α) : cs.getD i d = cs[i] := by simp [List.getD, h]
theorem drop_c {α : Type} {cs : List α} {i : Nat} (h : i < cs.length) (d : α) : cs.drop i = cs.getD i d :: cs.drop (i + 1) := by
  rw [List.drop_eq_getElem_cons h, getD_e h]
theorem getD_mem {α : Type} {cs : List α} {i : Nat} (h : i < cs.length) (d : α) : cs.getD i d ∈ cs := by
  rw [getD_e h]; exact List.getElem_mem h
/-! the class: bits of a long -/
def bt (v : Int64) (i : Nat) : Bool := v.toBitVec.getLsbD i
def BR (v : Int64) (st : List Bool) : Prop := ∀ i, i < st.length → bt v i = st.getD i false
theorem bt_and (a b : Int64) (i : Nat) : bt (a &&& b) i = (bt a i && bt b i) := by unfold bt; rw [Int64.toBitVec_and, BitVec.getLsbD_and]
theorem bt_or (a b : Int64) (i : Nat) : bt (a ||| b) i = (bt a i || bt b i) := by unfold bt; rw [Int64.toBitVec_or, BitVec.getLsbD_or]
theorem bt_xor (a b : Int64) (i : Nat) : bt (a ^^^ b) i = Bool.xor (bt a i) (bt b i) := by unfold bt; rw [Int64.toBitVec_xor, BitVec.getLsbD_xor]
theorem bt_1 {i : Nat} (h : i < 64) : bt 1 i = decide (i = 0) := by
  have : (List.range 64).all (fun i => bt 1 i == decide (i = 0)) = true := by decide +kernel
  simpa using List.all_eq_true.mp this i (List.mem_range.mpr h)
theorem bt_m2 {i : Nat} (h : i < 64) : bt (-2) i = !decide (i = 0) := by
  have : (List.range 64).all (fun i => bt (-2) i == !decide (i = 0)) = true := by decide +kernel
  simpa using List.all_eq_true.mp this i (List.mem_range.mpr h)
theorem bt_shl {a : Int64} {i : Nat} (h : i < 64) : bt (a <<< ((1 : Int32).toInt64 &&& 63)) i = if i = 0 then false else bt a (i - 1) := by
  have e : ((1 : Int32).toInt64 &&& 63 : Int64) = 1 := by decide +kernel
  rw [e]
  have e2 : (a <<< (1 : Int64)).toBitVec = a.toBitVec <<< (1 : Nat) := Eq.trans rfl rfl
  unfold bt
  rw [e2, BitVec.getLsbD_shiftLeft]
  by_cases q : i = 0
  · subst q; simp
  · rw [if_neg q]
    have : ¬ i < 1 := by omega
    simp [this, h]
theorem bt_shr {a : Int64} {i : Nat} (h : i + 1 < 64) : bt ((a.toUInt64 >>> ((1 : Int32).toInt64.toUInt64 &&& Int64.toUInt64 63)).toInt64) i = bt a (i + 1) := by
  have e : ((1 : Int32).toInt64.toUInt64 &&& Int64.toUInt64 63 : UInt64) = 1 := by decide +kernel
  rw [e]
  have e2 : ((a.toUInt64 >>> (1 : UInt64)).toInt64).toBitVec = a.toBitVec >>> (1 : Nat) := Eq.trans rfl rfl
  unfold bt
  rw [e2, BitVec.getLsbD_ushiftRight, Nat.add_comm]
theorem cmp1 (v : Int64) : (lg_cmp (v &&& 1) 0 = 0) ↔ bt v 0 = false := by
  have k : lg_cmp (v &&& 1) 0 = 0 ↔ v &&& 1 = 0 := by
    unfold lg_cmp
    by_cases h : v &&& 1 > 0
    · rw [if_pos h]
      constructor
      · intro q; exact absurd q (by decide)
      · intro q; rw [q] at h; exact absurd h (by decide)
    · rw [if_neg h]
      by_cases h2 : v &&& 1 = 0
      · rw [if_pos h2]; exact ⟨fun _ => h2, fun _ => rfl⟩
      · rw [if_neg h2]; exact ⟨fun q => absurd q (by decide), fun q => absurd q h2⟩
  rw [k]
  constructor
  · intro q
    have : bt (v &&& 1) 0 = bt 0 0 := by rw [q]
    rw [bt_and, bt_1 (by decide)] at this
    have z : bt 0 0 = false := by decide +kernel
    rw [z] at this
    simpa using this
  · intro q
    apply Int64.toBitVec_inj.mp
    apply BitVec.eq_of_getLsbD_eq
    intro i hi'
    have := bt_and v 1 i
    unfold bt at this
    rw [this]
    have h1 := bt_1 hi'
    unfold bt at h1
    rw [h1]
    by_cases e : i = 0
    · subst e
      unfold bt at q
      rw [q]; simp
    · simp [e]
theorem br_tail {v : Int64} {st : List Bool} (h : BR v st) (hl : st.length < 64) {i : Nat} (hi' : i < st.tail.length) : bt v (i + 1) = st.tail.getD i false := by
  cases st with
  | nil => simp at hi'
  | cons b r =>
    have := h (i + 1) (by simpa using hi')
    simpa using this
theorem br_head {v : Int64} {st : List Bool} (h : BR v st) (h1 : 1 ≤ st.length) : bt v 0 = st.headD false := by
  cases st with
  | nil => simp at h1
  | cons b r => simpa using h 0 (by simp)
theorem br_not {v : Int64} {st : List Bool} (h : BR v st) (h1 : 1 ≤ st.length) (hl : st.length < 64) : BR (v ^^^ 1) ((!(st.headD false)) :: st.tail) := by
  intro i hi'
  have hl2 : st.tail.length = st.length - 1 := List.length_tail
  rw [List.length_cons] at hi'
  rw [bt_xor, bt_1 (by omega)]
  cases i with
  | zero => rw [br_head h h1]; simp
  | succ i =>
    rw [br_tail h hl (by omega)]; simp
theorem br_and {v : Int64} {st : List Bool} (h : BR v st) (h1 : 2 ≤ st.length) (hl : st.length < 64) : BR (((v.toUInt64 >>> ((1 : Int32).toInt64.toUInt64 &&& Int64.toUInt64 63)).toInt64) &&& (v ||| (-2))) ((st.tail.headD false && st.headD false) :: st.tail.tail) := by
  intro i hi'
  have hl2 : st.tail.tail.length = st.length - 2 := by rw [List.length_tail, List.length_tail]; omega
  rw [List.length_cons] at hi'
  rw [bt_and, bt_or, bt_shr (by omega), bt_m2 (by omega)]
  cases st with
  | nil => simp at h1
  | cons b r =>
    cases r with
    | nil => simp at h1
    | cons c r =>
      have q := h (i + 1) (by simp at hi' hl2 ⊢; omega)
      rw [q]
      cases i with
      | zero =>
        have q0 := h 0 (by simp)
        rw [q0]; simp
      | succ i => simp
theorem br_or {v : Int64} {st : List Bool} (h : BR v st) (h1 : 2 ≤ st.length) (hl : st.length < 64) : BR (((v.toUInt64 >>> ((1 : Int32).toInt64.toUInt64 &&& Int64.toUInt64 63)).toInt64) ||| (v &&& 1)) ((st.tail.headD false || st.headD false) :: st.tail.tail) := by
  intro i hi'
  have hl2 : st.tail.tail.length = st.length - 2 := by rw [List.length_tail, List.length_tail]; omega
  rw [List.length_cons] at hi'
  rw [bt_or, bt_and, bt_shr (by omega), bt_1 (by omega)]
  cases st with
  | nil => simp at h1
  | cons b r =>
    cases r with
    | nil => simp at h1
    | cons c r =>
      have q := h (i + 1) (by simp at hi' hl2 ⊢; omega)
      rw [q]
      cases i with
      | zero =>
        have q0 := h 0 (by simp)
        rw [q0]; simp
      | succ i => simp
theorem br_put {v : Int64} {st : List Bool} (h : BR v st) (hl : st.length < 63) (b : Bool) {w : Int64} (hw : ∀ i, i < 64 → bt w i = (decide (i = 0) && b)) : BR ((v <<< ((1 : Int32).toInt64 &&& 63)) ||| w) (b :: st) := by
  intro i hi'
  rw [List.length_cons] at hi'
  rw [bt_or, bt_shl (by omega), hw i (by omega)]
  cases i with
  | zero => simp
  | succ i =>
    rw [if_neg (by omega), Nat.add_sub_cancel, h i (by omega)]; simp
theorem w1_ok : ∀ i, i < 64 → bt ((1 : Int32).toInt64) i = (decide (i = 0) && true) := by
  intro i hi'
  have : (List.range 64).all (fun i => bt ((1 : Int32).toInt64) i == (decide (i = 0) && true)) = true := by decide +kernel
  simpa using List.all_eq_true.mp this i (List.mem_range.mpr hi')
theorem w0_ok : ∀ i, i < 64 → bt ((0 : Int32).toInt64) i = (decide (i = 0) && false) := by
  intro i hi'
  have : (List.range 64).all (fun i => bt ((0 : Int32).toInt64) i == (decide (i = 0) && false)) = true := by decide +kernel
  simpa using List.all_eq_true.mp this i (List.mem_range.mpr hi')
theorem testHolds_c {C : Mem} {p : Nat} {F : Nat → Int32} (hp : lnA p = 6) (hF : ∀ l, l < 6 → mI C p l = F l) {c : Int32} (h : 0 ≤ c ∧ c < 1800) : f_Cl_testHolds c p C = some (bI (tsS F c)) := by
  obtain ⟨l, l6, a1, a2, a3, a4, a5, -, -, -, -, -, -, -, -⟩ := tst h
  unfold f_Cl_testHolds tsS
  simp only [lte]
  rw [hp, if_neg a4, if_pos (show c / 300 < Int32.ofNat 6 from a5)]
  simp only [gd_pos a3]
  rw [a1, hF l l6]
  by_cases h0 : c / 100 - c / 100 / 3 * 3 = 0
  · rw [if_pos h0, if_pos h0]
    by_cases q : F l < c - c / 100 * 100
    · rw [if_neg (by grind), decide_eq_true q]; rfl
    · rw [if_pos (by grind), decide_eq_false q]; rfl
  · rw [if_neg h0, if_neg h0]
    by_cases h1 : c / 100 - c / 100 / 3 * 3 = 1
    · rw [if_pos h1, if_pos h1]
      by_cases q : F l = c - c / 100 * 100
      · rw [if_pos q, decide_eq_true q]; rfl
      · rw [if_neg q, decide_eq_false q]; rfl
    · rw [if_neg h1, if_neg h1]
      by_cases q : c - c / 100 * 100 < F l
      · rw [if_neg (by grind), decide_eq_true q]; rfl
      · rw [if_pos (by grind), decide_eq_false q]; rfl
theorem depS_c {c : Int32} {cs : List Int32} {d : Nat} (h : depS (c :: cs) d = some 1) : (c = -1 ∧ 1 ≤ d ∧ depS cs d = some 1) ∨ ((c = -2 ∨ c = -3) ∧ 2 ≤ d ∧ depS cs (d - 1) = some 1) ∨ (0 ≤ c ∧ c < 1800 ∧ d < 60 ∧ depS cs (d + 1) = some 1) := by
  simp only [depS] at h
  by_cases h1 : c = -1
  · rw [if_pos h1] at h
    by_cases h2 : 1 ≤ d
    · rw [if_pos h2] at h; exact Or.inl ⟨h1, h2, h⟩
    · rw [if_neg h2] at h; cases h
  · rw [if_neg h1] at h
    by_cases h2 : c = -2 ∨ c = -3
    · rw [if_pos h2] at h
      by_cases h3 : 2 ≤ d
      · rw [if_pos h3] at h; exact Or.inr (Or.inl ⟨h2, h3, h⟩)
      · rw [if_neg h3] at h; cases h
    · rw [if_neg h2] at h
      by_cases h3 : 0 ≤ c ∧ c < 1800 ∧ d < 60
      · rw [if_pos h3] at h; exact Or.inr (Or.inr ⟨h3.1, h3.2.1, h3.2.2, h⟩)
      · rw [if_neg h3] at h; cases h
theorem evS_c (F : Nat → Int32) (c : Int32) (cs : List Int32) (st : List Bool) : evS F (c :: cs) st = evS F cs (stS F c st) := rfl
theorem holds_l16 {C : Mem} {x p v4 : Nat} {F : Nat → Int32} {code : List Int32} (hp : lnA p = 6) (hF : ∀ l, l < 6 → mI C p l = F l) (h11 : v4 % 32 = 11) (hln : lnA v4 = code.length) (hc : ∀ k, k < code.length → mI C v4 k = code.getD k 0) (hlen : code.length ≤ 100) : ∀ (k fuel i : Nat) (v2 : Int64) (st : List Bool), k < fuel → i + k = code.length → depS (code.drop i) st.length = some 1 → st.length ≤ 60 → BR v2 st → f_Cl_holds_l16 x p C fuel v2 v4 (Int32.ofNat code.length) (Int32.ofNat i) = some (bI ((evS F (code.drop i) st).headD false))
  | k, 0, _, _, _, h, _, _, _, _ => by omega
  | 0, fuel + 1, i, v2, st, _, hi', hd, _, hb => by
    simp only [f_Cl_holds_l16]
    rw [if_pos ((oN_le (by omega) (by omega)).mpr (by omega)), List.drop_of_length_le (by omega)]
    rw [List.drop_of_length_le (by omega)] at hd
    have h1 : st.length = 1 := by simpa [depS] using hd
    have hh := br_head hb (by omega)
    show _ = some (bI (st.headD false))
    by_cases q : bt v2 0 = false
    · rw [if_pos ((cmp1 v2).mpr q), ← hh, q]; rfl
    · rw [if_neg (fun e => q ((cmp1 v2).mp e)), ← hh, show bt v2 0 = true by simpa using q]; rfl
  | k + 1, fuel + 1, i, v2, st, hf, hi', hd, hs, hb => by
    have hil : i < code.length := by omega
    rw [drop_c hil 0] at hd ⊢
    rw [evS_c]
    simp only [f_Cl_holds_l16]
    rw [if_neg (fun q => by have := (oN_le (by omega) (by omega)).mp q; omega), gd_pos h11, gd_pos (oN_in (by omega) (by rw [hln]; exact hil)), oN_ix (by omega), lte, hc i hil]
    generalize code.getD i 0 = c at hd ⊢
    have go := fun v2' st' a b d => holds_l16 (x := x) hp hF h11 hln hc hlen k fuel (i + 1) v2' st' (by omega) (by omega) a b d
    rcases depS_c hd with ⟨rfl, q1, q2⟩ | ⟨q0, q1, q2⟩ | ⟨q1, q2, q3, q4⟩
    · rw [if_neg (by decide), if_neg (by decide), if_pos rfl, lte, lte, oN_s]
      have e : stS F (-1) st = (!(st.headD false)) :: st.tail := by unfold stS; rw [if_pos rfl]
      rw [e]
      have hl : ((!(st.headD false)) :: st.tail).length = st.length := by rw [List.length_cons, List.length_tail]; omega
      exact go _ _ (by rw [hl]; exact q2) (by omega) (br_not hb q1 (by omega))
    · rcases q0 with rfl | rfl
      · rw [if_neg (by decide), if_pos rfl, lte, lte, oN_s]
        have e : stS F (-2) st = (st.tail.headD false && st.headD false) :: st.tail.tail := by unfold stS; rw [if_neg (by decide), if_pos rfl]
        rw [e]
        have hl : ((st.tail.headD false && st.headD false) :: st.tail.tail).length = st.length - 1 := by rw [List.length_cons, List.length_tail, List.length_tail]; omega
        exact go _ _ (by rw [hl]; exact q2) (by omega) (br_and hb q1 (by omega))
      · rw [if_pos rfl, lte, lte, oN_s]
        have e : stS F (-3) st = (st.tail.headD false || st.headD false) :: st.tail.tail := by unfold stS; rw [if_neg (by decide), if_neg (by decide), if_pos rfl]
        rw [e]
        have hl : ((st.tail.headD false || st.headD false) :: st.tail.tail).length = st.length - 1 := by rw [List.length_cons, List.length_tail, List.length_tail]; omega
        exact go _ _ (by rw [hl]; exact q2) (by omega) (br_or hb q1 (by omega))
    · obtain ⟨l, -, -, -, -, -, -, -, -, -, -, -, n1, n2, n3⟩ := tst ⟨q1, q2⟩
      have e : stS F c st = tsS F c :: st := by unfold stS; rw [if_neg n1, if_neg n2, if_neg n3]
      rw [if_neg n3, if_neg n2, if_neg n1, e, testHolds_c hp hF ⟨q1, q2⟩, bdg]
      by_cases q : tsS F c = true
      · rw [q, if_neg (by decide), lte, lte, oN_s]
        exact go _ _ q4 (by rw [List.length_cons]; omega) (br_put hb (by omega) true w1_ok)
      · rw [Bool.eq_false_iff.mpr q, if_pos (by decide), lte, lte, oN_s]
        exact go _ _ q4 (by rw [List.length_cons]; omega) (br_put hb (by omega) false w0_ok)
theorem holds_c {C : Mem} {x p : Nat} {F : Nat → Int32} {q : Cls} (h : CRep C x q) (hp : lnA p = 6) (hF : ∀ l, l < 6 → mI C p l = F l) (hlen : q.2.2.length ≤ 100) (hd : depS q.2.2 0 = some 1) : f_Cl_holds x p C = some (bI (hdS F q.2.2)) := by
  obtain ⟨h1, h2, h3, h4, h5, h6, h7, h8⟩ := h
  unfold f_Cl_holds
  rw [lte, gd_pos (by omega), lte, h7]
  exact holds_l16 hp hF h5 h7 h8 hlen q.2.2.length 200 0 0 [] (by omega) (by omega) hd (by decide) (fun i hi' => by simp at hi')
