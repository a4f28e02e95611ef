/-! THE HEAP THAT A MEMORY IS, AND WHAT IT IS TO RUN A METHOD'S CODE AS A FUNCTION SAYS -/
abbrev EN : Type := Nat × (Nat → Nat) × (Nat → Nat) × Nat × Option Nat
abbrev DN : Type := va_G × (Nat → ClassId)
abbrev GM : Type := MethodName × ByteArray × Nat × Option FieldType × Nat
def adr (E : EN) (a : Nat) : Nat := if a % 32 = 18 then E.2.2.2.1 else if a % 32 = 19 then E.2.1 (a / 131072) else if a % 32 = 20 then E.2.2.1 (a / 131072) else E.1 + a / 131072
def oA (E : EN) (r : Nat) : Option Nat := if r = 0 then none else some (adr E r)
def cV (E : EN) (v : Value) : Value := match v with
  | .ref r => va_rf (oA E r)
  | .float _ => va_rf E.2.2.2.2
  | w => w
theorem oA_0 (E : EN) : oA E 0 = none := rfl
theorem oA_some {E : EN} {r : Nat} (h0 : r ≠ 0) (_ : r % 32 ≠ 21) : oA E r = some (adr E r) := by unfold oA; rw [if_neg h0]
theorem oA_nz {E : EN} {r : Nat} (h0 : r ≠ 0) : oA E r = some (adr E r) := by unfold oA; rw [if_neg h0]
theorem adr_own {E : EN} {a : Nat} (h : a % 32 ≤ 17) : adr E a = E.1 + a / 131072 := by
  unfold adr; rw [if_neg (by omega), if_neg (by omega), if_neg (by omega)]
theorem cV_ref {E : EN} {a : Nat} (h1 : 1 ≤ a % 32) (h : a % 32 ≠ 21) : cV E (.ref a) = .ref (adr E a) := by
  show va_rf (oA E a) = _
  rw [oA_some (by intro h; rw [h] at h1; simp at h1) h]; rfl
def nF (t : Nat) : Nat := match t with
  | 1 => 5 | 2 => 3 | 3 => 10 | 4 => 9 | 5 => 9 | 6 => 4 | 7 => 7 | 8 => 3 | 9 => 11 | _ => 63
def clT (t : Nat) : vw_C := match t with
  | 1 => (RX0, TX0, 5) | 2 => (RX1, TX1, 3) | 3 => (RX2, TX2, 10) | 4 => (RX3, TX3, 9) | 5 => (RX4, TX4, 9) | 6 => (RX5, TX5, 4) | 7 => (RX6, TX6, 7) | 8 => (RX7, TX7, 3) | 9 => (RX8, TX8, 11) | _ => (RX9, TX9, 63)
def tyT (t : Nat) : Nat → FieldType := match t with
  | 1 => tyX0 | 2 => tyX1 | 3 => tyX2 | 4 => tyX3 | 5 => tyX4 | 6 => tyX5 | 7 => tyX6 | 8 => tyX7 | 9 => tyX8 | _ => tyX9
def isRf : FieldType → Bool
  | .array _ => true
  | .object _ => true
  | _ => false
def refF (t k : Nat) : Bool := isRf (tyT t k)
def fvE (E : EN) (M : Mem) (a k : Nat) : Value := if refF (a % 32) k = true then va_rf (oA E (mR M a k)) else .int (mI M a k)
def lnA (a : Nat) : Nat := a / 32 % 4096
def cellE (D : DN) (E : EN) (M : Mem) (a : Nat) : va_E :=
  if a % 32 ≤ 10 then .inr (a % 32 - 1, (List.range (nF (a % 32))).map (fvE E M a))
  else if a % 32 = 11 then .inl (D.2 0, lnA a, .inl (mI M a))
  else if a % 32 = 12 then .inl (D.2 1, lnA a, .inr (.inl (mL M a)))
  else if a % 32 = 13 then .inl (D.2 2, lnA a, .inl (mI M a))
  else .inl (D.2 (a % 32 - 11), lnA a, .inr (.inr (.inr (.inr fun j => oA E (mR M a j)))))
def wsL (D : DN) (E : EN) (M : Mem) : va_W := (mV M).map fun a => (adr E a, cellE D E M a)
def nmA (t : Nat) : String := match t with
  | 3 => RX3 | 4 => RX5 | 5 => RX1 | _ => RX7
def tysD (D : DN) : List (ClassId × FieldType) := [(D.2 0, .int), (D.2 1, .long), (D.2 2, .boolean), (D.2 3, .object RX3), (D.2 4, .object RX5), (D.2 5, .object RX1), (D.2 6, .object RX7)]
/-! the words of the tables that all methods use -/
def gT : List Cond := lw_tbl.filter goodWord
def isNest : Cond → Bool
  | .methodLinkNest .. => true
  | .fieldLinkNest .. => true
  | _ => false
def nW : List Cond := lw_tbl.filter isNest
theorem gT_of {w : Cond} (h : w ∈ lw_tbl) (g : goodWord w = true) : w ∈ gT := List.mem_filter.mpr ⟨h, g⟩
theorem nW_of {w : Cond} (h : w ∈ lw_tbl) (g : isNest w = true) : w ∈ nW := List.mem_filter.mpr ⟨h, g⟩
theorem gT_good {w : Cond} (h : w ∈ gT) : (w.onTables && w.keeps) = true ∨ ∃ ty, w = .arrayClass ty := good_of_word (List.mem_filter.mp h).2
theorem gT_in {y : MethodName} {b : ByteArray} {n : Nat} {r : Option FieldType} (h : Cond.code y b n r ∈ gT) : GoodIn gT (Cond.code y b n r :: gT) := fun w hw => by
  rcases List.mem_cons.mp hw with rfl | hw
  · exact ⟨h, gT_good h⟩
  · exact ⟨hw, gT_good hw⟩
/-! what was there before the law began, and isn't written: statics, String constants, the nest's links -/
def sIx (i : Nat) : Nat := match i with
  | 0 => 115 | 1 => 117 | 2 => 119 | 3 => 121 | 4 => 78 | _ => 84
def sTx (i : Nat) : String := match i with
  | 0 => "swell " | 1 => "draw " | 2 => "sink " | 3 => "draught " | 4 => "kdwspm" | _ => "<=>"
def sLn : List Nat := [6, 5, 5, 8, 6, 3]
def sBy : List (List Int32) := [[115, 119, 101, 108, 108, 32], [100, 114, 97, 119, 32], [115, 105, 110, 107, 32], [100, 114, 97, 117, 103, 104, 116, 32], [107, 100, 119, 115, 112, 109], [60, 61, 62]]
def aBv (j : Nat) : Int32 := ([-1, 0, 0, 0, 1, 2, 3] : List Int32).getD j 0
def RPre : String := "jdk/internal/util/Preconditions"
def RBiF : String := "Ljava/util/function/BiFunction;"
def bA (E : EN) : Nat → Prop := fun q => E.1 ≤ q
def envOK (D : DN) (E : EN) (U : State) : Prop :=
  va_K D.1 vwCl (tysD D) U ∧ va_Z RX8 "ABOVE" "[I" (.ref E.2.2.2.1) (bA E) U U.heap ∧ va_T .int E.2.2.2.1 7 (fun j => .int (aBv j)) (bA E) U U.heap ∧
  va_Z RJ0 "COMPACT_STRINGS" "Z" (.int 1) (bA E) U U.heap ∧ va_Z RPre "SIOOBE_FORMATTER" RBiF (va_rf E.2.2.2.2) (bA E) U U.heap ∧
  vk_S 6 sLn sBy E.2.1 E.2.2.1 (bA E) U U.heap ∧ (∀ i, i < 6 → vk_R RX6 (sIx i) (sTx i) (E.2.1 i) U) ∧ (∀ w, w ∈ nW → va_Nw w U) ∧
  va_AO RX3 U ∧ va_AO RX5 U ∧ va_AO RX1 U ∧ va_AO RX7 U
theorem nW_warm {w : Cond} (hw : w ∈ nW) {s U : State} (hW : s.WarmedH U.vm) (h : va_Nw w s) : va_Nw w U := by
  have hn := (List.mem_filter.mp hw).2
  cases w <;> first | exact va_Nw.warmM hW h | exact va_Nw.warmF hW h | cases hn
theorem nW_same {w : Cond} (hw : w ∈ nW) {s U : State} (e : s.vm = U.vm) (h : va_Nw w s) : va_Nw w U := by
  have hn := (List.mem_filter.mp hw).2
  cases w <;> first | exact va_Nw.same rfl e h | cases hn
theorem envOK_to {D : DN} {E : EN} {s U : State} (hW : s.WarmedH U.vm) (hh : ∀ q : Nat, q < s.heap.size → ¬ bA E q → U.heap[q]? = s.heap[q]?) (h : envOK D E s) : envOK D E U := by
  obtain ⟨h1, h2, h3, h4, h5, h6, h7, h8, h9, h10, h11, h12⟩ := h
  have hv := hW.alike
  exact ⟨va_K.moved hv h1, va_Z.moved hv (h2.kept hh), va_T.moved hv (h3.kept hh), va_Z.moved hv (h4.kept hh), va_Z.moved hv (h5.kept hh), vk_S.moved hv (h6.kept hh), fun i hi => vk_R.warm hW (h7 i hi), fun w hw => nW_warm hw hW (h8 w hw), va_AO.moved hv h9, va_AO.moved hv h10, va_AO.moved hv h11, va_AO.moved hv h12⟩
theorem envOK_call {D : DN} {E : EN} {U : State} (g : JFrame) (mk : MethodId) (a : Array Value) (h : envOK D E U) : envOK D E (U.calling g mk a) := by
  obtain ⟨h1, h2, h3, h4, h5, h6, h7, h8, h9, h10, h11, h12⟩ := h
  have hv : U.vm.Alike (U.calling g mk a).vm := Vm.Alike.refl U.vm
  exact ⟨va_K.moved hv h1, va_Z.moved hv h2, va_T.moved hv h3, va_Z.moved hv h4, va_Z.moved hv h5, vk_S.moved hv h6, fun i hi => vk_R.same (u := U) (U := U.calling g mk a) rfl (h7 i hi), fun w hw => nW_same hw (s := U) (U := U.calling g mk a) rfl (h8 w hw), va_AO.moved hv h9, va_AO.moved hv h10, va_AO.moved hv h11, va_AO.moved hv h12⟩
/-! locals: by their places; .null says nothing -/
def lcOK (E : EN) (n : Nat) (ls : List Value) (la : Array Slot) : Prop := la.size = n ∧ lv_wf la ∧ ∀ (i : Nat) (v : Value), ls[i]? = some v → v ≠ .null → la[i]? = some (Slot.val (cV E v))
def lcL (E : EN) (ls : List Value) : List (Nat × Value) := (List.range ls.length).filterMap fun i => match ls[i]? with
  | some Value.null => none
  | some v => some (i, cV E v)
  | none => none
theorem mem_lcL {E : EN} {ls : List Value} {i : Nat} {v : Value} (h : ls[i]? = some v) (hv : v ≠ .null) : (i, cV E v) ∈ lcL E ls := by
  refine List.mem_filterMap.mpr ⟨i, List.mem_range.mpr (List.getElem?_eq_some_iff.mp h).1, ?_⟩
  rw [h]
  cases v <;> first | rfl | exact absurd rfl hv
theorem lcL_mem {E : EN} {ls : List Value} {q : Nat × Value} (h : q ∈ lcL E ls) : ∃ v, ls[q.1]? = some v ∧ v ≠ .null ∧ q.2 = cV E v := by
  obtain ⟨i, -, hi⟩ := List.mem_filterMap.mp h
  cases hl : ls[i]? with
  | none => rw [hl] at hi; cases hi
  | some v =>
    rw [hl] at hi
    cases v <;> first | (cases hi; done) | (cases hi; exact ⟨_, hl, by simp, rfl⟩)
theorem lcOK.has {E : EN} {n : Nat} {ls : List Value} {la : Array Slot} (h : lcOK E n ls la) : lv_has la n (lcL E ls) :=
  ⟨h.1, h.2.1, fun q hq => by
    obtain ⟨v, h1, h2, h3⟩ := lcL_mem hq
    rw [h3]; exact h.2.2 q.1 v h1 h2⟩
/-- no long stands at the place before -/
def nlg (ls : List Value) (i : Nat) : Bool := match i with
  | 0 => true
  | j + 1 => match ls[j]? with
    | some (.long _) => false
    | some (.double _) => false
    | _ => true
theorem cV_cat (E : EN) (v : Value) : (cV E v).category = v.category := by
  have key : ∀ r : Option Nat, (va_rf r).category = 1 := fun r => by cases r <;> rfl
  cases v <;> first | rfl | exact key _
/-- behind a store of a value of one slot -/
theorem lcOK.put1 {E : EN} {n : Nat} {ls : List Value} {la : Array Slot} {i : Nat} {v : Value} (hn : nlg ls i = true) (h : lv_has la n ((i, cV E v) :: (lcL E ls).filter (fun q => !(q.1 == i) && !(q.1 + 1 == i && q.2.category == 2)))) : lcOK E n (ls.set i v) la := by
  refine ⟨h.1, h.2.1, fun j w hj hw => ?_⟩
  rw [List.getElem?_set] at hj
  by_cases e : i = j
  · subst e
    rw [if_pos rfl] at hj
    split at hj
    · cases hj; exact h.2.2 _ List.mem_cons_self
    · cases hj
  · rw [if_neg e] at hj
    refine h.2.2 (j, cV E w) (List.mem_cons_of_mem _ (List.mem_filter.mpr ⟨mem_lcL hj hw, ?_⟩))
    have e1 : (j == i) = false := by simpa using fun q => e q.symm
    by_cases e2 : j + 1 = i
    · subst e2
      simp only [nlg, hj] at hn
      have : (cV E w).category = 1 := by
        rw [cV_cat]
        cases w <;> first | rfl | (simp at hn; done)
      simp [this]
    · simp [e1, e2]
theorem lcOK.put2 {E : EN} {n : Nat} {ls : List Value} {la : Array Slot} {i : Nat} {v : Value} (hn : nlg ls i = true) (h : lv_has la n ((i, cV E v) :: (lcL E ls).filter (fun q => !(q.1 == i) && (!(q.1 == i + 1) && !(q.1 + 1 == i && q.2.category == 2))))) : lcOK E n ((ls.set i v).set (i + 1) .null) la := by
  refine ⟨h.1, h.2.1, fun j w hj hw => ?_⟩
  rw [List.getElem?_set, List.getElem?_set] at hj
  by_cases e0 : i + 1 = j
  · rw [if_pos e0] at hj
    split at hj
    · cases hj; exact absurd rfl hw
    · cases hj
  · rw [if_neg e0] at hj
    by_cases e : i = j
    · subst e
      rw [if_pos rfl] at hj
      split at hj
      · cases hj; exact h.2.2 _ List.mem_cons_self
      · cases hj
    · rw [if_neg e] at hj
      refine h.2.2 (j, cV E w) (List.mem_cons_of_mem _ (List.mem_filter.mpr ⟨mem_lcL hj hw, ?_⟩))
      have e1 : (j == i) = false := by simpa using fun q => e q.symm
      have e3 : (j == i + 1) = false := by simpa using fun q => e0 q.symm
      by_cases e2 : j + 1 = i
      · subst e2
        simp only [nlg, hj] at hn
        have : (cV E w).category = 1 := by
          rw [cV_cat]
          cases w <;> first | rfl | (simp at hn; done)
        simp [this, e3]
      · simp [e1, e2, e3]
/-- fewer known locals -/
def lcLe : List Value → List Value → Prop
  | [], _ => True
  | v :: vs, w :: ws => (v = .null ∨ v = w) ∧ lcLe vs ws
  | v :: vs, [] => v = .null ∧ lcLe vs []
theorem lcLe.at : ∀ {vs ws : List Value} (_ : lcLe vs ws) {i : Nat} {v : Value}, vs[i]? = some v → v ≠ .null → ws[i]? = some v
  | [], _, _, i, v, h, _ => by simp at h
  | a :: vs, [], hl, i, v, h, hv => by
    cases i with
    | zero => simp at h; exact absurd (h.symm.trans hl.1) hv
    | succ i =>
      have := lcLe.at hl.2 (i := i) (by simpa using h) hv
      simp at this
  | a :: vs, b :: ws, hl, i, v, h, hv => by
    cases i with
    | zero =>
      simp at h
      rcases hl.1 with e | e
      · exact absurd (h.symm.trans e) hv
      · simp [← e, h]
    | succ i =>
      have := lcLe.at hl.2 (i := i) (by simpa using h) hv
      simpa using this
theorem lcOK.le {E : EN} {n : Nat} {ls ls' : List Value} {la : Array Slot} (h : lcOK E n ls la) (hl : lcLe ls' ls) : lcOK E n ls' la := ⟨h.1, h.2.1, fun i v h1 h2 => h.2.2 i v (hl.at h1 h2) h2⟩
/-- the locals with which a method begins -/
def lcA : List Value → List Value
  | [] => []
  | v :: vs => if v.category = 2 then v :: .null :: lcA vs else v :: lcA vs
theorem lcA_at (E : EN) : ∀ (vs : List Value) (i0 i : Nat) (v : Value), (lcA vs)[i]? = some v → v ≠ .null → (i0 + i, cV E v) ∈ lv_args i0 (vs.map (cV E))
  | [], _, i, v, h, _ => by simp [lcA] at h
  | a :: vs, i0, i, v, h, hv => by
    simp only [lcA] at h
    simp only [List.map_cons, lv_args, cV_cat]
    by_cases hc : a.category = 2
    · rw [if_pos hc] at h ⊢
      match i, h with
      | 0, h => simp at h; rw [h]; exact List.mem_cons_self
      | 1, h => simp at h; exact absurd h.symm hv
      | i + 2, h =>
        have := lcA_at E vs (i0 + 2) i v (by simpa using h) hv
        rw [show i0 + (i + 2) = i0 + 2 + i by omega]
        exact List.mem_cons_of_mem _ this
    · rw [if_neg hc] at h ⊢
      match i, h with
      | 0, h => simp at h; rw [h]; exact List.mem_cons_self
      | i + 1, h =>
        have := lcA_at E vs (i0 + 1) i v (by simpa using h) hv
        rw [show i0 + (i + 1) = i0 + 1 + i by omega]
        exact List.mem_cons_of_mem _ this
