/-! THE MEMORY, as a pure value: the cells made since the law began, each with an id that tells its place in the order of making, its length (rows) and its kind.
    id = place * 131072 + length * 32 + tag; tags 1 .. 10 the classes in the order of vwCl, 11 int[], 12 long[], 13 boolean[], 14 Door[], 15 House[], 16 Clause[], 17 Tape[];
    18 the static ABOVE, 19 a String constant, 20 its bytes, 21 the formatter: these four were there before. -/
abbrev Mem : Type := List Nat × Nat × Nat × (Nat → Nat → Int32) × (Nat → Nat → Int64) × (Nat → Nat → Nat)
def mV (M : Mem) : List Nat := M.1
def mZ (M : Mem) : Nat := M.2.1
def mW (M : Mem) : Nat := M.2.2.1
def mI (M : Mem) : Nat → Nat → Int32 := M.2.2.2.1
def mL (M : Mem) : Nat → Nat → Int64 := M.2.2.2.2.1
def mR (M : Mem) : Nat → Nat → Nat := M.2.2.2.2.2
def up2 {α : Type} (f : Nat → Nat → α) (a k : Nat) (v : α) : Nat → Nat → α := fun b j => if b = a ∧ j = k then v else f b j
def setI (M : Mem) (a k : Nat) (v : Int32) : Mem := (mV M, mZ M, mW M, up2 (mI M) a k v, mL M, mR M)
def setL (M : Mem) (a k : Nat) (v : Int64) : Mem := (mV M, mZ M, mW M, mI M, up2 (mL M) a k v, mR M)
def setR (M : Mem) (a k : Nat) (v : Nat) : Mem := (mV M, mZ M, mW M, mI M, mL M, up2 (mR M) a k v)
def nid (M : Mem) (kd : Nat) : Nat := mZ M * 131072 + kd
def newM (M : Mem) (kd n : Nat) : Mem := (mV M ++ [nid M kd], mZ M + 1, mW M + n, fun b j => if b = nid M kd then 0 else mI M b j, fun b j => if b = nid M kd then 0 else mL M b j, fun b j => if b = nid M kd then 0 else mR M b j)
/-- n items of a row come to another place, as they were before -/
def cpyI (M : Mem) (a sp b dp n : Nat) : Mem := (mV M, mZ M, mW M, fun c j => if c = b ∧ dp ≤ j ∧ j < dp + n then mI M a (sp + (j - dp)) else mI M c j, mL M, mR M)
def cpyL (M : Mem) (a sp b dp n : Nat) : Mem := (mV M, mZ M, mW M, mI M, fun c j => if c = b ∧ dp ≤ j ∧ j < dp + n then mL M a (sp + (j - dp)) else mL M c j, mR M)
def lvM (M : Mem) (a : Nat) : Prop := a = 0 ∨ 18 ≤ a % 32 ∨ a ∈ mV M
def lvV (M : Mem) (v : Value) : Prop := match v with
  | .ref a => lvM M a
  | _ => True
def cl (M : Mem) : Prop := ∀ a, a ∈ mV M → 1 ≤ a % 32 ∧ a % 32 ≤ 17 ∧ a / 131072 < mZ M ∧ ∀ k, lvM M (mR M a k)
def stI (sR : Nat → Nat → Nat) (M : Mem) : Prop := ∀ a, a ∈ mV M → ∀ k, sR a k ≠ 0 → mR M a k = sR a k
def ext (M M1 : Mem) : Prop := mZ M ≤ mZ M1 ∧ mW M ≤ mW M1 ∧ ∀ a, a ∈ mV M → a ∈ mV M1
def pOK (sR : Nat → Nat → Nat) (M : Mem) (vs : List Value) : Prop := cl M ∧ stI sR M ∧ ∀ v, v ∈ vs → lvV M v
theorem ext_rfl {M : Mem} : ext M M := ⟨Nat.le_refl _, Nat.le_refl _, fun _ h => h⟩
theorem ext.trans {A B C : Mem} (h : ext A B) (k : ext B C) : ext A C := ⟨Nat.le_trans h.1 k.1, Nat.le_trans h.2.1 k.2.1, fun a x => k.2.2 a (h.2.2 a x)⟩
theorem lvM.mono {M M1 : Mem} (h : ∀ a, a ∈ mV M → a ∈ mV M1) {a : Nat} (k : lvM M a) : lvM M1 a := by
  rcases k with k | k | k
  · exact Or.inl k
  · exact Or.inr (Or.inl k)
  · exact Or.inr (Or.inr (h a k))
theorem lvV.mono {M M1 : Mem} (h : ∀ a, a ∈ mV M → a ∈ mV M1) {v : Value} (k : lvV M v) : lvV M1 v := by
  cases v <;> first | exact trivial | exact lvM.mono h k
theorem lvM.own {M : Mem} {a : Nat} (h : lvM M a) (h1 : 1 ≤ a % 32) (h2 : a % 32 ≤ 17) : a ∈ mV M := by
  rcases h with h | h | h
  · subst h; simp at h1
  · omega
  · exact h
theorem pOK.sub {sR : Nat → Nat → Nat} {M : Mem} {vs ws : List Value} (h : pOK sR M vs) (k : ∀ v, v ∈ ws → v ∈ vs ∨ lvV M v) : pOK sR M ws :=
  ⟨h.1, h.2.1, fun v hv => (k v hv).elim (h.2.2 v) id⟩
theorem cl_setI {M : Mem} (h : cl M) (a k : Nat) (v : Int32) : cl (setI M a k v) := h
theorem cl_setL {M : Mem} (h : cl M) (a k : Nat) (v : Int64) : cl (setL M a k v) := h
theorem cl_setR {M : Mem} (h : cl M) (a k v : Nat) (hv : lvM M v) : cl (setR M a k v) := by
  intro b hb
  obtain ⟨h1, h2, h4, h3⟩ := h b hb
  refine ⟨h1, h2, h4, fun j => ?_⟩
  show lvM M (if b = a ∧ j = k then v else mR M b j)
  by_cases q : b = a ∧ j = k
  · rw [if_pos q]; exact hv
  · rw [if_neg q]; exact h3 j
theorem stI_setR {sR : Nat → Nat → Nat} {M : Mem} (h : stI sR M) (a k v : Nat) (hs : sR a k = 0) : stI sR (setR M a k v) := by
  intro b hb j hj
  show (if b = a ∧ j = k then v else mR M b j) = _
  by_cases q : b = a ∧ j = k
  · exact absurd (by rw [q.1, q.2]; exact hs) hj
  · rw [if_neg q]; exact h b hb j hj
theorem nid_mod (M : Mem) {kd : Nat} (h : kd < 131072) : nid M kd % 32 = kd % 32 := by unfold nid; omega
theorem nid_div (M : Mem) {kd : Nat} (h : kd < 131072) : nid M kd / 131072 = mZ M := by unfold nid; omega
theorem ext_newM (M : Mem) (kd n : Nat) : ext M (newM M kd n) := ⟨Nat.le_succ _, Nat.le_add_right _ _, fun _ h => List.mem_append_left _ h⟩
theorem cl_newM {M : Mem} (h : cl M) {kd : Nat} (n : Nat) (hk : kd < 131072) (h1 : 1 ≤ kd % 32) (h2 : kd % 32 ≤ 17) : cl (newM M kd n) := by
  intro b hb
  have hz : ∀ k, lvM (newM M kd n) (if b = nid M kd then 0 else mR M b k) → lvM (newM M kd n) (mR (newM M kd n) b k) := fun _ q => q
  rcases List.mem_append.mp (show b ∈ mV M ++ [nid M kd] from hb) with hb | hb
  · obtain ⟨a1, a2, a4, a3⟩ := h b hb
    refine ⟨a1, a2, Nat.lt_succ_of_lt a4, fun k => hz k ?_⟩
    by_cases q : b = nid M kd
    · rw [if_pos q]; exact Or.inl rfl
    · rw [if_neg q]; exact lvM.mono (ext_newM M kd n).2.2 (a3 k)
  · have e := List.mem_singleton.mp hb
    refine ⟨by rw [e, nid_mod M hk]; exact h1, by rw [e, nid_mod M hk]; exact h2, by rw [e, nid_div M hk]; exact Nat.lt_succ_self _, fun k => hz k ?_⟩
    rw [if_pos e]; exact Or.inl rfl
theorem nid_new {M : Mem} (h : cl M) {kd : Nat} (hk : kd < 131072) : nid M kd ∉ mV M := by
  intro q
  have := (h _ q).2.2.1
  rw [nid_div M hk] at this
  omega
theorem stI_newM {sR : Nat → Nat → Nat} {M : Mem} (h : stI sR M) (hc : cl M) {kd : Nat} (n : Nat) (hk : kd < 131072) (hs : ∀ k, sR (nid M kd) k = 0) : stI sR (newM M kd n) := by
  intro b hb j hj
  show (if b = nid M kd then 0 else mR M b j) = _
  rcases List.mem_append.mp (show b ∈ mV M ++ [nid M kd] from hb) with hb | hb
  · rw [if_neg (fun (e : b = nid M kd) => nid_new hc hk (e ▸ hb))]; exact h b hb j hj
  · have e := List.mem_singleton.mp hb
    exact absurd (by rw [e]; exact hs j) hj
/-- a guard, a name for a value, the rest behind a call -/
def gd {α : Type} (c : Prop) [Decidable c] (x : Option α) : Option α := if c then x else none
def lt {α β : Type} (x : α) (g : α → β) : β := g x
def bd {α β : Type} (o : Option α) (g : α → Option β) : Option β := match o with
  | none => none
  | some x => g x
theorem gd_pos {α : Type} {c : Prop} [Decidable c] {x : Option α} (h : c) : gd c x = x := if_pos h
theorem gd_some {α : Type} {c : Prop} [Decidable c] {x : Option α} {y : α} (h : gd c x = some y) : c ∧ x = some y := by
  unfold gd at h
  by_cases q : c
  · rw [if_pos q] at h; exact ⟨q, h⟩
  · rw [if_neg q] at h; cases h
theorem bd_some {α β : Type} {x : α} {g : α → Option β} : bd (some x) g = g x := rfl
theorem bd_of {α β : Type} {o : Option α} {g : α → Option β} {y : β} (h : bd o g = some y) : ∃ x, o = some x ∧ g x = some y := by
  cases o with
  | none => cases h
  | some x => exact ⟨x, rfl, h⟩
/-- a place within -/
abbrev inR (i : Int32) (n : Nat) : Prop := 0 ≤ i.toInt ∧ i.toInt < n
theorem inR_vp {i : Int32} {n : Nat} (h : inR i n) : vp_in i n := vp_in_iff.mpr h
theorem inR_ix {i : Int32} {n : Nat} (h : inR i n) : i.toNatClampNeg < n := Nat.not_le.mp fun q => inR_vp h (Or.inr q)
