/-! HOW MUCH A HOUSE MAKES -/
def Kb (p : Bool × Nat × Nat) (M : Mem) : Prop := mZ M ≤ p.2.1 ∧ mW M ≤ p.2.2 ∧ (p.1 = true → (mI M 6684679 6).toNatClampNeg ≤ 100) ∧ (mI M 6684679 4).toNatClampNeg ≤ 10
def Kf {α : Type} (p : Bool × Nat × Nat) (o : Option (α × Mem)) : Prop := ∀ r M', o = some (r, M') → Kb p M'
def Kf1 (p : Bool × Nat × Nat) (o : Option Mem) : Prop := ∀ M', o = some M' → Kb p M'
theorem Kb.set {p : Bool × Nat × Nat} {M : Mem} (h : Kb p M) {a k : Nat} (ha : k = 2 ∨ a ≠ 6684679) (v : Int32) : Kb p (setI M a k v) := by
  have n : ∀ j, j ≠ 2 → mI (setI M a k v) 6684679 j = mI M 6684679 j := fun j hj => by
    rcases ha with q | q
    · exact mSk (by omega)
    · exact mS (Ne.symm q)
  refine ⟨h.1, h.2.1, fun z => ?_, ?_⟩
  · rw [n 6 (by decide)]; exact h.2.2.1 z
  · rw [n 4 (by decide)]; exact h.2.2.2
theorem Kf.none {α : Type} {p : Bool × Nat × Nat} : Kf p (none : Option (α × Mem)) := fun _ _ h => by cases h
theorem Kf.some {α : Type} {p : Bool × Nat × Nat} {M : Mem} {r : α} (h : Kb p M) : Kf p (some (r, M)) := fun _ _ e => by cases e; exact h
theorem Kf.ite {α : Type} {p : Bool × Nat × Nat} {c : Prop} {i : Decidable c} {x y : Option (α × Mem)} (h : Kf p x) (k : Kf p y) : Kf p (@_root_.ite _ c i x y) := fun r M' e => by
  by_cases q : c
  · rw [if_pos q] at e; exact h r M' e
  · rw [if_neg q] at e; exact k r M' e
theorem Kf.gd {α : Type} {p : Bool × Nat × Nat} {c : Prop} {i : Decidable c} {x : Option (α × Mem)} (h : Kf p x) : Kf p (@gd _ c i x) := fun r M' e => h r M' (gd_some e).2
theorem Kf_gdh {α : Type} {p : Bool × Nat × Nat} {c : Prop} {i : Decidable c} {x : Option (α × Mem)} (h : c → Kf p x) : Kf p (@gd _ c i x) := fun r M' e => h (gd_some e).1 r M' (gd_some e).2
theorem Kf.ltM {α : Type} {p : Bool × Nat × Nat} {v : Mem} {g : Mem → Option (α × Mem)} (h : Kb p v) (k : ∀ M1, Kb p M1 → Kf p (g M1)) : Kf p (lt v g) := k v h
theorem Kf.ltV {α β : Type} {p : Bool × Nat × Nat} {v : β} {g : β → Option (α × Mem)} (k : ∀ x, Kf p (g x)) : Kf p (lt v g) := k v
theorem Kf.bdV {α β : Type} {p : Bool × Nat × Nat} {o : Option β} {g : β → Option (α × Mem)} (k : ∀ x, Kf p (g x)) : Kf p (bd o g) := fun r M' e => by
  obtain ⟨x, -, e2⟩ := bd_of e
  exact k x r M' e2
theorem Kf.bdM {α : Type} {p q : Bool × Nat × Nat} {o : Option Mem} {g : Mem → Option (α × Mem)} (h : Kf1 p o) (k : ∀ M1, Kb p M1 → Kf q (g M1)) : Kf q (bd o g) := fun r M' e => by
  obtain ⟨x, e1, e2⟩ := bd_of e
  exact k x (h x e1) r M' e2
theorem Kf.b2 {α β : Type} {p q : Bool × Nat × Nat} {o : Option (β × Mem)} {g : β → Mem → Option (α × Mem)} (h : Kf p o) (k : ∀ r M1, Kb p M1 → Kf q (g r M1)) : Kf q (b2 o g) := fun r M' e => by
  obtain ⟨x, e1, e2⟩ := bd_of e
  exact k x.1 x.2 (h x.1 x.2 e1) r M' e2
theorem s_f_Tx_addCode (p1 : Int32) {p : Bool × Nat × Nat} {M : Mem} (h : Kb p M) : Kf1 p (f_Tx_addCode p1 M) := fun M' e => by
  unfold f_Tx_addCode at e
  by_cases q : 100 ≤ mI M 6684679 6
  · rw [if_pos q] at e
    cases e; exact h
  · rw [if_neg q] at e
    obtain ⟨hr, e⟩ := gd_some e
    rw [lte, lte] at e
    have e' := Option.some.inj e
    obtain ⟨l, hl, el⟩ := oN_of (p := mI M 6684679 6) (k := 99) ⟨Int32.le_iff_toInt_le.mpr (by
      have a : (0 : Int32).toInt = 0 := by decide
      have := hr.1
      omega), Int32.le_iff_toInt_le.mpr (by
      have a : (99 : Int32).toInt = 99 := by decide
      have := hr.2
      omega)⟩ (n := 100) (by decide)
    rw [← e', el]
    refine ⟨h.1, h.2.1, fun _ => ?_, ?_⟩
    · rw [mSe, mS (by decide), el, oN_s, oN_ix (by omega)]
      omega
    · rw [mSk (by decide), mS (by decide)]
      exact h.2.2.2
theorem Kb.new {b : Bool} {z w : Nat} {M : Mem} (h : Kb (b, z, w) M) (kd n : Nat) : Kb (b, z + 1, w + n) (newM M kd n) := by
  have e : ∀ k, mI (newM M kd n) 6684679 k = 0 ∨ mI (newM M kd n) 6684679 k = mI M 6684679 k := fun k => by
    by_cases q : (6684679 : Nat) = nid M kd
    · exact Or.inl (if_pos q)
    · exact Or.inr (if_neg q)
  refine ⟨Nat.succ_le_succ h.1, Nat.add_le_add_right h.2.1 n, fun q => ?_, ?_⟩
  · rcases e 6 with x | x <;> rw [x]
    · decide
    · exact h.2.2.1 q
  · rcases e 4 with x | x <;> rw [x]
    · decide
    · exact h.2.2.2
theorem Kb.wk {b b' : Bool} {z z' w w' : Nat} {M : Mem} (h : Kb (b, z, w) M) (hb : b' = true → b = true) (hz : z ≤ z') (hw : w ≤ w') : Kb (b', z', w') M := ⟨Nat.le_trans h.1 hz, Nat.le_trans h.2.1 hw, fun q => h.2.2.1 (hb q), h.2.2.2⟩
theorem s_f_Tx_takes_b29 (s0 : Int32) {p : Bool × Nat × Nat} {M : Mem}  (h : Kb p M) : Kf p (f_Tx_takes_b29 s0 M) := by
    unfold f_Tx_takes_b29
    repeat' with_reducible first
      | exact Kf.none
      | exact Kf.some (by assumption)
      | refine Kf.ite ?_ ?_
      | refine Kf.gd ?_
      | (refine Kf.ltM (Kb.set (by assumption) (Or.inr rfl) _) ?_; intro _ _)
      | (refine Kf.ltM (Kb.set (by assumption) (Or.inl (by decide)) _) ?_; intro _ _)
      | (refine Kf.ltV ?_; intro _)
      | (refine Kf.bdV ?_; intro _)
theorem s_f_Tx_takes_b28  {p : Bool × Nat × Nat} {M : Mem}  (h : Kb p M) : Kf p (f_Tx_takes_b28  M) := by
    unfold f_Tx_takes_b28
    repeat' with_reducible first
      | exact Kf.none
      | exact Kf.some (by assumption)
      | refine Kf.ite ?_ ?_
      | refine Kf.gd ?_
      | (refine Kf.ltM (Kb.set (by assumption) (Or.inr rfl) _) ?_; intro _ _)
      | (refine Kf.ltM (Kb.set (by assumption) (Or.inl (by decide)) _) ?_; intro _ _)
      | (refine Kf.ltV ?_; intro _)
      | (apply s_f_Tx_takes_b29 <;> first | assumption)
      | (refine Kf.b2 (by first | (apply s_f_Tx_takes_b29 <;> first | assumption)) ?_; intro _ _ _)
      | (refine Kf.bdM (by first | (apply s_f_Tx_takes_b29 <;> first | assumption)) ?_; intro _ _)
      | (refine Kf.bdV ?_; intro _)
theorem s_f_Tx_takes (p1 : Int32) {p : Bool × Nat × Nat} {M : Mem}  (h : Kb p M) : Kf p (f_Tx_takes p1 M) := by
    unfold f_Tx_takes
    repeat' with_reducible first
      | exact Kf.none
      | exact Kf.some (by assumption)
      | refine Kf.ite ?_ ?_
      | refine Kf.gd ?_
      | (refine Kf.ltM (Kb.set (by assumption) (Or.inr rfl) _) ?_; intro _ _)
      | (refine Kf.ltM (Kb.set (by assumption) (Or.inl (by decide)) _) ?_; intro _ _)
      | (refine Kf.ltV ?_; intro _)
      | (apply s_f_Tx_takes_b28 <;> first | assumption | (intros; apply s_f_Tx_takes_b29 <;> assumption))
      | (apply s_f_Tx_takes_b29 <;> first | assumption | (intros; apply s_f_Tx_takes_b28 <;> assumption))
      | (refine Kf.b2 (by first | (apply s_f_Tx_takes_b28 <;> first | assumption | (intros; apply s_f_Tx_takes_b29 <;> assumption)) | (apply s_f_Tx_takes_b29 <;> first | assumption | (intros; apply s_f_Tx_takes_b28 <;> assumption))) ?_; intro _ _ _)
      | (refine Kf.bdM (by first | (apply s_f_Tx_takes_b28 <;> first | assumption | (intros; apply s_f_Tx_takes_b29 <;> assumption)) | (apply s_f_Tx_takes_b29 <;> first | assumption | (intros; apply s_f_Tx_takes_b28 <;> assumption))) ?_; intro _ _)
      | (refine Kf.bdV ?_; intro _)
theorem s_f_Tx_takenWord_l4  {p : Bool × Nat × Nat}  : ∀ (n : Nat) (w0 : Int32) (w1 : Int32) (M : Mem), Kb p M → Kf p (f_Tx_takenWord_l4  n w0 w1 M)
  | 0, _, _, _, _ => by
    simp only [f_Tx_takenWord_l4]
    exact Kf.none
  | n + 1, w0, w1, M, h => by
    simp only [f_Tx_takenWord_l4]
    repeat' with_reducible first
      | exact Kf.none
      | exact Kf.some (by assumption)
      | refine Kf.ite ?_ ?_
      | refine Kf.gd ?_
      | (refine Kf.ltM (Kb.set (by assumption) (Or.inr rfl) _) ?_; intro _ _)
      | (refine Kf.ltM (Kb.set (by assumption) (Or.inl (by decide)) _) ?_; intro _ _)
      | (refine Kf.ltV ?_; intro _)
      | exact s_f_Tx_takenWord_l4 n _ _ _ (by assumption)
      | (refine Kf.b2 (by first | exact s_f_Tx_takenWord_l4 n _ _ _ (by assumption)) ?_; intro _ _ _)
      | (refine Kf.bdM (by first | exact s_f_Tx_takenWord_l4 n _ _ _ (by assumption)) ?_; intro _ _)
      | (refine Kf.bdV ?_; intro _)
theorem s_f_Tx_takenWord  {p : Bool × Nat × Nat} {M : Mem}  (h : Kb p M) : Kf p (f_Tx_takenWord  M) := by
    unfold f_Tx_takenWord
    repeat' with_reducible first
      | exact Kf.none
      | exact Kf.some (by assumption)
      | refine Kf.ite ?_ ?_
      | refine Kf.gd ?_
      | (refine Kf.ltM (Kb.set (by assumption) (Or.inr rfl) _) ?_; intro _ _)
      | (refine Kf.ltM (Kb.set (by assumption) (Or.inl (by decide)) _) ?_; intro _ _)
      | (refine Kf.ltV ?_; intro _)
      | (apply s_f_Tx_takenWord_l4 <;> first | assumption)
      | (refine Kf.b2 (by first | (apply s_f_Tx_takenWord_l4 <;> first | assumption)) ?_; intro _ _ _)
      | (refine Kf.bdM (by first | (apply s_f_Tx_takenWord_l4 <;> first | assumption)) ?_; intro _ _)
      | (refine Kf.bdV ?_; intro _)
theorem s_f_Tx_takenNumber_l4  {p : Bool × Nat × Nat}  : ∀ (n : Nat) (w0 : Int32) (w1 : Int32) (M : Mem), Kb p M → Kf p (f_Tx_takenNumber_l4  n w0 w1 M)
  | 0, _, _, _, _ => by
    simp only [f_Tx_takenNumber_l4]
    exact Kf.none
  | n + 1, w0, w1, M, h => by
    simp only [f_Tx_takenNumber_l4]
    repeat' with_reducible first
      | exact Kf.none
      | exact Kf.some (by assumption)
      | refine Kf.ite ?_ ?_
      | refine Kf.gd ?_
      | (refine Kf.ltM (Kb.set (by assumption) (Or.inr rfl) _) ?_; intro _ _)
      | (refine Kf.ltM (Kb.set (by assumption) (Or.inl (by decide)) _) ?_; intro _ _)
      | (refine Kf.ltV ?_; intro _)
      | exact s_f_Tx_takenNumber_l4 n _ _ _ (by assumption)
      | (refine Kf.b2 (by first | exact s_f_Tx_takenNumber_l4 n _ _ _ (by assumption)) ?_; intro _ _ _)
      | (refine Kf.bdM (by first | exact s_f_Tx_takenNumber_l4 n _ _ _ (by assumption)) ?_; intro _ _)
      | (refine Kf.bdV ?_; intro _)
theorem s_f_Tx_takenNumber  {p : Bool × Nat × Nat} {M : Mem}  (h : Kb p M) : Kf p (f_Tx_takenNumber  M) := by
    unfold f_Tx_takenNumber
    repeat' with_reducible first
      | exact Kf.none
      | exact Kf.some (by assumption)
      | refine Kf.ite ?_ ?_
      | refine Kf.gd ?_
      | (refine Kf.ltM (Kb.set (by assumption) (Or.inr rfl) _) ?_; intro _ _)
      | (refine Kf.ltM (Kb.set (by assumption) (Or.inl (by decide)) _) ?_; intro _ _)
      | (refine Kf.ltV ?_; intro _)
      | (apply s_f_Tx_takenNumber_l4 <;> first | assumption)
      | (refine Kf.b2 (by first | (apply s_f_Tx_takenNumber_l4 <;> first | assumption)) ?_; intro _ _ _)
      | (refine Kf.bdM (by first | (apply s_f_Tx_takenNumber_l4 <;> first | assumption)) ?_; intro _ _)
      | (refine Kf.bdV ?_; intro _)
theorem s_f_Tx_takenOneOf_b29 (p1 : Nat) (s0 : Int32) {p : Bool × Nat × Nat} {M : Mem}  (h : Kb p M) : Kf p (f_Tx_takenOneOf_b29 p1 s0 M) := by
    unfold f_Tx_takenOneOf_b29
    repeat' with_reducible first
      | exact Kf.none
      | exact Kf.some (by assumption)
      | refine Kf.ite ?_ ?_
      | refine Kf.gd ?_
      | (refine Kf.ltM (Kb.set (by assumption) (Or.inr rfl) _) ?_; intro _ _)
      | (refine Kf.ltM (Kb.set (by assumption) (Or.inl (by decide)) _) ?_; intro _ _)
      | (refine Kf.ltV ?_; intro _)
      | (refine Kf.bdV ?_; intro _)
theorem s_f_Tx_takenOneOf (p1 : Nat) {p : Bool × Nat × Nat} {M : Mem}  (h : Kb p M) : Kf p (f_Tx_takenOneOf p1 M) := by
    unfold f_Tx_takenOneOf
    repeat' with_reducible first
      | exact Kf.none
      | exact Kf.some (by assumption)
      | refine Kf.ite ?_ ?_
      | refine Kf.gd ?_
      | (refine Kf.ltM (Kb.set (by assumption) (Or.inr rfl) _) ?_; intro _ _)
      | (refine Kf.ltM (Kb.set (by assumption) (Or.inl (by decide)) _) ?_; intro _ _)
      | (refine Kf.ltV ?_; intro _)
      | (apply s_f_Tx_takenOneOf_b29 <;> first | assumption)
      | (refine Kf.b2 (by first | (apply s_f_Tx_takenOneOf_b29 <;> first | assumption)) ?_; intro _ _ _)
      | (refine Kf.bdM (by first | (apply s_f_Tx_takenOneOf_b29 <;> first | assumption)) ?_; intro _ _)
      | (refine Kf.bdV ?_; intro _)
theorem s_f_Tx_takesTest_b34 (v1 : Int32) (v2 : Int32) (s0 : Int32) {p : Bool × Nat × Nat} {M : Mem}  (h : Kb p M) : Kf p (f_Tx_takesTest_b34 v1 v2 s0 M) := by
    unfold f_Tx_takesTest_b34
    repeat' with_reducible first
      | exact Kf.none
      | exact Kf.some (by assumption)
      | refine Kf.ite ?_ ?_
      | refine Kf.gd ?_
      | (refine Kf.ltM (Kb.set (by assumption) (Or.inr rfl) _) ?_; intro _ _)
      | (refine Kf.ltM (Kb.set (by assumption) (Or.inl (by decide)) _) ?_; intro _ _)
      | (refine Kf.ltV ?_; intro _)
      | (apply s_f_Tx_addCode <;> first | assumption)
      | (refine Kf.b2 (by first | (apply s_f_Tx_addCode <;> first | assumption)) ?_; intro _ _ _)
      | (refine Kf.bdM (by first | (apply s_f_Tx_addCode <;> first | assumption)) ?_; intro _ _)
      | (refine Kf.bdV ?_; intro _)
theorem s_f_Tx_takesTest_b21 (v1 : Int32) (s0 : Int32) {p : Bool × Nat × Nat} {M : Mem}  (h : Kb p M) : Kf p (f_Tx_takesTest_b21 v1 s0 M) := by
    unfold f_Tx_takesTest_b21
    repeat' with_reducible first
      | exact Kf.none
      | exact Kf.some (by assumption)
      | refine Kf.ite ?_ ?_
      | refine Kf.gd ?_
      | (refine Kf.ltM (Kb.set (by assumption) (Or.inr rfl) _) ?_; intro _ _)
      | (refine Kf.ltM (Kb.set (by assumption) (Or.inl (by decide)) _) ?_; intro _ _)
      | (refine Kf.ltV ?_; intro _)
      | (apply s_f_Tx_takenNumber <;> first | assumption | (intros; apply s_f_Tx_takesTest_b34 <;> assumption))
      | (apply s_f_Tx_takesTest_b34 <;> first | assumption | (intros; apply s_f_Tx_takenNumber <;> assumption))
      | (refine Kf.b2 (by first | (apply s_f_Tx_takenNumber <;> first | assumption | (intros; apply s_f_Tx_takesTest_b34 <;> assumption)) | (apply s_f_Tx_takesTest_b34 <;> first | assumption | (intros; apply s_f_Tx_takenNumber <;> assumption))) ?_; intro _ _ _)
      | (refine Kf.bdM (by first | (apply s_f_Tx_takenNumber <;> first | assumption | (intros; apply s_f_Tx_takesTest_b34 <;> assumption)) | (apply s_f_Tx_takesTest_b34 <;> first | assumption | (intros; apply s_f_Tx_takenNumber <;> assumption))) ?_; intro _ _)
      | (refine Kf.bdV ?_; intro _)
theorem s_f_Tx_takesTest  {p : Bool × Nat × Nat} {M : Mem}  (h : Kb p M) : Kf p (f_Tx_takesTest  M) := by
    unfold f_Tx_takesTest
    repeat' with_reducible first
      | exact Kf.none
      | exact Kf.some (by assumption)
      | refine Kf.ite ?_ ?_
      | refine Kf.gd ?_
      | (refine Kf.ltM (Kb.set (by assumption) (Or.inr rfl) _) ?_; intro _ _)
      | (refine Kf.ltM (Kb.set (by assumption) (Or.inl (by decide)) _) ?_; intro _ _)
      | (refine Kf.ltV ?_; intro _)
      | (apply s_f_Tx_takenOneOf <;> first | assumption | (intros; apply s_f_Tx_takesTest_b21 <;> assumption))
      | (apply s_f_Tx_takesTest_b21 <;> first | assumption | (intros; apply s_f_Tx_takenOneOf <;> assumption))
      | (refine Kf.b2 (by first | (apply s_f_Tx_takenOneOf <;> first | assumption | (intros; apply s_f_Tx_takesTest_b21 <;> assumption)) | (apply s_f_Tx_takesTest_b21 <;> first | assumption | (intros; apply s_f_Tx_takenOneOf <;> assumption))) ?_; intro _ _ _)
      | (refine Kf.bdM (by first | (apply s_f_Tx_takenOneOf <;> first | assumption | (intros; apply s_f_Tx_takesTest_b21 <;> assumption)) | (apply s_f_Tx_takesTest_b21 <;> first | assumption | (intros; apply s_f_Tx_takenOneOf <;> assumption))) ?_; intro _ _)
      | (refine Kf.bdV ?_; intro _)
theorem s_f_Tx_takesFactor_l71 (rec : Nat → Int32 → Mem → Option (Int32 × Mem)) {p : Bool × Nat × Nat} : ∀ (n : Nat) (v2 v3 v4 : Int32) (M : Mem), Kb p M → Kf p (f_Tx_takesFactor_l71 rec n v2 v3 v4 M)
  | 0, _, _, _, _, _ => Kf.none
  | n + 1, v2, v3, v4, M, h => by
    rw [f_Tx_takesFactor_l71.eq_2]
    refine Kf.ite (Kf.gd (Kf.some h)) ?_
    exact Kf.bdM (s_f_Tx_addCode _ h) (fun _ h => Kf.ltV (fun _ => s_f_Tx_takesFactor_l71 rec n _ _ _ _ h))
theorem s_f_Tx_takesFactor_b67 (rec : Nat → Int32 → Mem → Option (Int32 × Mem)) (v1 v2 s0 : Int32) {p : Bool × Nat × Nat} {M : Mem} (h : Kb p M) : Kf p (f_Tx_takesFactor_b67 rec v1 v2 s0 M) := s_f_Tx_takesFactor_l71 rec _ _ _ _ _ h
theorem s_f_Tx_takesFactor_b63 (rec : Nat → Int32 → Mem → Option (Int32 × Mem)) (v1 v2 : Int32) {p : Bool × Nat × Nat} {M : Mem} (h : Kb p M) : Kf p (f_Tx_takesFactor_b63 rec v1 v2 M) := by
  unfold f_Tx_takesFactor_b63
  exact Kf.b2 (s_f_Tx_takesTest h) (fun _ _ h => s_f_Tx_takesFactor_b67 rec _ _ _ h)
theorem s_f_Tx_takesFactor_b59 (rec : Nat → Int32 → Mem → Option (Int32 × Mem)) (v1 v2 : Int32) {p : Bool × Nat × Nat} {M : Mem} (h : Kb p M) : Kf p (f_Tx_takesFactor_b59 rec v1 v2 M) := s_f_Tx_takesFactor_b67 rec _ _ _ h
theorem s_f_Tx_takesFactor_b22 (rec : Nat → Int32 → Mem → Option (Int32 × Mem)) (v1 v2 : Int32) {p : Bool × Nat × Nat} {M : Mem} (hrec : ∀ y0 y1 M, Kb p M → Kf p (rec y0 y1 M)) (h : Kb p M) : Kf p (f_Tx_takesFactor_b22 rec v1 v2 M) := by
  unfold f_Tx_takesFactor_b22
  refine Kf.ite (s_f_Tx_takesFactor_b63 rec _ _ h) (Kf.b2 (s_f_Tx_takes _ h) (fun _ _ h => Kf.ite (s_f_Tx_takesFactor_b63 rec _ _ h) ?_))
  refine Kf.b2 (hrec _ _ _ h) (fun _ _ h => Kf.ite (s_f_Tx_takesFactor_b59 rec _ _ h) ?_)
  exact Kf.b2 (s_f_Tx_takes _ h) (fun _ _ h => Kf.ite (s_f_Tx_takesFactor_b59 rec _ _ h) (s_f_Tx_takesFactor_b67 rec _ _ _ h))
theorem s_f_Tx_takesFactor_l2 (rec : Nat → Int32 → Mem → Option (Int32 × Mem)) {p : Bool × Nat × Nat} (hrec : ∀ y0 y1 M, Kb p M → Kf p (rec y0 y1 M)) : ∀ (n : Nat) (v1 v2 : Int32) (M : Mem), Kb p M → Kf p (f_Tx_takesFactor_l2 rec n v1 v2 M)
  | 0, _, _, _, _ => Kf.none
  | n + 1, v1, v2, M, h => by
    rw [f_Tx_takesFactor_l2.eq_2]
    refine Kf.ite (s_f_Tx_takesFactor_b22 rec _ _ hrec h) (Kf.b2 (s_f_Tx_takes _ h) (fun _ _ h => Kf.ite (s_f_Tx_takesFactor_b22 rec _ _ hrec h) ?_))
    exact Kf.ltV (fun _ => s_f_Tx_takesFactor_l2 rec hrec n _ _ _ h)
theorem s_f_Tx_takesFactor (rec : Nat → Int32 → Mem → Option (Int32 × Mem)) (p1 : Int32) {p : Bool × Nat × Nat} {M : Mem} (hrec : ∀ y0 y1 M, Kb p M → Kf p (rec y0 y1 M)) (h : Kb p M) : Kf p (f_Tx_takesFactor rec p1 M) := s_f_Tx_takesFactor_l2 rec hrec _ _ _ _ h
theorem s_f_Tx_takesAllOf_l12 (rec : Nat → Int32 → Mem → Option (Int32 × Mem)) {p : Bool × Nat × Nat} (hrec : ∀ y0 y1 M, Kb p M → Kf p (rec y0 y1 M)) : ∀ (n : Nat) (w0 : Int32) (w1 : Int32) (M : Mem), Kb p M → Kf p (f_Tx_takesAllOf_l12 rec n w0 w1 M)
  | 0, _, _, _, _ => by
    simp only [f_Tx_takesAllOf_l12]
    exact Kf.none
  | n + 1, w0, w1, M, h => by
    simp only [f_Tx_takesAllOf_l12]
    repeat' with_reducible first
      | exact Kf.none
      | exact Kf.some (by assumption)
      | refine Kf.ite ?_ ?_
      | refine Kf.gd ?_
      | (refine Kf.ltM (Kb.set (by assumption) (Or.inr rfl) _) ?_; intro _ _)
      | (refine Kf.ltM (Kb.set (by assumption) (Or.inl (by decide)) _) ?_; intro _ _)
      | (refine Kf.ltV ?_; intro _)
      | (apply hrec; assumption)
      | (apply s_f_Tx_takes <;> first | assumption | (intros; apply s_f_Tx_addCode <;> assumption) | (intros; refine s_f_Tx_takesAllOf_l12 rec hrec n _ _  _ ?_; assumption) | (intros; apply hrec <;> assumption))
      | (apply s_f_Tx_addCode <;> first | assumption | (intros; apply s_f_Tx_takes <;> assumption) | (intros; refine s_f_Tx_takesAllOf_l12 rec hrec n _ _  _ ?_; assumption) | (intros; apply hrec <;> assumption))
      | exact s_f_Tx_takesAllOf_l12 rec hrec n _ _ _ (by assumption)
      | (refine Kf.b2 (by first | (apply hrec; assumption) | (apply s_f_Tx_takes <;> first | assumption | (intros; apply s_f_Tx_addCode <;> assumption) | (intros; refine s_f_Tx_takesAllOf_l12 rec hrec n _ _  _ ?_; assumption) | (intros; apply hrec <;> assumption)) | (apply s_f_Tx_addCode <;> first | assumption | (intros; apply s_f_Tx_takes <;> assumption) | (intros; refine s_f_Tx_takesAllOf_l12 rec hrec n _ _  _ ?_; assumption) | (intros; apply hrec <;> assumption)) | exact s_f_Tx_takesAllOf_l12 rec hrec n _ _ _ (by assumption)) ?_; intro _ _ _)
      | (refine Kf.bdM (by first | (apply hrec; assumption) | (apply s_f_Tx_takes <;> first | assumption | (intros; apply s_f_Tx_addCode <;> assumption) | (intros; refine s_f_Tx_takesAllOf_l12 rec hrec n _ _  _ ?_; assumption) | (intros; apply hrec <;> assumption)) | (apply s_f_Tx_addCode <;> first | assumption | (intros; apply s_f_Tx_takes <;> assumption) | (intros; refine s_f_Tx_takesAllOf_l12 rec hrec n _ _  _ ?_; assumption) | (intros; apply hrec <;> assumption)) | exact s_f_Tx_takesAllOf_l12 rec hrec n _ _ _ (by assumption)) ?_; intro _ _)
      | (refine Kf.bdV ?_; intro _)
theorem s_f_Tx_takesAllOf (rec : Nat → Int32 → Mem → Option (Int32 × Mem)) (p1 : Int32) {p : Bool × Nat × Nat} {M : Mem} (hrec : ∀ y0 y1 M, Kb p M → Kf p (rec y0 y1 M)) (h : Kb p M) : Kf p (f_Tx_takesAllOf rec p1 M) := by
    unfold f_Tx_takesAllOf
    repeat' with_reducible first
      | exact Kf.none
      | exact Kf.some (by assumption)
      | refine Kf.ite ?_ ?_
      | refine Kf.gd ?_
      | (refine Kf.ltM (Kb.set (by assumption) (Or.inr rfl) _) ?_; intro _ _)
      | (refine Kf.ltM (Kb.set (by assumption) (Or.inl (by decide)) _) ?_; intro _ _)
      | (refine Kf.ltV ?_; intro _)
      | (apply hrec; assumption)
      | (apply s_f_Tx_takesAllOf_l12 <;> first | assumption | (intros; apply hrec <;> assumption))
      | (refine Kf.b2 (by first | (apply hrec; assumption) | (apply s_f_Tx_takesAllOf_l12 <;> first | assumption | (intros; apply hrec <;> assumption))) ?_; intro _ _ _)
      | (refine Kf.bdM (by first | (apply hrec; assumption) | (apply s_f_Tx_takesAllOf_l12 <;> first | assumption | (intros; apply hrec <;> assumption))) ?_; intro _ _)
      | (refine Kf.bdV ?_; intro _)
theorem s_f_Tx_takesAnyOf_l12 (rec : Nat → Int32 → Mem → Option (Int32 × Mem)) {p : Bool × Nat × Nat} (hrec : ∀ y0 y1 M, Kb p M → Kf p (rec y0 y1 M)) : ∀ (n : Nat) (w0 : Int32) (w1 : Int32) (M : Mem), Kb p M → Kf p (f_Tx_takesAnyOf_l12 rec n w0 w1 M)
  | 0, _, _, _, _ => by
    simp only [f_Tx_takesAnyOf_l12]
    exact Kf.none
  | n + 1, w0, w1, M, h => by
    simp only [f_Tx_takesAnyOf_l12]
    repeat' with_reducible first
      | exact Kf.none
      | exact Kf.some (by assumption)
      | refine Kf.ite ?_ ?_
      | refine Kf.gd ?_
      | (refine Kf.ltM (Kb.set (by assumption) (Or.inr rfl) _) ?_; intro _ _)
      | (refine Kf.ltM (Kb.set (by assumption) (Or.inl (by decide)) _) ?_; intro _ _)
      | (refine Kf.ltV ?_; intro _)
      | (apply hrec; assumption)
      | (apply s_f_Tx_takes <;> first | assumption | (intros; apply s_f_Tx_addCode <;> assumption) | (intros; refine s_f_Tx_takesAnyOf_l12 rec hrec n _ _  _ ?_; assumption) | (intros; apply hrec <;> assumption))
      | (apply s_f_Tx_addCode <;> first | assumption | (intros; apply s_f_Tx_takes <;> assumption) | (intros; refine s_f_Tx_takesAnyOf_l12 rec hrec n _ _  _ ?_; assumption) | (intros; apply hrec <;> assumption))
      | exact s_f_Tx_takesAnyOf_l12 rec hrec n _ _ _ (by assumption)
      | (refine Kf.b2 (by first | (apply hrec; assumption) | (apply s_f_Tx_takes <;> first | assumption | (intros; apply s_f_Tx_addCode <;> assumption) | (intros; refine s_f_Tx_takesAnyOf_l12 rec hrec n _ _  _ ?_; assumption) | (intros; apply hrec <;> assumption)) | (apply s_f_Tx_addCode <;> first | assumption | (intros; apply s_f_Tx_takes <;> assumption) | (intros; refine s_f_Tx_takesAnyOf_l12 rec hrec n _ _  _ ?_; assumption) | (intros; apply hrec <;> assumption)) | exact s_f_Tx_takesAnyOf_l12 rec hrec n _ _ _ (by assumption)) ?_; intro _ _ _)
      | (refine Kf.bdM (by first | (apply hrec; assumption) | (apply s_f_Tx_takes <;> first | assumption | (intros; apply s_f_Tx_addCode <;> assumption) | (intros; refine s_f_Tx_takesAnyOf_l12 rec hrec n _ _  _ ?_; assumption) | (intros; apply hrec <;> assumption)) | (apply s_f_Tx_addCode <;> first | assumption | (intros; apply s_f_Tx_takes <;> assumption) | (intros; refine s_f_Tx_takesAnyOf_l12 rec hrec n _ _  _ ?_; assumption) | (intros; apply hrec <;> assumption)) | exact s_f_Tx_takesAnyOf_l12 rec hrec n _ _ _ (by assumption)) ?_; intro _ _)
      | (refine Kf.bdV ?_; intro _)
theorem s_f_Tx_takesAnyOf (rec : Nat → Int32 → Mem → Option (Int32 × Mem)) (p1 : Int32) {p : Bool × Nat × Nat} {M : Mem} (hrec : ∀ y0 y1 M, Kb p M → Kf p (rec y0 y1 M)) (h : Kb p M) : Kf p (f_Tx_takesAnyOf rec p1 M) := by
    unfold f_Tx_takesAnyOf
    repeat' with_reducible first
      | exact Kf.none
      | exact Kf.some (by assumption)
      | refine Kf.ite ?_ ?_
      | refine Kf.gd ?_
      | (refine Kf.ltM (Kb.set (by assumption) (Or.inr rfl) _) ?_; intro _ _)
      | (refine Kf.ltM (Kb.set (by assumption) (Or.inl (by decide)) _) ?_; intro _ _)
      | (refine Kf.ltV ?_; intro _)
      | (apply hrec; assumption)
      | (apply s_f_Tx_takesAnyOf_l12 <;> first | assumption | (intros; apply hrec <;> assumption))
      | (refine Kf.b2 (by first | (apply hrec; assumption) | (apply s_f_Tx_takesAnyOf_l12 <;> first | assumption | (intros; apply hrec <;> assumption))) ?_; intro _ _ _)
      | (refine Kf.bdM (by first | (apply hrec; assumption) | (apply s_f_Tx_takesAnyOf_l12 <;> first | assumption | (intros; apply hrec <;> assumption))) ?_; intro _ _)
      | (refine Kf.bdV ?_; intro _)
theorem s_f_rec_takes {p : Bool × Nat × Nat} : ∀ (n : Nat) (w0 : Nat) (w1 : Int32) (M : Mem), Kb p M → Kf p (f_rec_takes n w0 w1 M)
  | 0, _, _, _, _ => by
    simp only [f_rec_takes]
    exact Kf.none
  | n + 1, 0, p1, M, h => by
    simp only [f_rec_takes]
    exact s_f_Tx_takesAnyOf _ _ (fun _ _ _ h => s_f_rec_takes n _ _ _ h) h
  | n + 1, 1, p1, M, h => by
    simp only [f_rec_takes]
    exact s_f_Tx_takesAllOf _ _ (fun _ _ _ h => s_f_rec_takes n _ _ _ h) h
  | n + 1, s + 2, p1, M, h => by
    simp only [f_rec_takes]
    exact s_f_Tx_takesFactor _ _ (fun _ _ _ h => s_f_rec_takes n _ _ _ h) h
theorem k_f_Hs_init_b78 (t : Nat) (p1 : Nat) (K28 : Int32 → Int32 → Int32 → Nat → Int32 → Int32 → Mem → Option Mem) (v2 : Int32) (v4 : Int32) (v5 : Nat) (v6 : Int32) (v7 : Int32) (v8 : Nat) (s0 : Int32) {M0 M : Mem} (hK28 : ∀ y0 y1 y2 y3 y4 y5 M, Kx false M0 M → Ke1 false M0 (K28 y0 y1 y2 y3 y4 y5 M)) (h : Kx false M0 M) : Ke1 false M0 (f_Hs_init_b78 t p1 K28 v2 v4 v5 v6 v7 v8 s0 M) := by
    unfold f_Hs_init_b78
    repeat' with_reducible first
      | exact Ke1.none
      | exact Ke1.some (by assumption)
      | refine Ke1.ite ?_ ?_
      | refine Ke1.gd ?_
      | (refine Ke1.ltM (Kx.set (by assumption) (fun z => absurd z (by decide)) _) ?_; intro _ _)
      | (refine Ke1.ltM (Kx.setl (by assumption) _ _ _) ?_; intro _ _)
      | (refine Ke1.ltM (Kx.setr (by assumption) _ _ _) ?_; intro _ _)
      | (refine Ke1.ltM (Kx.cpi (by assumption) (fun z => absurd z (by decide)) _ _ _ _) ?_; intro _ _)
      | (refine Ke1.ltM (Kx.cpl (by assumption) _ _ _ _ _) ?_; intro _ _)
      | (refine Ke1.ltV ?_; intro _)
      | (apply hK28; assumption)
      | (refine Ke1.b2 (by first | (apply hK28; assumption)) ?_; intro _ _ _)
      | (refine Ke1.bdM (by first | (apply hK28; assumption)) ?_; intro _ _)
      | (refine Ke1.bdV ?_; intro _)
theorem k_f_Hs_init_b59 (t : Nat) (p1 : Nat) (K28 : Int32 → Int32 → Int32 → Nat → Int32 → Int32 → Mem → Option Mem) (v3 : Int32) (v4 : Int32) (v5 : Nat) (v6 : Int32) (v7 : Int32) (v8 : Nat) (s0 : Int32) {M0 M : Mem} (hK28 : ∀ y0 y1 y2 y3 y4 y5 M, Kx false M0 M → Ke1 false M0 (K28 y0 y1 y2 y3 y4 y5 M)) (h : Kx false M0 M) : Ke1 false M0 (f_Hs_init_b59 t p1 K28 v3 v4 v5 v6 v7 v8 s0 M) := by
    unfold f_Hs_init_b59
    repeat' with_reducible first
      | exact Ke1.none
      | exact Ke1.some (by assumption)
      | refine Ke1.ite ?_ ?_
      | refine Ke1.gd ?_
      | (refine Ke1.ltM (Kx.set (by assumption) (fun z => absurd z (by decide)) _) ?_; intro _ _)
      | (refine Ke1.ltM (Kx.setl (by assumption) _ _ _) ?_; intro _ _)
      | (refine Ke1.ltM (Kx.setr (by assumption) _ _ _) ?_; intro _ _)
      | (refine Ke1.ltM (Kx.cpi (by assumption) (fun z => absurd z (by decide)) _ _ _ _) ?_; intro _ _)
      | (refine Ke1.ltM (Kx.cpl (by assumption) _ _ _ _ _) ?_; intro _ _)
      | (refine Ke1.ltV ?_; intro _)
      | (apply hK28; assumption)
      | (apply k_f_Hs_init_b78 <;> first | assumption | (intros; apply hK28 <;> assumption))
      | (refine Ke1.b2 (by first | (apply hK28; assumption) | (apply k_f_Hs_init_b78 <;> first | assumption | (intros; apply hK28 <;> assumption))) ?_; intro _ _ _)
      | (refine Ke1.bdM (by first | (apply hK28; assumption) | (apply k_f_Hs_init_b78 <;> first | assumption | (intros; apply hK28 <;> assumption))) ?_; intro _ _)
      | (refine Ke1.bdV ?_; intro _)
theorem k_f_Hs_init_b54 (t : Nat) (p1 : Nat) (K28 : Int32 → Int32 → Int32 → Nat → Int32 → Int32 → Mem → Option Mem) (v3 : Int32) (v4 : Int32) (v5 : Nat) (v6 : Int32) (v7 : Int32) (v8 : Nat) {M0 M : Mem} (hK28 : ∀ y0 y1 y2 y3 y4 y5 M, Kx false M0 M → Ke1 false M0 (K28 y0 y1 y2 y3 y4 y5 M)) (h : Kx false M0 M) : Ke1 false M0 (f_Hs_init_b54 t p1 K28 v3 v4 v5 v6 v7 v8 M) := by
    unfold f_Hs_init_b54
    repeat' with_reducible first
      | exact Ke1.none
      | exact Ke1.some (by assumption)
      | refine Ke1.ite ?_ ?_
      | refine Ke1.gd ?_
      | (refine Ke1.ltM (Kx.set (by assumption) (fun z => absurd z (by decide)) _) ?_; intro _ _)
      | (refine Ke1.ltM (Kx.setl (by assumption) _ _ _) ?_; intro _ _)
      | (refine Ke1.ltM (Kx.setr (by assumption) _ _ _) ?_; intro _ _)
      | (refine Ke1.ltM (Kx.cpi (by assumption) (fun z => absurd z (by decide)) _ _ _ _) ?_; intro _ _)
      | (refine Ke1.ltM (Kx.cpl (by assumption) _ _ _ _ _) ?_; intro _ _)
      | (refine Ke1.ltV ?_; intro _)
      | (apply hK28; assumption)
      | (apply k_f_Hs_init_b59 <;> first | assumption | (intros; apply hK28 <;> assumption))
      | (refine Ke1.b2 (by first | (apply hK28; assumption) | (apply k_f_Hs_init_b59 <;> first | assumption | (intros; apply hK28 <;> assumption))) ?_; intro _ _ _)
      | (refine Ke1.bdM (by first | (apply hK28; assumption) | (apply k_f_Hs_init_b59 <;> first | assumption | (intros; apply hK28 <;> assumption))) ?_; intro _ _)
      | (refine Ke1.bdV ?_; intro _)
theorem k_f_Hs_init_l28 (t : Nat) (p1 : Nat) {M0 : Mem}  : ∀ (n : Nat) (w0 : Int32) (w1 : Int32) (w2 : Int32) (w3 : Nat) (w4 : Int32) (w5 : Int32) (M : Mem), Kx false M0 M → Ke1 false M0 (f_Hs_init_l28 t p1 n w0 w1 w2 w3 w4 w5 M)
  | 0, _, _, _, _, _, _, _, _ => by
    simp only [f_Hs_init_l28]
    exact Ke1.none
  | n + 1, w0, w1, w2, w3, w4, w5, M, h => by
    simp only [f_Hs_init_l28]
    repeat' with_reducible first
      | exact Ke1.none
      | exact Ke1.some (by assumption)
      | refine Ke1.ite ?_ ?_
      | refine Ke1.gd ?_
      | (refine Ke1.ltM (Kx.set (by assumption) (fun z => absurd z (by decide)) _) ?_; intro _ _)
      | (refine Ke1.ltM (Kx.setl (by assumption) _ _ _) ?_; intro _ _)
      | (refine Ke1.ltM (Kx.setr (by assumption) _ _ _) ?_; intro _ _)
      | (refine Ke1.ltM (Kx.cpi (by assumption) (fun z => absurd z (by decide)) _ _ _ _) ?_; intro _ _)
      | (refine Ke1.ltM (Kx.cpl (by assumption) _ _ _ _ _) ?_; intro _ _)
      | (refine Ke1.ltV ?_; intro _)
      | (apply k_f_Hs_init_b54 <;> first | assumption | (intros; refine k_f_Hs_init_l28 t p1 n _ _ _ _ _ _  _ ?_; assumption) | (intros; apply k_f_Hs_init_b59 <;> assumption))
      | exact k_f_Hs_init_l28 t p1 n _ _ _ _ _ _ _ (by assumption)
      | (apply k_f_Hs_init_b59 <;> first | assumption | (intros; apply k_f_Hs_init_b54 <;> assumption) | (intros; refine k_f_Hs_init_l28 t p1 n _ _ _ _ _ _  _ ?_; assumption))
      | (refine Ke1.b2 (by first | (apply k_f_Hs_init_b54 <;> first | assumption | (intros; refine k_f_Hs_init_l28 t p1 n _ _ _ _ _ _  _ ?_; assumption) | (intros; apply k_f_Hs_init_b59 <;> assumption)) | exact k_f_Hs_init_l28 t p1 n _ _ _ _ _ _ _ (by assumption) | (apply k_f_Hs_init_b59 <;> first | assumption | (intros; apply k_f_Hs_init_b54 <;> assumption) | (intros; refine k_f_Hs_init_l28 t p1 n _ _ _ _ _ _  _ ?_; assumption))) ?_; intro _ _ _)
      | (refine Ke1.bdM (by first | (apply k_f_Hs_init_b54 <;> first | assumption | (intros; refine k_f_Hs_init_l28 t p1 n _ _ _ _ _ _  _ ?_; assumption) | (intros; apply k_f_Hs_init_b59 <;> assumption)) | exact k_f_Hs_init_l28 t p1 n _ _ _ _ _ _ _ (by assumption) | (apply k_f_Hs_init_b59 <;> first | assumption | (intros; apply k_f_Hs_init_b54 <;> assumption) | (intros; refine k_f_Hs_init_l28 t p1 n _ _ _ _ _ _  _ ?_; assumption))) ?_; intro _ _)
      | (refine Ke1.bdV ?_; intro _)
theorem k_f_Hs_init (t : Nat) (p1 : Nat) {M0 M : Mem}  (h : Kx false M0 M) : Ke1 false M0 (f_Hs_init t p1 M) := by
    unfold f_Hs_init
    repeat' with_reducible first
      | exact Ke1.none
      | exact Ke1.some (by assumption)
      | refine Ke1.ite ?_ ?_
      | refine Ke1.gd ?_
      | (refine Ke1.ltM (Kx.set (by assumption) (fun z => absurd z (by decide)) _) ?_; intro _ _)
      | (refine Ke1.ltM (Kx.setl (by assumption) _ _ _) ?_; intro _ _)
      | (refine Ke1.ltM (Kx.setr (by assumption) _ _ _) ?_; intro _ _)
      | (refine Ke1.ltM (Kx.cpi (by assumption) (fun z => absurd z (by decide)) _ _ _ _) ?_; intro _ _)
      | (refine Ke1.ltM (Kx.cpl (by assumption) _ _ _ _ _) ?_; intro _ _)
      | (refine Ke1.ltV ?_; intro _)
      | (apply k_f_Hs_init_l28 <;> first | assumption)
      | (refine Ke1.b2 (by first | (apply k_f_Hs_init_l28 <;> first | assumption)) ?_; intro _ _ _)
      | (refine Ke1.bdM (by first | (apply k_f_Hs_init_l28 <;> first | assumption)) ?_; intro _ _)
      | (refine Ke1.bdV ?_; intro _)
theorem Kb.cpy {p : Bool × Nat × Nat} {M : Mem} (h : Kb p M) {b : Nat} (hb : b ≠ 6684679) (a sp dp n : Nat) : Kb p (cpyI M a sp b dp n) := by
  have e : ∀ k, mI (cpyI M a sp b dp n) 6684679 k = mI M 6684679 k := fun k => by
    rw [mI_cpyI, if_neg (fun z => hb z.1.symm)]
  refine ⟨h.1, h.2.1, fun q => ?_, ?_⟩
  · rw [e]; exact h.2.2.1 q
  · rw [e]; exact h.2.2.2
theorem Kb.setr {p : Bool × Nat × Nat} {M : Mem} (h : Kb p M) (a k v : Nat) : Kb p (setR M a k v) := h
theorem s_copyOf {z w : Nat} {M : Mem} (h : Kb (true, z, w) M) : Kf (true, z + 1, w + 100) (f_Ar_copyOf 7081099 (mI M 6684679 6) M) := by
  have hl := h.2.2.1 rfl
  unfold f_Ar_copyOf
  refine Kf.ite Kf.none (Kf.gd ?_)
  rw [lte]
  refine Kf.ltM ((h.new _ _).wk id (Nat.le_refl _) (Nat.add_le_add_left hl w)) fun M1 h1 => Kf.gd ?_
  refine Kf.ltM (h1.cpy ?_ _ _ _ _) fun M2 h2 => Kf.some h2
  unfold nid
  omega
theorem s_b99 {K : Int32 → Mem → Option (Int32 × Mem)} {i z w : Nat} {v2 v3 : Int32} {M : Mem} {q : Bool × Nat × Nat} (hi' : i < 10) (h : Kb (true, z, w) M) (hK : ∀ M', Kb (false, z + 2, w + 103) M' → Kf q (K (Int32.ofNat (i + 1)) M')) (hq : ∀ M', Kb (false, z + 2, w + 103) M' → Kb q M') : Kf q (f_Tx_parse_b99 K (Int32.ofNat i) v2 v3 M) := by
  have hx : nid M 2 ≠ 6684679 := by unfold nid; omega
  unfold f_Tx_parse_b99
  rw [lte, lte]
  generalize nid M 2 = x at hx
  refine Kf.b2 (s_copyOf (h.new 2 3)) fun r M1 h1 => Kf.gd ?_
  have h1' : Kb (false, z + 2, w + 103) M1 := h1.wk (fun z => absurd z (by decide)) (by omega) (by omega)
  refine Kf.bdM (p := (false, z + 2, w + 103)) ?_ fun M2 h2 => Kf.gd ?_
  · unfold f_Cl_init
    rw [lte, lte, lte]
    intro M' e
    cases e
    exact ((h1'.set (Or.inr hx) _).set (Or.inr hx) _).setr _ _ _
  · rw [lte]
    have h3 : Kb (false, z + 2, w + 103) (setR M2 6947152 (Int32.ofNat i).toNatClampNeg x) := h2.setr _ _ _
    generalize setR M2 6947152 (Int32.ofNat i).toNatClampNeg x = M3 at *
    have h4 : Kb (false, z + 2, w + 103) (setI M3 6684679 4 (Int32.ofNat i + 1)) := by
      refine ⟨h3.1, h3.2.1, fun z => Bool.noConfusion z, ?_⟩
      rw [mSe, oN_s, oN_ix (by omega)]
      omega
    rw [lte]
    generalize setI M3 6684679 4 (Int32.ofNat i + 1) = M4 at *
    refine Kf.ite ?_ (Kf.some (hq _ h4))
    rw [lte, oN_s]
    exact hK _ h4
theorem s_b77 {K : Int32 → Mem → Option (Int32 × Mem)} {i z w : Nat} {v2 v3 : Int32} {M : Mem} {q : Bool × Nat × Nat} (hi' : i < 10) (h : Kb (true, z, w) M) (hK : ∀ M', Kb (false, z + 2, w + 103) M' → Kf q (K (Int32.ofNat (i + 1)) M')) (hq : ∀ M', Kb (false, z + 2, w + 103) M' → Kb q M') : Kf q (f_Tx_parse_b77 K (Int32.ofNat i) v2 v3 M) := by
  have up : ∀ M', Kb (true, z, w) M' → Kb q M' := fun M' k => hq _ (k.wk (fun z => absurd z (by decide)) (by omega) (by omega))
  unfold f_Tx_parse_b77
  refine Kf.b2 (s_f_Tx_takes _ h) fun r M1 h1 => Kf.ite (Kf.some (up _ h1)) ?_
  exact Kf.b2 (s_f_rec_takes _ _ _ _ h1) fun r M2 h2 => Kf.ite (Kf.some (up _ h2)) (s_b99 hi' h2 hK hq)
theorem s_b53 {K : Int32 → Mem → Option (Int32 × Mem)} {i z w : Nat} {v2 s0 : Int32} {M : Mem} {q : Bool × Nat × Nat} (hi' : i < 10) (h : Kb (false, z, w) M) (hK : ∀ M', Kb (false, z + 2, w + 103) M' → Kf q (K (Int32.ofNat (i + 1)) M')) (hq : ∀ M', Kb (false, z + 2, w + 103) M' → Kb q M') : Kf q (f_Tx_parse_b53 K (Int32.ofNat i) v2 s0 M) := by
  unfold f_Tx_parse_b53
  refine Kf.ite ?_ (Kf.some (hq _ (h.wk id (by omega) (by omega))))
  rw [lte]
  have h1 : Kb (true, z, w) (setI M 6684679 6 0) := by
    refine ⟨h.1, h.2.1, fun _ => ?_, ?_⟩
    · rw [mSe]; decide
    · rw [mSk (by decide)]; exact h.2.2.2
  exact Kf.ite (s_b77 hi' h1 hK hq) (Kf.ite (s_b77 hi' h1 hK hq) (s_b99 hi' h1 hK hq))
theorem s_b36 {K : Int32 → Mem → Option (Int32 × Mem)} {i z w : Nat} {M : Mem} {q : Bool × Nat × Nat} (hi' : i < 10) (h : Kb (false, z, w) M) (hK : ∀ M', Kb (false, z + 2, w + 103) M' → Kf q (K (Int32.ofNat (i + 1)) M')) (hq : ∀ M', Kb (false, z + 2, w + 103) M' → Kb q M') : Kf q (f_Tx_parse_b36 K (Int32.ofNat i) M) := by
  unfold f_Tx_parse_b36
  refine Kf.b2 (s_f_Tx_takenWord h) fun r M1 h1 => Kf.ite ?_ (s_b53 hi' h1 hK hq)
  exact Kf.b2 (s_f_Tx_takenNumber h1) fun r M2 h2 => s_b53 hi' h2 hK hq
theorem s_l12 : ∀ (n i m z w : Nat) (M : Mem), i + m = 10 → Kb (false, z, w) M → Kf (false, z + 2 * m, w + 103 * m) (f_Tx_parse_l12 n (Int32.ofNat i) M)
  | 0, _, _, _, _, _, _, _ => Kf.none
  | n + 1, i, m, z, w, M, him, h => by
    have up : ∀ M', Kb (false, z, w) M' → Kb (false, z + 2 * m, w + 103 * m) M' := fun M' k => k.wk id (by omega) (by omega)
    have go : ∀ M', i < 10 → Kb (false, z, w) M' → Kf (false, z + 2 * m, w + 103 * m) (f_Tx_parse_b36 (f_Tx_parse_l12 n) (Int32.ofNat i) M') := fun M' hi' k => by
      obtain ⟨m', rfl⟩ : ∃ m', m = m' + 1 := ⟨m - 1, by omega⟩
      refine s_b36 hi' k (fun M2 h2 => ?_) (fun M2 h2 => h2.wk id (by omega) (by omega))
      have := s_l12 n (i + 1) m' (z + 2) (w + 103) M2 (by omega) h2
      rw [show z + 2 + 2 * m' = z + 2 * (m' + 1) by omega, show w + 103 + 103 * m' = w + 103 * (m' + 1) by omega] at this
      exact this
    rw [f_Tx_parse_l12.eq_2]
    by_cases e : i = 10
    · have le10 : (10 : Int32) ≤ Int32.ofNat i := (oN_le (m := 10) (by omega) (by omega)).mpr (by omega)
      rw [if_pos le10]
      exact Kf.some (up _ h)
    · refine Kf.ite (Kf.some (up _ h)) (Kf.ite (go _ (by omega) h) ?_)
      exact Kf.b2 (s_f_Tx_takes _ h) fun r M1 h1 => Kf.ite (Kf.some (up _ h1)) (go _ (by omega) h1)
theorem zw_setI {M : Mem} {a k : Nat} {v : Int32} : mZ (setI M a k v) = mZ M ∧ mW (setI M a k v) = mW M := ⟨rfl, rfl⟩
theorem zw_setR {M : Mem} {a k v : Nat} : mZ (setR M a k v) = mZ M ∧ mW (setR M a k v) = mW M := ⟨rfl, rfl⟩
theorem s_built_l10 {z w p : Nat} : ∀ (n : Nat) (v2 : Int32) (M M' : Mem) (r : Nat), mZ M ≤ z → mW M ≤ w → f_Tx_built_l10 n p v2 M = some (r, M') → mZ M' ≤ z + 1 ∧ mW M' ≤ w + 4
  | 0, _, _, _, _, _, _, e => by cases e
  | n + 1, v2, M, M', r, hz, hw, e => by
    rw [f_Tx_built_l10.eq_2] at e
    by_cases q : mI M 6684679 4 ≤ v2
    · rw [if_pos q, lte, lte] at e
      obtain ⟨-, e⟩ := gd_some e
      obtain ⟨M2, e1, e2⟩ := bd_of e
      cases e2
      obtain ⟨-, k2, k3, -⟩ := k_f_Hs_init _ _ (Kx.rf (b := false)) _ e1
      rw [k2, k3]
      exact ⟨Nat.succ_le_succ hz, Nat.add_le_add_right hw 4⟩
    · rw [if_neg q] at e
      have e := (gd_some (gd_some (gd_some (gd_some e).2).2).2).2
      rw [lte, lte] at e
      exact s_built_l10 n (v2 + 1) (setR M p v2.toNatClampNeg (mR M 6947152 v2.toNatClampNeg)) M' r hz hw e
theorem s_house {C C' : Mem} {a : Int32} (e : f_D_house C = some (a, C')) : mZ C' ≤ mZ C + 22 ∧ mW C' ≤ mW C + 1044 := by
  unfold f_D_house at e
  by_cases q : mI C 9 6 < 6
  · rw [if_pos q] at e
    obtain ⟨⟨r, M1⟩, e1, e⟩ := bd_of e
    have h1 : Kb (false, mZ C + 20, mW C + 1030) M1 := by
      unfold f_Tx_parse at e1
      rw [lte, lte] at e1
      exact s_l12 200 0 10 (mZ C) (mW C) (setI (setI C 6684679 2 0) 6684679 4 0) (by omega) ⟨Nat.le_refl _, Nat.le_refl _, fun z => Bool.noConfusion z, by rw [mSe]; decide⟩ _ _ e1
    rw [ap2g, lte] at e
    have h3 : Kb (false, mZ C + 20, mW C + 1030) (setI M1 6684679 0 0) := by
      refine ⟨h1.1, h1.2.1, fun z => Bool.noConfusion z, ?_⟩
      rw [mSk (by decide)]; exact h1.2.2.2
    generalize setI M1 6684679 0 0 = M3 at *
    by_cases q2 : r = -1
    · rw [if_pos q2] at e
      obtain ⟨⟨r2, M4⟩, e2, e⟩ := bd_of e
      rw [ap2g] at e
      have e := (gd_some (gd_some e).2).2
      rw [lte, lte, lte] at e
      have h4 : mZ M4 ≤ mZ C + 22 ∧ mW M4 ≤ mW C + 1044 := by
        unfold f_Tx_built at e2
        have e2 := (gd_some e2).2
        have hw3 : mW M3 + (mI M3 6684679 4).toNatClampNeg ≤ mW C + 1040 := by
          have a1 : mW M3 ≤ mW C + 1030 := h3.2.1
          have a2 := h3.2.2.2
          omega
        rw [lte, lte] at e2
        have kk := s_built_l10 (z := mZ C + 21) (w := mW C + 1040) 200 0 (newM M3 ((mI M3 6684679 4).toNatClampNeg * 32 + 16) (mI M3 6684679 4).toNatClampNeg) M4 r2 (Nat.succ_le_succ h3.1) hw3 e2
        exact ⟨by omega, by omega⟩
      have e' := congrArg Prod.snd (Option.some.inj e)
      simp only at e'
      generalize (mI M3 9 6).toNatClampNeg = kk at e'
      generalize (7471311 : Nat) = bb at e'
      have zz : mZ C' = mZ M4 ∧ mW C' = mW M4 := by
        rw [← e']
        exact ⟨zw_setI.1.trans (zw_setI.1.trans zw_setR.1), zw_setI.2.trans (zw_setI.2.trans zw_setR.2)⟩
      rw [zz.1, zz.2]
      exact h4
    · rw [if_neg q2] at e
      have e' : M3 = C' := congrArg Prod.snd (Option.some.inj e)
      have a1 : mZ M3 ≤ mZ C + 20 := h3.1
      have a2 : mW M3 ≤ mW C + 1030 := h3.2.1
      rw [← e']
      exact ⟨by omega, by omega⟩
  · rw [if_neg q] at e
    have e' : C = C' := congrArg Prod.snd (Option.some.inj e)
    rw [← e']
    exact ⟨by omega, by omega⟩
