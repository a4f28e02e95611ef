/-! WHAT MAKES NOTHING -/
def Kx (b : Bool) (M M' : Mem) : Prop := mV M' = mV M ∧ mZ M' = mZ M ∧ mW M' = mW M ∧ (b = true → ∀ k, mI M' 14811787 k = mI M 14811787 k)
def Ke {α : Type} (b : Bool) (M0 : Mem) (o : Option (α × Mem)) : Prop := ∀ r M', o = some (r, M') → Kx b M0 M'
def Ke1 (b : Bool) (M0 : Mem) (o : Option Mem) : Prop := ∀ M', o = some M' → Kx b M0 M'
theorem Kx.rf {b : Bool} {M : Mem} : Kx b M M := ⟨rfl, rfl, rfl, fun _ _ => rfl⟩
theorem Kx.set {b : Bool} {M0 M : Mem} (h : Kx b M0 M) {a k : Nat} (ha : b = true → a ≠ 14811787) (v : Int32) : Kx b M0 (setI M a k v) := ⟨h.1, h.2.1, h.2.2.1, fun hb j => (mS (Ne.symm (ha hb))).trans (h.2.2.2 hb j)⟩
theorem Kx.setl {b : Bool} {M0 M : Mem} (h : Kx b M0 M) (a k : Nat) (v : Int64) : Kx b M0 (setL M a k v) := ⟨h.1, h.2.1, h.2.2.1, h.2.2.2⟩
theorem Kx.setr {b : Bool} {M0 M : Mem} (h : Kx b M0 M) (a k v : Nat) : Kx b M0 (setR M a k v) := ⟨h.1, h.2.1, h.2.2.1, h.2.2.2⟩
theorem Kx.cpi {b : Bool} {M0 M : Mem} (h : Kx b M0 M) {c : Nat} (ha : b = true → c ≠ 14811787) (a sp dp n : Nat) : Kx b M0 (cpyI M a sp c dp n) := ⟨h.1, h.2.1, h.2.2.1, fun hb j => by
  rw [mI_cpyI, if_neg (fun z => ha hb z.1.symm)]; exact h.2.2.2 hb j⟩
theorem Kx.cpl {b : Bool} {M0 M : Mem} (h : Kx b M0 M) (a sp c dp n : Nat) : Kx b M0 (cpyL M a sp c dp n) := ⟨h.1, h.2.1, h.2.2.1, h.2.2.2⟩
theorem Ke.none {α : Type} {b : Bool} {M0 : Mem} : Ke b M0 (none : Option (α × Mem)) := fun _ _ h => by cases h
theorem Ke.some {α : Type} {b : Bool} {M0 M : Mem} {r : α} (h : Kx b M0 M) : Ke b M0 (some (r, M)) := fun _ _ e => by cases e; exact h
theorem Ke.ite {α : Type} {b : Bool} {M0 : Mem} {c : Prop} {i : Decidable c} {x y : Option (α × Mem)} (h : Ke b M0 x) (k : Ke b M0 y) : Ke b M0 (@_root_.ite _ c i x y) := fun r M' e => by
  by_cases q : c
  · rw [if_pos q] at e; exact h r M' e
  · rw [if_neg q] at e; exact k r M' e
theorem Ke.gd {α : Type} {b : Bool} {M0 : Mem} {c : Prop} {i : Decidable c} {x : Option (α × Mem)} (h : Ke b M0 x) : Ke b M0 (@gd _ c i x) := fun r M' e => h r M' (gd_some e).2
theorem Ke.ltM {α : Type} {b : Bool} {M0 v : Mem} {g : Mem → Option (α × Mem)} (h : Kx b M0 v) (k : ∀ M1, Kx b M0 M1 → Ke b M0 (g M1)) : Ke b M0 (lt v g) := k v h
theorem Ke.ltV {α β : Type} {b : Bool} {M0 : Mem} {v : β} {g : β → Option (α × Mem)} (k : ∀ x, Ke b M0 (g x)) : Ke b M0 (lt v g) := k v
theorem Ke.bdV {α β : Type} {b : Bool} {M0 : Mem} {o : Option β} {g : β → Option (α × Mem)} (k : ∀ x, Ke b M0 (g x)) : Ke b M0 (bd o g) := fun r M' e => by
  obtain ⟨x, -, e2⟩ := bd_of e
  exact k x r M' e2
theorem Ke.bdM {α : Type} {b : Bool} {M0 : Mem} {o : Option Mem} {g : Mem → Option (α × Mem)} (h : Ke1 b M0 o) (k : ∀ M1, Kx b M0 M1 → Ke b M0 (g M1)) : Ke b M0 (bd o g) := fun r M' e => by
  obtain ⟨x, e1, e2⟩ := bd_of e
  exact k x (h x e1) r M' e2
theorem Ke.b2 {α β : Type} {b : Bool} {M0 : Mem} {o : Option (β × Mem)} {g : β → Mem → Option (α × Mem)} (h : Ke b M0 o) (k : ∀ r M1, Kx b M0 M1 → Ke b M0 (g r M1)) : Ke b M0 (b2 o g) := fun r M' e => by
  obtain ⟨x, e1, e2⟩ := bd_of e
  exact k x.1 x.2 (h x.1 x.2 e1) r M' e2
theorem Ke1.none {b : Bool} {M0 : Mem} : Ke1 b M0 (none : Option Mem) := fun _ h => by cases h
theorem Ke1.some {b : Bool} {M0 M : Mem} (h : Kx b M0 M) : Ke1 b M0 (some M) := fun _ e => by cases e; exact h
theorem Ke1.ite {b : Bool} {M0 : Mem} {c : Prop} {i : Decidable c} {x y : Option Mem} (h : Ke1 b M0 x) (k : Ke1 b M0 y) : Ke1 b M0 (@_root_.ite _ c i x y) := fun M' e => by
  by_cases q : c
  · rw [if_pos q] at e; exact h M' e
  · rw [if_neg q] at e; exact k M' e
theorem Ke1.gd {b : Bool} {M0 : Mem} {c : Prop} {i : Decidable c} {x : Option Mem} (h : Ke1 b M0 x) : Ke1 b M0 (@gd _ c i x) := fun M' e => h M' (gd_some e).2
theorem Ke1.ltM {b : Bool} {M0 v : Mem} {g : Mem → Option Mem} (h : Kx b M0 v) (k : ∀ M1, Kx b M0 M1 → Ke1 b M0 (g M1)) : Ke1 b M0 (lt v g) := k v h
theorem Ke1.ltV {β : Type} {b : Bool} {M0 : Mem} {v : β} {g : β → Option Mem} (k : ∀ x, Ke1 b M0 (g x)) : Ke1 b M0 (lt v g) := k v
theorem Ke1.bdV {β : Type} {b : Bool} {M0 : Mem} {o : Option β} {g : β → Option Mem} (k : ∀ x, Ke1 b M0 (g x)) : Ke1 b M0 (bd o g) := fun M' e => by
  obtain ⟨x, -, e2⟩ := bd_of e
  exact k x M' e2
theorem Ke1.bdM {b : Bool} {M0 : Mem} {o : Option Mem} {g : Mem → Option Mem} (h : Ke1 b M0 o) (k : ∀ M1, Kx b M0 M1 → Ke1 b M0 (g M1)) : Ke1 b M0 (bd o g) := fun M' e => by
  obtain ⟨x, e1, e2⟩ := bd_of e
  exact k x (h x e1) M' e2
theorem Ke1.b2 {β : Type} {b : Bool} {M0 : Mem} {o : Option (β × Mem)} {g : β → Mem → Option Mem} (h : Ke b M0 o) (k : ∀ r M1, Kx b M0 M1 → Ke1 b M0 (g r M1)) : Ke1 b M0 (b2 o g) := fun M' e => by
  obtain ⟨x, e1, e2⟩ := bd_of e
  exact k x.1 x.2 (h x.1 x.2 e1) M' e2
theorem k_f_M_air (p1 : Int32) (p2 : Int32) {M0 M : Mem}  (h : Kx true M0 M) : Ke true M0 (f_M_air p1 p2 M) := by
    unfold f_M_air
    repeat' with_reducible first
      | exact Ke.none
      | exact Ke.some (by assumption)
      | refine Ke.ite ?_ ?_
      | refine Ke.gd ?_
      | (refine Ke.ltM (Kx.set (by assumption) (fun _ => by decide) _) ?_; intro _ _)
      | (refine Ke.ltM (Kx.setl (by assumption) _ _ _) ?_; intro _ _)
      | (refine Ke.ltM (Kx.setr (by assumption) _ _ _) ?_; intro _ _)
      | (refine Ke.ltM (Kx.cpi (by assumption) (fun _ => by decide) _ _ _ _) ?_; intro _ _)
      | (refine Ke.ltM (Kx.cpl (by assumption) _ _ _ _ _) ?_; intro _ _)
      | (refine Ke.ltV ?_; intro _)
      | (refine Ke.bdV ?_; intro _)
theorem k_f_M_lean (p1 : Int32) {M0 M : Mem}  (h : Kx true M0 M) : Ke true M0 (f_M_lean p1 M) := by
    unfold f_M_lean
    repeat' with_reducible first
      | exact Ke.none
      | exact Ke.some (by assumption)
      | refine Ke.ite ?_ ?_
      | refine Ke.gd ?_
      | (refine Ke.ltM (Kx.set (by assumption) (fun _ => by decide) _) ?_; intro _ _)
      | (refine Ke.ltM (Kx.setl (by assumption) _ _ _) ?_; intro _ _)
      | (refine Ke.ltM (Kx.setr (by assumption) _ _ _) ?_; intro _ _)
      | (refine Ke.ltM (Kx.cpi (by assumption) (fun _ => by decide) _ _ _ _) ?_; intro _ _)
      | (refine Ke.ltM (Kx.cpl (by assumption) _ _ _ _ _) ?_; intro _ _)
      | (refine Ke.ltV ?_; intro _)
      | (refine Ke.bdV ?_; intro _)
theorem k_f_M_door_l97  {M0 : Mem}  : ∀ (n : Nat) (w0 : Int32) (w1 : Int32) (M : Mem), Kx true M0 M → Ke true M0 (f_M_door_l97  n w0 w1 M)
  | 0, _, _, _, _ => by
    simp only [f_M_door_l97]
    exact Ke.none
  | n + 1, w0, w1, M, h => by
    simp only [f_M_door_l97]
    repeat' with_reducible first
      | exact Ke.none
      | exact Ke.some (by assumption)
      | refine Ke.ite ?_ ?_
      | refine Ke.gd ?_
      | (refine Ke.ltM (Kx.set (by assumption) (fun _ => by decide) _) ?_; intro _ _)
      | (refine Ke.ltM (Kx.setl (by assumption) _ _ _) ?_; intro _ _)
      | (refine Ke.ltM (Kx.setr (by assumption) _ _ _) ?_; intro _ _)
      | (refine Ke.ltM (Kx.cpi (by assumption) (fun _ => by decide) _ _ _ _) ?_; intro _ _)
      | (refine Ke.ltM (Kx.cpl (by assumption) _ _ _ _ _) ?_; intro _ _)
      | (refine Ke.ltV ?_; intro _)
      | exact k_f_M_door_l97 n _ _ _ (by assumption)
      | (refine Ke.b2 (by first | exact k_f_M_door_l97 n _ _ _ (by assumption)) ?_; intro _ _ _)
      | (refine Ke.bdM (by first | exact k_f_M_door_l97 n _ _ _ (by assumption)) ?_; intro _ _)
      | (refine Ke.bdV ?_; intro _)
theorem k_f_M_door (p1 : Int32) (p2 : Int32) {M0 M : Mem}  (h : Kx true M0 M) : Ke true M0 (f_M_door p1 p2 M) := by
    unfold f_M_door
    repeat' with_reducible first
      | exact Ke.none
      | exact Ke.some (by assumption)
      | refine Ke.ite ?_ ?_
      | refine Ke.gd ?_
      | (refine Ke.ltM (Kx.set (by assumption) (fun _ => by decide) _) ?_; intro _ _)
      | (refine Ke.ltM (Kx.setl (by assumption) _ _ _) ?_; intro _ _)
      | (refine Ke.ltM (Kx.setr (by assumption) _ _ _) ?_; intro _ _)
      | (refine Ke.ltM (Kx.cpi (by assumption) (fun _ => by decide) _ _ _ _) ?_; intro _ _)
      | (refine Ke.ltM (Kx.cpl (by assumption) _ _ _ _ _) ?_; intro _ _)
      | (refine Ke.ltV ?_; intro _)
      | (apply k_f_M_door_l97 <;> first | assumption)
      | (refine Ke.b2 (by first | (apply k_f_M_door_l97 <;> first | assumption)) ?_; intro _ _ _)
      | (refine Ke.bdM (by first | (apply k_f_M_door_l97 <;> first | assumption)) ?_; intro _ _)
      | (refine Ke.bdV ?_; intro _)
theorem k_f_M_water_b53 (v1 : Int32) (v2 : Int32) (v3 : Int32) (s0 : Int32) {M0 M : Mem}  (h : Kx true M0 M) : Ke true M0 (f_M_water_b53 v1 v2 v3 s0 M) := by
    unfold f_M_water_b53
    repeat' with_reducible first
      | exact Ke.none
      | exact Ke.some (by assumption)
      | refine Ke.ite ?_ ?_
      | refine Ke.gd ?_
      | (refine Ke.ltM (Kx.set (by assumption) (fun _ => by decide) _) ?_; intro _ _)
      | (refine Ke.ltM (Kx.setl (by assumption) _ _ _) ?_; intro _ _)
      | (refine Ke.ltM (Kx.setr (by assumption) _ _ _) ?_; intro _ _)
      | (refine Ke.ltM (Kx.cpi (by assumption) (fun _ => by decide) _ _ _ _) ?_; intro _ _)
      | (refine Ke.ltM (Kx.cpl (by assumption) _ _ _ _ _) ?_; intro _ _)
      | (refine Ke.ltV ?_; intro _)
      | (refine Ke.bdV ?_; intro _)
theorem k_f_M_water (p1 : Int32) (p2 : Int32) (p3 : Int32) {M0 M : Mem}  (h : Kx true M0 M) : Ke true M0 (f_M_water p1 p2 p3 M) := by
    unfold f_M_water
    repeat' with_reducible first
      | exact Ke.none
      | exact Ke.some (by assumption)
      | refine Ke.ite ?_ ?_
      | refine Ke.gd ?_
      | (refine Ke.ltM (Kx.set (by assumption) (fun _ => by decide) _) ?_; intro _ _)
      | (refine Ke.ltM (Kx.setl (by assumption) _ _ _) ?_; intro _ _)
      | (refine Ke.ltM (Kx.setr (by assumption) _ _ _) ?_; intro _ _)
      | (refine Ke.ltM (Kx.cpi (by assumption) (fun _ => by decide) _ _ _ _) ?_; intro _ _)
      | (refine Ke.ltM (Kx.cpl (by assumption) _ _ _ _ _) ?_; intro _ _)
      | (refine Ke.ltV ?_; intro _)
      | (apply k_f_M_water_b53 <;> first | assumption)
      | (refine Ke.b2 (by first | (apply k_f_M_water_b53 <;> first | assumption)) ?_; intro _ _ _)
      | (refine Ke.bdM (by first | (apply k_f_M_water_b53 <;> first | assumption)) ?_; intro _ _)
      | (refine Ke.bdV ?_; intro _)
theorem k_f_M_sag (p1 : Int32) (p2 : Int32) {M0 M : Mem}  (h : Kx true M0 M) : Ke true M0 (f_M_sag p1 p2 M) := by
    unfold f_M_sag
    repeat' with_reducible first
      | exact Ke.none
      | exact Ke.some (by assumption)
      | refine Ke.ite ?_ ?_
      | refine Ke.gd ?_
      | (refine Ke.ltM (Kx.set (by assumption) (fun _ => by decide) _) ?_; intro _ _)
      | (refine Ke.ltM (Kx.setl (by assumption) _ _ _) ?_; intro _ _)
      | (refine Ke.ltM (Kx.setr (by assumption) _ _ _) ?_; intro _ _)
      | (refine Ke.ltM (Kx.cpi (by assumption) (fun _ => by decide) _ _ _ _) ?_; intro _ _)
      | (refine Ke.ltM (Kx.cpl (by assumption) _ _ _ _ _) ?_; intro _ _)
      | (refine Ke.ltV ?_; intro _)
      | (refine Ke.bdV ?_; intro _)
theorem k_f_M_feed (p1 : Int32) {M0 M : Mem}  (h : Kx true M0 M) : Ke true M0 (f_M_feed p1 M) := by
    unfold f_M_feed
    repeat' with_reducible first
      | exact Ke.none
      | exact Ke.some (by assumption)
      | refine Ke.ite ?_ ?_
      | refine Ke.gd ?_
      | (refine Ke.ltM (Kx.set (by assumption) (fun _ => by decide) _) ?_; intro _ _)
      | (refine Ke.ltM (Kx.setl (by assumption) _ _ _) ?_; intro _ _)
      | (refine Ke.ltM (Kx.setr (by assumption) _ _ _) ?_; intro _ _)
      | (refine Ke.ltM (Kx.cpi (by assumption) (fun _ => by decide) _ _ _ _) ?_; intro _ _)
      | (refine Ke.ltM (Kx.cpl (by assumption) _ _ _ _ _) ?_; intro _ _)
      | (refine Ke.ltV ?_; intro _)
      | (refine Ke.bdV ?_; intro _)
theorem k_f_M_takes (p1 : Int32) {M0 M : Mem}  (h : Kx true M0 M) : Ke true M0 (f_M_takes p1 M) := by
    unfold f_M_takes
    repeat' with_reducible first
      | exact Ke.none
      | exact Ke.some (by assumption)
      | refine Ke.ite ?_ ?_
      | refine Ke.gd ?_
      | (refine Ke.ltM (Kx.set (by assumption) (fun _ => by decide) _) ?_; intro _ _)
      | (refine Ke.ltM (Kx.setl (by assumption) _ _ _) ?_; intro _ _)
      | (refine Ke.ltM (Kx.setr (by assumption) _ _ _) ?_; intro _ _)
      | (refine Ke.ltM (Kx.cpi (by assumption) (fun _ => by decide) _ _ _ _) ?_; intro _ _)
      | (refine Ke.ltM (Kx.cpl (by assumption) _ _ _ _ _) ?_; intro _ _)
      | (refine Ke.ltV ?_; intro _)
      | (refine Ke.bdV ?_; intro _)
theorem k_f_M_takesWord_l2  {M0 : Mem}  : ∀ (n : Nat) (w0 : Int32) (w1 : Int32) (w2 : Int32) (M : Mem), Kx true M0 M → Ke true M0 (f_M_takesWord_l2  n w0 w1 w2 M)
  | 0, _, _, _, _, _ => by
    simp only [f_M_takesWord_l2]
    exact Ke.none
  | n + 1, w0, w1, w2, M, h => by
    simp only [f_M_takesWord_l2]
    repeat' with_reducible first
      | exact Ke.none
      | exact Ke.some (by assumption)
      | refine Ke.ite ?_ ?_
      | refine Ke.gd ?_
      | (refine Ke.ltM (Kx.set (by assumption) (fun _ => by decide) _) ?_; intro _ _)
      | (refine Ke.ltM (Kx.setl (by assumption) _ _ _) ?_; intro _ _)
      | (refine Ke.ltM (Kx.setr (by assumption) _ _ _) ?_; intro _ _)
      | (refine Ke.ltM (Kx.cpi (by assumption) (fun _ => by decide) _ _ _ _) ?_; intro _ _)
      | (refine Ke.ltM (Kx.cpl (by assumption) _ _ _ _ _) ?_; intro _ _)
      | (refine Ke.ltV ?_; intro _)
      | (apply k_f_M_takes <;> first | assumption | (intros; refine k_f_M_takesWord_l2 n _ _ _  _ ?_; assumption))
      | exact k_f_M_takesWord_l2 n _ _ _ _ (by assumption)
      | (refine Ke.b2 (by first | (apply k_f_M_takes <;> first | assumption | (intros; refine k_f_M_takesWord_l2 n _ _ _  _ ?_; assumption)) | exact k_f_M_takesWord_l2 n _ _ _ _ (by assumption)) ?_; intro _ _ _)
      | (refine Ke.bdM (by first | (apply k_f_M_takes <;> first | assumption | (intros; refine k_f_M_takesWord_l2 n _ _ _  _ ?_; assumption)) | exact k_f_M_takesWord_l2 n _ _ _ _ (by assumption)) ?_; intro _ _)
      | (refine Ke.bdV ?_; intro _)
theorem k_f_M_takesWord (p1 : Int32) (p2 : Int32) {M0 M : Mem}  (h : Kx true M0 M) : Ke true M0 (f_M_takesWord p1 p2 M) := by
    unfold f_M_takesWord
    repeat' with_reducible first
      | exact Ke.none
      | exact Ke.some (by assumption)
      | refine Ke.ite ?_ ?_
      | refine Ke.gd ?_
      | (refine Ke.ltM (Kx.set (by assumption) (fun _ => by decide) _) ?_; intro _ _)
      | (refine Ke.ltM (Kx.setl (by assumption) _ _ _) ?_; intro _ _)
      | (refine Ke.ltM (Kx.setr (by assumption) _ _ _) ?_; intro _ _)
      | (refine Ke.ltM (Kx.cpi (by assumption) (fun _ => by decide) _ _ _ _) ?_; intro _ _)
      | (refine Ke.ltM (Kx.cpl (by assumption) _ _ _ _ _) ?_; intro _ _)
      | (refine Ke.ltV ?_; intro _)
      | (apply k_f_M_takesWord_l2 <;> first | assumption)
      | (refine Ke.b2 (by first | (apply k_f_M_takesWord_l2 <;> first | assumption)) ?_; intro _ _ _)
      | (refine Ke.bdM (by first | (apply k_f_M_takesWord_l2 <;> first | assumption)) ?_; intro _ _)
      | (refine Ke.bdV ?_; intro _)
theorem k_f_M_takesNumber_l16  {M0 : Mem}  : ∀ (n : Nat) (w0 : Int32) (M : Mem), Kx true M0 M → Ke true M0 (f_M_takesNumber_l16  n w0 M)
  | 0, _, _, _ => by
    simp only [f_M_takesNumber_l16]
    exact Ke.none
  | n + 1, w0, M, h => by
    simp only [f_M_takesNumber_l16]
    repeat' with_reducible first
      | exact Ke.none
      | exact Ke.some (by assumption)
      | refine Ke.ite ?_ ?_
      | refine Ke.gd ?_
      | (refine Ke.ltM (Kx.set (by assumption) (fun _ => by decide) _) ?_; intro _ _)
      | (refine Ke.ltM (Kx.setl (by assumption) _ _ _) ?_; intro _ _)
      | (refine Ke.ltM (Kx.setr (by assumption) _ _ _) ?_; intro _ _)
      | (refine Ke.ltM (Kx.cpi (by assumption) (fun _ => by decide) _ _ _ _) ?_; intro _ _)
      | (refine Ke.ltM (Kx.cpl (by assumption) _ _ _ _ _) ?_; intro _ _)
      | (refine Ke.ltV ?_; intro _)
      | exact k_f_M_takesNumber_l16 n _ _ (by assumption)
      | (refine Ke.b2 (by first | exact k_f_M_takesNumber_l16 n _ _ (by assumption)) ?_; intro _ _ _)
      | (refine Ke.bdM (by first | exact k_f_M_takesNumber_l16 n _ _ (by assumption)) ?_; intro _ _)
      | (refine Ke.bdV ?_; intro _)
theorem k_f_M_takesNumber  {M0 M : Mem}  (h : Kx true M0 M) : Ke true M0 (f_M_takesNumber  M) := by
    unfold f_M_takesNumber
    repeat' with_reducible first
      | exact Ke.none
      | exact Ke.some (by assumption)
      | refine Ke.ite ?_ ?_
      | refine Ke.gd ?_
      | (refine Ke.ltM (Kx.set (by assumption) (fun _ => by decide) _) ?_; intro _ _)
      | (refine Ke.ltM (Kx.setl (by assumption) _ _ _) ?_; intro _ _)
      | (refine Ke.ltM (Kx.setr (by assumption) _ _ _) ?_; intro _ _)
      | (refine Ke.ltM (Kx.cpi (by assumption) (fun _ => by decide) _ _ _ _) ?_; intro _ _)
      | (refine Ke.ltM (Kx.cpl (by assumption) _ _ _ _ _) ?_; intro _ _)
      | (refine Ke.ltV ?_; intro _)
      | (apply k_f_M_takesNumber_l16 <;> first | assumption)
      | (refine Ke.b2 (by first | (apply k_f_M_takesNumber_l16 <;> first | assumption)) ?_; intro _ _ _)
      | (refine Ke.bdM (by first | (apply k_f_M_takesNumber_l16 <;> first | assumption)) ?_; intro _ _)
      | (refine Ke.bdV ?_; intro _)
theorem k_f_M_put (p1 : Int32) {M0 M : Mem}  (h : Kx true M0 M) : Ke1 true M0 (f_M_put p1 M) := by
    unfold f_M_put
    repeat' with_reducible first
      | exact Ke1.none
      | exact Ke1.some (by assumption)
      | refine Ke1.ite ?_ ?_
      | refine Ke1.gd ?_
      | (refine Ke1.ltM (Kx.set (by assumption) (fun _ => by decide) _) ?_; intro _ _)
      | (refine Ke1.ltM (Kx.setl (by assumption) _ _ _) ?_; intro _ _)
      | (refine Ke1.ltM (Kx.setr (by assumption) _ _ _) ?_; intro _ _)
      | (refine Ke1.ltM (Kx.cpi (by assumption) (fun _ => by decide) _ _ _ _) ?_; intro _ _)
      | (refine Ke1.ltM (Kx.cpl (by assumption) _ _ _ _ _) ?_; intro _ _)
      | (refine Ke1.ltV ?_; intro _)
      | (refine Ke1.bdV ?_; intro _)
theorem k_f_M_whole_l0  {M0 : Mem}  : ∀ (n : Nat)  (M : Mem), Kx true M0 M → Ke1 true M0 (f_M_whole_l0  n  M)
  | 0, _, _ => by
    simp only [f_M_whole_l0]
    exact Ke1.none
  | n + 1, M, h => by
    simp only [f_M_whole_l0]
    repeat' with_reducible first
      | exact Ke1.none
      | exact Ke1.some (by assumption)
      | refine Ke1.ite ?_ ?_
      | refine Ke1.gd ?_
      | (refine Ke1.ltM (Kx.set (by assumption) (fun _ => by decide) _) ?_; intro _ _)
      | (refine Ke1.ltM (Kx.setl (by assumption) _ _ _) ?_; intro _ _)
      | (refine Ke1.ltM (Kx.setr (by assumption) _ _ _) ?_; intro _ _)
      | (refine Ke1.ltM (Kx.cpi (by assumption) (fun _ => by decide) _ _ _ _) ?_; intro _ _)
      | (refine Ke1.ltM (Kx.cpl (by assumption) _ _ _ _ _) ?_; intro _ _)
      | (refine Ke1.ltV ?_; intro _)
      | (apply k_f_M_put <;> first | assumption | (intros; refine k_f_M_whole_l0 n  _ ?_; assumption))
      | exact k_f_M_whole_l0 n _ (by assumption)
      | (refine Ke1.b2 (by first | (apply k_f_M_put <;> first | assumption | (intros; refine k_f_M_whole_l0 n  _ ?_; assumption)) | exact k_f_M_whole_l0 n _ (by assumption)) ?_; intro _ _ _)
      | (refine Ke1.bdM (by first | (apply k_f_M_put <;> first | assumption | (intros; refine k_f_M_whole_l0 n  _ ?_; assumption)) | exact k_f_M_whole_l0 n _ (by assumption)) ?_; intro _ _)
      | (refine Ke1.bdV ?_; intro _)
theorem k_f_M_whole  {M0 M : Mem}  (h : Kx true M0 M) : Ke1 true M0 (f_M_whole  M) := by
    unfold f_M_whole
    repeat' with_reducible first
      | exact Ke1.none
      | exact Ke1.some (by assumption)
      | refine Ke1.ite ?_ ?_
      | refine Ke1.gd ?_
      | (refine Ke1.ltM (Kx.set (by assumption) (fun _ => by decide) _) ?_; intro _ _)
      | (refine Ke1.ltM (Kx.setl (by assumption) _ _ _) ?_; intro _ _)
      | (refine Ke1.ltM (Kx.setr (by assumption) _ _ _) ?_; intro _ _)
      | (refine Ke1.ltM (Kx.cpi (by assumption) (fun _ => by decide) _ _ _ _) ?_; intro _ _)
      | (refine Ke1.ltM (Kx.cpl (by assumption) _ _ _ _ _) ?_; intro _ _)
      | (refine Ke1.ltV ?_; intro _)
      | (apply k_f_M_whole_l0 <;> first | assumption)
      | (refine Ke1.b2 (by first | (apply k_f_M_whole_l0 <;> first | assumption)) ?_; intro _ _ _)
      | (refine Ke1.bdM (by first | (apply k_f_M_whole_l0 <;> first | assumption)) ?_; intro _ _)
      | (refine Ke1.bdV ?_; intro _)
theorem k_f_M_settle_b45 (K0 : Int32 → Mem → Option Mem) (v1 : Int32) {M0 M : Mem} (hK0 : ∀ y0 M, Kx true M0 M → Ke1 true M0 (K0 y0 M)) (h : Kx true M0 M) : Ke1 true M0 (f_M_settle_b45 K0 v1 M) := by
    unfold f_M_settle_b45
    repeat' with_reducible first
      | exact Ke1.none
      | exact Ke1.some (by assumption)
      | refine Ke1.ite ?_ ?_
      | refine Ke1.gd ?_
      | (refine Ke1.ltM (Kx.set (by assumption) (fun _ => by decide) _) ?_; intro _ _)
      | (refine Ke1.ltM (Kx.setl (by assumption) _ _ _) ?_; intro _ _)
      | (refine Ke1.ltM (Kx.setr (by assumption) _ _ _) ?_; intro _ _)
      | (refine Ke1.ltM (Kx.cpi (by assumption) (fun _ => by decide) _ _ _ _) ?_; intro _ _)
      | (refine Ke1.ltM (Kx.cpl (by assumption) _ _ _ _ _) ?_; intro _ _)
      | (refine Ke1.ltV ?_; intro _)
      | (apply hK0; assumption)
      | (apply k_f_M_put <;> first | assumption | (intros; apply hK0 <;> assumption))
      | (refine Ke1.b2 (by first | (apply hK0; assumption) | (apply k_f_M_put <;> first | assumption | (intros; apply hK0 <;> assumption))) ?_; intro _ _ _)
      | (refine Ke1.bdM (by first | (apply hK0; assumption) | (apply k_f_M_put <;> first | assumption | (intros; apply hK0 <;> assumption))) ?_; intro _ _)
      | (refine Ke1.bdV ?_; intro _)
theorem k_f_M_settle_l0  {M0 : Mem}  : ∀ (n : Nat) (w0 : Int32) (M : Mem), Kx true M0 M → Ke1 true M0 (f_M_settle_l0  n w0 M)
  | 0, _, _, _ => by
    simp only [f_M_settle_l0]
    exact Ke1.none
  | n + 1, w0, M, h => by
    simp only [f_M_settle_l0]
    repeat' with_reducible first
      | exact Ke1.none
      | exact Ke1.some (by assumption)
      | refine Ke1.ite ?_ ?_
      | refine Ke1.gd ?_
      | (refine Ke1.ltM (Kx.set (by assumption) (fun _ => by decide) _) ?_; intro _ _)
      | (refine Ke1.ltM (Kx.setl (by assumption) _ _ _) ?_; intro _ _)
      | (refine Ke1.ltM (Kx.setr (by assumption) _ _ _) ?_; intro _ _)
      | (refine Ke1.ltM (Kx.cpi (by assumption) (fun _ => by decide) _ _ _ _) ?_; intro _ _)
      | (refine Ke1.ltM (Kx.cpl (by assumption) _ _ _ _ _) ?_; intro _ _)
      | (refine Ke1.ltV ?_; intro _)
      | (apply k_f_M_settle_b45 <;> first | assumption | (intros; refine k_f_M_settle_l0 n _  _ ?_; assumption))
      | exact k_f_M_settle_l0 n _ _ (by assumption)
      | (refine Ke1.b2 (by first | (apply k_f_M_settle_b45 <;> first | assumption | (intros; refine k_f_M_settle_l0 n _  _ ?_; assumption)) | exact k_f_M_settle_l0 n _ _ (by assumption)) ?_; intro _ _ _)
      | (refine Ke1.bdM (by first | (apply k_f_M_settle_b45 <;> first | assumption | (intros; refine k_f_M_settle_l0 n _  _ ?_; assumption)) | exact k_f_M_settle_l0 n _ _ (by assumption)) ?_; intro _ _)
      | (refine Ke1.bdV ?_; intro _)
theorem k_f_M_settle (p1 : Int32) {M0 M : Mem}  (h : Kx true M0 M) : Ke1 true M0 (f_M_settle p1 M) := by
    unfold f_M_settle
    repeat' with_reducible first
      | exact Ke1.none
      | exact Ke1.some (by assumption)
      | refine Ke1.ite ?_ ?_
      | refine Ke1.gd ?_
      | (refine Ke1.ltM (Kx.set (by assumption) (fun _ => by decide) _) ?_; intro _ _)
      | (refine Ke1.ltM (Kx.setl (by assumption) _ _ _) ?_; intro _ _)
      | (refine Ke1.ltM (Kx.setr (by assumption) _ _ _) ?_; intro _ _)
      | (refine Ke1.ltM (Kx.cpi (by assumption) (fun _ => by decide) _ _ _ _) ?_; intro _ _)
      | (refine Ke1.ltM (Kx.cpl (by assumption) _ _ _ _ _) ?_; intro _ _)
      | (refine Ke1.ltV ?_; intro _)
      | (apply k_f_M_settle_l0 <;> first | assumption)
      | (refine Ke1.b2 (by first | (apply k_f_M_settle_l0 <;> first | assumption)) ?_; intro _ _ _)
      | (refine Ke1.bdM (by first | (apply k_f_M_settle_l0 <;> first | assumption)) ?_; intro _ _)
      | (refine Ke1.bdV ?_; intro _)
theorem k_f_M_takesTest  {M0 M : Mem}  (h : Kx true M0 M) : Ke true M0 (f_M_takesTest  M) := by
    unfold f_M_takesTest
    repeat' with_reducible first
      | exact Ke.none
      | exact Ke.some (by assumption)
      | refine Ke.ite ?_ ?_
      | refine Ke.gd ?_
      | (refine Ke.ltM (Kx.set (by assumption) (fun _ => by decide) _) ?_; intro _ _)
      | (refine Ke.ltM (Kx.setl (by assumption) _ _ _) ?_; intro _ _)
      | (refine Ke.ltM (Kx.setr (by assumption) _ _ _) ?_; intro _ _)
      | (refine Ke.ltM (Kx.cpi (by assumption) (fun _ => by decide) _ _ _ _) ?_; intro _ _)
      | (refine Ke.ltM (Kx.cpl (by assumption) _ _ _ _ _) ?_; intro _ _)
      | (refine Ke.ltV ?_; intro _)
      | (apply k_f_M_takesNumber <;> first | assumption | (intros; apply k_f_M_put <;> assumption) | (intros; apply k_f_M_whole <;> assumption))
      | (apply k_f_M_put <;> first | assumption | (intros; apply k_f_M_takesNumber <;> assumption) | (intros; apply k_f_M_whole <;> assumption))
      | (apply k_f_M_whole <;> first | assumption | (intros; apply k_f_M_takesNumber <;> assumption) | (intros; apply k_f_M_put <;> assumption))
      | (refine Ke.b2 (by first | (apply k_f_M_takesNumber <;> first | assumption | (intros; apply k_f_M_put <;> assumption) | (intros; apply k_f_M_whole <;> assumption)) | (apply k_f_M_put <;> first | assumption | (intros; apply k_f_M_takesNumber <;> assumption) | (intros; apply k_f_M_whole <;> assumption)) | (apply k_f_M_whole <;> first | assumption | (intros; apply k_f_M_takesNumber <;> assumption) | (intros; apply k_f_M_put <;> assumption))) ?_; intro _ _ _)
      | (refine Ke.bdM (by first | (apply k_f_M_takesNumber <;> first | assumption | (intros; apply k_f_M_put <;> assumption) | (intros; apply k_f_M_whole <;> assumption)) | (apply k_f_M_put <;> first | assumption | (intros; apply k_f_M_takesNumber <;> assumption) | (intros; apply k_f_M_whole <;> assumption)) | (apply k_f_M_whole <;> first | assumption | (intros; apply k_f_M_takesNumber <;> assumption) | (intros; apply k_f_M_put <;> assumption))) ?_; intro _ _)
      | (refine Ke.bdV ?_; intro _)
theorem k_f_M_takesE_b122 (K22 : Int32 → Int32 → Mem → Option (Int32 × Mem)) (v1 : Int32) (v3 : Int32) {M0 M : Mem} (hK22 : ∀ y0 y1 M, Kx true M0 M → Ke true M0 (K22 y0 y1 M)) (h : Kx true M0 M) : Ke true M0 (f_M_takesE_b122 K22 v1 v3 M) := by
    unfold f_M_takesE_b122
    repeat' with_reducible first
      | exact Ke.none
      | exact Ke.some (by assumption)
      | refine Ke.ite ?_ ?_
      | refine Ke.gd ?_
      | (refine Ke.ltM (Kx.set (by assumption) (fun _ => by decide) _) ?_; intro _ _)
      | (refine Ke.ltM (Kx.setl (by assumption) _ _ _) ?_; intro _ _)
      | (refine Ke.ltM (Kx.setr (by assumption) _ _ _) ?_; intro _ _)
      | (refine Ke.ltM (Kx.cpi (by assumption) (fun _ => by decide) _ _ _ _) ?_; intro _ _)
      | (refine Ke.ltM (Kx.cpl (by assumption) _ _ _ _ _) ?_; intro _ _)
      | (refine Ke.ltV ?_; intro _)
      | (apply hK22; assumption)
      | (apply k_f_M_settle <;> first | assumption | (intros; apply hK22 <;> assumption))
      | (refine Ke.b2 (by first | (apply hK22; assumption) | (apply k_f_M_settle <;> first | assumption | (intros; apply hK22 <;> assumption))) ?_; intro _ _ _)
      | (refine Ke.bdM (by first | (apply hK22; assumption) | (apply k_f_M_settle <;> first | assumption | (intros; apply hK22 <;> assumption))) ?_; intro _ _)
      | (refine Ke.bdV ?_; intro _)
theorem k_f_M_takesE_b43 (K22 : Int32 → Int32 → Mem → Option (Int32 × Mem)) (v1 : Int32) (v2 : Int32) (v3 : Int32) {M0 M : Mem} (hK22 : ∀ y0 y1 M, Kx true M0 M → Ke true M0 (K22 y0 y1 M)) (h : Kx true M0 M) : Ke true M0 (f_M_takesE_b43 K22 v1 v2 v3 M) := by
    unfold f_M_takesE_b43
    repeat' with_reducible first
      | exact Ke.none
      | exact Ke.some (by assumption)
      | refine Ke.ite ?_ ?_
      | refine Ke.gd ?_
      | (refine Ke.ltM (Kx.set (by assumption) (fun _ => by decide) _) ?_; intro _ _)
      | (refine Ke.ltM (Kx.setl (by assumption) _ _ _) ?_; intro _ _)
      | (refine Ke.ltM (Kx.setr (by assumption) _ _ _) ?_; intro _ _)
      | (refine Ke.ltM (Kx.cpi (by assumption) (fun _ => by decide) _ _ _ _) ?_; intro _ _)
      | (refine Ke.ltM (Kx.cpl (by assumption) _ _ _ _ _) ?_; intro _ _)
      | (refine Ke.ltV ?_; intro _)
      | (apply hK22; assumption)
      | (refine Ke.b2 (by first | (apply hK22; assumption)) ?_; intro _ _ _)
      | (refine Ke.bdM (by first | (apply hK22; assumption)) ?_; intro _ _)
      | (refine Ke.bdV ?_; intro _)
theorem k_f_M_takesE_l22  {M0 : Mem}  : ∀ (n : Nat) (w0 : Int32) (w1 : Int32) (M : Mem), Kx true M0 M → Ke true M0 (f_M_takesE_l22  n w0 w1 M)
  | 0, _, _, _, _ => by
    simp only [f_M_takesE_l22]
    exact Ke.none
  | n + 1, w0, w1, M, h => by
    simp only [f_M_takesE_l22]
    repeat' with_reducible first
      | exact Ke.none
      | exact Ke.some (by assumption)
      | refine Ke.ite ?_ ?_
      | refine Ke.gd ?_
      | (refine Ke.ltM (Kx.set (by assumption) (fun _ => by decide) _) ?_; intro _ _)
      | (refine Ke.ltM (Kx.setl (by assumption) _ _ _) ?_; intro _ _)
      | (refine Ke.ltM (Kx.setr (by assumption) _ _ _) ?_; intro _ _)
      | (refine Ke.ltM (Kx.cpi (by assumption) (fun _ => by decide) _ _ _ _) ?_; intro _ _)
      | (refine Ke.ltM (Kx.cpl (by assumption) _ _ _ _ _) ?_; intro _ _)
      | (refine Ke.ltV ?_; intro _)
      | (apply k_f_M_takesE_b122 <;> first | assumption | (intros; refine k_f_M_takesE_l22 n _ _  _ ?_; assumption) | (intros; apply k_f_M_settle <;> assumption) | (intros; apply k_f_M_whole <;> assumption) | (intros; apply k_f_M_takesE_b43 <;> assumption) | (intros; apply k_f_M_takesTest <;> assumption))
      | exact k_f_M_takesE_l22 n _ _ _ (by assumption)
      | (apply k_f_M_settle <;> first | assumption | (intros; apply k_f_M_takesE_b122 <;> assumption) | (intros; refine k_f_M_takesE_l22 n _ _  _ ?_; assumption) | (intros; apply k_f_M_whole <;> assumption) | (intros; apply k_f_M_takesE_b43 <;> assumption) | (intros; apply k_f_M_takesTest <;> assumption))
      | (apply k_f_M_whole <;> first | assumption | (intros; apply k_f_M_takesE_b122 <;> assumption) | (intros; refine k_f_M_takesE_l22 n _ _  _ ?_; assumption) | (intros; apply k_f_M_settle <;> assumption) | (intros; apply k_f_M_takesE_b43 <;> assumption) | (intros; apply k_f_M_takesTest <;> assumption))
      | (apply k_f_M_takesE_b43 <;> first | assumption | (intros; apply k_f_M_takesE_b122 <;> assumption) | (intros; refine k_f_M_takesE_l22 n _ _  _ ?_; assumption) | (intros; apply k_f_M_settle <;> assumption) | (intros; apply k_f_M_whole <;> assumption) | (intros; apply k_f_M_takesTest <;> assumption))
      | (apply k_f_M_takesTest <;> first | assumption | (intros; apply k_f_M_takesE_b122 <;> assumption) | (intros; refine k_f_M_takesE_l22 n _ _  _ ?_; assumption) | (intros; apply k_f_M_settle <;> assumption) | (intros; apply k_f_M_whole <;> assumption) | (intros; apply k_f_M_takesE_b43 <;> assumption))
      | (refine Ke.b2 (by first | (apply k_f_M_takesE_b122 <;> first | assumption | (intros; refine k_f_M_takesE_l22 n _ _  _ ?_; assumption) | (intros; apply k_f_M_settle <;> assumption) | (intros; apply k_f_M_whole <;> assumption) | (intros; apply k_f_M_takesE_b43 <;> assumption) | (intros; apply k_f_M_takesTest <;> assumption)) | exact k_f_M_takesE_l22 n _ _ _ (by assumption) | (apply k_f_M_settle <;> first | assumption | (intros; apply k_f_M_takesE_b122 <;> assumption) | (intros; refine k_f_M_takesE_l22 n _ _  _ ?_; assumption) | (intros; apply k_f_M_whole <;> assumption) | (intros; apply k_f_M_takesE_b43 <;> assumption) | (intros; apply k_f_M_takesTest <;> assumption)) | (apply k_f_M_whole <;> first | assumption | (intros; apply k_f_M_takesE_b122 <;> assumption) | (intros; refine k_f_M_takesE_l22 n _ _  _ ?_; assumption) | (intros; apply k_f_M_settle <;> assumption) | (intros; apply k_f_M_takesE_b43 <;> assumption) | (intros; apply k_f_M_takesTest <;> assumption)) | (apply k_f_M_takesE_b43 <;> first | assumption | (intros; apply k_f_M_takesE_b122 <;> assumption) | (intros; refine k_f_M_takesE_l22 n _ _  _ ?_; assumption) | (intros; apply k_f_M_settle <;> assumption) | (intros; apply k_f_M_whole <;> assumption) | (intros; apply k_f_M_takesTest <;> assumption)) | (apply k_f_M_takesTest <;> first | assumption | (intros; apply k_f_M_takesE_b122 <;> assumption) | (intros; refine k_f_M_takesE_l22 n _ _  _ ?_; assumption) | (intros; apply k_f_M_settle <;> assumption) | (intros; apply k_f_M_whole <;> assumption) | (intros; apply k_f_M_takesE_b43 <;> assumption))) ?_; intro _ _ _)
      | (refine Ke.bdM (by first | (apply k_f_M_takesE_b122 <;> first | assumption | (intros; refine k_f_M_takesE_l22 n _ _  _ ?_; assumption) | (intros; apply k_f_M_settle <;> assumption) | (intros; apply k_f_M_whole <;> assumption) | (intros; apply k_f_M_takesE_b43 <;> assumption) | (intros; apply k_f_M_takesTest <;> assumption)) | exact k_f_M_takesE_l22 n _ _ _ (by assumption) | (apply k_f_M_settle <;> first | assumption | (intros; apply k_f_M_takesE_b122 <;> assumption) | (intros; refine k_f_M_takesE_l22 n _ _  _ ?_; assumption) | (intros; apply k_f_M_whole <;> assumption) | (intros; apply k_f_M_takesE_b43 <;> assumption) | (intros; apply k_f_M_takesTest <;> assumption)) | (apply k_f_M_whole <;> first | assumption | (intros; apply k_f_M_takesE_b122 <;> assumption) | (intros; refine k_f_M_takesE_l22 n _ _  _ ?_; assumption) | (intros; apply k_f_M_settle <;> assumption) | (intros; apply k_f_M_takesE_b43 <;> assumption) | (intros; apply k_f_M_takesTest <;> assumption)) | (apply k_f_M_takesE_b43 <;> first | assumption | (intros; apply k_f_M_takesE_b122 <;> assumption) | (intros; refine k_f_M_takesE_l22 n _ _  _ ?_; assumption) | (intros; apply k_f_M_settle <;> assumption) | (intros; apply k_f_M_whole <;> assumption) | (intros; apply k_f_M_takesTest <;> assumption)) | (apply k_f_M_takesTest <;> first | assumption | (intros; apply k_f_M_takesE_b122 <;> assumption) | (intros; refine k_f_M_takesE_l22 n _ _  _ ?_; assumption) | (intros; apply k_f_M_settle <;> assumption) | (intros; apply k_f_M_whole <;> assumption) | (intros; apply k_f_M_takesE_b43 <;> assumption))) ?_; intro _ _)
      | (refine Ke.bdV ?_; intro _)
theorem k_f_M_takesE (p1 : Int32) {M0 M : Mem}  (h : Kx true M0 M) : Ke true M0 (f_M_takesE p1 M) := by
    unfold f_M_takesE
    repeat' with_reducible first
      | exact Ke.none
      | exact Ke.some (by assumption)
      | refine Ke.ite ?_ ?_
      | refine Ke.gd ?_
      | (refine Ke.ltM (Kx.set (by assumption) (fun _ => by decide) _) ?_; intro _ _)
      | (refine Ke.ltM (Kx.setl (by assumption) _ _ _) ?_; intro _ _)
      | (refine Ke.ltM (Kx.setr (by assumption) _ _ _) ?_; intro _ _)
      | (refine Ke.ltM (Kx.cpi (by assumption) (fun _ => by decide) _ _ _ _) ?_; intro _ _)
      | (refine Ke.ltM (Kx.cpl (by assumption) _ _ _ _ _) ?_; intro _ _)
      | (refine Ke.ltV ?_; intro _)
      | (apply k_f_M_takesE_l22 <;> first | assumption)
      | (refine Ke.b2 (by first | (apply k_f_M_takesE_l22 <;> first | assumption)) ?_; intro _ _ _)
      | (refine Ke.bdM (by first | (apply k_f_M_takesE_l22 <;> first | assumption)) ?_; intro _ _)
      | (refine Ke.bdV ?_; intro _)
theorem k_f_M_takesHead_b35 (v2 : Int32) (s0 : Int32) (s1 : Int32) {M0 M : Mem}  (h : Kx true M0 M) : Ke true M0 (f_M_takesHead_b35 v2 s0 s1 M) := by
    unfold f_M_takesHead_b35
    repeat' with_reducible first
      | exact Ke.none
      | exact Ke.some (by assumption)
      | refine Ke.ite ?_ ?_
      | refine Ke.gd ?_
      | (refine Ke.ltM (Kx.set (by assumption) (fun _ => by decide) _) ?_; intro _ _)
      | (refine Ke.ltM (Kx.setl (by assumption) _ _ _) ?_; intro _ _)
      | (refine Ke.ltM (Kx.setr (by assumption) _ _ _) ?_; intro _ _)
      | (refine Ke.ltM (Kx.cpi (by assumption) (fun _ => by decide) _ _ _ _) ?_; intro _ _)
      | (refine Ke.ltM (Kx.cpl (by assumption) _ _ _ _ _) ?_; intro _ _)
      | (refine Ke.ltV ?_; intro _)
      | (apply k_f_M_takesWord <;> first | assumption)
      | (refine Ke.b2 (by first | (apply k_f_M_takesWord <;> first | assumption)) ?_; intro _ _ _)
      | (refine Ke.bdM (by first | (apply k_f_M_takesWord <;> first | assumption)) ?_; intro _ _)
      | (refine Ke.bdV ?_; intro _)
theorem k_f_M_takesHead_b84 (v1 : Int32) (s0 : Int32) (s1 : Int32) {M0 M : Mem}  (h : Kx true M0 M) : Ke true M0 (f_M_takesHead_b84 v1 s0 s1 M) := by
    unfold f_M_takesHead_b84
    repeat' with_reducible first
      | exact Ke.none
      | exact Ke.some (by assumption)
      | refine Ke.ite ?_ ?_
      | refine Ke.gd ?_
      | (refine Ke.ltM (Kx.set (by assumption) (fun _ => by decide) _) ?_; intro _ _)
      | (refine Ke.ltM (Kx.setl (by assumption) _ _ _) ?_; intro _ _)
      | (refine Ke.ltM (Kx.setr (by assumption) _ _ _) ?_; intro _ _)
      | (refine Ke.ltM (Kx.cpi (by assumption) (fun _ => by decide) _ _ _ _) ?_; intro _ _)
      | (refine Ke.ltM (Kx.cpl (by assumption) _ _ _ _ _) ?_; intro _ _)
      | (refine Ke.ltV ?_; intro _)
      | (apply k_f_M_takesWord <;> first | assumption)
      | (refine Ke.b2 (by first | (apply k_f_M_takesWord <;> first | assumption)) ?_; intro _ _ _)
      | (refine Ke.bdM (by first | (apply k_f_M_takesWord <;> first | assumption)) ?_; intro _ _)
      | (refine Ke.bdV ?_; intro _)
theorem k_f_M_takesHead_b83 (v1 : Int32) (s0 : Int32) {M0 M : Mem}  (h : Kx true M0 M) : Ke true M0 (f_M_takesHead_b83 v1 s0 M) := by
    unfold f_M_takesHead_b83
    repeat' with_reducible first
      | exact Ke.none
      | exact Ke.some (by assumption)
      | refine Ke.ite ?_ ?_
      | refine Ke.gd ?_
      | (refine Ke.ltM (Kx.set (by assumption) (fun _ => by decide) _) ?_; intro _ _)
      | (refine Ke.ltM (Kx.setl (by assumption) _ _ _) ?_; intro _ _)
      | (refine Ke.ltM (Kx.setr (by assumption) _ _ _) ?_; intro _ _)
      | (refine Ke.ltM (Kx.cpi (by assumption) (fun _ => by decide) _ _ _ _) ?_; intro _ _)
      | (refine Ke.ltM (Kx.cpl (by assumption) _ _ _ _ _) ?_; intro _ _)
      | (refine Ke.ltV ?_; intro _)
      | (apply k_f_M_takesHead_b84 <;> first | assumption)
      | (refine Ke.b2 (by first | (apply k_f_M_takesHead_b84 <;> first | assumption)) ?_; intro _ _ _)
      | (refine Ke.bdM (by first | (apply k_f_M_takesHead_b84 <;> first | assumption)) ?_; intro _ _)
      | (refine Ke.bdV ?_; intro _)
theorem k_f_M_takesHead (p1 : Int32) {M0 M : Mem}  (h : Kx true M0 M) : Ke true M0 (f_M_takesHead p1 M) := by
    unfold f_M_takesHead
    repeat' with_reducible first
      | exact Ke.none
      | exact Ke.some (by assumption)
      | refine Ke.ite ?_ ?_
      | refine Ke.gd ?_
      | (refine Ke.ltM (Kx.set (by assumption) (fun _ => by decide) _) ?_; intro _ _)
      | (refine Ke.ltM (Kx.setl (by assumption) _ _ _) ?_; intro _ _)
      | (refine Ke.ltM (Kx.setr (by assumption) _ _ _) ?_; intro _ _)
      | (refine Ke.ltM (Kx.cpi (by assumption) (fun _ => by decide) _ _ _ _) ?_; intro _ _)
      | (refine Ke.ltM (Kx.cpl (by assumption) _ _ _ _ _) ?_; intro _ _)
      | (refine Ke.ltV ?_; intro _)
      | (apply k_f_M_takesHead_b35 <;> first | assumption | (intros; apply k_f_M_takesHead_b84 <;> assumption) | (intros; apply k_f_M_takesHead_b83 <;> assumption))
      | (apply k_f_M_takesHead_b84 <;> first | assumption | (intros; apply k_f_M_takesHead_b35 <;> assumption) | (intros; apply k_f_M_takesHead_b83 <;> assumption))
      | (apply k_f_M_takesHead_b83 <;> first | assumption | (intros; apply k_f_M_takesHead_b35 <;> assumption) | (intros; apply k_f_M_takesHead_b84 <;> assumption))
      | (refine Ke.b2 (by first | (apply k_f_M_takesHead_b35 <;> first | assumption | (intros; apply k_f_M_takesHead_b84 <;> assumption) | (intros; apply k_f_M_takesHead_b83 <;> assumption)) | (apply k_f_M_takesHead_b84 <;> first | assumption | (intros; apply k_f_M_takesHead_b35 <;> assumption) | (intros; apply k_f_M_takesHead_b83 <;> assumption)) | (apply k_f_M_takesHead_b83 <;> first | assumption | (intros; apply k_f_M_takesHead_b35 <;> assumption) | (intros; apply k_f_M_takesHead_b84 <;> assumption))) ?_; intro _ _ _)
      | (refine Ke.bdM (by first | (apply k_f_M_takesHead_b35 <;> first | assumption | (intros; apply k_f_M_takesHead_b84 <;> assumption) | (intros; apply k_f_M_takesHead_b83 <;> assumption)) | (apply k_f_M_takesHead_b84 <;> first | assumption | (intros; apply k_f_M_takesHead_b35 <;> assumption) | (intros; apply k_f_M_takesHead_b83 <;> assumption)) | (apply k_f_M_takesHead_b83 <;> first | assumption | (intros; apply k_f_M_takesHead_b35 <;> assumption) | (intros; apply k_f_M_takesHead_b84 <;> assumption))) ?_; intro _ _)
      | (refine Ke.bdV ?_; intro _)
theorem k_f_M_takesClause (p1 : Int32) {M0 M : Mem}  (h : Kx true M0 M) : Ke true M0 (f_M_takesClause p1 M) := by
    unfold f_M_takesClause
    repeat' with_reducible first
      | exact Ke.none
      | exact Ke.some (by assumption)
      | refine Ke.ite ?_ ?_
      | refine Ke.gd ?_
      | (refine Ke.ltM (Kx.set (by assumption) (fun _ => by decide) _) ?_; intro _ _)
      | (refine Ke.ltM (Kx.setl (by assumption) _ _ _) ?_; intro _ _)
      | (refine Ke.ltM (Kx.setr (by assumption) _ _ _) ?_; intro _ _)
      | (refine Ke.ltM (Kx.cpi (by assumption) (fun _ => by decide) _ _ _ _) ?_; intro _ _)
      | (refine Ke.ltM (Kx.cpl (by assumption) _ _ _ _ _) ?_; intro _ _)
      | (refine Ke.ltV ?_; intro _)
      | (apply k_f_M_takesHead <;> first | assumption | (intros; apply k_f_M_takesNumber <;> assumption) | (intros; apply k_f_M_takes <;> assumption) | (intros; apply k_f_M_takesE <;> assumption))
      | (apply k_f_M_takesNumber <;> first | assumption | (intros; apply k_f_M_takesHead <;> assumption) | (intros; apply k_f_M_takes <;> assumption) | (intros; apply k_f_M_takesE <;> assumption))
      | (apply k_f_M_takes <;> first | assumption | (intros; apply k_f_M_takesHead <;> assumption) | (intros; apply k_f_M_takesNumber <;> assumption) | (intros; apply k_f_M_takesE <;> assumption))
      | (apply k_f_M_takesE <;> first | assumption | (intros; apply k_f_M_takesHead <;> assumption) | (intros; apply k_f_M_takesNumber <;> assumption) | (intros; apply k_f_M_takes <;> assumption))
      | (refine Ke.b2 (by first | (apply k_f_M_takesHead <;> first | assumption | (intros; apply k_f_M_takesNumber <;> assumption) | (intros; apply k_f_M_takes <;> assumption) | (intros; apply k_f_M_takesE <;> assumption)) | (apply k_f_M_takesNumber <;> first | assumption | (intros; apply k_f_M_takesHead <;> assumption) | (intros; apply k_f_M_takes <;> assumption) | (intros; apply k_f_M_takesE <;> assumption)) | (apply k_f_M_takes <;> first | assumption | (intros; apply k_f_M_takesHead <;> assumption) | (intros; apply k_f_M_takesNumber <;> assumption) | (intros; apply k_f_M_takesE <;> assumption)) | (apply k_f_M_takesE <;> first | assumption | (intros; apply k_f_M_takesHead <;> assumption) | (intros; apply k_f_M_takesNumber <;> assumption) | (intros; apply k_f_M_takes <;> assumption))) ?_; intro _ _ _)
      | (refine Ke.bdM (by first | (apply k_f_M_takesHead <;> first | assumption | (intros; apply k_f_M_takesNumber <;> assumption) | (intros; apply k_f_M_takes <;> assumption) | (intros; apply k_f_M_takesE <;> assumption)) | (apply k_f_M_takesNumber <;> first | assumption | (intros; apply k_f_M_takesHead <;> assumption) | (intros; apply k_f_M_takes <;> assumption) | (intros; apply k_f_M_takesE <;> assumption)) | (apply k_f_M_takes <;> first | assumption | (intros; apply k_f_M_takesHead <;> assumption) | (intros; apply k_f_M_takesNumber <;> assumption) | (intros; apply k_f_M_takesE <;> assumption)) | (apply k_f_M_takesE <;> first | assumption | (intros; apply k_f_M_takesHead <;> assumption) | (intros; apply k_f_M_takesNumber <;> assumption) | (intros; apply k_f_M_takes <;> assumption))) ?_; intro _ _)
      | (refine Ke.bdV ?_; intro _)
theorem k_f_M_goesText_l15  {M0 : Mem}  : ∀ (n : Nat) (w0 : Int32) (w1 : Int32) (M : Mem), Kx true M0 M → Ke true M0 (f_M_goesText_l15  n w0 w1 M)
  | 0, _, _, _, _ => by
    simp only [f_M_goesText_l15]
    exact Ke.none
  | n + 1, w0, w1, M, h => by
    simp only [f_M_goesText_l15]
    repeat' with_reducible first
      | exact Ke.none
      | exact Ke.some (by assumption)
      | refine Ke.ite ?_ ?_
      | refine Ke.gd ?_
      | (refine Ke.ltM (Kx.set (by assumption) (fun _ => by decide) _) ?_; intro _ _)
      | (refine Ke.ltM (Kx.setl (by assumption) _ _ _) ?_; intro _ _)
      | (refine Ke.ltM (Kx.setr (by assumption) _ _ _) ?_; intro _ _)
      | (refine Ke.ltM (Kx.cpi (by assumption) (fun _ => by decide) _ _ _ _) ?_; intro _ _)
      | (refine Ke.ltM (Kx.cpl (by assumption) _ _ _ _ _) ?_; intro _ _)
      | (refine Ke.ltV ?_; intro _)
      | (apply k_f_M_takesClause <;> first | assumption | (intros; apply k_f_M_takes <;> assumption) | (intros; refine k_f_M_goesText_l15 n _ _  _ ?_; assumption))
      | (apply k_f_M_takes <;> first | assumption | (intros; apply k_f_M_takesClause <;> assumption) | (intros; refine k_f_M_goesText_l15 n _ _  _ ?_; assumption))
      | exact k_f_M_goesText_l15 n _ _ _ (by assumption)
      | (refine Ke.b2 (by first | (apply k_f_M_takesClause <;> first | assumption | (intros; apply k_f_M_takes <;> assumption) | (intros; refine k_f_M_goesText_l15 n _ _  _ ?_; assumption)) | (apply k_f_M_takes <;> first | assumption | (intros; apply k_f_M_takesClause <;> assumption) | (intros; refine k_f_M_goesText_l15 n _ _  _ ?_; assumption)) | exact k_f_M_goesText_l15 n _ _ _ (by assumption)) ?_; intro _ _ _)
      | (refine Ke.bdM (by first | (apply k_f_M_takesClause <;> first | assumption | (intros; apply k_f_M_takes <;> assumption) | (intros; refine k_f_M_goesText_l15 n _ _  _ ?_; assumption)) | (apply k_f_M_takes <;> first | assumption | (intros; apply k_f_M_takesClause <;> assumption) | (intros; refine k_f_M_goesText_l15 n _ _  _ ?_; assumption)) | exact k_f_M_goesText_l15 n _ _ _ (by assumption)) ?_; intro _ _)
      | (refine Ke.bdV ?_; intro _)
theorem k_f_M_goesText (p1 : Int32) {M0 M : Mem}  (h : Kx true M0 M) : Ke true M0 (f_M_goesText p1 M) := by
    unfold f_M_goesText
    repeat' with_reducible first
      | exact Ke.none
      | exact Ke.some (by assumption)
      | refine Ke.ite ?_ ?_
      | refine Ke.gd ?_
      | (refine Ke.ltM (Kx.set (by assumption) (fun _ => by decide) _) ?_; intro _ _)
      | (refine Ke.ltM (Kx.setl (by assumption) _ _ _) ?_; intro _ _)
      | (refine Ke.ltM (Kx.setr (by assumption) _ _ _) ?_; intro _ _)
      | (refine Ke.ltM (Kx.cpi (by assumption) (fun _ => by decide) _ _ _ _) ?_; intro _ _)
      | (refine Ke.ltM (Kx.cpl (by assumption) _ _ _ _ _) ?_; intro _ _)
      | (refine Ke.ltV ?_; intro _)
      | (apply k_f_M_goesText_l15 <;> first | assumption)
      | (refine Ke.b2 (by first | (apply k_f_M_goesText_l15 <;> first | assumption)) ?_; intro _ _ _)
      | (refine Ke.bdM (by first | (apply k_f_M_goesText_l15 <;> first | assumption)) ?_; intro _ _)
      | (refine Ke.bdV ?_; intro _)
theorem k_f_M_house  {M0 M : Mem}  (h : Kx true M0 M) : Ke true M0 (f_M_house  M) := by
    unfold f_M_house
    repeat' with_reducible first
      | exact Ke.none
      | exact Ke.some (by assumption)
      | refine Ke.ite ?_ ?_
      | refine Ke.gd ?_
      | (refine Ke.ltM (Kx.set (by assumption) (fun _ => by decide) _) ?_; intro _ _)
      | (refine Ke.ltM (Kx.setl (by assumption) _ _ _) ?_; intro _ _)
      | (refine Ke.ltM (Kx.setr (by assumption) _ _ _) ?_; intro _ _)
      | (refine Ke.ltM (Kx.cpi (by assumption) (fun _ => by decide) _ _ _ _) ?_; intro _ _)
      | (refine Ke.ltM (Kx.cpl (by assumption) _ _ _ _ _) ?_; intro _ _)
      | (refine Ke.ltV ?_; intro _)
      | (apply k_f_M_goesText <;> first | assumption)
      | (refine Ke.b2 (by first | (apply k_f_M_goesText <;> first | assumption)) ?_; intro _ _ _)
      | (refine Ke.bdM (by first | (apply k_f_M_goesText <;> first | assumption)) ?_; intro _ _)
      | (refine Ke.bdV ?_; intro _)
theorem k_f_M_holds_l10  {M0 : Mem}  : ∀ (n : Nat) (w0 : Int32) (w1 : Int32) (w2 : Int32) (w3 : Int32) (M : Mem), Kx true M0 M → Ke true M0 (f_M_holds_l10  n w0 w1 w2 w3 M)
  | 0, _, _, _, _, _, _ => by
    simp only [f_M_holds_l10]
    exact Ke.none
  | n + 1, w0, w1, w2, w3, M, h => by
    simp only [f_M_holds_l10]
    repeat' with_reducible first
      | exact Ke.none
      | exact Ke.some (by assumption)
      | refine Ke.ite ?_ ?_
      | refine Ke.gd ?_
      | (refine Ke.ltM (Kx.set (by assumption) (fun _ => by decide) _) ?_; intro _ _)
      | (refine Ke.ltM (Kx.setl (by assumption) _ _ _) ?_; intro _ _)
      | (refine Ke.ltM (Kx.setr (by assumption) _ _ _) ?_; intro _ _)
      | (refine Ke.ltM (Kx.cpi (by assumption) (fun _ => by decide) _ _ _ _) ?_; intro _ _)
      | (refine Ke.ltM (Kx.cpl (by assumption) _ _ _ _ _) ?_; intro _ _)
      | (refine Ke.ltV ?_; intro _)
      | exact k_f_M_holds_l10 n _ _ _ _ _ (by assumption)
      | (refine Ke.b2 (by first | exact k_f_M_holds_l10 n _ _ _ _ _ (by assumption)) ?_; intro _ _ _)
      | (refine Ke.bdM (by first | exact k_f_M_holds_l10 n _ _ _ _ _ (by assumption)) ?_; intro _ _)
      | (refine Ke.bdV ?_; intro _)
theorem k_f_M_holds (p1 : Int32) (p2 : Int32) {M0 M : Mem}  (h : Kx true M0 M) : Ke true M0 (f_M_holds p1 p2 M) := by
    unfold f_M_holds
    repeat' with_reducible first
      | exact Ke.none
      | exact Ke.some (by assumption)
      | refine Ke.ite ?_ ?_
      | refine Ke.gd ?_
      | (refine Ke.ltM (Kx.set (by assumption) (fun _ => by decide) _) ?_; intro _ _)
      | (refine Ke.ltM (Kx.setl (by assumption) _ _ _) ?_; intro _ _)
      | (refine Ke.ltM (Kx.setr (by assumption) _ _ _) ?_; intro _ _)
      | (refine Ke.ltM (Kx.cpi (by assumption) (fun _ => by decide) _ _ _ _) ?_; intro _ _)
      | (refine Ke.ltM (Kx.cpl (by assumption) _ _ _ _ _) ?_; intro _ _)
      | (refine Ke.ltV ?_; intro _)
      | (apply k_f_M_holds_l10 <;> first | assumption)
      | (refine Ke.b2 (by first | (apply k_f_M_holds_l10 <;> first | assumption)) ?_; intro _ _ _)
      | (refine Ke.bdM (by first | (apply k_f_M_holds_l10 <;> first | assumption)) ?_; intro _ _)
      | (refine Ke.bdV ?_; intro _)
theorem k_f_M_sumOf_l8  {M0 : Mem}  : ∀ (n : Nat) (w0 : Int32) (w1 : Int32) (w2 : Int32) (w3 : Int32) (M : Mem), Kx true M0 M → Ke true M0 (f_M_sumOf_l8  n w0 w1 w2 w3 M)
  | 0, _, _, _, _, _, _ => by
    simp only [f_M_sumOf_l8]
    exact Ke.none
  | n + 1, w0, w1, w2, w3, M, h => by
    simp only [f_M_sumOf_l8]
    repeat' with_reducible first
      | exact Ke.none
      | exact Ke.some (by assumption)
      | refine Ke.ite ?_ ?_
      | refine Ke.gd ?_
      | (refine Ke.ltM (Kx.set (by assumption) (fun _ => by decide) _) ?_; intro _ _)
      | (refine Ke.ltM (Kx.setl (by assumption) _ _ _) ?_; intro _ _)
      | (refine Ke.ltM (Kx.setr (by assumption) _ _ _) ?_; intro _ _)
      | (refine Ke.ltM (Kx.cpi (by assumption) (fun _ => by decide) _ _ _ _) ?_; intro _ _)
      | (refine Ke.ltM (Kx.cpl (by assumption) _ _ _ _ _) ?_; intro _ _)
      | (refine Ke.ltV ?_; intro _)
      | (apply k_f_M_holds <;> first | assumption | (intros; refine k_f_M_sumOf_l8 n _ _ _ _  _ ?_; assumption))
      | exact k_f_M_sumOf_l8 n _ _ _ _ _ (by assumption)
      | (refine Ke.b2 (by first | (apply k_f_M_holds <;> first | assumption | (intros; refine k_f_M_sumOf_l8 n _ _ _ _  _ ?_; assumption)) | exact k_f_M_sumOf_l8 n _ _ _ _ _ (by assumption)) ?_; intro _ _ _)
      | (refine Ke.bdM (by first | (apply k_f_M_holds <;> first | assumption | (intros; refine k_f_M_sumOf_l8 n _ _ _ _  _ ?_; assumption)) | exact k_f_M_sumOf_l8 n _ _ _ _ _ (by assumption)) ?_; intro _ _)
      | (refine Ke.bdV ?_; intro _)
theorem k_f_M_sumOf (p1 : Int32) (p2 : Int32) {M0 M : Mem}  (h : Kx true M0 M) : Ke true M0 (f_M_sumOf p1 p2 M) := by
    unfold f_M_sumOf
    repeat' with_reducible first
      | exact Ke.none
      | exact Ke.some (by assumption)
      | refine Ke.ite ?_ ?_
      | refine Ke.gd ?_
      | (refine Ke.ltM (Kx.set (by assumption) (fun _ => by decide) _) ?_; intro _ _)
      | (refine Ke.ltM (Kx.setl (by assumption) _ _ _) ?_; intro _ _)
      | (refine Ke.ltM (Kx.setr (by assumption) _ _ _) ?_; intro _ _)
      | (refine Ke.ltM (Kx.cpi (by assumption) (fun _ => by decide) _ _ _ _) ?_; intro _ _)
      | (refine Ke.ltM (Kx.cpl (by assumption) _ _ _ _ _) ?_; intro _ _)
      | (refine Ke.ltV ?_; intro _)
      | (apply k_f_M_sumOf_l8 <;> first | assumption)
      | (refine Ke.b2 (by first | (apply k_f_M_sumOf_l8 <;> first | assumption)) ?_; intro _ _ _)
      | (refine Ke.bdM (by first | (apply k_f_M_sumOf_l8 <;> first | assumption)) ?_; intro _ _)
      | (refine Ke.bdV ?_; intro _)
theorem k_f_M_swellOf_b17 (v1 : Int32) (s0 : Int32) {M0 M : Mem}  (h : Kx true M0 M) : Ke true M0 (f_M_swellOf_b17 v1 s0 M) := by
    unfold f_M_swellOf_b17
    repeat' with_reducible first
      | exact Ke.none
      | exact Ke.some (by assumption)
      | refine Ke.ite ?_ ?_
      | refine Ke.gd ?_
      | (refine Ke.ltM (Kx.set (by assumption) (fun _ => by decide) _) ?_; intro _ _)
      | (refine Ke.ltM (Kx.setl (by assumption) _ _ _) ?_; intro _ _)
      | (refine Ke.ltM (Kx.setr (by assumption) _ _ _) ?_; intro _ _)
      | (refine Ke.ltM (Kx.cpi (by assumption) (fun _ => by decide) _ _ _ _) ?_; intro _ _)
      | (refine Ke.ltM (Kx.cpl (by assumption) _ _ _ _ _) ?_; intro _ _)
      | (refine Ke.ltV ?_; intro _)
      | (refine Ke.bdV ?_; intro _)
theorem k_f_M_swellOf (p1 : Int32) {M0 M : Mem}  (h : Kx true M0 M) : Ke true M0 (f_M_swellOf p1 M) := by
    unfold f_M_swellOf
    repeat' with_reducible first
      | exact Ke.none
      | exact Ke.some (by assumption)
      | refine Ke.ite ?_ ?_
      | refine Ke.gd ?_
      | (refine Ke.ltM (Kx.set (by assumption) (fun _ => by decide) _) ?_; intro _ _)
      | (refine Ke.ltM (Kx.setl (by assumption) _ _ _) ?_; intro _ _)
      | (refine Ke.ltM (Kx.setr (by assumption) _ _ _) ?_; intro _ _)
      | (refine Ke.ltM (Kx.cpi (by assumption) (fun _ => by decide) _ _ _ _) ?_; intro _ _)
      | (refine Ke.ltM (Kx.cpl (by assumption) _ _ _ _ _) ?_; intro _ _)
      | (refine Ke.ltV ?_; intro _)
      | (apply k_f_M_swellOf_b17 <;> first | assumption | (intros; apply k_f_M_sumOf <;> assumption))
      | (apply k_f_M_sumOf <;> first | assumption | (intros; apply k_f_M_swellOf_b17 <;> assumption))
      | (refine Ke.b2 (by first | (apply k_f_M_swellOf_b17 <;> first | assumption | (intros; apply k_f_M_sumOf <;> assumption)) | (apply k_f_M_sumOf <;> first | assumption | (intros; apply k_f_M_swellOf_b17 <;> assumption))) ?_; intro _ _ _)
      | (refine Ke.bdM (by first | (apply k_f_M_swellOf_b17 <;> first | assumption | (intros; apply k_f_M_sumOf <;> assumption)) | (apply k_f_M_sumOf <;> first | assumption | (intros; apply k_f_M_swellOf_b17 <;> assumption))) ?_; intro _ _)
      | (refine Ke.bdV ?_; intro _)
theorem k_f_M_gap (p1 : Int32) (p2 : Int32) {M0 M : Mem}  (h : Kx true M0 M) : Ke true M0 (f_M_gap p1 p2 M) := by
    unfold f_M_gap
    repeat' with_reducible first
      | exact Ke.none
      | exact Ke.some (by assumption)
      | refine Ke.ite ?_ ?_
      | refine Ke.gd ?_
      | (refine Ke.ltM (Kx.set (by assumption) (fun _ => by decide) _) ?_; intro _ _)
      | (refine Ke.ltM (Kx.setl (by assumption) _ _ _) ?_; intro _ _)
      | (refine Ke.ltM (Kx.setr (by assumption) _ _ _) ?_; intro _ _)
      | (refine Ke.ltM (Kx.cpi (by assumption) (fun _ => by decide) _ _ _ _) ?_; intro _ _)
      | (refine Ke.ltM (Kx.cpl (by assumption) _ _ _ _ _) ?_; intro _ _)
      | (refine Ke.ltV ?_; intro _)
      | (apply k_f_M_swellOf <;> first | assumption)
      | (refine Ke.b2 (by first | (apply k_f_M_swellOf <;> first | assumption)) ?_; intro _ _ _)
      | (refine Ke.bdM (by first | (apply k_f_M_swellOf <;> first | assumption)) ?_; intro _ _)
      | (refine Ke.bdV ?_; intro _)
theorem k_f_M_rubs_l4  {M0 : Mem}  : ∀ (n : Nat) (w0 : Int32) (w1 : Int32) (w2 : Int32) (M : Mem), Kx true M0 M → Ke true M0 (f_M_rubs_l4  n w0 w1 w2 M)
  | 0, _, _, _, _, _ => by
    simp only [f_M_rubs_l4]
    exact Ke.none
  | n + 1, w0, w1, w2, M, h => by
    simp only [f_M_rubs_l4]
    repeat' with_reducible first
      | exact Ke.none
      | exact Ke.some (by assumption)
      | refine Ke.ite ?_ ?_
      | refine Ke.gd ?_
      | (refine Ke.ltM (Kx.set (by assumption) (fun _ => by decide) _) ?_; intro _ _)
      | (refine Ke.ltM (Kx.setl (by assumption) _ _ _) ?_; intro _ _)
      | (refine Ke.ltM (Kx.setr (by assumption) _ _ _) ?_; intro _ _)
      | (refine Ke.ltM (Kx.cpi (by assumption) (fun _ => by decide) _ _ _ _) ?_; intro _ _)
      | (refine Ke.ltM (Kx.cpl (by assumption) _ _ _ _ _) ?_; intro _ _)
      | (refine Ke.ltV ?_; intro _)
      | (apply k_f_M_gap <;> first | assumption | (intros; refine k_f_M_rubs_l4 n _ _ _  _ ?_; assumption))
      | exact k_f_M_rubs_l4 n _ _ _ _ (by assumption)
      | (refine Ke.b2 (by first | (apply k_f_M_gap <;> first | assumption | (intros; refine k_f_M_rubs_l4 n _ _ _  _ ?_; assumption)) | exact k_f_M_rubs_l4 n _ _ _ _ (by assumption)) ?_; intro _ _ _)
      | (refine Ke.bdM (by first | (apply k_f_M_gap <;> first | assumption | (intros; refine k_f_M_rubs_l4 n _ _ _  _ ?_; assumption)) | exact k_f_M_rubs_l4 n _ _ _ _ (by assumption)) ?_; intro _ _)
      | (refine Ke.bdV ?_; intro _)
theorem k_f_M_rubs (p1 : Int32) {M0 M : Mem}  (h : Kx true M0 M) : Ke true M0 (f_M_rubs p1 M) := by
    unfold f_M_rubs
    repeat' with_reducible first
      | exact Ke.none
      | exact Ke.some (by assumption)
      | refine Ke.ite ?_ ?_
      | refine Ke.gd ?_
      | (refine Ke.ltM (Kx.set (by assumption) (fun _ => by decide) _) ?_; intro _ _)
      | (refine Ke.ltM (Kx.setl (by assumption) _ _ _) ?_; intro _ _)
      | (refine Ke.ltM (Kx.setr (by assumption) _ _ _) ?_; intro _ _)
      | (refine Ke.ltM (Kx.cpi (by assumption) (fun _ => by decide) _ _ _ _) ?_; intro _ _)
      | (refine Ke.ltM (Kx.cpl (by assumption) _ _ _ _ _) ?_; intro _ _)
      | (refine Ke.ltV ?_; intro _)
      | (apply k_f_M_rubs_l4 <;> first | assumption)
      | (refine Ke.b2 (by first | (apply k_f_M_rubs_l4 <;> first | assumption)) ?_; intro _ _ _)
      | (refine Ke.bdM (by first | (apply k_f_M_rubs_l4 <;> first | assumption)) ?_; intro _ _)
      | (refine Ke.bdV ?_; intro _)
theorem k_f_M_draughts_l4  {M0 : Mem}  : ∀ (n : Nat) (w0 : Int32) (w1 : Int32) (w2 : Int32) (M : Mem), Kx true M0 M → Ke true M0 (f_M_draughts_l4  n w0 w1 w2 M)
  | 0, _, _, _, _, _ => by
    simp only [f_M_draughts_l4]
    exact Ke.none
  | n + 1, w0, w1, w2, M, h => by
    simp only [f_M_draughts_l4]
    repeat' with_reducible first
      | exact Ke.none
      | exact Ke.some (by assumption)
      | refine Ke.ite ?_ ?_
      | refine Ke.gd ?_
      | (refine Ke.ltM (Kx.set (by assumption) (fun _ => by decide) _) ?_; intro _ _)
      | (refine Ke.ltM (Kx.setl (by assumption) _ _ _) ?_; intro _ _)
      | (refine Ke.ltM (Kx.setr (by assumption) _ _ _) ?_; intro _ _)
      | (refine Ke.ltM (Kx.cpi (by assumption) (fun _ => by decide) _ _ _ _) ?_; intro _ _)
      | (refine Ke.ltM (Kx.cpl (by assumption) _ _ _ _ _) ?_; intro _ _)
      | (refine Ke.ltV ?_; intro _)
      | (apply k_f_M_gap <;> first | assumption | (intros; refine k_f_M_draughts_l4 n _ _ _  _ ?_; assumption))
      | exact k_f_M_draughts_l4 n _ _ _ _ (by assumption)
      | (refine Ke.b2 (by first | (apply k_f_M_gap <;> first | assumption | (intros; refine k_f_M_draughts_l4 n _ _ _  _ ?_; assumption)) | exact k_f_M_draughts_l4 n _ _ _ _ (by assumption)) ?_; intro _ _ _)
      | (refine Ke.bdM (by first | (apply k_f_M_gap <;> first | assumption | (intros; refine k_f_M_draughts_l4 n _ _ _  _ ?_; assumption)) | exact k_f_M_draughts_l4 n _ _ _ _ (by assumption)) ?_; intro _ _)
      | (refine Ke.bdV ?_; intro _)
theorem k_f_M_draughts (p1 : Int32) {M0 M : Mem}  (h : Kx true M0 M) : Ke true M0 (f_M_draughts p1 M) := by
    unfold f_M_draughts
    repeat' with_reducible first
      | exact Ke.none
      | exact Ke.some (by assumption)
      | refine Ke.ite ?_ ?_
      | refine Ke.gd ?_
      | (refine Ke.ltM (Kx.set (by assumption) (fun _ => by decide) _) ?_; intro _ _)
      | (refine Ke.ltM (Kx.setl (by assumption) _ _ _) ?_; intro _ _)
      | (refine Ke.ltM (Kx.setr (by assumption) _ _ _) ?_; intro _ _)
      | (refine Ke.ltM (Kx.cpi (by assumption) (fun _ => by decide) _ _ _ _) ?_; intro _ _)
      | (refine Ke.ltM (Kx.cpl (by assumption) _ _ _ _ _) ?_; intro _ _)
      | (refine Ke.ltV ?_; intro _)
      | (apply k_f_M_draughts_l4 <;> first | assumption)
      | (refine Ke.b2 (by first | (apply k_f_M_draughts_l4 <;> first | assumption)) ?_; intro _ _ _)
      | (refine Ke.bdM (by first | (apply k_f_M_draughts_l4 <;> first | assumption)) ?_; intro _ _)
      | (refine Ke.bdV ?_; intro _)
theorem k_f_M_of (p1 : Int32) (p2 : Int32) {M0 M : Mem}  (h : Kx true M0 M) : Ke true M0 (f_M_of p1 p2 M) := by
    unfold f_M_of
    repeat' with_reducible first
      | exact Ke.none
      | exact Ke.some (by assumption)
      | refine Ke.ite ?_ ?_
      | refine Ke.gd ?_
      | (refine Ke.ltM (Kx.set (by assumption) (fun _ => by decide) _) ?_; intro _ _)
      | (refine Ke.ltM (Kx.setl (by assumption) _ _ _) ?_; intro _ _)
      | (refine Ke.ltM (Kx.setr (by assumption) _ _ _) ?_; intro _ _)
      | (refine Ke.ltM (Kx.cpi (by assumption) (fun _ => by decide) _ _ _ _) ?_; intro _ _)
      | (refine Ke.ltM (Kx.cpl (by assumption) _ _ _ _ _) ?_; intro _ _)
      | (refine Ke.ltV ?_; intro _)
      | (apply k_f_M_swellOf <;> first | assumption | (intros; apply k_f_M_rubs <;> assumption) | (intros; apply k_f_M_draughts <;> assumption) | (intros; apply k_f_M_gap <;> assumption))
      | (apply k_f_M_rubs <;> first | assumption | (intros; apply k_f_M_swellOf <;> assumption) | (intros; apply k_f_M_draughts <;> assumption) | (intros; apply k_f_M_gap <;> assumption))
      | (apply k_f_M_draughts <;> first | assumption | (intros; apply k_f_M_swellOf <;> assumption) | (intros; apply k_f_M_rubs <;> assumption) | (intros; apply k_f_M_gap <;> assumption))
      | (apply k_f_M_gap <;> first | assumption | (intros; apply k_f_M_swellOf <;> assumption) | (intros; apply k_f_M_rubs <;> assumption) | (intros; apply k_f_M_draughts <;> assumption))
      | (refine Ke.b2 (by first | (apply k_f_M_swellOf <;> first | assumption | (intros; apply k_f_M_rubs <;> assumption) | (intros; apply k_f_M_draughts <;> assumption) | (intros; apply k_f_M_gap <;> assumption)) | (apply k_f_M_rubs <;> first | assumption | (intros; apply k_f_M_swellOf <;> assumption) | (intros; apply k_f_M_draughts <;> assumption) | (intros; apply k_f_M_gap <;> assumption)) | (apply k_f_M_draughts <;> first | assumption | (intros; apply k_f_M_swellOf <;> assumption) | (intros; apply k_f_M_rubs <;> assumption) | (intros; apply k_f_M_gap <;> assumption)) | (apply k_f_M_gap <;> first | assumption | (intros; apply k_f_M_swellOf <;> assumption) | (intros; apply k_f_M_rubs <;> assumption) | (intros; apply k_f_M_draughts <;> assumption))) ?_; intro _ _ _)
      | (refine Ke.bdM (by first | (apply k_f_M_swellOf <;> first | assumption | (intros; apply k_f_M_rubs <;> assumption) | (intros; apply k_f_M_draughts <;> assumption) | (intros; apply k_f_M_gap <;> assumption)) | (apply k_f_M_rubs <;> first | assumption | (intros; apply k_f_M_swellOf <;> assumption) | (intros; apply k_f_M_draughts <;> assumption) | (intros; apply k_f_M_gap <;> assumption)) | (apply k_f_M_draughts <;> first | assumption | (intros; apply k_f_M_swellOf <;> assumption) | (intros; apply k_f_M_rubs <;> assumption) | (intros; apply k_f_M_gap <;> assumption)) | (apply k_f_M_gap <;> first | assumption | (intros; apply k_f_M_swellOf <;> assumption) | (intros; apply k_f_M_rubs <;> assumption) | (intros; apply k_f_M_draughts <;> assumption))) ?_; intro _ _)
      | (refine Ke.bdV ?_; intro _)
theorem k_f_M_goMonth_b72 (K2 : Int32 → Int32 → Mem → Option Mem) (v1 : Int32) (v2 : Int32) (s0 : Int32) (s1 : Int32) (s2 : Int32) (s4 : Int32) {M0 M : Mem} (hK2 : ∀ y0 y1 M, Kx true M0 M → Ke1 true M0 (K2 y0 y1 M)) (h : Kx true M0 M) : Ke1 true M0 (f_M_goMonth_b72 K2 v1 v2 s0 s1 s2 s4 M) := by
    unfold f_M_goMonth_b72
    repeat' with_reducible first
      | exact Ke1.none
      | exact Ke1.some (by assumption)
      | refine Ke1.ite ?_ ?_
      | refine Ke1.gd ?_
      | (refine Ke1.ltM (Kx.set (by assumption) (fun _ => by decide) _) ?_; intro _ _)
      | (refine Ke1.ltM (Kx.setl (by assumption) _ _ _) ?_; intro _ _)
      | (refine Ke1.ltM (Kx.setr (by assumption) _ _ _) ?_; intro _ _)
      | (refine Ke1.ltM (Kx.cpi (by assumption) (fun _ => by decide) _ _ _ _) ?_; intro _ _)
      | (refine Ke1.ltM (Kx.cpl (by assumption) _ _ _ _ _) ?_; intro _ _)
      | (refine Ke1.ltV ?_; intro _)
      | (apply hK2; assumption)
      | (apply k_f_M_sumOf <;> first | assumption | (intros; apply hK2 <;> assumption))
      | (refine Ke1.b2 (by first | (apply hK2; assumption) | (apply k_f_M_sumOf <;> first | assumption | (intros; apply hK2 <;> assumption))) ?_; intro _ _ _)
      | (refine Ke1.bdM (by first | (apply hK2; assumption) | (apply k_f_M_sumOf <;> first | assumption | (intros; apply hK2 <;> assumption))) ?_; intro _ _)
      | (refine Ke1.bdV ?_; intro _)
theorem k_f_M_goMonth_b40 (K2 : Int32 → Int32 → Mem → Option Mem) (v1 : Int32) (v2 : Int32) (s0 : Int32) (s1 : Int32) (s2 : Int32) (s4 : Int32) {M0 M : Mem} (hK2 : ∀ y0 y1 M, Kx true M0 M → Ke1 true M0 (K2 y0 y1 M)) (h : Kx true M0 M) : Ke1 true M0 (f_M_goMonth_b40 K2 v1 v2 s0 s1 s2 s4 M) := by
    unfold f_M_goMonth_b40
    repeat' with_reducible first
      | exact Ke1.none
      | exact Ke1.some (by assumption)
      | refine Ke1.ite ?_ ?_
      | refine Ke1.gd ?_
      | (refine Ke1.ltM (Kx.set (by assumption) (fun _ => by decide) _) ?_; intro _ _)
      | (refine Ke1.ltM (Kx.setl (by assumption) _ _ _) ?_; intro _ _)
      | (refine Ke1.ltM (Kx.setr (by assumption) _ _ _) ?_; intro _ _)
      | (refine Ke1.ltM (Kx.cpi (by assumption) (fun _ => by decide) _ _ _ _) ?_; intro _ _)
      | (refine Ke1.ltM (Kx.cpl (by assumption) _ _ _ _ _) ?_; intro _ _)
      | (refine Ke1.ltV ?_; intro _)
      | (apply hK2; assumption)
      | (apply k_f_M_goMonth_b72 <;> first | assumption | (intros; apply hK2 <;> assumption))
      | (refine Ke1.b2 (by first | (apply hK2; assumption) | (apply k_f_M_goMonth_b72 <;> first | assumption | (intros; apply hK2 <;> assumption))) ?_; intro _ _ _)
      | (refine Ke1.bdM (by first | (apply hK2; assumption) | (apply k_f_M_goMonth_b72 <;> first | assumption | (intros; apply hK2 <;> assumption))) ?_; intro _ _)
      | (refine Ke1.bdV ?_; intro _)
theorem k_f_M_goMonth_l2  {M0 : Mem}  : ∀ (n : Nat) (w0 : Int32) (w1 : Int32) (M : Mem), Kx true M0 M → Ke1 true M0 (f_M_goMonth_l2  n w0 w1 M)
  | 0, _, _, _, _ => by
    simp only [f_M_goMonth_l2]
    exact Ke1.none
  | n + 1, w0, w1, M, h => by
    simp only [f_M_goMonth_l2]
    repeat' with_reducible first
      | exact Ke1.none
      | exact Ke1.some (by assumption)
      | refine Ke1.ite ?_ ?_
      | refine Ke1.gd ?_
      | (refine Ke1.ltM (Kx.set (by assumption) (fun _ => by decide) _) ?_; intro _ _)
      | (refine Ke1.ltM (Kx.setl (by assumption) _ _ _) ?_; intro _ _)
      | (refine Ke1.ltM (Kx.setr (by assumption) _ _ _) ?_; intro _ _)
      | (refine Ke1.ltM (Kx.cpi (by assumption) (fun _ => by decide) _ _ _ _) ?_; intro _ _)
      | (refine Ke1.ltM (Kx.cpl (by assumption) _ _ _ _ _) ?_; intro _ _)
      | (refine Ke1.ltV ?_; intro _)
      | (apply k_f_M_goMonth_b40 <;> first | assumption | (intros; refine k_f_M_goMonth_l2 n _ _  _ ?_; assumption))
      | exact k_f_M_goMonth_l2 n _ _ _ (by assumption)
      | (refine Ke1.b2 (by first | (apply k_f_M_goMonth_b40 <;> first | assumption | (intros; refine k_f_M_goMonth_l2 n _ _  _ ?_; assumption)) | exact k_f_M_goMonth_l2 n _ _ _ (by assumption)) ?_; intro _ _ _)
      | (refine Ke1.bdM (by first | (apply k_f_M_goMonth_b40 <;> first | assumption | (intros; refine k_f_M_goMonth_l2 n _ _  _ ?_; assumption)) | exact k_f_M_goMonth_l2 n _ _ _ (by assumption)) ?_; intro _ _)
      | (refine Ke1.bdV ?_; intro _)
theorem k_f_M_goMonth (p1 : Int32) {M0 M : Mem}  (h : Kx true M0 M) : Ke1 true M0 (f_M_goMonth p1 M) := by
    unfold f_M_goMonth
    repeat' with_reducible first
      | exact Ke1.none
      | exact Ke1.some (by assumption)
      | refine Ke1.ite ?_ ?_
      | refine Ke1.gd ?_
      | (refine Ke1.ltM (Kx.set (by assumption) (fun _ => by decide) _) ?_; intro _ _)
      | (refine Ke1.ltM (Kx.setl (by assumption) _ _ _) ?_; intro _ _)
      | (refine Ke1.ltM (Kx.setr (by assumption) _ _ _) ?_; intro _ _)
      | (refine Ke1.ltM (Kx.cpi (by assumption) (fun _ => by decide) _ _ _ _) ?_; intro _ _)
      | (refine Ke1.ltM (Kx.cpl (by assumption) _ _ _ _ _) ?_; intro _ _)
      | (refine Ke1.ltV ?_; intro _)
      | (apply k_f_M_goMonth_l2 <;> first | assumption)
      | (refine Ke1.b2 (by first | (apply k_f_M_goMonth_l2 <;> first | assumption)) ?_; intro _ _ _)
      | (refine Ke1.bdM (by first | (apply k_f_M_goMonth_l2 <;> first | assumption)) ?_; intro _ _)
      | (refine Ke1.bdV ?_; intro _)
theorem k_f_M_goOn  {M0 M : Mem}  (h : Kx true M0 M) : Ke1 true M0 (f_M_goOn  M) := by
    unfold f_M_goOn
    repeat' with_reducible first
      | exact Ke1.none
      | exact Ke1.some (by assumption)
      | refine Ke1.ite ?_ ?_
      | refine Ke1.gd ?_
      | (refine Ke1.ltM (Kx.set (by assumption) (fun _ => by decide) _) ?_; intro _ _)
      | (refine Ke1.ltM (Kx.setl (by assumption) _ _ _) ?_; intro _ _)
      | (refine Ke1.ltM (Kx.setr (by assumption) _ _ _) ?_; intro _ _)
      | (refine Ke1.ltM (Kx.cpi (by assumption) (fun _ => by decide) _ _ _ _) ?_; intro _ _)
      | (refine Ke1.ltM (Kx.cpl (by assumption) _ _ _ _ _) ?_; intro _ _)
      | (refine Ke1.ltV ?_; intro _)
      | (apply k_f_M_goMonth <;> first | assumption)
      | (refine Ke1.b2 (by first | (apply k_f_M_goMonth <;> first | assumption)) ?_; intro _ _ _)
      | (refine Ke1.bdM (by first | (apply k_f_M_goMonth <;> first | assumption)) ?_; intro _ _)
      | (refine Ke1.bdV ?_; intro _)
theorem k_f_M_month  {M0 M : Mem}  (h : Kx true M0 M) : Ke true M0 (f_M_month  M) := by
    unfold f_M_month
    repeat' with_reducible first
      | exact Ke.none
      | exact Ke.some (by assumption)
      | refine Ke.ite ?_ ?_
      | refine Ke.gd ?_
      | (refine Ke.ltM (Kx.set (by assumption) (fun _ => by decide) _) ?_; intro _ _)
      | (refine Ke.ltM (Kx.setl (by assumption) _ _ _) ?_; intro _ _)
      | (refine Ke.ltM (Kx.setr (by assumption) _ _ _) ?_; intro _ _)
      | (refine Ke.ltM (Kx.cpi (by assumption) (fun _ => by decide) _ _ _ _) ?_; intro _ _)
      | (refine Ke.ltM (Kx.cpl (by assumption) _ _ _ _ _) ?_; intro _ _)
      | (refine Ke.ltV ?_; intro _)
      | (apply k_f_M_goOn <;> first | assumption)
      | (refine Ke.b2 (by first | (apply k_f_M_goOn <;> first | assumption)) ?_; intro _ _ _)
      | (refine Ke.bdM (by first | (apply k_f_M_goOn <;> first | assumption)) ?_; intro _ _)
      | (refine Ke.bdV ?_; intro _)
theorem k_f_M_planes (p1 : Int32) (p2 : Int32) (p3 : Int32) {M0 M : Mem}  (h : Kx true M0 M) : Ke true M0 (f_M_planes p1 p2 p3 M) := by
    unfold f_M_planes
    repeat' with_reducible first
      | exact Ke.none
      | exact Ke.some (by assumption)
      | refine Ke.ite ?_ ?_
      | refine Ke.gd ?_
      | (refine Ke.ltM (Kx.set (by assumption) (fun _ => by decide) _) ?_; intro _ _)
      | (refine Ke.ltM (Kx.setl (by assumption) _ _ _) ?_; intro _ _)
      | (refine Ke.ltM (Kx.setr (by assumption) _ _ _) ?_; intro _ _)
      | (refine Ke.ltM (Kx.cpi (by assumption) (fun _ => by decide) _ _ _ _) ?_; intro _ _)
      | (refine Ke.ltM (Kx.cpl (by assumption) _ _ _ _ _) ?_; intro _ _)
      | (refine Ke.ltV ?_; intro _)
      | (refine Ke.bdV ?_; intro _)
theorem k_f_M_packed (p1 : Int32) (p2 : Int32) {M0 M : Mem}  (h : Kx true M0 M) : Ke true M0 (f_M_packed p1 p2 M) := by
    unfold f_M_packed
    repeat' with_reducible first
      | exact Ke.none
      | exact Ke.some (by assumption)
      | refine Ke.ite ?_ ?_
      | refine Ke.gd ?_
      | (refine Ke.ltM (Kx.set (by assumption) (fun _ => by decide) _) ?_; intro _ _)
      | (refine Ke.ltM (Kx.setl (by assumption) _ _ _) ?_; intro _ _)
      | (refine Ke.ltM (Kx.setr (by assumption) _ _ _) ?_; intro _ _)
      | (refine Ke.ltM (Kx.cpi (by assumption) (fun _ => by decide) _ _ _ _) ?_; intro _ _)
      | (refine Ke.ltM (Kx.cpl (by assumption) _ _ _ _ _) ?_; intro _ _)
      | (refine Ke.ltV ?_; intro _)
      | (refine Ke.bdV ?_; intro _)
theorem k_f_M_paints (p1 : Int32) (p2 : Int32) {M0 M : Mem}  (h : Kx true M0 M) : Ke true M0 (f_M_paints p1 p2 M) := by
    unfold f_M_paints
    repeat' with_reducible first
      | exact Ke.none
      | exact Ke.some (by assumption)
      | refine Ke.ite ?_ ?_
      | refine Ke.gd ?_
      | (refine Ke.ltM (Kx.set (by assumption) (fun _ => by decide) _) ?_; intro _ _)
      | (refine Ke.ltM (Kx.setl (by assumption) _ _ _) ?_; intro _ _)
      | (refine Ke.ltM (Kx.setr (by assumption) _ _ _) ?_; intro _ _)
      | (refine Ke.ltM (Kx.cpi (by assumption) (fun _ => by decide) _ _ _ _) ?_; intro _ _)
      | (refine Ke.ltM (Kx.cpl (by assumption) _ _ _ _ _) ?_; intro _ _)
      | (refine Ke.ltV ?_; intro _)
      | (refine Ke.bdV ?_; intro _)
theorem k_f_M_mend_b54 (v1 : Int32) (v2 : Int32) (v3 : Int32) (v4 : Int32) {M0 M : Mem}  (h : Kx true M0 M) : Ke true M0 (f_M_mend_b54 v1 v2 v3 v4 M) := by
    unfold f_M_mend_b54
    repeat' with_reducible first
      | exact Ke.none
      | exact Ke.some (by assumption)
      | refine Ke.ite ?_ ?_
      | refine Ke.gd ?_
      | (refine Ke.ltM (Kx.set (by assumption) (fun _ => by decide) _) ?_; intro _ _)
      | (refine Ke.ltM (Kx.setl (by assumption) _ _ _) ?_; intro _ _)
      | (refine Ke.ltM (Kx.setr (by assumption) _ _ _) ?_; intro _ _)
      | (refine Ke.ltM (Kx.cpi (by assumption) (fun _ => by decide) _ _ _ _) ?_; intro _ _)
      | (refine Ke.ltM (Kx.cpl (by assumption) _ _ _ _ _) ?_; intro _ _)
      | (refine Ke.ltV ?_; intro _)
      | (apply k_f_M_planes <;> first | assumption | (intros; apply k_f_M_packed <;> assumption) | (intros; apply k_f_M_paints <;> assumption))
      | (apply k_f_M_packed <;> first | assumption | (intros; apply k_f_M_planes <;> assumption) | (intros; apply k_f_M_paints <;> assumption))
      | (apply k_f_M_paints <;> first | assumption | (intros; apply k_f_M_planes <;> assumption) | (intros; apply k_f_M_packed <;> assumption))
      | (refine Ke.b2 (by first | (apply k_f_M_planes <;> first | assumption | (intros; apply k_f_M_packed <;> assumption) | (intros; apply k_f_M_paints <;> assumption)) | (apply k_f_M_packed <;> first | assumption | (intros; apply k_f_M_planes <;> assumption) | (intros; apply k_f_M_paints <;> assumption)) | (apply k_f_M_paints <;> first | assumption | (intros; apply k_f_M_planes <;> assumption) | (intros; apply k_f_M_packed <;> assumption))) ?_; intro _ _ _)
      | (refine Ke.bdM (by first | (apply k_f_M_planes <;> first | assumption | (intros; apply k_f_M_packed <;> assumption) | (intros; apply k_f_M_paints <;> assumption)) | (apply k_f_M_packed <;> first | assumption | (intros; apply k_f_M_planes <;> assumption) | (intros; apply k_f_M_paints <;> assumption)) | (apply k_f_M_paints <;> first | assumption | (intros; apply k_f_M_planes <;> assumption) | (intros; apply k_f_M_packed <;> assumption))) ?_; intro _ _)
      | (refine Ke.bdV ?_; intro _)
theorem k_f_M_mend (p1 : Int32) (p2 : Int32) (p3 : Int32) (p4 : Int32) {M0 M : Mem}  (h : Kx true M0 M) : Ke true M0 (f_M_mend p1 p2 p3 p4 M) := by
    unfold f_M_mend
    repeat' with_reducible first
      | exact Ke.none
      | exact Ke.some (by assumption)
      | refine Ke.ite ?_ ?_
      | refine Ke.gd ?_
      | (refine Ke.ltM (Kx.set (by assumption) (fun _ => by decide) _) ?_; intro _ _)
      | (refine Ke.ltM (Kx.setl (by assumption) _ _ _) ?_; intro _ _)
      | (refine Ke.ltM (Kx.setr (by assumption) _ _ _) ?_; intro _ _)
      | (refine Ke.ltM (Kx.cpi (by assumption) (fun _ => by decide) _ _ _ _) ?_; intro _ _)
      | (refine Ke.ltM (Kx.cpl (by assumption) _ _ _ _ _) ?_; intro _ _)
      | (refine Ke.ltV ?_; intro _)
      | (apply k_f_M_mend_b54 <;> first | assumption)
      | (refine Ke.b2 (by first | (apply k_f_M_mend_b54 <;> first | assumption)) ?_; intro _ _ _)
      | (refine Ke.bdM (by first | (apply k_f_M_mend_b54 <;> first | assumption)) ?_; intro _ _)
      | (refine Ke.bdV ?_; intro _)
theorem k_f_M_keep_l2  {M0 : Mem}  : ∀ (n : Nat) (w0 : Int32) (M : Mem), Kx true M0 M → Ke1 true M0 (f_M_keep_l2  n w0 M)
  | 0, _, _, _ => by
    simp only [f_M_keep_l2]
    exact Ke1.none
  | n + 1, w0, M, h => by
    simp only [f_M_keep_l2]
    repeat' with_reducible first
      | exact Ke1.none
      | exact Ke1.some (by assumption)
      | refine Ke1.ite ?_ ?_
      | refine Ke1.gd ?_
      | (refine Ke1.ltM (Kx.set (by assumption) (fun _ => by decide) _) ?_; intro _ _)
      | (refine Ke1.ltM (Kx.setl (by assumption) _ _ _) ?_; intro _ _)
      | (refine Ke1.ltM (Kx.setr (by assumption) _ _ _) ?_; intro _ _)
      | (refine Ke1.ltM (Kx.cpi (by assumption) (fun _ => by decide) _ _ _ _) ?_; intro _ _)
      | (refine Ke1.ltM (Kx.cpl (by assumption) _ _ _ _ _) ?_; intro _ _)
      | (refine Ke1.ltV ?_; intro _)
      | exact k_f_M_keep_l2 n _ _ (by assumption)
      | (refine Ke1.b2 (by first | exact k_f_M_keep_l2 n _ _ (by assumption)) ?_; intro _ _ _)
      | (refine Ke1.bdM (by first | exact k_f_M_keep_l2 n _ _ (by assumption)) ?_; intro _ _)
      | (refine Ke1.bdV ?_; intro _)
theorem k_f_M_keep  {M0 M : Mem}  (h : Kx true M0 M) : Ke1 true M0 (f_M_keep  M) := by
    unfold f_M_keep
    repeat' with_reducible first
      | exact Ke1.none
      | exact Ke1.some (by assumption)
      | refine Ke1.ite ?_ ?_
      | refine Ke1.gd ?_
      | (refine Ke1.ltM (Kx.set (by assumption) (fun _ => by decide) _) ?_; intro _ _)
      | (refine Ke1.ltM (Kx.setl (by assumption) _ _ _) ?_; intro _ _)
      | (refine Ke1.ltM (Kx.setr (by assumption) _ _ _) ?_; intro _ _)
      | (refine Ke1.ltM (Kx.cpi (by assumption) (fun _ => by decide) _ _ _ _) ?_; intro _ _)
      | (refine Ke1.ltM (Kx.cpl (by assumption) _ _ _ _ _) ?_; intro _ _)
      | (refine Ke1.ltV ?_; intro _)
      | (apply k_f_M_keep_l2 <;> first | assumption)
      | (refine Ke1.b2 (by first | (apply k_f_M_keep_l2 <;> first | assumption)) ?_; intro _ _ _)
      | (refine Ke1.bdM (by first | (apply k_f_M_keep_l2 <;> first | assumption)) ?_; intro _ _)
      | (refine Ke1.bdV ?_; intro _)
theorem k_f_M_putBack_l2  {M0 : Mem}  : ∀ (n : Nat) (w0 : Int32) (M : Mem), Kx true M0 M → Ke1 true M0 (f_M_putBack_l2  n w0 M)
  | 0, _, _, _ => by
    simp only [f_M_putBack_l2]
    exact Ke1.none
  | n + 1, w0, M, h => by
    simp only [f_M_putBack_l2]
    repeat' with_reducible first
      | exact Ke1.none
      | exact Ke1.some (by assumption)
      | refine Ke1.ite ?_ ?_
      | refine Ke1.gd ?_
      | (refine Ke1.ltM (Kx.set (by assumption) (fun _ => by decide) _) ?_; intro _ _)
      | (refine Ke1.ltM (Kx.setl (by assumption) _ _ _) ?_; intro _ _)
      | (refine Ke1.ltM (Kx.setr (by assumption) _ _ _) ?_; intro _ _)
      | (refine Ke1.ltM (Kx.cpi (by assumption) (fun _ => by decide) _ _ _ _) ?_; intro _ _)
      | (refine Ke1.ltM (Kx.cpl (by assumption) _ _ _ _ _) ?_; intro _ _)
      | (refine Ke1.ltV ?_; intro _)
      | exact k_f_M_putBack_l2 n _ _ (by assumption)
      | (refine Ke1.b2 (by first | exact k_f_M_putBack_l2 n _ _ (by assumption)) ?_; intro _ _ _)
      | (refine Ke1.bdM (by first | exact k_f_M_putBack_l2 n _ _ (by assumption)) ?_; intro _ _)
      | (refine Ke1.bdV ?_; intro _)
theorem k_f_M_putBack  {M0 M : Mem}  (h : Kx true M0 M) : Ke1 true M0 (f_M_putBack  M) := by
    unfold f_M_putBack
    repeat' with_reducible first
      | exact Ke1.none
      | exact Ke1.some (by assumption)
      | refine Ke1.ite ?_ ?_
      | refine Ke1.gd ?_
      | (refine Ke1.ltM (Kx.set (by assumption) (fun _ => by decide) _) ?_; intro _ _)
      | (refine Ke1.ltM (Kx.setl (by assumption) _ _ _) ?_; intro _ _)
      | (refine Ke1.ltM (Kx.setr (by assumption) _ _ _) ?_; intro _ _)
      | (refine Ke1.ltM (Kx.cpi (by assumption) (fun _ => by decide) _ _ _ _) ?_; intro _ _)
      | (refine Ke1.ltM (Kx.cpl (by assumption) _ _ _ _ _) ?_; intro _ _)
      | (refine Ke1.ltV ?_; intro _)
      | (apply k_f_M_putBack_l2 <;> first | assumption)
      | (refine Ke1.b2 (by first | (apply k_f_M_putBack_l2 <;> first | assumption)) ?_; intro _ _ _)
      | (refine Ke1.bdM (by first | (apply k_f_M_putBack_l2 <;> first | assumption)) ?_; intro _ _)
      | (refine Ke1.bdV ?_; intro _)
theorem k_f_M_run_l45  {M0 : Mem}  : ∀ (n : Nat) (w0 : Int32) (w1 : Int32) (w2 : Int32) (w3 : Int32) (M : Mem), Kx true M0 M → Ke true M0 (f_M_run_l45  n w0 w1 w2 w3 M)
  | 0, _, _, _, _, _, _ => by
    simp only [f_M_run_l45]
    exact Ke.none
  | n + 1, w0, w1, w2, w3, M, h => by
    simp only [f_M_run_l45]
    repeat' with_reducible first
      | exact Ke.none
      | exact Ke.some (by assumption)
      | refine Ke.ite ?_ ?_
      | refine Ke.gd ?_
      | (refine Ke.ltM (Kx.set (by assumption) (fun _ => by decide) _) ?_; intro _ _)
      | (refine Ke.ltM (Kx.setl (by assumption) _ _ _) ?_; intro _ _)
      | (refine Ke.ltM (Kx.setr (by assumption) _ _ _) ?_; intro _ _)
      | (refine Ke.ltM (Kx.cpi (by assumption) (fun _ => by decide) _ _ _ _) ?_; intro _ _)
      | (refine Ke.ltM (Kx.cpl (by assumption) _ _ _ _ _) ?_; intro _ _)
      | (refine Ke.ltV ?_; intro _)
      | (apply k_f_M_putBack <;> first | assumption | (intros; apply k_f_M_gap <;> assumption) | (intros; apply k_f_M_goOn <;> assumption) | (intros; refine k_f_M_run_l45 n _ _ _ _  _ ?_; assumption))
      | (apply k_f_M_gap <;> first | assumption | (intros; apply k_f_M_putBack <;> assumption) | (intros; apply k_f_M_goOn <;> assumption) | (intros; refine k_f_M_run_l45 n _ _ _ _  _ ?_; assumption))
      | (apply k_f_M_goOn <;> first | assumption | (intros; apply k_f_M_putBack <;> assumption) | (intros; apply k_f_M_gap <;> assumption) | (intros; refine k_f_M_run_l45 n _ _ _ _  _ ?_; assumption))
      | exact k_f_M_run_l45 n _ _ _ _ _ (by assumption)
      | (refine Ke.b2 (by first | (apply k_f_M_putBack <;> first | assumption | (intros; apply k_f_M_gap <;> assumption) | (intros; apply k_f_M_goOn <;> assumption) | (intros; refine k_f_M_run_l45 n _ _ _ _  _ ?_; assumption)) | (apply k_f_M_gap <;> first | assumption | (intros; apply k_f_M_putBack <;> assumption) | (intros; apply k_f_M_goOn <;> assumption) | (intros; refine k_f_M_run_l45 n _ _ _ _  _ ?_; assumption)) | (apply k_f_M_goOn <;> first | assumption | (intros; apply k_f_M_putBack <;> assumption) | (intros; apply k_f_M_gap <;> assumption) | (intros; refine k_f_M_run_l45 n _ _ _ _  _ ?_; assumption)) | exact k_f_M_run_l45 n _ _ _ _ _ (by assumption)) ?_; intro _ _ _)
      | (refine Ke.bdM (by first | (apply k_f_M_putBack <;> first | assumption | (intros; apply k_f_M_gap <;> assumption) | (intros; apply k_f_M_goOn <;> assumption) | (intros; refine k_f_M_run_l45 n _ _ _ _  _ ?_; assumption)) | (apply k_f_M_gap <;> first | assumption | (intros; apply k_f_M_putBack <;> assumption) | (intros; apply k_f_M_goOn <;> assumption) | (intros; refine k_f_M_run_l45 n _ _ _ _  _ ?_; assumption)) | (apply k_f_M_goOn <;> first | assumption | (intros; apply k_f_M_putBack <;> assumption) | (intros; apply k_f_M_gap <;> assumption) | (intros; refine k_f_M_run_l45 n _ _ _ _  _ ?_; assumption)) | exact k_f_M_run_l45 n _ _ _ _ _ (by assumption)) ?_; intro _ _)
      | (refine Ke.bdV ?_; intro _)
theorem k_f_M_run (p1 : Int32) (p2 : Int32) (p3 : Int32) {M0 M : Mem}  (h : Kx true M0 M) : Ke true M0 (f_M_run p1 p2 p3 M) := by
    unfold f_M_run
    repeat' with_reducible first
      | exact Ke.none
      | exact Ke.some (by assumption)
      | refine Ke.ite ?_ ?_
      | refine Ke.gd ?_
      | (refine Ke.ltM (Kx.set (by assumption) (fun _ => by decide) _) ?_; intro _ _)
      | (refine Ke.ltM (Kx.setl (by assumption) _ _ _) ?_; intro _ _)
      | (refine Ke.ltM (Kx.setr (by assumption) _ _ _) ?_; intro _ _)
      | (refine Ke.ltM (Kx.cpi (by assumption) (fun _ => by decide) _ _ _ _) ?_; intro _ _)
      | (refine Ke.ltM (Kx.cpl (by assumption) _ _ _ _ _) ?_; intro _ _)
      | (refine Ke.ltV ?_; intro _)
      | (apply k_f_M_keep <;> first | assumption | (intros; apply k_f_M_run_l45 <;> assumption))
      | (apply k_f_M_run_l45 <;> first | assumption | (intros; apply k_f_M_keep <;> assumption))
      | (refine Ke.b2 (by first | (apply k_f_M_keep <;> first | assumption | (intros; apply k_f_M_run_l45 <;> assumption)) | (apply k_f_M_run_l45 <;> first | assumption | (intros; apply k_f_M_keep <;> assumption))) ?_; intro _ _ _)
      | (refine Ke.bdM (by first | (apply k_f_M_keep <;> first | assumption | (intros; apply k_f_M_run_l45 <;> assumption)) | (apply k_f_M_run_l45 <;> first | assumption | (intros; apply k_f_M_keep <;> assumption))) ?_; intro _ _)
      | (refine Ke.bdV ?_; intro _)
theorem k_f_M_first_l73  {M0 : Mem}  : ∀ (n : Nat) (w0 : Int32) (w1 : Int32) (w2 : Int32) (w3 : Int32) (M : Mem), Kx true M0 M → Ke true M0 (f_M_first_l73  n w0 w1 w2 w3 M)
  | 0, _, _, _, _, _, _ => by
    simp only [f_M_first_l73]
    exact Ke.none
  | n + 1, w0, w1, w2, w3, M, h => by
    simp only [f_M_first_l73]
    repeat' with_reducible first
      | exact Ke.none
      | exact Ke.some (by assumption)
      | refine Ke.ite ?_ ?_
      | refine Ke.gd ?_
      | (refine Ke.ltM (Kx.set (by assumption) (fun _ => by decide) _) ?_; intro _ _)
      | (refine Ke.ltM (Kx.setl (by assumption) _ _ _) ?_; intro _ _)
      | (refine Ke.ltM (Kx.setr (by assumption) _ _ _) ?_; intro _ _)
      | (refine Ke.ltM (Kx.cpi (by assumption) (fun _ => by decide) _ _ _ _) ?_; intro _ _)
      | (refine Ke.ltM (Kx.cpl (by assumption) _ _ _ _ _) ?_; intro _ _)
      | (refine Ke.ltV ?_; intro _)
      | exact k_f_M_first_l73 n _ _ _ _ _ (by assumption)
      | (refine Ke.b2 (by first | exact k_f_M_first_l73 n _ _ _ _ _ (by assumption)) ?_; intro _ _ _)
      | (refine Ke.bdM (by first | exact k_f_M_first_l73 n _ _ _ _ _ (by assumption)) ?_; intro _ _)
      | (refine Ke.bdV ?_; intro _)
theorem k_f_M_first_b50 (v1 : Int32) (v2 : Int32) (v3 : Int32) {M0 M : Mem}  (h : Kx true M0 M) : Ke true M0 (f_M_first_b50 v1 v2 v3 M) := by
    unfold f_M_first_b50
    repeat' with_reducible first
      | exact Ke.none
      | exact Ke.some (by assumption)
      | refine Ke.ite ?_ ?_
      | refine Ke.gd ?_
      | (refine Ke.ltM (Kx.set (by assumption) (fun _ => by decide) _) ?_; intro _ _)
      | (refine Ke.ltM (Kx.setl (by assumption) _ _ _) ?_; intro _ _)
      | (refine Ke.ltM (Kx.setr (by assumption) _ _ _) ?_; intro _ _)
      | (refine Ke.ltM (Kx.cpi (by assumption) (fun _ => by decide) _ _ _ _) ?_; intro _ _)
      | (refine Ke.ltM (Kx.cpl (by assumption) _ _ _ _ _) ?_; intro _ _)
      | (refine Ke.ltV ?_; intro _)
      | (apply k_f_M_rubs <;> first | assumption | (intros; apply k_f_M_putBack <;> assumption) | (intros; apply k_f_M_first_l73 <;> assumption))
      | (apply k_f_M_putBack <;> first | assumption | (intros; apply k_f_M_rubs <;> assumption) | (intros; apply k_f_M_first_l73 <;> assumption))
      | (apply k_f_M_first_l73 <;> first | assumption | (intros; apply k_f_M_rubs <;> assumption) | (intros; apply k_f_M_putBack <;> assumption))
      | (refine Ke.b2 (by first | (apply k_f_M_rubs <;> first | assumption | (intros; apply k_f_M_putBack <;> assumption) | (intros; apply k_f_M_first_l73 <;> assumption)) | (apply k_f_M_putBack <;> first | assumption | (intros; apply k_f_M_rubs <;> assumption) | (intros; apply k_f_M_first_l73 <;> assumption)) | (apply k_f_M_first_l73 <;> first | assumption | (intros; apply k_f_M_rubs <;> assumption) | (intros; apply k_f_M_putBack <;> assumption))) ?_; intro _ _ _)
      | (refine Ke.bdM (by first | (apply k_f_M_rubs <;> first | assumption | (intros; apply k_f_M_putBack <;> assumption) | (intros; apply k_f_M_first_l73 <;> assumption)) | (apply k_f_M_putBack <;> first | assumption | (intros; apply k_f_M_rubs <;> assumption) | (intros; apply k_f_M_first_l73 <;> assumption)) | (apply k_f_M_first_l73 <;> first | assumption | (intros; apply k_f_M_rubs <;> assumption) | (intros; apply k_f_M_putBack <;> assumption))) ?_; intro _ _)
      | (refine Ke.bdV ?_; intro _)
theorem k_f_M_first_l26  {M0 : Mem}  : ∀ (n : Nat) (w0 : Int32) (w1 : Int32) (w2 : Int32) (M : Mem), Kx true M0 M → Ke true M0 (f_M_first_l26  n w0 w1 w2 M)
  | 0, _, _, _, _, _ => by
    simp only [f_M_first_l26]
    exact Ke.none
  | n + 1, w0, w1, w2, M, h => by
    simp only [f_M_first_l26]
    repeat' with_reducible first
      | exact Ke.none
      | exact Ke.some (by assumption)
      | refine Ke.ite ?_ ?_
      | refine Ke.gd ?_
      | (refine Ke.ltM (Kx.set (by assumption) (fun _ => by decide) _) ?_; intro _ _)
      | (refine Ke.ltM (Kx.setl (by assumption) _ _ _) ?_; intro _ _)
      | (refine Ke.ltM (Kx.setr (by assumption) _ _ _) ?_; intro _ _)
      | (refine Ke.ltM (Kx.cpi (by assumption) (fun _ => by decide) _ _ _ _) ?_; intro _ _)
      | (refine Ke.ltM (Kx.cpl (by assumption) _ _ _ _ _) ?_; intro _ _)
      | (refine Ke.ltV ?_; intro _)
      | (apply k_f_M_first_b50 <;> first | assumption | (intros; apply k_f_M_rubs <;> assumption) | (intros; apply k_f_M_goOn <;> assumption) | (intros; refine k_f_M_first_l26 n _ _ _  _ ?_; assumption))
      | (apply k_f_M_rubs <;> first | assumption | (intros; apply k_f_M_first_b50 <;> assumption) | (intros; apply k_f_M_goOn <;> assumption) | (intros; refine k_f_M_first_l26 n _ _ _  _ ?_; assumption))
      | (apply k_f_M_goOn <;> first | assumption | (intros; apply k_f_M_first_b50 <;> assumption) | (intros; apply k_f_M_rubs <;> assumption) | (intros; refine k_f_M_first_l26 n _ _ _  _ ?_; assumption))
      | exact k_f_M_first_l26 n _ _ _ _ (by assumption)
      | (refine Ke.b2 (by first | (apply k_f_M_first_b50 <;> first | assumption | (intros; apply k_f_M_rubs <;> assumption) | (intros; apply k_f_M_goOn <;> assumption) | (intros; refine k_f_M_first_l26 n _ _ _  _ ?_; assumption)) | (apply k_f_M_rubs <;> first | assumption | (intros; apply k_f_M_first_b50 <;> assumption) | (intros; apply k_f_M_goOn <;> assumption) | (intros; refine k_f_M_first_l26 n _ _ _  _ ?_; assumption)) | (apply k_f_M_goOn <;> first | assumption | (intros; apply k_f_M_first_b50 <;> assumption) | (intros; apply k_f_M_rubs <;> assumption) | (intros; refine k_f_M_first_l26 n _ _ _  _ ?_; assumption)) | exact k_f_M_first_l26 n _ _ _ _ (by assumption)) ?_; intro _ _ _)
      | (refine Ke.bdM (by first | (apply k_f_M_first_b50 <;> first | assumption | (intros; apply k_f_M_rubs <;> assumption) | (intros; apply k_f_M_goOn <;> assumption) | (intros; refine k_f_M_first_l26 n _ _ _  _ ?_; assumption)) | (apply k_f_M_rubs <;> first | assumption | (intros; apply k_f_M_first_b50 <;> assumption) | (intros; apply k_f_M_goOn <;> assumption) | (intros; refine k_f_M_first_l26 n _ _ _  _ ?_; assumption)) | (apply k_f_M_goOn <;> first | assumption | (intros; apply k_f_M_first_b50 <;> assumption) | (intros; apply k_f_M_rubs <;> assumption) | (intros; refine k_f_M_first_l26 n _ _ _  _ ?_; assumption)) | exact k_f_M_first_l26 n _ _ _ _ (by assumption)) ?_; intro _ _)
      | (refine Ke.bdV ?_; intro _)
theorem k_f_M_first (p1 : Int32) (p2 : Int32) {M0 M : Mem}  (h : Kx true M0 M) : Ke true M0 (f_M_first p1 p2 M) := by
    unfold f_M_first
    repeat' with_reducible first
      | exact Ke.none
      | exact Ke.some (by assumption)
      | refine Ke.ite ?_ ?_
      | refine Ke.gd ?_
      | (refine Ke.ltM (Kx.set (by assumption) (fun _ => by decide) _) ?_; intro _ _)
      | (refine Ke.ltM (Kx.setl (by assumption) _ _ _) ?_; intro _ _)
      | (refine Ke.ltM (Kx.setr (by assumption) _ _ _) ?_; intro _ _)
      | (refine Ke.ltM (Kx.cpi (by assumption) (fun _ => by decide) _ _ _ _) ?_; intro _ _)
      | (refine Ke.ltM (Kx.cpl (by assumption) _ _ _ _ _) ?_; intro _ _)
      | (refine Ke.ltV ?_; intro _)
      | (apply k_f_M_keep <;> first | assumption | (intros; apply k_f_M_first_l26 <;> assumption))
      | (apply k_f_M_first_l26 <;> first | assumption | (intros; apply k_f_M_keep <;> assumption))
      | (refine Ke.b2 (by first | (apply k_f_M_keep <;> first | assumption | (intros; apply k_f_M_first_l26 <;> assumption)) | (apply k_f_M_first_l26 <;> first | assumption | (intros; apply k_f_M_keep <;> assumption))) ?_; intro _ _ _)
      | (refine Ke.bdM (by first | (apply k_f_M_keep <;> first | assumption | (intros; apply k_f_M_first_l26 <;> assumption)) | (apply k_f_M_first_l26 <;> first | assumption | (intros; apply k_f_M_keep <;> assumption))) ?_; intro _ _)
      | (refine Ke.bdV ?_; intro _)
theorem k_f_M_layGaps_b62 (K25 : Int32 → Int32 → Int32 → Int32 → Mem → Option Mem) (v1 : Int32) (v2 : Int32) (v3 : Int32) (v4 : Int32) (v5 : Int32) (s0 : Int32) {M0 M : Mem} (hK25 : ∀ y0 y1 y2 y3 M, Kx true M0 M → Ke1 true M0 (K25 y0 y1 y2 y3 M)) (h : Kx true M0 M) : Ke1 true M0 (f_M_layGaps_b62 K25 v1 v2 v3 v4 v5 s0 M) := by
    unfold f_M_layGaps_b62
    repeat' with_reducible first
      | exact Ke1.none
      | exact Ke1.some (by assumption)
      | refine Ke1.ite ?_ ?_
      | refine Ke1.gd ?_
      | (refine Ke1.ltM (Kx.set (by assumption) (fun _ => by decide) _) ?_; intro _ _)
      | (refine Ke1.ltM (Kx.setl (by assumption) _ _ _) ?_; intro _ _)
      | (refine Ke1.ltM (Kx.setr (by assumption) _ _ _) ?_; intro _ _)
      | (refine Ke1.ltM (Kx.cpi (by assumption) (fun _ => by decide) _ _ _ _) ?_; intro _ _)
      | (refine Ke1.ltM (Kx.cpl (by assumption) _ _ _ _ _) ?_; intro _ _)
      | (refine Ke1.ltV ?_; intro _)
      | (apply hK25; assumption)
      | (refine Ke1.b2 (by first | (apply hK25; assumption)) ?_; intro _ _ _)
      | (refine Ke1.bdM (by first | (apply hK25; assumption)) ?_; intro _ _)
      | (refine Ke1.bdV ?_; intro _)
theorem k_f_M_layGaps_l25  {M0 : Mem}  : ∀ (n : Nat) (w0 : Int32) (w1 : Int32) (w2 : Int32) (w3 : Int32) (M : Mem), Kx true M0 M → Ke1 true M0 (f_M_layGaps_l25  n w0 w1 w2 w3 M)
  | 0, _, _, _, _, _, _ => by
    simp only [f_M_layGaps_l25]
    exact Ke1.none
  | n + 1, w0, w1, w2, w3, M, h => by
    simp only [f_M_layGaps_l25]
    repeat' with_reducible first
      | exact Ke1.none
      | exact Ke1.some (by assumption)
      | refine Ke1.ite ?_ ?_
      | refine Ke1.gd ?_
      | (refine Ke1.ltM (Kx.set (by assumption) (fun _ => by decide) _) ?_; intro _ _)
      | (refine Ke1.ltM (Kx.setl (by assumption) _ _ _) ?_; intro _ _)
      | (refine Ke1.ltM (Kx.setr (by assumption) _ _ _) ?_; intro _ _)
      | (refine Ke1.ltM (Kx.cpi (by assumption) (fun _ => by decide) _ _ _ _) ?_; intro _ _)
      | (refine Ke1.ltM (Kx.cpl (by assumption) _ _ _ _ _) ?_; intro _ _)
      | (refine Ke1.ltV ?_; intro _)
      | (apply k_f_M_putBack <;> first | assumption | (intros; apply k_f_M_goOn <;> assumption) | (intros; apply k_f_M_gap <;> assumption) | (intros; apply k_f_M_layGaps_b62 <;> assumption) | (intros; refine k_f_M_layGaps_l25 n _ _ _ _  _ ?_; assumption))
      | (apply k_f_M_goOn <;> first | assumption | (intros; apply k_f_M_putBack <;> assumption) | (intros; apply k_f_M_gap <;> assumption) | (intros; apply k_f_M_layGaps_b62 <;> assumption) | (intros; refine k_f_M_layGaps_l25 n _ _ _ _  _ ?_; assumption))
      | (apply k_f_M_gap <;> first | assumption | (intros; apply k_f_M_putBack <;> assumption) | (intros; apply k_f_M_goOn <;> assumption) | (intros; apply k_f_M_layGaps_b62 <;> assumption) | (intros; refine k_f_M_layGaps_l25 n _ _ _ _  _ ?_; assumption))
      | (apply k_f_M_layGaps_b62 <;> first | assumption | (intros; apply k_f_M_putBack <;> assumption) | (intros; apply k_f_M_goOn <;> assumption) | (intros; apply k_f_M_gap <;> assumption) | (intros; refine k_f_M_layGaps_l25 n _ _ _ _  _ ?_; assumption))
      | exact k_f_M_layGaps_l25 n _ _ _ _ _ (by assumption)
      | (refine Ke1.b2 (by first | (apply k_f_M_putBack <;> first | assumption | (intros; apply k_f_M_goOn <;> assumption) | (intros; apply k_f_M_gap <;> assumption) | (intros; apply k_f_M_layGaps_b62 <;> assumption) | (intros; refine k_f_M_layGaps_l25 n _ _ _ _  _ ?_; assumption)) | (apply k_f_M_goOn <;> first | assumption | (intros; apply k_f_M_putBack <;> assumption) | (intros; apply k_f_M_gap <;> assumption) | (intros; apply k_f_M_layGaps_b62 <;> assumption) | (intros; refine k_f_M_layGaps_l25 n _ _ _ _  _ ?_; assumption)) | (apply k_f_M_gap <;> first | assumption | (intros; apply k_f_M_putBack <;> assumption) | (intros; apply k_f_M_goOn <;> assumption) | (intros; apply k_f_M_layGaps_b62 <;> assumption) | (intros; refine k_f_M_layGaps_l25 n _ _ _ _  _ ?_; assumption)) | (apply k_f_M_layGaps_b62 <;> first | assumption | (intros; apply k_f_M_putBack <;> assumption) | (intros; apply k_f_M_goOn <;> assumption) | (intros; apply k_f_M_gap <;> assumption) | (intros; refine k_f_M_layGaps_l25 n _ _ _ _  _ ?_; assumption)) | exact k_f_M_layGaps_l25 n _ _ _ _ _ (by assumption)) ?_; intro _ _ _)
      | (refine Ke1.bdM (by first | (apply k_f_M_putBack <;> first | assumption | (intros; apply k_f_M_goOn <;> assumption) | (intros; apply k_f_M_gap <;> assumption) | (intros; apply k_f_M_layGaps_b62 <;> assumption) | (intros; refine k_f_M_layGaps_l25 n _ _ _ _  _ ?_; assumption)) | (apply k_f_M_goOn <;> first | assumption | (intros; apply k_f_M_putBack <;> assumption) | (intros; apply k_f_M_gap <;> assumption) | (intros; apply k_f_M_layGaps_b62 <;> assumption) | (intros; refine k_f_M_layGaps_l25 n _ _ _ _  _ ?_; assumption)) | (apply k_f_M_gap <;> first | assumption | (intros; apply k_f_M_putBack <;> assumption) | (intros; apply k_f_M_goOn <;> assumption) | (intros; apply k_f_M_layGaps_b62 <;> assumption) | (intros; refine k_f_M_layGaps_l25 n _ _ _ _  _ ?_; assumption)) | (apply k_f_M_layGaps_b62 <;> first | assumption | (intros; apply k_f_M_putBack <;> assumption) | (intros; apply k_f_M_goOn <;> assumption) | (intros; apply k_f_M_gap <;> assumption) | (intros; refine k_f_M_layGaps_l25 n _ _ _ _  _ ?_; assumption)) | exact k_f_M_layGaps_l25 n _ _ _ _ _ (by assumption)) ?_; intro _ _)
      | (refine Ke1.bdV ?_; intro _)
theorem k_f_M_layGaps (p1 : Int32) (p2 : Int32) (p3 : Int32) {M0 M : Mem}  (h : Kx true M0 M) : Ke1 true M0 (f_M_layGaps p1 p2 p3 M) := by
    unfold f_M_layGaps
    repeat' with_reducible first
      | exact Ke1.none
      | exact Ke1.some (by assumption)
      | refine Ke1.ite ?_ ?_
      | refine Ke1.gd ?_
      | (refine Ke1.ltM (Kx.set (by assumption) (fun _ => by decide) _) ?_; intro _ _)
      | (refine Ke1.ltM (Kx.setl (by assumption) _ _ _) ?_; intro _ _)
      | (refine Ke1.ltM (Kx.setr (by assumption) _ _ _) ?_; intro _ _)
      | (refine Ke1.ltM (Kx.cpi (by assumption) (fun _ => by decide) _ _ _ _) ?_; intro _ _)
      | (refine Ke1.ltM (Kx.cpl (by assumption) _ _ _ _ _) ?_; intro _ _)
      | (refine Ke1.ltV ?_; intro _)
      | (apply k_f_M_keep <;> first | assumption | (intros; apply k_f_M_gap <;> assumption) | (intros; apply k_f_M_layGaps_l25 <;> assumption))
      | (apply k_f_M_gap <;> first | assumption | (intros; apply k_f_M_keep <;> assumption) | (intros; apply k_f_M_layGaps_l25 <;> assumption))
      | (apply k_f_M_layGaps_l25 <;> first | assumption | (intros; apply k_f_M_keep <;> assumption) | (intros; apply k_f_M_gap <;> assumption))
      | (refine Ke1.b2 (by first | (apply k_f_M_keep <;> first | assumption | (intros; apply k_f_M_gap <;> assumption) | (intros; apply k_f_M_layGaps_l25 <;> assumption)) | (apply k_f_M_gap <;> first | assumption | (intros; apply k_f_M_keep <;> assumption) | (intros; apply k_f_M_layGaps_l25 <;> assumption)) | (apply k_f_M_layGaps_l25 <;> first | assumption | (intros; apply k_f_M_keep <;> assumption) | (intros; apply k_f_M_gap <;> assumption))) ?_; intro _ _ _)
      | (refine Ke1.bdM (by first | (apply k_f_M_keep <;> first | assumption | (intros; apply k_f_M_gap <;> assumption) | (intros; apply k_f_M_layGaps_l25 <;> assumption)) | (apply k_f_M_gap <;> first | assumption | (intros; apply k_f_M_keep <;> assumption) | (intros; apply k_f_M_layGaps_l25 <;> assumption)) | (apply k_f_M_layGaps_l25 <;> first | assumption | (intros; apply k_f_M_keep <;> assumption) | (intros; apply k_f_M_gap <;> assumption))) ?_; intro _ _)
      | (refine Ke1.bdV ?_; intro _)
theorem k_f_M_worst (p1 : Int32) (p2 : Int32) (p3 : Int32) (p4 : Int32) {M0 M : Mem}  (h : Kx true M0 M) : Ke true M0 (f_M_worst p1 p2 p3 p4 M) := by
    unfold f_M_worst
    repeat' with_reducible first
      | exact Ke.none
      | exact Ke.some (by assumption)
      | refine Ke.ite ?_ ?_
      | refine Ke.gd ?_
      | (refine Ke.ltM (Kx.set (by assumption) (fun _ => by decide) _) ?_; intro _ _)
      | (refine Ke.ltM (Kx.setl (by assumption) _ _ _) ?_; intro _ _)
      | (refine Ke.ltM (Kx.setr (by assumption) _ _ _) ?_; intro _ _)
      | (refine Ke.ltM (Kx.cpi (by assumption) (fun _ => by decide) _ _ _ _) ?_; intro _ _)
      | (refine Ke.ltM (Kx.cpl (by assumption) _ _ _ _ _) ?_; intro _ _)
      | (refine Ke.ltV ?_; intro _)
      | (apply k_f_M_layGaps <;> first | assumption)
      | (refine Ke.b2 (by first | (apply k_f_M_layGaps <;> first | assumption)) ?_; intro _ _ _)
      | (refine Ke.bdM (by first | (apply k_f_M_layGaps <;> first | assumption)) ?_; intro _ _)
      | (refine Ke.bdV ?_; intro _)
theorem k_f_M_offOf (p1 : Int32) (p2 : Int32) {M0 M : Mem}  (h : Kx true M0 M) : Ke true M0 (f_M_offOf p1 p2 M) := by
    unfold f_M_offOf
    repeat' with_reducible first
      | exact Ke.none
      | exact Ke.some (by assumption)
      | refine Ke.ite ?_ ?_
      | refine Ke.gd ?_
      | (refine Ke.ltM (Kx.set (by assumption) (fun _ => by decide) _) ?_; intro _ _)
      | (refine Ke.ltM (Kx.setl (by assumption) _ _ _) ?_; intro _ _)
      | (refine Ke.ltM (Kx.setr (by assumption) _ _ _) ?_; intro _ _)
      | (refine Ke.ltM (Kx.cpi (by assumption) (fun _ => by decide) _ _ _ _) ?_; intro _ _)
      | (refine Ke.ltM (Kx.cpl (by assumption) _ _ _ _ _) ?_; intro _ _)
      | (refine Ke.ltV ?_; intro _)
      | (apply k_f_M_layGaps <;> first | assumption)
      | (refine Ke.b2 (by first | (apply k_f_M_layGaps <;> first | assumption)) ?_; intro _ _ _)
      | (refine Ke.bdM (by first | (apply k_f_M_layGaps <;> first | assumption)) ?_; intro _ _)
      | (refine Ke.bdV ?_; intro _)
theorem k_f_M_off_l45  {M0 : Mem}  : ∀ (n : Nat) (w0 : Int32) (w1 : Int32) (w2 : Int32) (M : Mem), Kx true M0 M → Ke true M0 (f_M_off_l45  n w0 w1 w2 M)
  | 0, _, _, _, _, _ => by
    simp only [f_M_off_l45]
    exact Ke.none
  | n + 1, w0, w1, w2, M, h => by
    simp only [f_M_off_l45]
    repeat' with_reducible first
      | exact Ke.none
      | exact Ke.some (by assumption)
      | refine Ke.ite ?_ ?_
      | refine Ke.gd ?_
      | (refine Ke.ltM (Kx.set (by assumption) (fun _ => by decide) _) ?_; intro _ _)
      | (refine Ke.ltM (Kx.setl (by assumption) _ _ _) ?_; intro _ _)
      | (refine Ke.ltM (Kx.setr (by assumption) _ _ _) ?_; intro _ _)
      | (refine Ke.ltM (Kx.cpi (by assumption) (fun _ => by decide) _ _ _ _) ?_; intro _ _)
      | (refine Ke.ltM (Kx.cpl (by assumption) _ _ _ _ _) ?_; intro _ _)
      | (refine Ke.ltV ?_; intro _)
      | (apply k_f_M_offOf <;> first | assumption | (intros; refine k_f_M_off_l45 n _ _ _  _ ?_; assumption))
      | exact k_f_M_off_l45 n _ _ _ _ (by assumption)
      | (refine Ke.b2 (by first | (apply k_f_M_offOf <;> first | assumption | (intros; refine k_f_M_off_l45 n _ _ _  _ ?_; assumption)) | exact k_f_M_off_l45 n _ _ _ _ (by assumption)) ?_; intro _ _ _)
      | (refine Ke.bdM (by first | (apply k_f_M_offOf <;> first | assumption | (intros; refine k_f_M_off_l45 n _ _ _  _ ?_; assumption)) | exact k_f_M_off_l45 n _ _ _ _ (by assumption)) ?_; intro _ _)
      | (refine Ke.bdV ?_; intro _)
theorem k_f_M_off_b23 (v1 : Int32) (v2 : Int32) {M0 M : Mem}  (h : Kx true M0 M) : Ke true M0 (f_M_off_b23 v1 v2 M) := by
    unfold f_M_off_b23
    repeat' with_reducible first
      | exact Ke.none
      | exact Ke.some (by assumption)
      | refine Ke.ite ?_ ?_
      | refine Ke.gd ?_
      | (refine Ke.ltM (Kx.set (by assumption) (fun _ => by decide) _) ?_; intro _ _)
      | (refine Ke.ltM (Kx.setl (by assumption) _ _ _) ?_; intro _ _)
      | (refine Ke.ltM (Kx.setr (by assumption) _ _ _) ?_; intro _ _)
      | (refine Ke.ltM (Kx.cpi (by assumption) (fun _ => by decide) _ _ _ _) ?_; intro _ _)
      | (refine Ke.ltM (Kx.cpl (by assumption) _ _ _ _ _) ?_; intro _ _)
      | (refine Ke.ltV ?_; intro _)
      | (apply k_f_M_off_l45 <;> first | assumption | (intros; apply k_f_M_offOf <;> assumption))
      | (apply k_f_M_offOf <;> first | assumption | (intros; apply k_f_M_off_l45 <;> assumption))
      | (refine Ke.b2 (by first | (apply k_f_M_off_l45 <;> first | assumption | (intros; apply k_f_M_offOf <;> assumption)) | (apply k_f_M_offOf <;> first | assumption | (intros; apply k_f_M_off_l45 <;> assumption))) ?_; intro _ _ _)
      | (refine Ke.bdM (by first | (apply k_f_M_off_l45 <;> first | assumption | (intros; apply k_f_M_offOf <;> assumption)) | (apply k_f_M_offOf <;> first | assumption | (intros; apply k_f_M_off_l45 <;> assumption))) ?_; intro _ _)
      | (refine Ke.bdV ?_; intro _)
theorem k_f_M_off (p1 : Int32) (p2 : Int32) {M0 M : Mem}  (h : Kx true M0 M) : Ke true M0 (f_M_off p1 p2 M) := by
    unfold f_M_off
    repeat' with_reducible first
      | exact Ke.none
      | exact Ke.some (by assumption)
      | refine Ke.ite ?_ ?_
      | refine Ke.gd ?_
      | (refine Ke.ltM (Kx.set (by assumption) (fun _ => by decide) _) ?_; intro _ _)
      | (refine Ke.ltM (Kx.setl (by assumption) _ _ _) ?_; intro _ _)
      | (refine Ke.ltM (Kx.setr (by assumption) _ _ _) ?_; intro _ _)
      | (refine Ke.ltM (Kx.cpi (by assumption) (fun _ => by decide) _ _ _ _) ?_; intro _ _)
      | (refine Ke.ltM (Kx.cpl (by assumption) _ _ _ _ _) ?_; intro _ _)
      | (refine Ke.ltV ?_; intro _)
      | (apply k_f_M_off_b23 <;> first | assumption)
      | (refine Ke.b2 (by first | (apply k_f_M_off_b23 <;> first | assumption)) ?_; intro _ _ _)
      | (refine Ke.bdM (by first | (apply k_f_M_off_b23 <;> first | assumption)) ?_; intro _ _)
      | (refine Ke.bdV ?_; intro _)
theorem k_f_M_costOf_b183 (v2 : Int32) (v6 : Int32) (s0 : Int32) (s1 : Int32) {M0 M : Mem}  (h : Kx true M0 M) : Ke true M0 (f_M_costOf_b183 v2 v6 s0 s1 M) := by
    unfold f_M_costOf_b183
    repeat' with_reducible first
      | exact Ke.none
      | exact Ke.some (by assumption)
      | refine Ke.ite ?_ ?_
      | refine Ke.gd ?_
      | (refine Ke.ltM (Kx.set (by assumption) (fun _ => by decide) _) ?_; intro _ _)
      | (refine Ke.ltM (Kx.setl (by assumption) _ _ _) ?_; intro _ _)
      | (refine Ke.ltM (Kx.setr (by assumption) _ _ _) ?_; intro _ _)
      | (refine Ke.ltM (Kx.cpi (by assumption) (fun _ => by decide) _ _ _ _) ?_; intro _ _)
      | (refine Ke.ltM (Kx.cpl (by assumption) _ _ _ _ _) ?_; intro _ _)
      | (refine Ke.ltV ?_; intro _)
      | (refine Ke.bdV ?_; intro _)
theorem k_f_M_costOf_b170 (v2 : Int32) (v6 : Int32) (s0 : Int32) (s1 : Int32) {M0 M : Mem}  (h : Kx true M0 M) : Ke true M0 (f_M_costOf_b170 v2 v6 s0 s1 M) := by
    unfold f_M_costOf_b170
    repeat' with_reducible first
      | exact Ke.none
      | exact Ke.some (by assumption)
      | refine Ke.ite ?_ ?_
      | refine Ke.gd ?_
      | (refine Ke.ltM (Kx.set (by assumption) (fun _ => by decide) _) ?_; intro _ _)
      | (refine Ke.ltM (Kx.setl (by assumption) _ _ _) ?_; intro _ _)
      | (refine Ke.ltM (Kx.setr (by assumption) _ _ _) ?_; intro _ _)
      | (refine Ke.ltM (Kx.cpi (by assumption) (fun _ => by decide) _ _ _ _) ?_; intro _ _)
      | (refine Ke.ltM (Kx.cpl (by assumption) _ _ _ _ _) ?_; intro _ _)
      | (refine Ke.ltV ?_; intro _)
      | (apply k_f_M_costOf_b183 <;> first | assumption)
      | (refine Ke.b2 (by first | (apply k_f_M_costOf_b183 <;> first | assumption)) ?_; intro _ _ _)
      | (refine Ke.bdM (by first | (apply k_f_M_costOf_b183 <;> first | assumption)) ?_; intro _ _)
      | (refine Ke.bdV ?_; intro _)
theorem k_f_M_costOf_b159 (v2 : Int32) (v6 : Int32) (s0 : Int32) {M0 M : Mem}  (h : Kx true M0 M) : Ke true M0 (f_M_costOf_b159 v2 v6 s0 M) := by
    unfold f_M_costOf_b159
    repeat' with_reducible first
      | exact Ke.none
      | exact Ke.some (by assumption)
      | refine Ke.ite ?_ ?_
      | refine Ke.gd ?_
      | (refine Ke.ltM (Kx.set (by assumption) (fun _ => by decide) _) ?_; intro _ _)
      | (refine Ke.ltM (Kx.setl (by assumption) _ _ _) ?_; intro _ _)
      | (refine Ke.ltM (Kx.setr (by assumption) _ _ _) ?_; intro _ _)
      | (refine Ke.ltM (Kx.cpi (by assumption) (fun _ => by decide) _ _ _ _) ?_; intro _ _)
      | (refine Ke.ltM (Kx.cpl (by assumption) _ _ _ _ _) ?_; intro _ _)
      | (refine Ke.ltV ?_; intro _)
      | (apply k_f_M_costOf_b170 <;> first | assumption)
      | (refine Ke.b2 (by first | (apply k_f_M_costOf_b170 <;> first | assumption)) ?_; intro _ _ _)
      | (refine Ke.bdM (by first | (apply k_f_M_costOf_b170 <;> first | assumption)) ?_; intro _ _)
      | (refine Ke.bdV ?_; intro _)
theorem k_f_M_costOf_l92  {M0 : Mem}  : ∀ (n : Nat) (w0 : Int32) (w1 : Int32) (w2 : Int32) (w3 : Int32) (w4 : Int32) (w5 : Int32) (w6 : Int32) (M : Mem), Kx true M0 M → Ke true M0 (f_M_costOf_l92  n w0 w1 w2 w3 w4 w5 w6 M)
  | 0, _, _, _, _, _, _, _, _, _ => by
    simp only [f_M_costOf_l92]
    exact Ke.none
  | n + 1, w0, w1, w2, w3, w4, w5, w6, M, h => by
    simp only [f_M_costOf_l92]
    repeat' with_reducible first
      | exact Ke.none
      | exact Ke.some (by assumption)
      | refine Ke.ite ?_ ?_
      | refine Ke.gd ?_
      | (refine Ke.ltM (Kx.set (by assumption) (fun _ => by decide) _) ?_; intro _ _)
      | (refine Ke.ltM (Kx.setl (by assumption) _ _ _) ?_; intro _ _)
      | (refine Ke.ltM (Kx.setr (by assumption) _ _ _) ?_; intro _ _)
      | (refine Ke.ltM (Kx.cpi (by assumption) (fun _ => by decide) _ _ _ _) ?_; intro _ _)
      | (refine Ke.ltM (Kx.cpl (by assumption) _ _ _ _ _) ?_; intro _ _)
      | (refine Ke.ltV ?_; intro _)
      | (apply k_f_M_costOf_b159 <;> first | assumption | (intros; apply k_f_M_offOf <;> assumption) | (intros; refine k_f_M_costOf_l92 n _ _ _ _ _ _ _  _ ?_; assumption))
      | (apply k_f_M_offOf <;> first | assumption | (intros; apply k_f_M_costOf_b159 <;> assumption) | (intros; refine k_f_M_costOf_l92 n _ _ _ _ _ _ _  _ ?_; assumption))
      | exact k_f_M_costOf_l92 n _ _ _ _ _ _ _ _ (by assumption)
      | (refine Ke.b2 (by first | (apply k_f_M_costOf_b159 <;> first | assumption | (intros; apply k_f_M_offOf <;> assumption) | (intros; refine k_f_M_costOf_l92 n _ _ _ _ _ _ _  _ ?_; assumption)) | (apply k_f_M_offOf <;> first | assumption | (intros; apply k_f_M_costOf_b159 <;> assumption) | (intros; refine k_f_M_costOf_l92 n _ _ _ _ _ _ _  _ ?_; assumption)) | exact k_f_M_costOf_l92 n _ _ _ _ _ _ _ _ (by assumption)) ?_; intro _ _ _)
      | (refine Ke.bdM (by first | (apply k_f_M_costOf_b159 <;> first | assumption | (intros; apply k_f_M_offOf <;> assumption) | (intros; refine k_f_M_costOf_l92 n _ _ _ _ _ _ _  _ ?_; assumption)) | (apply k_f_M_offOf <;> first | assumption | (intros; apply k_f_M_costOf_b159 <;> assumption) | (intros; refine k_f_M_costOf_l92 n _ _ _ _ _ _ _  _ ?_; assumption)) | exact k_f_M_costOf_l92 n _ _ _ _ _ _ _ _ (by assumption)) ?_; intro _ _)
      | (refine Ke.bdV ?_; intro _)
theorem k_f_M_costOf_b86 (v1 : Int32) (v2 : Int32) (v3 : Int32) (v4 : Int32) (v5 : Int32) {M0 M : Mem}  (h : Kx true M0 M) : Ke true M0 (f_M_costOf_b86 v1 v2 v3 v4 v5 M) := by
    unfold f_M_costOf_b86
    repeat' with_reducible first
      | exact Ke.none
      | exact Ke.some (by assumption)
      | refine Ke.ite ?_ ?_
      | refine Ke.gd ?_
      | (refine Ke.ltM (Kx.set (by assumption) (fun _ => by decide) _) ?_; intro _ _)
      | (refine Ke.ltM (Kx.setl (by assumption) _ _ _) ?_; intro _ _)
      | (refine Ke.ltM (Kx.setr (by assumption) _ _ _) ?_; intro _ _)
      | (refine Ke.ltM (Kx.cpi (by assumption) (fun _ => by decide) _ _ _ _) ?_; intro _ _)
      | (refine Ke.ltM (Kx.cpl (by assumption) _ _ _ _ _) ?_; intro _ _)
      | (refine Ke.ltV ?_; intro _)
      | (apply k_f_M_costOf_l92 <;> first | assumption)
      | (refine Ke.b2 (by first | (apply k_f_M_costOf_l92 <;> first | assumption)) ?_; intro _ _ _)
      | (refine Ke.bdM (by first | (apply k_f_M_costOf_l92 <;> first | assumption)) ?_; intro _ _)
      | (refine Ke.bdV ?_; intro _)
theorem k_f_M_costOf_b72 (v1 : Int32) (v2 : Int32) (v3 : Int32) (v4 : Int32) (v5 : Int32) {M0 M : Mem}  (h : Kx true M0 M) : Ke true M0 (f_M_costOf_b72 v1 v2 v3 v4 v5 M) := by
    unfold f_M_costOf_b72
    repeat' with_reducible first
      | exact Ke.none
      | exact Ke.some (by assumption)
      | refine Ke.ite ?_ ?_
      | refine Ke.gd ?_
      | (refine Ke.ltM (Kx.set (by assumption) (fun _ => by decide) _) ?_; intro _ _)
      | (refine Ke.ltM (Kx.setl (by assumption) _ _ _) ?_; intro _ _)
      | (refine Ke.ltM (Kx.setr (by assumption) _ _ _) ?_; intro _ _)
      | (refine Ke.ltM (Kx.cpi (by assumption) (fun _ => by decide) _ _ _ _) ?_; intro _ _)
      | (refine Ke.ltM (Kx.cpl (by assumption) _ _ _ _ _) ?_; intro _ _)
      | (refine Ke.ltV ?_; intro _)
      | (apply k_f_M_costOf_b86 <;> first | assumption)
      | (refine Ke.b2 (by first | (apply k_f_M_costOf_b86 <;> first | assumption)) ?_; intro _ _ _)
      | (refine Ke.bdM (by first | (apply k_f_M_costOf_b86 <;> first | assumption)) ?_; intro _ _)
      | (refine Ke.bdV ?_; intro _)
theorem k_f_M_costOf_b59 (v1 : Int32) (v2 : Int32) (v3 : Int32) (v4 : Int32) (v5 : Int32) {M0 M : Mem}  (h : Kx true M0 M) : Ke true M0 (f_M_costOf_b59 v1 v2 v3 v4 v5 M) := by
    unfold f_M_costOf_b59
    repeat' with_reducible first
      | exact Ke.none
      | exact Ke.some (by assumption)
      | refine Ke.ite ?_ ?_
      | refine Ke.gd ?_
      | (refine Ke.ltM (Kx.set (by assumption) (fun _ => by decide) _) ?_; intro _ _)
      | (refine Ke.ltM (Kx.setl (by assumption) _ _ _) ?_; intro _ _)
      | (refine Ke.ltM (Kx.setr (by assumption) _ _ _) ?_; intro _ _)
      | (refine Ke.ltM (Kx.cpi (by assumption) (fun _ => by decide) _ _ _ _) ?_; intro _ _)
      | (refine Ke.ltM (Kx.cpl (by assumption) _ _ _ _ _) ?_; intro _ _)
      | (refine Ke.ltV ?_; intro _)
      | (apply k_f_M_costOf_b72 <;> first | assumption)
      | (refine Ke.b2 (by first | (apply k_f_M_costOf_b72 <;> first | assumption)) ?_; intro _ _ _)
      | (refine Ke.bdM (by first | (apply k_f_M_costOf_b72 <;> first | assumption)) ?_; intro _ _)
      | (refine Ke.bdV ?_; intro _)
theorem k_f_M_costOf_b58 (v1 : Int32) (v2 : Int32) (v3 : Int32) (v4 : Int32) (v5 : Int32) (s0 : Int32) (s1 : Int32) {M0 M : Mem}  (h : Kx true M0 M) : Ke true M0 (f_M_costOf_b58 v1 v2 v3 v4 v5 s0 s1 M) := by
    unfold f_M_costOf_b58
    repeat' with_reducible first
      | exact Ke.none
      | exact Ke.some (by assumption)
      | refine Ke.ite ?_ ?_
      | refine Ke.gd ?_
      | (refine Ke.ltM (Kx.set (by assumption) (fun _ => by decide) _) ?_; intro _ _)
      | (refine Ke.ltM (Kx.setl (by assumption) _ _ _) ?_; intro _ _)
      | (refine Ke.ltM (Kx.setr (by assumption) _ _ _) ?_; intro _ _)
      | (refine Ke.ltM (Kx.cpi (by assumption) (fun _ => by decide) _ _ _ _) ?_; intro _ _)
      | (refine Ke.ltM (Kx.cpl (by assumption) _ _ _ _ _) ?_; intro _ _)
      | (refine Ke.ltV ?_; intro _)
      | (apply k_f_M_costOf_b59 <;> first | assumption)
      | (refine Ke.b2 (by first | (apply k_f_M_costOf_b59 <;> first | assumption)) ?_; intro _ _ _)
      | (refine Ke.bdM (by first | (apply k_f_M_costOf_b59 <;> first | assumption)) ?_; intro _ _)
      | (refine Ke.bdV ?_; intro _)
theorem k_f_M_costOf (p1 : Int32) (p2 : Int32) {M0 M : Mem}  (h : Kx true M0 M) : Ke true M0 (f_M_costOf p1 p2 M) := by
    unfold f_M_costOf
    repeat' with_reducible first
      | exact Ke.none
      | exact Ke.some (by assumption)
      | refine Ke.ite ?_ ?_
      | refine Ke.gd ?_
      | (refine Ke.ltM (Kx.set (by assumption) (fun _ => by decide) _) ?_; intro _ _)
      | (refine Ke.ltM (Kx.setl (by assumption) _ _ _) ?_; intro _ _)
      | (refine Ke.ltM (Kx.setr (by assumption) _ _ _) ?_; intro _ _)
      | (refine Ke.ltM (Kx.cpi (by assumption) (fun _ => by decide) _ _ _ _) ?_; intro _ _)
      | (refine Ke.ltM (Kx.cpl (by assumption) _ _ _ _ _) ?_; intro _ _)
      | (refine Ke.ltV ?_; intro _)
      | (apply k_f_M_costOf_b59 <;> first | assumption | (intros; apply k_f_M_costOf_b58 <;> assumption))
      | (apply k_f_M_costOf_b58 <;> first | assumption | (intros; apply k_f_M_costOf_b59 <;> assumption))
      | (refine Ke.b2 (by first | (apply k_f_M_costOf_b59 <;> first | assumption | (intros; apply k_f_M_costOf_b58 <;> assumption)) | (apply k_f_M_costOf_b58 <;> first | assumption | (intros; apply k_f_M_costOf_b59 <;> assumption))) ?_; intro _ _ _)
      | (refine Ke.bdM (by first | (apply k_f_M_costOf_b59 <;> first | assumption | (intros; apply k_f_M_costOf_b58 <;> assumption)) | (apply k_f_M_costOf_b58 <;> first | assumption | (intros; apply k_f_M_costOf_b59 <;> assumption))) ?_; intro _ _)
      | (refine Ke.bdV ?_; intro _)
theorem k_f_M_cheapest_l28  {M0 : Mem}  : ∀ (n : Nat) (w0 : Int32) (w1 : Int32) (w2 : Int32) (w3 : Int32) (w4 : Int32) (M : Mem), Kx true M0 M → Ke true M0 (f_M_cheapest_l28  n w0 w1 w2 w3 w4 M)
  | 0, _, _, _, _, _, _, _ => by
    simp only [f_M_cheapest_l28]
    exact Ke.none
  | n + 1, w0, w1, w2, w3, w4, M, h => by
    simp only [f_M_cheapest_l28]
    repeat' with_reducible first
      | exact Ke.none
      | exact Ke.some (by assumption)
      | refine Ke.ite ?_ ?_
      | refine Ke.gd ?_
      | (refine Ke.ltM (Kx.set (by assumption) (fun _ => by decide) _) ?_; intro _ _)
      | (refine Ke.ltM (Kx.setl (by assumption) _ _ _) ?_; intro _ _)
      | (refine Ke.ltM (Kx.setr (by assumption) _ _ _) ?_; intro _ _)
      | (refine Ke.ltM (Kx.cpi (by assumption) (fun _ => by decide) _ _ _ _) ?_; intro _ _)
      | (refine Ke.ltM (Kx.cpl (by assumption) _ _ _ _ _) ?_; intro _ _)
      | (refine Ke.ltV ?_; intro _)
      | (apply k_f_M_costOf <;> first | assumption | (intros; refine k_f_M_cheapest_l28 n _ _ _ _ _  _ ?_; assumption))
      | exact k_f_M_cheapest_l28 n _ _ _ _ _ _ (by assumption)
      | (refine Ke.b2 (by first | (apply k_f_M_costOf <;> first | assumption | (intros; refine k_f_M_cheapest_l28 n _ _ _ _ _  _ ?_; assumption)) | exact k_f_M_cheapest_l28 n _ _ _ _ _ _ (by assumption)) ?_; intro _ _ _)
      | (refine Ke.bdM (by first | (apply k_f_M_costOf <;> first | assumption | (intros; refine k_f_M_cheapest_l28 n _ _ _ _ _  _ ?_; assumption)) | exact k_f_M_cheapest_l28 n _ _ _ _ _ _ (by assumption)) ?_; intro _ _)
      | (refine Ke.bdV ?_; intro _)
theorem k_f_M_cheapest (p1 : Int32) (p2 : Int32) {M0 M : Mem}  (h : Kx true M0 M) : Ke true M0 (f_M_cheapest p1 p2 M) := by
    unfold f_M_cheapest
    repeat' with_reducible first
      | exact Ke.none
      | exact Ke.some (by assumption)
      | refine Ke.ite ?_ ?_
      | refine Ke.gd ?_
      | (refine Ke.ltM (Kx.set (by assumption) (fun _ => by decide) _) ?_; intro _ _)
      | (refine Ke.ltM (Kx.setl (by assumption) _ _ _) ?_; intro _ _)
      | (refine Ke.ltM (Kx.setr (by assumption) _ _ _) ?_; intro _ _)
      | (refine Ke.ltM (Kx.cpi (by assumption) (fun _ => by decide) _ _ _ _) ?_; intro _ _)
      | (refine Ke.ltM (Kx.cpl (by assumption) _ _ _ _ _) ?_; intro _ _)
      | (refine Ke.ltV ?_; intro _)
      | (apply k_f_M_cheapest_l28 <;> first | assumption)
      | (refine Ke.b2 (by first | (apply k_f_M_cheapest_l28 <;> first | assumption)) ?_; intro _ _ _)
      | (refine Ke.bdM (by first | (apply k_f_M_cheapest_l28 <;> first | assumption)) ?_; intro _ _)
      | (refine Ke.bdV ?_; intro _)
theorem k_f_M_why_b124 (v1 : Int32) (v2 : Int32) (v3 : Int32) (v4 : Int32) (s0 : Int32) (s1 : Int32) {M0 M : Mem}  (h : Kx true M0 M) : Ke true M0 (f_M_why_b124 v1 v2 v3 v4 s0 s1 M) := by
    unfold f_M_why_b124
    repeat' with_reducible first
      | exact Ke.none
      | exact Ke.some (by assumption)
      | refine Ke.ite ?_ ?_
      | refine Ke.gd ?_
      | (refine Ke.ltM (Kx.set (by assumption) (fun _ => by decide) _) ?_; intro _ _)
      | (refine Ke.ltM (Kx.setl (by assumption) _ _ _) ?_; intro _ _)
      | (refine Ke.ltM (Kx.setr (by assumption) _ _ _) ?_; intro _ _)
      | (refine Ke.ltM (Kx.cpi (by assumption) (fun _ => by decide) _ _ _ _) ?_; intro _ _)
      | (refine Ke.ltM (Kx.cpl (by assumption) _ _ _ _ _) ?_; intro _ _)
      | (refine Ke.ltV ?_; intro _)
      | (refine Ke.bdV ?_; intro _)
theorem k_f_M_why_b99 (v1 : Int32) (v2 : Int32) (v3 : Int32) (v4 : Int32) (v5 : Int32) (s0 : Int32) (s1 : Int32) {M0 M : Mem}  (h : Kx true M0 M) : Ke true M0 (f_M_why_b99 v1 v2 v3 v4 v5 s0 s1 M) := by
    unfold f_M_why_b99
    repeat' with_reducible first
      | exact Ke.none
      | exact Ke.some (by assumption)
      | refine Ke.ite ?_ ?_
      | refine Ke.gd ?_
      | (refine Ke.ltM (Kx.set (by assumption) (fun _ => by decide) _) ?_; intro _ _)
      | (refine Ke.ltM (Kx.setl (by assumption) _ _ _) ?_; intro _ _)
      | (refine Ke.ltM (Kx.setr (by assumption) _ _ _) ?_; intro _ _)
      | (refine Ke.ltM (Kx.cpi (by assumption) (fun _ => by decide) _ _ _ _) ?_; intro _ _)
      | (refine Ke.ltM (Kx.cpl (by assumption) _ _ _ _ _) ?_; intro _ _)
      | (refine Ke.ltV ?_; intro _)
      | (apply k_f_M_why_b124 <;> first | assumption)
      | (refine Ke.b2 (by first | (apply k_f_M_why_b124 <;> first | assumption)) ?_; intro _ _ _)
      | (refine Ke.bdM (by first | (apply k_f_M_why_b124 <;> first | assumption)) ?_; intro _ _)
      | (refine Ke.bdV ?_; intro _)
theorem k_f_M_why_b73 (v1 : Int32) (v2 : Int32) (v3 : Int32) (v4 : Int32) (v5 : Int32) (s0 : Int32) {M0 M : Mem}  (h : Kx true M0 M) : Ke true M0 (f_M_why_b73 v1 v2 v3 v4 v5 s0 M) := by
    unfold f_M_why_b73
    repeat' with_reducible first
      | exact Ke.none
      | exact Ke.some (by assumption)
      | refine Ke.ite ?_ ?_
      | refine Ke.gd ?_
      | (refine Ke.ltM (Kx.set (by assumption) (fun _ => by decide) _) ?_; intro _ _)
      | (refine Ke.ltM (Kx.setl (by assumption) _ _ _) ?_; intro _ _)
      | (refine Ke.ltM (Kx.setr (by assumption) _ _ _) ?_; intro _ _)
      | (refine Ke.ltM (Kx.cpi (by assumption) (fun _ => by decide) _ _ _ _) ?_; intro _ _)
      | (refine Ke.ltM (Kx.cpl (by assumption) _ _ _ _ _) ?_; intro _ _)
      | (refine Ke.ltV ?_; intro _)
      | (apply k_f_M_why_b99 <;> first | assumption)
      | (refine Ke.b2 (by first | (apply k_f_M_why_b99 <;> first | assumption)) ?_; intro _ _ _)
      | (refine Ke.bdM (by first | (apply k_f_M_why_b99 <;> first | assumption)) ?_; intro _ _)
      | (refine Ke.bdV ?_; intro _)
theorem k_f_M_why (p1 : Int32) (p2 : Int32) {M0 M : Mem}  (h : Kx true M0 M) : Ke true M0 (f_M_why p1 p2 M) := by
    unfold f_M_why
    repeat' with_reducible first
      | exact Ke.none
      | exact Ke.some (by assumption)
      | refine Ke.ite ?_ ?_
      | refine Ke.gd ?_
      | (refine Ke.ltM (Kx.set (by assumption) (fun _ => by decide) _) ?_; intro _ _)
      | (refine Ke.ltM (Kx.setl (by assumption) _ _ _) ?_; intro _ _)
      | (refine Ke.ltM (Kx.setr (by assumption) _ _ _) ?_; intro _ _)
      | (refine Ke.ltM (Kx.cpi (by assumption) (fun _ => by decide) _ _ _ _) ?_; intro _ _)
      | (refine Ke.ltM (Kx.cpl (by assumption) _ _ _ _ _) ?_; intro _ _)
      | (refine Ke.ltV ?_; intro _)
      | (apply k_f_M_gap <;> first | assumption | (intros; apply k_f_M_swellOf <;> assumption) | (intros; apply k_f_M_why_b73 <;> assumption))
      | (apply k_f_M_swellOf <;> first | assumption | (intros; apply k_f_M_gap <;> assumption) | (intros; apply k_f_M_why_b73 <;> assumption))
      | (apply k_f_M_why_b73 <;> first | assumption | (intros; apply k_f_M_gap <;> assumption) | (intros; apply k_f_M_swellOf <;> assumption))
      | (refine Ke.b2 (by first | (apply k_f_M_gap <;> first | assumption | (intros; apply k_f_M_swellOf <;> assumption) | (intros; apply k_f_M_why_b73 <;> assumption)) | (apply k_f_M_swellOf <;> first | assumption | (intros; apply k_f_M_gap <;> assumption) | (intros; apply k_f_M_why_b73 <;> assumption)) | (apply k_f_M_why_b73 <;> first | assumption | (intros; apply k_f_M_gap <;> assumption) | (intros; apply k_f_M_swellOf <;> assumption))) ?_; intro _ _ _)
      | (refine Ke.bdM (by first | (apply k_f_M_gap <;> first | assumption | (intros; apply k_f_M_swellOf <;> assumption) | (intros; apply k_f_M_why_b73 <;> assumption)) | (apply k_f_M_swellOf <;> first | assumption | (intros; apply k_f_M_gap <;> assumption) | (intros; apply k_f_M_why_b73 <;> assumption)) | (apply k_f_M_why_b73 <;> first | assumption | (intros; apply k_f_M_gap <;> assumption) | (intros; apply k_f_M_swellOf <;> assumption))) ?_; intro _ _)
      | (refine Ke.bdV ?_; intro _)
theorem k_f_M_odds_l31  {M0 : Mem}  : ∀ (n : Nat) (w0 : Int32) (w1 : Int32) (w2 : Int32) (w3 : Int32) (M : Mem), Kx true M0 M → Ke true M0 (f_M_odds_l31  n w0 w1 w2 w3 M)
  | 0, _, _, _, _, _, _ => by
    simp only [f_M_odds_l31]
    exact Ke.none
  | n + 1, w0, w1, w2, w3, M, h => by
    simp only [f_M_odds_l31]
    repeat' with_reducible first
      | exact Ke.none
      | exact Ke.some (by assumption)
      | refine Ke.ite ?_ ?_
      | refine Ke.gd ?_
      | (refine Ke.ltM (Kx.set (by assumption) (fun _ => by decide) _) ?_; intro _ _)
      | (refine Ke.ltM (Kx.setl (by assumption) _ _ _) ?_; intro _ _)
      | (refine Ke.ltM (Kx.setr (by assumption) _ _ _) ?_; intro _ _)
      | (refine Ke.ltM (Kx.cpi (by assumption) (fun _ => by decide) _ _ _ _) ?_; intro _ _)
      | (refine Ke.ltM (Kx.cpl (by assumption) _ _ _ _ _) ?_; intro _ _)
      | (refine Ke.ltV ?_; intro _)
      | (apply k_f_M_goMonth <;> first | assumption | (intros; apply k_f_M_rubs <;> assumption) | (intros; apply k_f_M_putBack <;> assumption) | (intros; refine k_f_M_odds_l31 n _ _ _ _  _ ?_; assumption))
      | (apply k_f_M_rubs <;> first | assumption | (intros; apply k_f_M_goMonth <;> assumption) | (intros; apply k_f_M_putBack <;> assumption) | (intros; refine k_f_M_odds_l31 n _ _ _ _  _ ?_; assumption))
      | (apply k_f_M_putBack <;> first | assumption | (intros; apply k_f_M_goMonth <;> assumption) | (intros; apply k_f_M_rubs <;> assumption) | (intros; refine k_f_M_odds_l31 n _ _ _ _  _ ?_; assumption))
      | exact k_f_M_odds_l31 n _ _ _ _ _ (by assumption)
      | (refine Ke.b2 (by first | (apply k_f_M_goMonth <;> first | assumption | (intros; apply k_f_M_rubs <;> assumption) | (intros; apply k_f_M_putBack <;> assumption) | (intros; refine k_f_M_odds_l31 n _ _ _ _  _ ?_; assumption)) | (apply k_f_M_rubs <;> first | assumption | (intros; apply k_f_M_goMonth <;> assumption) | (intros; apply k_f_M_putBack <;> assumption) | (intros; refine k_f_M_odds_l31 n _ _ _ _  _ ?_; assumption)) | (apply k_f_M_putBack <;> first | assumption | (intros; apply k_f_M_goMonth <;> assumption) | (intros; apply k_f_M_rubs <;> assumption) | (intros; refine k_f_M_odds_l31 n _ _ _ _  _ ?_; assumption)) | exact k_f_M_odds_l31 n _ _ _ _ _ (by assumption)) ?_; intro _ _ _)
      | (refine Ke.bdM (by first | (apply k_f_M_goMonth <;> first | assumption | (intros; apply k_f_M_rubs <;> assumption) | (intros; apply k_f_M_putBack <;> assumption) | (intros; refine k_f_M_odds_l31 n _ _ _ _  _ ?_; assumption)) | (apply k_f_M_rubs <;> first | assumption | (intros; apply k_f_M_goMonth <;> assumption) | (intros; apply k_f_M_putBack <;> assumption) | (intros; refine k_f_M_odds_l31 n _ _ _ _  _ ?_; assumption)) | (apply k_f_M_putBack <;> first | assumption | (intros; apply k_f_M_goMonth <;> assumption) | (intros; apply k_f_M_rubs <;> assumption) | (intros; refine k_f_M_odds_l31 n _ _ _ _  _ ?_; assumption)) | exact k_f_M_odds_l31 n _ _ _ _ _ (by assumption)) ?_; intro _ _)
      | (refine Ke.bdV ?_; intro _)
theorem k_f_M_odds (p1 : Int32) (p2 : Int32) {M0 M : Mem}  (h : Kx true M0 M) : Ke true M0 (f_M_odds p1 p2 M) := by
    unfold f_M_odds
    repeat' with_reducible first
      | exact Ke.none
      | exact Ke.some (by assumption)
      | refine Ke.ite ?_ ?_
      | refine Ke.gd ?_
      | (refine Ke.ltM (Kx.set (by assumption) (fun _ => by decide) _) ?_; intro _ _)
      | (refine Ke.ltM (Kx.setl (by assumption) _ _ _) ?_; intro _ _)
      | (refine Ke.ltM (Kx.setr (by assumption) _ _ _) ?_; intro _ _)
      | (refine Ke.ltM (Kx.cpi (by assumption) (fun _ => by decide) _ _ _ _) ?_; intro _ _)
      | (refine Ke.ltM (Kx.cpl (by assumption) _ _ _ _ _) ?_; intro _ _)
      | (refine Ke.ltV ?_; intro _)
      | (apply k_f_M_keep <;> first | assumption | (intros; apply k_f_M_odds_l31 <;> assumption))
      | (apply k_f_M_odds_l31 <;> first | assumption | (intros; apply k_f_M_keep <;> assumption))
      | (refine Ke.b2 (by first | (apply k_f_M_keep <;> first | assumption | (intros; apply k_f_M_odds_l31 <;> assumption)) | (apply k_f_M_odds_l31 <;> first | assumption | (intros; apply k_f_M_keep <;> assumption))) ?_; intro _ _ _)
      | (refine Ke.bdM (by first | (apply k_f_M_keep <;> first | assumption | (intros; apply k_f_M_odds_l31 <;> assumption)) | (apply k_f_M_odds_l31 <;> first | assumption | (intros; apply k_f_M_keep <;> assumption))) ?_; intro _ _)
      | (refine Ke.bdV ?_; intro _)
theorem k_f_M_mean_l42  {M0 : Mem}  : ∀ (n : Nat) (w0 : Int32) (w1 : Int32) (w2 : Int32) (w3 : Int32) (w4 : Int32) (M : Mem), Kx true M0 M → Ke true M0 (f_M_mean_l42  n w0 w1 w2 w3 w4 M)
  | 0, _, _, _, _, _, _, _ => by
    simp only [f_M_mean_l42]
    exact Ke.none
  | n + 1, w0, w1, w2, w3, w4, M, h => by
    simp only [f_M_mean_l42]
    repeat' with_reducible first
      | exact Ke.none
      | exact Ke.some (by assumption)
      | refine Ke.ite ?_ ?_
      | refine Ke.gd ?_
      | (refine Ke.ltM (Kx.set (by assumption) (fun _ => by decide) _) ?_; intro _ _)
      | (refine Ke.ltM (Kx.setl (by assumption) _ _ _) ?_; intro _ _)
      | (refine Ke.ltM (Kx.setr (by assumption) _ _ _) ?_; intro _ _)
      | (refine Ke.ltM (Kx.cpi (by assumption) (fun _ => by decide) _ _ _ _) ?_; intro _ _)
      | (refine Ke.ltM (Kx.cpl (by assumption) _ _ _ _ _) ?_; intro _ _)
      | (refine Ke.ltV ?_; intro _)
      | (apply k_f_M_goMonth <;> first | assumption | (intros; apply k_f_M_putBack <;> assumption) | (intros; refine k_f_M_mean_l42 n _ _ _ _ _  _ ?_; assumption))
      | (apply k_f_M_putBack <;> first | assumption | (intros; apply k_f_M_goMonth <;> assumption) | (intros; refine k_f_M_mean_l42 n _ _ _ _ _  _ ?_; assumption))
      | exact k_f_M_mean_l42 n _ _ _ _ _ _ (by assumption)
      | (refine Ke.b2 (by first | (apply k_f_M_goMonth <;> first | assumption | (intros; apply k_f_M_putBack <;> assumption) | (intros; refine k_f_M_mean_l42 n _ _ _ _ _  _ ?_; assumption)) | (apply k_f_M_putBack <;> first | assumption | (intros; apply k_f_M_goMonth <;> assumption) | (intros; refine k_f_M_mean_l42 n _ _ _ _ _  _ ?_; assumption)) | exact k_f_M_mean_l42 n _ _ _ _ _ _ (by assumption)) ?_; intro _ _ _)
      | (refine Ke.bdM (by first | (apply k_f_M_goMonth <;> first | assumption | (intros; apply k_f_M_putBack <;> assumption) | (intros; refine k_f_M_mean_l42 n _ _ _ _ _  _ ?_; assumption)) | (apply k_f_M_putBack <;> first | assumption | (intros; apply k_f_M_goMonth <;> assumption) | (intros; refine k_f_M_mean_l42 n _ _ _ _ _  _ ?_; assumption)) | exact k_f_M_mean_l42 n _ _ _ _ _ _ (by assumption)) ?_; intro _ _)
      | (refine Ke.bdV ?_; intro _)
theorem k_f_M_mean (p1 : Int32) (p2 : Int32) (p3 : Int32) {M0 M : Mem}  (h : Kx true M0 M) : Ke true M0 (f_M_mean p1 p2 p3 M) := by
    unfold f_M_mean
    repeat' with_reducible first
      | exact Ke.none
      | exact Ke.some (by assumption)
      | refine Ke.ite ?_ ?_
      | refine Ke.gd ?_
      | (refine Ke.ltM (Kx.set (by assumption) (fun _ => by decide) _) ?_; intro _ _)
      | (refine Ke.ltM (Kx.setl (by assumption) _ _ _) ?_; intro _ _)
      | (refine Ke.ltM (Kx.setr (by assumption) _ _ _) ?_; intro _ _)
      | (refine Ke.ltM (Kx.cpi (by assumption) (fun _ => by decide) _ _ _ _) ?_; intro _ _)
      | (refine Ke.ltM (Kx.cpl (by assumption) _ _ _ _ _) ?_; intro _ _)
      | (refine Ke.ltV ?_; intro _)
      | (apply k_f_M_keep <;> first | assumption | (intros; apply k_f_M_mean_l42 <;> assumption))
      | (apply k_f_M_mean_l42 <;> first | assumption | (intros; apply k_f_M_keep <;> assumption))
      | (refine Ke.b2 (by first | (apply k_f_M_keep <;> first | assumption | (intros; apply k_f_M_mean_l42 <;> assumption)) | (apply k_f_M_mean_l42 <;> first | assumption | (intros; apply k_f_M_keep <;> assumption))) ?_; intro _ _ _)
      | (refine Ke.bdM (by first | (apply k_f_M_keep <;> first | assumption | (intros; apply k_f_M_mean_l42 <;> assumption)) | (apply k_f_M_mean_l42 <;> first | assumption | (intros; apply k_f_M_keep <;> assumption))) ?_; intro _ _)
      | (refine Ke.bdV ?_; intro _)
theorem k_f_M_swapCuts_l2  {M0 : Mem}  : ∀ (n : Nat) (w0 : Int32) (w1 : Int32) (w2 : Int32) (M : Mem), Kx true M0 M → Ke1 true M0 (f_M_swapCuts_l2  n w0 w1 w2 M)
  | 0, _, _, _, _, _ => by
    simp only [f_M_swapCuts_l2]
    exact Ke1.none
  | n + 1, w0, w1, w2, M, h => by
    simp only [f_M_swapCuts_l2]
    repeat' with_reducible first
      | exact Ke1.none
      | exact Ke1.some (by assumption)
      | refine Ke1.ite ?_ ?_
      | refine Ke1.gd ?_
      | (refine Ke1.ltM (Kx.set (by assumption) (fun _ => by decide) _) ?_; intro _ _)
      | (refine Ke1.ltM (Kx.setl (by assumption) _ _ _) ?_; intro _ _)
      | (refine Ke1.ltM (Kx.setr (by assumption) _ _ _) ?_; intro _ _)
      | (refine Ke1.ltM (Kx.cpi (by assumption) (fun _ => by decide) _ _ _ _) ?_; intro _ _)
      | (refine Ke1.ltM (Kx.cpl (by assumption) _ _ _ _ _) ?_; intro _ _)
      | (refine Ke1.ltV ?_; intro _)
      | exact k_f_M_swapCuts_l2 n _ _ _ _ (by assumption)
      | (refine Ke1.b2 (by first | exact k_f_M_swapCuts_l2 n _ _ _ _ (by assumption)) ?_; intro _ _ _)
      | (refine Ke1.bdM (by first | exact k_f_M_swapCuts_l2 n _ _ _ _ (by assumption)) ?_; intro _ _)
      | (refine Ke1.bdV ?_; intro _)
theorem k_f_M_swapCuts (p1 : Int32) (p2 : Int32) {M0 M : Mem}  (h : Kx true M0 M) : Ke1 true M0 (f_M_swapCuts p1 p2 M) := by
    unfold f_M_swapCuts
    repeat' with_reducible first
      | exact Ke1.none
      | exact Ke1.some (by assumption)
      | refine Ke1.ite ?_ ?_
      | refine Ke1.gd ?_
      | (refine Ke1.ltM (Kx.set (by assumption) (fun _ => by decide) _) ?_; intro _ _)
      | (refine Ke1.ltM (Kx.setl (by assumption) _ _ _) ?_; intro _ _)
      | (refine Ke1.ltM (Kx.setr (by assumption) _ _ _) ?_; intro _ _)
      | (refine Ke1.ltM (Kx.cpi (by assumption) (fun _ => by decide) _ _ _ _) ?_; intro _ _)
      | (refine Ke1.ltM (Kx.cpl (by assumption) _ _ _ _ _) ?_; intro _ _)
      | (refine Ke1.ltV ?_; intro _)
      | (apply k_f_M_swapCuts_l2 <;> first | assumption)
      | (refine Ke1.b2 (by first | (apply k_f_M_swapCuts_l2 <;> first | assumption)) ?_; intro _ _ _)
      | (refine Ke1.bdM (by first | (apply k_f_M_swapCuts_l2 <;> first | assumption)) ?_; intro _ _)
      | (refine Ke1.bdV ?_; intro _)
theorem k_f_M_areChanged (p1 : Int32) (p2 : Int32) {M0 M : Mem}  (h : Kx true M0 M) : Ke true M0 (f_M_areChanged p1 p2 M) := by
    unfold f_M_areChanged
    repeat' with_reducible first
      | exact Ke.none
      | exact Ke.some (by assumption)
      | refine Ke.ite ?_ ?_
      | refine Ke.gd ?_
      | (refine Ke.ltM (Kx.set (by assumption) (fun _ => by decide) _) ?_; intro _ _)
      | (refine Ke.ltM (Kx.setl (by assumption) _ _ _) ?_; intro _ _)
      | (refine Ke.ltM (Kx.setr (by assumption) _ _ _) ?_; intro _ _)
      | (refine Ke.ltM (Kx.cpi (by assumption) (fun _ => by decide) _ _ _ _) ?_; intro _ _)
      | (refine Ke.ltM (Kx.cpl (by assumption) _ _ _ _ _) ?_; intro _ _)
      | (refine Ke.ltV ?_; intro _)
      | (apply k_f_M_rubs <;> first | assumption | (intros; apply k_f_M_swapCuts <;> assumption))
      | (apply k_f_M_swapCuts <;> first | assumption | (intros; apply k_f_M_rubs <;> assumption))
      | (refine Ke.b2 (by first | (apply k_f_M_rubs <;> first | assumption | (intros; apply k_f_M_swapCuts <;> assumption)) | (apply k_f_M_swapCuts <;> first | assumption | (intros; apply k_f_M_rubs <;> assumption))) ?_; intro _ _ _)
      | (refine Ke.bdM (by first | (apply k_f_M_rubs <;> first | assumption | (intros; apply k_f_M_swapCuts <;> assumption)) | (apply k_f_M_swapCuts <;> first | assumption | (intros; apply k_f_M_rubs <;> assumption))) ?_; intro _ _)
      | (refine Ke.bdV ?_; intro _)
theorem k_f_M_changed_l35 (K20 : Int32 → Int32 → Int32 → Int32 → Mem → Option (Int32 × Mem)) {M0 : Mem} (hK20 : ∀ y0 y1 y2 y3 M, Kx true M0 M → Ke true M0 (K20 y0 y1 y2 y3 M)) : ∀ (n : Nat) (w0 : Int32) (w1 : Int32) (w2 : Int32) (w3 : Int32) (w4 : Int32) (M : Mem), Kx true M0 M → Ke true M0 (f_M_changed_l35 K20 n w0 w1 w2 w3 w4 M)
  | 0, _, _, _, _, _, _, _ => by
    simp only [f_M_changed_l35]
    exact Ke.none
  | n + 1, w0, w1, w2, w3, w4, M, h => by
    simp only [f_M_changed_l35]
    repeat' with_reducible first
      | exact Ke.none
      | exact Ke.some (by assumption)
      | refine Ke.ite ?_ ?_
      | refine Ke.gd ?_
      | (refine Ke.ltM (Kx.set (by assumption) (fun _ => by decide) _) ?_; intro _ _)
      | (refine Ke.ltM (Kx.setl (by assumption) _ _ _) ?_; intro _ _)
      | (refine Ke.ltM (Kx.setr (by assumption) _ _ _) ?_; intro _ _)
      | (refine Ke.ltM (Kx.cpi (by assumption) (fun _ => by decide) _ _ _ _) ?_; intro _ _)
      | (refine Ke.ltM (Kx.cpl (by assumption) _ _ _ _ _) ?_; intro _ _)
      | (refine Ke.ltV ?_; intro _)
      | (apply hK20; assumption)
      | (apply k_f_M_areChanged <;> first | assumption | (intros; refine k_f_M_changed_l35 K20 hK20 n _ _ _ _ _  _ ?_; assumption) | (intros; apply hK20 <;> assumption))
      | exact k_f_M_changed_l35 K20 hK20 n _ _ _ _ _ _ (by assumption)
      | (refine Ke.b2 (by first | (apply hK20; assumption) | (apply k_f_M_areChanged <;> first | assumption | (intros; refine k_f_M_changed_l35 K20 hK20 n _ _ _ _ _  _ ?_; assumption) | (intros; apply hK20 <;> assumption)) | exact k_f_M_changed_l35 K20 hK20 n _ _ _ _ _ _ (by assumption)) ?_; intro _ _ _)
      | (refine Ke.bdM (by first | (apply hK20; assumption) | (apply k_f_M_areChanged <;> first | assumption | (intros; refine k_f_M_changed_l35 K20 hK20 n _ _ _ _ _  _ ?_; assumption) | (intros; apply hK20 <;> assumption)) | exact k_f_M_changed_l35 K20 hK20 n _ _ _ _ _ _ (by assumption)) ?_; intro _ _)
      | (refine Ke.bdV ?_; intro _)
theorem k_f_M_changed_l20  {M0 : Mem}  : ∀ (n : Nat) (w0 : Int32) (w1 : Int32) (w2 : Int32) (w3 : Int32) (M : Mem), Kx true M0 M → Ke true M0 (f_M_changed_l20  n w0 w1 w2 w3 M)
  | 0, _, _, _, _, _, _ => by
    simp only [f_M_changed_l20]
    exact Ke.none
  | n + 1, w0, w1, w2, w3, M, h => by
    simp only [f_M_changed_l20]
    repeat' with_reducible first
      | exact Ke.none
      | exact Ke.some (by assumption)
      | refine Ke.ite ?_ ?_
      | refine Ke.gd ?_
      | (refine Ke.ltM (Kx.set (by assumption) (fun _ => by decide) _) ?_; intro _ _)
      | (refine Ke.ltM (Kx.setl (by assumption) _ _ _) ?_; intro _ _)
      | (refine Ke.ltM (Kx.setr (by assumption) _ _ _) ?_; intro _ _)
      | (refine Ke.ltM (Kx.cpi (by assumption) (fun _ => by decide) _ _ _ _) ?_; intro _ _)
      | (refine Ke.ltM (Kx.cpl (by assumption) _ _ _ _ _) ?_; intro _ _)
      | (refine Ke.ltV ?_; intro _)
      | (apply k_f_M_changed_l35 <;> first | assumption | (intros; refine k_f_M_changed_l20 n _ _ _ _  _ ?_; assumption))
      | exact k_f_M_changed_l20 n _ _ _ _ _ (by assumption)
      | (refine Ke.b2 (by first | (apply k_f_M_changed_l35 <;> first | assumption | (intros; refine k_f_M_changed_l20 n _ _ _ _  _ ?_; assumption)) | exact k_f_M_changed_l20 n _ _ _ _ _ (by assumption)) ?_; intro _ _ _)
      | (refine Ke.bdM (by first | (apply k_f_M_changed_l35 <;> first | assumption | (intros; refine k_f_M_changed_l20 n _ _ _ _  _ ?_; assumption)) | exact k_f_M_changed_l20 n _ _ _ _ _ (by assumption)) ?_; intro _ _)
      | (refine Ke.bdV ?_; intro _)
theorem k_f_M_changed (p1 : Int32) {M0 M : Mem}  (h : Kx true M0 M) : Ke true M0 (f_M_changed p1 M) := by
    unfold f_M_changed
    repeat' with_reducible first
      | exact Ke.none
      | exact Ke.some (by assumption)
      | refine Ke.ite ?_ ?_
      | refine Ke.gd ?_
      | (refine Ke.ltM (Kx.set (by assumption) (fun _ => by decide) _) ?_; intro _ _)
      | (refine Ke.ltM (Kx.setl (by assumption) _ _ _) ?_; intro _ _)
      | (refine Ke.ltM (Kx.setr (by assumption) _ _ _) ?_; intro _ _)
      | (refine Ke.ltM (Kx.cpi (by assumption) (fun _ => by decide) _ _ _ _) ?_; intro _ _)
      | (refine Ke.ltM (Kx.cpl (by assumption) _ _ _ _ _) ?_; intro _ _)
      | (refine Ke.ltV ?_; intro _)
      | (apply k_f_M_changed_l20 <;> first | assumption)
      | (refine Ke.b2 (by first | (apply k_f_M_changed_l20 <;> first | assumption)) ?_; intro _ _ _)
      | (refine Ke.bdM (by first | (apply k_f_M_changed_l20 <;> first | assumption)) ?_; intro _ _)
      | (refine Ke.bdV ?_; intro _)
theorem k_f_M_book (p1 : Int32) (p2 : Int32) {M0 M : Mem}  (h : Kx true M0 M) : Ke true M0 (f_M_book p1 p2 M) := by
    unfold f_M_book
    repeat' with_reducible first
      | exact Ke.none
      | exact Ke.some (by assumption)
      | refine Ke.ite ?_ ?_
      | refine Ke.gd ?_
      | (refine Ke.ltM (Kx.set (by assumption) (fun _ => by decide) _) ?_; intro _ _)
      | (refine Ke.ltM (Kx.setl (by assumption) _ _ _) ?_; intro _ _)
      | (refine Ke.ltM (Kx.setr (by assumption) _ _ _) ?_; intro _ _)
      | (refine Ke.ltM (Kx.cpi (by assumption) (fun _ => by decide) _ _ _ _) ?_; intro _ _)
      | (refine Ke.ltM (Kx.cpl (by assumption) _ _ _ _ _) ?_; intro _ _)
      | (refine Ke.ltV ?_; intro _)
      | (refine Ke.bdV ?_; intro _)
theorem k_f_M_looked_b56 (K34 : Int32 → Int32 → Int32 → Int32 → Mem → Option (Int32 × Mem)) (v1 : Int32) (v2 : Int32) (v4 : Int32) {M0 M : Mem} (hK34 : ∀ y0 y1 y2 y3 M, Kx true M0 M → Ke true M0 (K34 y0 y1 y2 y3 M)) (h : Kx true M0 M) : Ke true M0 (f_M_looked_b56 K34 v1 v2 v4 M) := by
    unfold f_M_looked_b56
    repeat' with_reducible first
      | exact Ke.none
      | exact Ke.some (by assumption)
      | refine Ke.ite ?_ ?_
      | refine Ke.gd ?_
      | (refine Ke.ltM (Kx.set (by assumption) (fun _ => by decide) _) ?_; intro _ _)
      | (refine Ke.ltM (Kx.setl (by assumption) _ _ _) ?_; intro _ _)
      | (refine Ke.ltM (Kx.setr (by assumption) _ _ _) ?_; intro _ _)
      | (refine Ke.ltM (Kx.cpi (by assumption) (fun _ => by decide) _ _ _ _) ?_; intro _ _)
      | (refine Ke.ltM (Kx.cpl (by assumption) _ _ _ _ _) ?_; intro _ _)
      | (refine Ke.ltV ?_; intro _)
      | (apply hK34; assumption)
      | (apply k_f_M_gap <;> first | assumption | (intros; apply hK34 <;> assumption))
      | (refine Ke.b2 (by first | (apply hK34; assumption) | (apply k_f_M_gap <;> first | assumption | (intros; apply hK34 <;> assumption))) ?_; intro _ _ _)
      | (refine Ke.bdM (by first | (apply hK34; assumption) | (apply k_f_M_gap <;> first | assumption | (intros; apply hK34 <;> assumption))) ?_; intro _ _)
      | (refine Ke.bdV ?_; intro _)
theorem k_f_M_looked_l34  {M0 : Mem}  : ∀ (n : Nat) (w0 : Int32) (w1 : Int32) (w2 : Int32) (w3 : Int32) (M : Mem), Kx true M0 M → Ke true M0 (f_M_looked_l34  n w0 w1 w2 w3 M)
  | 0, _, _, _, _, _, _ => by
    simp only [f_M_looked_l34]
    exact Ke.none
  | n + 1, w0, w1, w2, w3, M, h => by
    simp only [f_M_looked_l34]
    repeat' with_reducible first
      | exact Ke.none
      | exact Ke.some (by assumption)
      | refine Ke.ite ?_ ?_
      | refine Ke.gd ?_
      | (refine Ke.ltM (Kx.set (by assumption) (fun _ => by decide) _) ?_; intro _ _)
      | (refine Ke.ltM (Kx.setl (by assumption) _ _ _) ?_; intro _ _)
      | (refine Ke.ltM (Kx.setr (by assumption) _ _ _) ?_; intro _ _)
      | (refine Ke.ltM (Kx.cpi (by assumption) (fun _ => by decide) _ _ _ _) ?_; intro _ _)
      | (refine Ke.ltM (Kx.cpl (by assumption) _ _ _ _ _) ?_; intro _ _)
      | (refine Ke.ltV ?_; intro _)
      | (apply k_f_M_putBack <;> first | assumption | (intros; apply k_f_M_looked_b56 <;> assumption) | (intros; refine k_f_M_looked_l34 n _ _ _ _  _ ?_; assumption) | (intros; apply k_f_M_goOn <;> assumption))
      | (apply k_f_M_looked_b56 <;> first | assumption | (intros; apply k_f_M_putBack <;> assumption) | (intros; refine k_f_M_looked_l34 n _ _ _ _  _ ?_; assumption) | (intros; apply k_f_M_goOn <;> assumption))
      | exact k_f_M_looked_l34 n _ _ _ _ _ (by assumption)
      | (apply k_f_M_goOn <;> first | assumption | (intros; apply k_f_M_putBack <;> assumption) | (intros; apply k_f_M_looked_b56 <;> assumption) | (intros; refine k_f_M_looked_l34 n _ _ _ _  _ ?_; assumption))
      | (refine Ke.b2 (by first | (apply k_f_M_putBack <;> first | assumption | (intros; apply k_f_M_looked_b56 <;> assumption) | (intros; refine k_f_M_looked_l34 n _ _ _ _  _ ?_; assumption) | (intros; apply k_f_M_goOn <;> assumption)) | (apply k_f_M_looked_b56 <;> first | assumption | (intros; apply k_f_M_putBack <;> assumption) | (intros; refine k_f_M_looked_l34 n _ _ _ _  _ ?_; assumption) | (intros; apply k_f_M_goOn <;> assumption)) | exact k_f_M_looked_l34 n _ _ _ _ _ (by assumption) | (apply k_f_M_goOn <;> first | assumption | (intros; apply k_f_M_putBack <;> assumption) | (intros; apply k_f_M_looked_b56 <;> assumption) | (intros; refine k_f_M_looked_l34 n _ _ _ _  _ ?_; assumption))) ?_; intro _ _ _)
      | (refine Ke.bdM (by first | (apply k_f_M_putBack <;> first | assumption | (intros; apply k_f_M_looked_b56 <;> assumption) | (intros; refine k_f_M_looked_l34 n _ _ _ _  _ ?_; assumption) | (intros; apply k_f_M_goOn <;> assumption)) | (apply k_f_M_looked_b56 <;> first | assumption | (intros; apply k_f_M_putBack <;> assumption) | (intros; refine k_f_M_looked_l34 n _ _ _ _  _ ?_; assumption) | (intros; apply k_f_M_goOn <;> assumption)) | exact k_f_M_looked_l34 n _ _ _ _ _ (by assumption) | (apply k_f_M_goOn <;> first | assumption | (intros; apply k_f_M_putBack <;> assumption) | (intros; apply k_f_M_looked_b56 <;> assumption) | (intros; refine k_f_M_looked_l34 n _ _ _ _  _ ?_; assumption))) ?_; intro _ _)
      | (refine Ke.bdV ?_; intro _)
theorem k_f_M_looked (p1 : Int32) (p2 : Int32) {M0 M : Mem}  (h : Kx true M0 M) : Ke true M0 (f_M_looked p1 p2 M) := by
    unfold f_M_looked
    repeat' with_reducible first
      | exact Ke.none
      | exact Ke.some (by assumption)
      | refine Ke.ite ?_ ?_
      | refine Ke.gd ?_
      | (refine Ke.ltM (Kx.set (by assumption) (fun _ => by decide) _) ?_; intro _ _)
      | (refine Ke.ltM (Kx.setl (by assumption) _ _ _) ?_; intro _ _)
      | (refine Ke.ltM (Kx.setr (by assumption) _ _ _) ?_; intro _ _)
      | (refine Ke.ltM (Kx.cpi (by assumption) (fun _ => by decide) _ _ _ _) ?_; intro _ _)
      | (refine Ke.ltM (Kx.cpl (by assumption) _ _ _ _ _) ?_; intro _ _)
      | (refine Ke.ltV ?_; intro _)
      | (apply k_f_M_keep <;> first | assumption | (intros; apply k_f_M_looked_l34 <;> assumption))
      | (apply k_f_M_looked_l34 <;> first | assumption | (intros; apply k_f_M_keep <;> assumption))
      | (refine Ke.b2 (by first | (apply k_f_M_keep <;> first | assumption | (intros; apply k_f_M_looked_l34 <;> assumption)) | (apply k_f_M_looked_l34 <;> first | assumption | (intros; apply k_f_M_keep <;> assumption))) ?_; intro _ _ _)
      | (refine Ke.bdM (by first | (apply k_f_M_keep <;> first | assumption | (intros; apply k_f_M_looked_l34 <;> assumption)) | (apply k_f_M_looked_l34 <;> first | assumption | (intros; apply k_f_M_keep <;> assumption))) ?_; intro _ _)
      | (refine Ke.bdV ?_; intro _)
theorem k_f_M_judge_l43  {M0 : Mem}  : ∀ (n : Nat) (w0 : Int32) (w1 : Int32) (w2 : Int32) (w3 : Int32) (M : Mem), Kx true M0 M → Ke true M0 (f_M_judge_l43  n w0 w1 w2 w3 M)
  | 0, _, _, _, _, _, _ => by
    simp only [f_M_judge_l43]
    exact Ke.none
  | n + 1, w0, w1, w2, w3, M, h => by
    simp only [f_M_judge_l43]
    repeat' with_reducible first
      | exact Ke.none
      | exact Ke.some (by assumption)
      | refine Ke.ite ?_ ?_
      | refine Ke.gd ?_
      | (refine Ke.ltM (Kx.set (by assumption) (fun _ => by decide) _) ?_; intro _ _)
      | (refine Ke.ltM (Kx.setl (by assumption) _ _ _) ?_; intro _ _)
      | (refine Ke.ltM (Kx.setr (by assumption) _ _ _) ?_; intro _ _)
      | (refine Ke.ltM (Kx.cpi (by assumption) (fun _ => by decide) _ _ _ _) ?_; intro _ _)
      | (refine Ke.ltM (Kx.cpl (by assumption) _ _ _ _ _) ?_; intro _ _)
      | (refine Ke.ltV ?_; intro _)
      | (apply k_f_M_gap <;> first | assumption | (intros; refine k_f_M_judge_l43 n _ _ _ _  _ ?_; assumption))
      | exact k_f_M_judge_l43 n _ _ _ _ _ (by assumption)
      | (refine Ke.b2 (by first | (apply k_f_M_gap <;> first | assumption | (intros; refine k_f_M_judge_l43 n _ _ _ _  _ ?_; assumption)) | exact k_f_M_judge_l43 n _ _ _ _ _ (by assumption)) ?_; intro _ _ _)
      | (refine Ke.bdM (by first | (apply k_f_M_gap <;> first | assumption | (intros; refine k_f_M_judge_l43 n _ _ _ _  _ ?_; assumption)) | exact k_f_M_judge_l43 n _ _ _ _ _ (by assumption)) ?_; intro _ _)
      | (refine Ke.bdV ?_; intro _)
theorem k_f_M_judge_b40 (v1 : Int32) (v2 : Int32) (v3 : Int32) {M0 M : Mem}  (h : Kx true M0 M) : Ke true M0 (f_M_judge_b40 v1 v2 v3 M) := by
    unfold f_M_judge_b40
    repeat' with_reducible first
      | exact Ke.none
      | exact Ke.some (by assumption)
      | refine Ke.ite ?_ ?_
      | refine Ke.gd ?_
      | (refine Ke.ltM (Kx.set (by assumption) (fun _ => by decide) _) ?_; intro _ _)
      | (refine Ke.ltM (Kx.setl (by assumption) _ _ _) ?_; intro _ _)
      | (refine Ke.ltM (Kx.setr (by assumption) _ _ _) ?_; intro _ _)
      | (refine Ke.ltM (Kx.cpi (by assumption) (fun _ => by decide) _ _ _ _) ?_; intro _ _)
      | (refine Ke.ltM (Kx.cpl (by assumption) _ _ _ _ _) ?_; intro _ _)
      | (refine Ke.ltV ?_; intro _)
      | (apply k_f_M_judge_l43 <;> first | assumption)
      | (refine Ke.b2 (by first | (apply k_f_M_judge_l43 <;> first | assumption)) ?_; intro _ _ _)
      | (refine Ke.bdM (by first | (apply k_f_M_judge_l43 <;> first | assumption)) ?_; intro _ _)
      | (refine Ke.bdV ?_; intro _)
theorem k_f_M_judge (p1 : Int32) (p2 : Int32) (p3 : Int32) {M0 M : Mem}  (h : Kx true M0 M) : Ke true M0 (f_M_judge p1 p2 p3 M) := by
    unfold f_M_judge
    repeat' with_reducible first
      | exact Ke.none
      | exact Ke.some (by assumption)
      | refine Ke.ite ?_ ?_
      | refine Ke.gd ?_
      | (refine Ke.ltM (Kx.set (by assumption) (fun _ => by decide) _) ?_; intro _ _)
      | (refine Ke.ltM (Kx.setl (by assumption) _ _ _) ?_; intro _ _)
      | (refine Ke.ltM (Kx.setr (by assumption) _ _ _) ?_; intro _ _)
      | (refine Ke.ltM (Kx.cpi (by assumption) (fun _ => by decide) _ _ _ _) ?_; intro _ _)
      | (refine Ke.ltM (Kx.cpl (by assumption) _ _ _ _ _) ?_; intro _ _)
      | (refine Ke.ltV ?_; intro _)
      | (apply k_f_M_judge_b40 <;> first | assumption)
      | (refine Ke.b2 (by first | (apply k_f_M_judge_b40 <;> first | assumption)) ?_; intro _ _ _)
      | (refine Ke.bdM (by first | (apply k_f_M_judge_b40 <;> first | assumption)) ?_; intro _ _)
      | (refine Ke.bdV ?_; intro _)
theorem k_f_M_image_l194  {M0 : Mem}  : ∀ (n : Nat) (w0 : Int32) (M : Mem), Kx true M0 M → Ke true M0 (f_M_image_l194  n w0 M)
  | 0, _, _, _ => by
    simp only [f_M_image_l194]
    exact Ke.none
  | n + 1, w0, M, h => by
    simp only [f_M_image_l194]
    repeat' with_reducible first
      | exact Ke.none
      | exact Ke.some (by assumption)
      | refine Ke.ite ?_ ?_
      | refine Ke.gd ?_
      | (refine Ke.ltM (Kx.set (by assumption) (fun _ => by decide) _) ?_; intro _ _)
      | (refine Ke.ltM (Kx.setl (by assumption) _ _ _) ?_; intro _ _)
      | (refine Ke.ltM (Kx.setr (by assumption) _ _ _) ?_; intro _ _)
      | (refine Ke.ltM (Kx.cpi (by assumption) (fun _ => by decide) _ _ _ _) ?_; intro _ _)
      | (refine Ke.ltM (Kx.cpl (by assumption) _ _ _ _ _) ?_; intro _ _)
      | (refine Ke.ltV ?_; intro _)
      | exact k_f_M_image_l194 n _ _ (by assumption)
      | (refine Ke.b2 (by first | exact k_f_M_image_l194 n _ _ (by assumption)) ?_; intro _ _ _)
      | (refine Ke.bdM (by first | exact k_f_M_image_l194 n _ _ (by assumption)) ?_; intro _ _)
      | (refine Ke.bdV ?_; intro _)
theorem k_f_M_image_l97  {M0 : Mem}  : ∀ (n : Nat) (w0 : Int32) (M : Mem), Kx true M0 M → Ke true M0 (f_M_image_l97  n w0 M)
  | 0, _, _, _ => by
    simp only [f_M_image_l97]
    exact Ke.none
  | n + 1, w0, M, h => by
    simp only [f_M_image_l97]
    repeat' with_reducible first
      | exact Ke.none
      | exact Ke.some (by assumption)
      | refine Ke.ite ?_ ?_
      | refine Ke.gd ?_
      | (refine Ke.ltM (Kx.set (by assumption) (fun _ => by decide) _) ?_; intro _ _)
      | (refine Ke.ltM (Kx.setl (by assumption) _ _ _) ?_; intro _ _)
      | (refine Ke.ltM (Kx.setr (by assumption) _ _ _) ?_; intro _ _)
      | (refine Ke.ltM (Kx.cpi (by assumption) (fun _ => by decide) _ _ _ _) ?_; intro _ _)
      | (refine Ke.ltM (Kx.cpl (by assumption) _ _ _ _ _) ?_; intro _ _)
      | (refine Ke.ltV ?_; intro _)
      | (apply k_f_M_image_l194 <;> first | assumption | (intros; refine k_f_M_image_l97 n _  _ ?_; assumption))
      | exact k_f_M_image_l97 n _ _ (by assumption)
      | (refine Ke.b2 (by first | (apply k_f_M_image_l194 <;> first | assumption | (intros; refine k_f_M_image_l97 n _  _ ?_; assumption)) | exact k_f_M_image_l97 n _ _ (by assumption)) ?_; intro _ _ _)
      | (refine Ke.bdM (by first | (apply k_f_M_image_l194 <;> first | assumption | (intros; refine k_f_M_image_l97 n _  _ ?_; assumption)) | exact k_f_M_image_l97 n _ _ (by assumption)) ?_; intro _ _)
      | (refine Ke.bdV ?_; intro _)
theorem k_f_M_image_l47  {M0 : Mem}  : ∀ (n : Nat) (w0 : Int32) (M : Mem), Kx true M0 M → Ke true M0 (f_M_image_l47  n w0 M)
  | 0, _, _, _ => by
    simp only [f_M_image_l47]
    exact Ke.none
  | n + 1, w0, M, h => by
    simp only [f_M_image_l47]
    repeat' with_reducible first
      | exact Ke.none
      | exact Ke.some (by assumption)
      | refine Ke.ite ?_ ?_
      | refine Ke.gd ?_
      | (refine Ke.ltM (Kx.set (by assumption) (fun _ => by decide) _) ?_; intro _ _)
      | (refine Ke.ltM (Kx.setl (by assumption) _ _ _) ?_; intro _ _)
      | (refine Ke.ltM (Kx.setr (by assumption) _ _ _) ?_; intro _ _)
      | (refine Ke.ltM (Kx.cpi (by assumption) (fun _ => by decide) _ _ _ _) ?_; intro _ _)
      | (refine Ke.ltM (Kx.cpl (by assumption) _ _ _ _ _) ?_; intro _ _)
      | (refine Ke.ltV ?_; intro _)
      | (apply k_f_M_image_l97 <;> first | assumption | (intros; refine k_f_M_image_l47 n _  _ ?_; assumption))
      | exact k_f_M_image_l47 n _ _ (by assumption)
      | (refine Ke.b2 (by first | (apply k_f_M_image_l97 <;> first | assumption | (intros; refine k_f_M_image_l47 n _  _ ?_; assumption)) | exact k_f_M_image_l47 n _ _ (by assumption)) ?_; intro _ _ _)
      | (refine Ke.bdM (by first | (apply k_f_M_image_l97 <;> first | assumption | (intros; refine k_f_M_image_l47 n _  _ ?_; assumption)) | exact k_f_M_image_l47 n _ _ (by assumption)) ?_; intro _ _)
      | (refine Ke.bdV ?_; intro _)
theorem k_f_M_image  {M0 M : Mem}  (h : Kx true M0 M) : Ke true M0 (f_M_image  M) := by
    unfold f_M_image
    repeat' with_reducible first
      | exact Ke.none
      | exact Ke.some (by assumption)
      | refine Ke.ite ?_ ?_
      | refine Ke.gd ?_
      | (refine Ke.ltM (Kx.set (by assumption) (fun _ => by decide) _) ?_; intro _ _)
      | (refine Ke.ltM (Kx.setl (by assumption) _ _ _) ?_; intro _ _)
      | (refine Ke.ltM (Kx.setr (by assumption) _ _ _) ?_; intro _ _)
      | (refine Ke.ltM (Kx.cpi (by assumption) (fun _ => by decide) _ _ _ _) ?_; intro _ _)
      | (refine Ke.ltM (Kx.cpl (by assumption) _ _ _ _ _) ?_; intro _ _)
      | (refine Ke.ltV ?_; intro _)
      | (apply k_f_M_image_l47 <;> first | assumption)
      | (refine Ke.b2 (by first | (apply k_f_M_image_l47 <;> first | assumption)) ?_; intro _ _ _)
      | (refine Ke.bdM (by first | (apply k_f_M_image_l47 <;> first | assumption)) ?_; intro _ _)
      | (refine Ke.bdV ?_; intro _)
theorem k_f_M_undo_l199  {M0 : Mem}  : ∀ (n : Nat) (w0 : Int32) (M : Mem), Kx true M0 M → Ke true M0 (f_M_undo_l199  n w0 M)
  | 0, _, _, _ => by
    simp only [f_M_undo_l199]
    exact Ke.none
  | n + 1, w0, M, h => by
    simp only [f_M_undo_l199]
    repeat' with_reducible first
      | exact Ke.none
      | exact Ke.some (by assumption)
      | refine Ke.ite ?_ ?_
      | refine Ke.gd ?_
      | (refine Ke.ltM (Kx.set (by assumption) (fun _ => by decide) _) ?_; intro _ _)
      | (refine Ke.ltM (Kx.setl (by assumption) _ _ _) ?_; intro _ _)
      | (refine Ke.ltM (Kx.setr (by assumption) _ _ _) ?_; intro _ _)
      | (refine Ke.ltM (Kx.cpi (by assumption) (fun _ => by decide) _ _ _ _) ?_; intro _ _)
      | (refine Ke.ltM (Kx.cpl (by assumption) _ _ _ _ _) ?_; intro _ _)
      | (refine Ke.ltV ?_; intro _)
      | exact k_f_M_undo_l199 n _ _ (by assumption)
      | (refine Ke.b2 (by first | exact k_f_M_undo_l199 n _ _ (by assumption)) ?_; intro _ _ _)
      | (refine Ke.bdM (by first | exact k_f_M_undo_l199 n _ _ (by assumption)) ?_; intro _ _)
      | (refine Ke.bdV ?_; intro _)
theorem k_f_M_undo_l102  {M0 : Mem}  : ∀ (n : Nat) (w0 : Int32) (M : Mem), Kx true M0 M → Ke true M0 (f_M_undo_l102  n w0 M)
  | 0, _, _, _ => by
    simp only [f_M_undo_l102]
    exact Ke.none
  | n + 1, w0, M, h => by
    simp only [f_M_undo_l102]
    repeat' with_reducible first
      | exact Ke.none
      | exact Ke.some (by assumption)
      | refine Ke.ite ?_ ?_
      | refine Ke.gd ?_
      | (refine Ke.ltM (Kx.set (by assumption) (fun _ => by decide) _) ?_; intro _ _)
      | (refine Ke.ltM (Kx.setl (by assumption) _ _ _) ?_; intro _ _)
      | (refine Ke.ltM (Kx.setr (by assumption) _ _ _) ?_; intro _ _)
      | (refine Ke.ltM (Kx.cpi (by assumption) (fun _ => by decide) _ _ _ _) ?_; intro _ _)
      | (refine Ke.ltM (Kx.cpl (by assumption) _ _ _ _ _) ?_; intro _ _)
      | (refine Ke.ltV ?_; intro _)
      | (apply k_f_M_undo_l199 <;> first | assumption | (intros; refine k_f_M_undo_l102 n _  _ ?_; assumption))
      | exact k_f_M_undo_l102 n _ _ (by assumption)
      | (refine Ke.b2 (by first | (apply k_f_M_undo_l199 <;> first | assumption | (intros; refine k_f_M_undo_l102 n _  _ ?_; assumption)) | exact k_f_M_undo_l102 n _ _ (by assumption)) ?_; intro _ _ _)
      | (refine Ke.bdM (by first | (apply k_f_M_undo_l199 <;> first | assumption | (intros; refine k_f_M_undo_l102 n _  _ ?_; assumption)) | exact k_f_M_undo_l102 n _ _ (by assumption)) ?_; intro _ _)
      | (refine Ke.bdV ?_; intro _)
theorem k_f_M_undo_l52  {M0 : Mem}  : ∀ (n : Nat) (w0 : Int32) (M : Mem), Kx true M0 M → Ke true M0 (f_M_undo_l52  n w0 M)
  | 0, _, _, _ => by
    simp only [f_M_undo_l52]
    exact Ke.none
  | n + 1, w0, M, h => by
    simp only [f_M_undo_l52]
    repeat' with_reducible first
      | exact Ke.none
      | exact Ke.some (by assumption)
      | refine Ke.ite ?_ ?_
      | refine Ke.gd ?_
      | (refine Ke.ltM (Kx.set (by assumption) (fun _ => by decide) _) ?_; intro _ _)
      | (refine Ke.ltM (Kx.setl (by assumption) _ _ _) ?_; intro _ _)
      | (refine Ke.ltM (Kx.setr (by assumption) _ _ _) ?_; intro _ _)
      | (refine Ke.ltM (Kx.cpi (by assumption) (fun _ => by decide) _ _ _ _) ?_; intro _ _)
      | (refine Ke.ltM (Kx.cpl (by assumption) _ _ _ _ _) ?_; intro _ _)
      | (refine Ke.ltV ?_; intro _)
      | (apply k_f_M_undo_l102 <;> first | assumption | (intros; refine k_f_M_undo_l52 n _  _ ?_; assumption))
      | exact k_f_M_undo_l52 n _ _ (by assumption)
      | (refine Ke.b2 (by first | (apply k_f_M_undo_l102 <;> first | assumption | (intros; refine k_f_M_undo_l52 n _  _ ?_; assumption)) | exact k_f_M_undo_l52 n _ _ (by assumption)) ?_; intro _ _ _)
      | (refine Ke.bdM (by first | (apply k_f_M_undo_l102 <;> first | assumption | (intros; refine k_f_M_undo_l52 n _  _ ?_; assumption)) | exact k_f_M_undo_l52 n _ _ (by assumption)) ?_; intro _ _)
      | (refine Ke.bdV ?_; intro _)
theorem k_f_M_undo  {M0 M : Mem}  (h : Kx true M0 M) : Ke true M0 (f_M_undo  M) := by
    unfold f_M_undo
    repeat' with_reducible first
      | exact Ke.none
      | exact Ke.some (by assumption)
      | refine Ke.ite ?_ ?_
      | refine Ke.gd ?_
      | (refine Ke.ltM (Kx.set (by assumption) (fun _ => by decide) _) ?_; intro _ _)
      | (refine Ke.ltM (Kx.setl (by assumption) _ _ _) ?_; intro _ _)
      | (refine Ke.ltM (Kx.setr (by assumption) _ _ _) ?_; intro _ _)
      | (refine Ke.ltM (Kx.cpi (by assumption) (fun _ => by decide) _ _ _ _) ?_; intro _ _)
      | (refine Ke.ltM (Kx.cpl (by assumption) _ _ _ _ _) ?_; intro _ _)
      | (refine Ke.ltV ?_; intro _)
      | (apply k_f_M_undo_l52 <;> first | assumption)
      | (refine Ke.b2 (by first | (apply k_f_M_undo_l52 <;> first | assumption)) ?_; intro _ _ _)
      | (refine Ke.bdM (by first | (apply k_f_M_undo_l52 <;> first | assumption)) ?_; intro _ _)
      | (refine Ke.bdV ?_; intro _)
theorem k_f_M_body (p1 : Int32) {M0 M : Mem}  (h : Kx true M0 M) : Ke1 true M0 (f_M_body p1 M) := by
    unfold f_M_body
    repeat' with_reducible first
      | exact Ke1.none
      | exact Ke1.some (by assumption)
      | refine Ke1.ite ?_ ?_
      | refine Ke1.gd ?_
      | (refine Ke1.ltM (Kx.set (by assumption) (fun _ => by decide) _) ?_; intro _ _)
      | (refine Ke1.ltM (Kx.setl (by assumption) _ _ _) ?_; intro _ _)
      | (refine Ke1.ltM (Kx.setr (by assumption) _ _ _) ?_; intro _ _)
      | (refine Ke1.ltM (Kx.cpi (by assumption) (fun _ => by decide) _ _ _ _) ?_; intro _ _)
      | (refine Ke1.ltM (Kx.cpl (by assumption) _ _ _ _ _) ?_; intro _ _)
      | (refine Ke1.ltV ?_; intro _)
      | (refine Ke1.bdV ?_; intro _)
theorem k_f_M_doorSwells (p1 : Int32) (p2 : Int32) {M0 M : Mem}  (h : Kx true M0 M) : Ke true M0 (f_M_doorSwells p1 p2 M) := by
    unfold f_M_doorSwells
    repeat' with_reducible first
      | exact Ke.none
      | exact Ke.some (by assumption)
      | refine Ke.ite ?_ ?_
      | refine Ke.gd ?_
      | (refine Ke.ltM (Kx.set (by assumption) (fun _ => by decide) _) ?_; intro _ _)
      | (refine Ke.ltM (Kx.setl (by assumption) _ _ _) ?_; intro _ _)
      | (refine Ke.ltM (Kx.setr (by assumption) _ _ _) ?_; intro _ _)
      | (refine Ke.ltM (Kx.cpi (by assumption) (fun _ => by decide) _ _ _ _) ?_; intro _ _)
      | (refine Ke.ltM (Kx.cpl (by assumption) _ _ _ _ _) ?_; intro _ _)
      | (refine Ke.ltV ?_; intro _)
      | (apply k_f_M_body <;> first | assumption)
      | (refine Ke.b2 (by first | (apply k_f_M_body <;> first | assumption)) ?_; intro _ _ _)
      | (refine Ke.bdM (by first | (apply k_f_M_body <;> first | assumption)) ?_; intro _ _)
      | (refine Ke.bdV ?_; intro _)
theorem k_f_M_swellsAct_b40 (v1 : Int32) (v2 : Int32) {M0 M : Mem}  (h : Kx true M0 M) : Ke true M0 (f_M_swellsAct_b40 v1 v2 M) := by
    unfold f_M_swellsAct_b40
    repeat' with_reducible first
      | exact Ke.none
      | exact Ke.some (by assumption)
      | refine Ke.ite ?_ ?_
      | refine Ke.gd ?_
      | (refine Ke.ltM (Kx.set (by assumption) (fun _ => by decide) _) ?_; intro _ _)
      | (refine Ke.ltM (Kx.setl (by assumption) _ _ _) ?_; intro _ _)
      | (refine Ke.ltM (Kx.setr (by assumption) _ _ _) ?_; intro _ _)
      | (refine Ke.ltM (Kx.cpi (by assumption) (fun _ => by decide) _ _ _ _) ?_; intro _ _)
      | (refine Ke.ltM (Kx.cpl (by assumption) _ _ _ _ _) ?_; intro _ _)
      | (refine Ke.ltV ?_; intro _)
      | (apply k_f_M_body <;> first | assumption | (intros; apply k_f_M_doorSwells <;> assumption))
      | (apply k_f_M_doorSwells <;> first | assumption | (intros; apply k_f_M_body <;> assumption))
      | (refine Ke.b2 (by first | (apply k_f_M_body <;> first | assumption | (intros; apply k_f_M_doorSwells <;> assumption)) | (apply k_f_M_doorSwells <;> first | assumption | (intros; apply k_f_M_body <;> assumption))) ?_; intro _ _ _)
      | (refine Ke.bdM (by first | (apply k_f_M_body <;> first | assumption | (intros; apply k_f_M_doorSwells <;> assumption)) | (apply k_f_M_doorSwells <;> first | assumption | (intros; apply k_f_M_body <;> assumption))) ?_; intro _ _)
      | (refine Ke.bdV ?_; intro _)
theorem k_f_M_swellsAct (p1 : Int32) (p2 : Int32) {M0 M : Mem}  (h : Kx true M0 M) : Ke true M0 (f_M_swellsAct p1 p2 M) := by
    unfold f_M_swellsAct
    repeat' with_reducible first
      | exact Ke.none
      | exact Ke.some (by assumption)
      | refine Ke.ite ?_ ?_
      | refine Ke.gd ?_
      | (refine Ke.ltM (Kx.set (by assumption) (fun _ => by decide) _) ?_; intro _ _)
      | (refine Ke.ltM (Kx.setl (by assumption) _ _ _) ?_; intro _ _)
      | (refine Ke.ltM (Kx.setr (by assumption) _ _ _) ?_; intro _ _)
      | (refine Ke.ltM (Kx.cpi (by assumption) (fun _ => by decide) _ _ _ _) ?_; intro _ _)
      | (refine Ke.ltM (Kx.cpl (by assumption) _ _ _ _ _) ?_; intro _ _)
      | (refine Ke.ltV ?_; intro _)
      | (apply k_f_M_swellsAct_b40 <;> first | assumption | (intros; apply k_f_M_body <;> assumption) | (intros; apply k_f_M_doorSwells <;> assumption))
      | (apply k_f_M_body <;> first | assumption | (intros; apply k_f_M_swellsAct_b40 <;> assumption) | (intros; apply k_f_M_doorSwells <;> assumption))
      | (apply k_f_M_doorSwells <;> first | assumption | (intros; apply k_f_M_swellsAct_b40 <;> assumption) | (intros; apply k_f_M_body <;> assumption))
      | (refine Ke.b2 (by first | (apply k_f_M_swellsAct_b40 <;> first | assumption | (intros; apply k_f_M_body <;> assumption) | (intros; apply k_f_M_doorSwells <;> assumption)) | (apply k_f_M_body <;> first | assumption | (intros; apply k_f_M_swellsAct_b40 <;> assumption) | (intros; apply k_f_M_doorSwells <;> assumption)) | (apply k_f_M_doorSwells <;> first | assumption | (intros; apply k_f_M_swellsAct_b40 <;> assumption) | (intros; apply k_f_M_body <;> assumption))) ?_; intro _ _ _)
      | (refine Ke.bdM (by first | (apply k_f_M_swellsAct_b40 <;> first | assumption | (intros; apply k_f_M_body <;> assumption) | (intros; apply k_f_M_doorSwells <;> assumption)) | (apply k_f_M_body <;> first | assumption | (intros; apply k_f_M_swellsAct_b40 <;> assumption) | (intros; apply k_f_M_doorSwells <;> assumption)) | (apply k_f_M_doorSwells <;> first | assumption | (intros; apply k_f_M_swellsAct_b40 <;> assumption) | (intros; apply k_f_M_body <;> assumption))) ?_; intro _ _)
      | (refine Ke.bdV ?_; intro _)
theorem k_f_M_doorHangs (p1 : Int32) (p2 : Int32) {M0 M : Mem}  (h : Kx true M0 M) : Ke true M0 (f_M_doorHangs p1 p2 M) := by
    unfold f_M_doorHangs
    repeat' with_reducible first
      | exact Ke.none
      | exact Ke.some (by assumption)
      | refine Ke.ite ?_ ?_
      | refine Ke.gd ?_
      | (refine Ke.ltM (Kx.set (by assumption) (fun _ => by decide) _) ?_; intro _ _)
      | (refine Ke.ltM (Kx.setl (by assumption) _ _ _) ?_; intro _ _)
      | (refine Ke.ltM (Kx.setr (by assumption) _ _ _) ?_; intro _ _)
      | (refine Ke.ltM (Kx.cpi (by assumption) (fun _ => by decide) _ _ _ _) ?_; intro _ _)
      | (refine Ke.ltM (Kx.cpl (by assumption) _ _ _ _ _) ?_; intro _ _)
      | (refine Ke.ltV ?_; intro _)
      | (apply k_f_M_body <;> first | assumption | (intros; apply k_f_M_swellsAct <;> assumption))
      | (apply k_f_M_swellsAct <;> first | assumption | (intros; apply k_f_M_body <;> assumption))
      | (refine Ke.b2 (by first | (apply k_f_M_body <;> first | assumption | (intros; apply k_f_M_swellsAct <;> assumption)) | (apply k_f_M_swellsAct <;> first | assumption | (intros; apply k_f_M_body <;> assumption))) ?_; intro _ _ _)
      | (refine Ke.bdM (by first | (apply k_f_M_body <;> first | assumption | (intros; apply k_f_M_swellsAct <;> assumption)) | (apply k_f_M_swellsAct <;> first | assumption | (intros; apply k_f_M_body <;> assumption))) ?_; intro _ _)
      | (refine Ke.bdV ?_; intro _)
theorem k_f_M_swollenHangs (p1 : Int32) (p2 : Int32) {M0 M : Mem}  (h : Kx true M0 M) : Ke true M0 (f_M_swollenHangs p1 p2 M) := by
    unfold f_M_swollenHangs
    repeat' with_reducible first
      | exact Ke.none
      | exact Ke.some (by assumption)
      | refine Ke.ite ?_ ?_
      | refine Ke.gd ?_
      | (refine Ke.ltM (Kx.set (by assumption) (fun _ => by decide) _) ?_; intro _ _)
      | (refine Ke.ltM (Kx.setl (by assumption) _ _ _) ?_; intro _ _)
      | (refine Ke.ltM (Kx.setr (by assumption) _ _ _) ?_; intro _ _)
      | (refine Ke.ltM (Kx.cpi (by assumption) (fun _ => by decide) _ _ _ _) ?_; intro _ _)
      | (refine Ke.ltM (Kx.cpl (by assumption) _ _ _ _ _) ?_; intro _ _)
      | (refine Ke.ltV ?_; intro _)
      | (apply k_f_M_body <;> first | assumption | (intros; apply k_f_M_doorHangs <;> assumption))
      | (apply k_f_M_doorHangs <;> first | assumption | (intros; apply k_f_M_body <;> assumption))
      | (refine Ke.b2 (by first | (apply k_f_M_body <;> first | assumption | (intros; apply k_f_M_doorHangs <;> assumption)) | (apply k_f_M_doorHangs <;> first | assumption | (intros; apply k_f_M_body <;> assumption))) ?_; intro _ _ _)
      | (refine Ke.bdM (by first | (apply k_f_M_body <;> first | assumption | (intros; apply k_f_M_doorHangs <;> assumption)) | (apply k_f_M_doorHangs <;> first | assumption | (intros; apply k_f_M_body <;> assumption))) ?_; intro _ _)
      | (refine Ke.bdV ?_; intro _)
theorem k_f_M_hangsAct (p1 : Int32) (p2 : Int32) {M0 M : Mem}  (h : Kx true M0 M) : Ke true M0 (f_M_hangsAct p1 p2 M) := by
    unfold f_M_hangsAct
    repeat' with_reducible first
      | exact Ke.none
      | exact Ke.some (by assumption)
      | refine Ke.ite ?_ ?_
      | refine Ke.gd ?_
      | (refine Ke.ltM (Kx.set (by assumption) (fun _ => by decide) _) ?_; intro _ _)
      | (refine Ke.ltM (Kx.setl (by assumption) _ _ _) ?_; intro _ _)
      | (refine Ke.ltM (Kx.setr (by assumption) _ _ _) ?_; intro _ _)
      | (refine Ke.ltM (Kx.cpi (by assumption) (fun _ => by decide) _ _ _ _) ?_; intro _ _)
      | (refine Ke.ltM (Kx.cpl (by assumption) _ _ _ _ _) ?_; intro _ _)
      | (refine Ke.ltV ?_; intro _)
      | (apply k_f_M_swollenHangs <;> first | assumption | (intros; apply k_f_M_body <;> assumption) | (intros; apply k_f_M_doorHangs <;> assumption) | (intros; apply k_f_M_doorSwells <;> assumption))
      | (apply k_f_M_body <;> first | assumption | (intros; apply k_f_M_swollenHangs <;> assumption) | (intros; apply k_f_M_doorHangs <;> assumption) | (intros; apply k_f_M_doorSwells <;> assumption))
      | (apply k_f_M_doorHangs <;> first | assumption | (intros; apply k_f_M_swollenHangs <;> assumption) | (intros; apply k_f_M_body <;> assumption) | (intros; apply k_f_M_doorSwells <;> assumption))
      | (apply k_f_M_doorSwells <;> first | assumption | (intros; apply k_f_M_swollenHangs <;> assumption) | (intros; apply k_f_M_body <;> assumption) | (intros; apply k_f_M_doorHangs <;> assumption))
      | (refine Ke.b2 (by first | (apply k_f_M_swollenHangs <;> first | assumption | (intros; apply k_f_M_body <;> assumption) | (intros; apply k_f_M_doorHangs <;> assumption) | (intros; apply k_f_M_doorSwells <;> assumption)) | (apply k_f_M_body <;> first | assumption | (intros; apply k_f_M_swollenHangs <;> assumption) | (intros; apply k_f_M_doorHangs <;> assumption) | (intros; apply k_f_M_doorSwells <;> assumption)) | (apply k_f_M_doorHangs <;> first | assumption | (intros; apply k_f_M_swollenHangs <;> assumption) | (intros; apply k_f_M_body <;> assumption) | (intros; apply k_f_M_doorSwells <;> assumption)) | (apply k_f_M_doorSwells <;> first | assumption | (intros; apply k_f_M_swollenHangs <;> assumption) | (intros; apply k_f_M_body <;> assumption) | (intros; apply k_f_M_doorHangs <;> assumption))) ?_; intro _ _ _)
      | (refine Ke.bdM (by first | (apply k_f_M_swollenHangs <;> first | assumption | (intros; apply k_f_M_body <;> assumption) | (intros; apply k_f_M_doorHangs <;> assumption) | (intros; apply k_f_M_doorSwells <;> assumption)) | (apply k_f_M_body <;> first | assumption | (intros; apply k_f_M_swollenHangs <;> assumption) | (intros; apply k_f_M_doorHangs <;> assumption) | (intros; apply k_f_M_doorSwells <;> assumption)) | (apply k_f_M_doorHangs <;> first | assumption | (intros; apply k_f_M_swollenHangs <;> assumption) | (intros; apply k_f_M_body <;> assumption) | (intros; apply k_f_M_doorSwells <;> assumption)) | (apply k_f_M_doorSwells <;> first | assumption | (intros; apply k_f_M_swollenHangs <;> assumption) | (intros; apply k_f_M_body <;> assumption) | (intros; apply k_f_M_doorHangs <;> assumption))) ?_; intro _ _)
      | (refine Ke.bdV ?_; intro _)
theorem k_f_M_doorTells (p1 : Int32) (p2 : Int32) {M0 M : Mem}  (h : Kx true M0 M) : Ke true M0 (f_M_doorTells p1 p2 M) := by
    unfold f_M_doorTells
    repeat' with_reducible first
      | exact Ke.none
      | exact Ke.some (by assumption)
      | refine Ke.ite ?_ ?_
      | refine Ke.gd ?_
      | (refine Ke.ltM (Kx.set (by assumption) (fun _ => by decide) _) ?_; intro _ _)
      | (refine Ke.ltM (Kx.setl (by assumption) _ _ _) ?_; intro _ _)
      | (refine Ke.ltM (Kx.setr (by assumption) _ _ _) ?_; intro _ _)
      | (refine Ke.ltM (Kx.cpi (by assumption) (fun _ => by decide) _ _ _ _) ?_; intro _ _)
      | (refine Ke.ltM (Kx.cpl (by assumption) _ _ _ _ _) ?_; intro _ _)
      | (refine Ke.ltV ?_; intro _)
      | (apply k_f_M_body <;> first | assumption | (intros; apply k_f_M_hangsAct <;> assumption))
      | (apply k_f_M_hangsAct <;> first | assumption | (intros; apply k_f_M_body <;> assumption))
      | (refine Ke.b2 (by first | (apply k_f_M_body <;> first | assumption | (intros; apply k_f_M_hangsAct <;> assumption)) | (apply k_f_M_hangsAct <;> first | assumption | (intros; apply k_f_M_body <;> assumption))) ?_; intro _ _ _)
      | (refine Ke.bdM (by first | (apply k_f_M_body <;> first | assumption | (intros; apply k_f_M_hangsAct <;> assumption)) | (apply k_f_M_hangsAct <;> first | assumption | (intros; apply k_f_M_body <;> assumption))) ?_; intro _ _)
      | (refine Ke.bdV ?_; intro _)
theorem k_f_M_tellsAct_b36 (v1 : Int32) (v2 : Int32) {M0 M : Mem}  (h : Kx true M0 M) : Ke true M0 (f_M_tellsAct_b36 v1 v2 M) := by
    unfold f_M_tellsAct_b36
    repeat' with_reducible first
      | exact Ke.none
      | exact Ke.some (by assumption)
      | refine Ke.ite ?_ ?_
      | refine Ke.gd ?_
      | (refine Ke.ltM (Kx.set (by assumption) (fun _ => by decide) _) ?_; intro _ _)
      | (refine Ke.ltM (Kx.setl (by assumption) _ _ _) ?_; intro _ _)
      | (refine Ke.ltM (Kx.setr (by assumption) _ _ _) ?_; intro _ _)
      | (refine Ke.ltM (Kx.cpi (by assumption) (fun _ => by decide) _ _ _ _) ?_; intro _ _)
      | (refine Ke.ltM (Kx.cpl (by assumption) _ _ _ _ _) ?_; intro _ _)
      | (refine Ke.ltV ?_; intro _)
      | (apply k_f_M_body <;> first | assumption | (intros; apply k_f_M_doorTells <;> assumption) | (intros; apply k_f_M_hangsAct <;> assumption))
      | (apply k_f_M_doorTells <;> first | assumption | (intros; apply k_f_M_body <;> assumption) | (intros; apply k_f_M_hangsAct <;> assumption))
      | (apply k_f_M_hangsAct <;> first | assumption | (intros; apply k_f_M_body <;> assumption) | (intros; apply k_f_M_doorTells <;> assumption))
      | (refine Ke.b2 (by first | (apply k_f_M_body <;> first | assumption | (intros; apply k_f_M_doorTells <;> assumption) | (intros; apply k_f_M_hangsAct <;> assumption)) | (apply k_f_M_doorTells <;> first | assumption | (intros; apply k_f_M_body <;> assumption) | (intros; apply k_f_M_hangsAct <;> assumption)) | (apply k_f_M_hangsAct <;> first | assumption | (intros; apply k_f_M_body <;> assumption) | (intros; apply k_f_M_doorTells <;> assumption))) ?_; intro _ _ _)
      | (refine Ke.bdM (by first | (apply k_f_M_body <;> first | assumption | (intros; apply k_f_M_doorTells <;> assumption) | (intros; apply k_f_M_hangsAct <;> assumption)) | (apply k_f_M_doorTells <;> first | assumption | (intros; apply k_f_M_body <;> assumption) | (intros; apply k_f_M_hangsAct <;> assumption)) | (apply k_f_M_hangsAct <;> first | assumption | (intros; apply k_f_M_body <;> assumption) | (intros; apply k_f_M_doorTells <;> assumption))) ?_; intro _ _)
      | (refine Ke.bdV ?_; intro _)
theorem k_f_M_tellsAct (p1 : Int32) (p2 : Int32) {M0 M : Mem}  (h : Kx true M0 M) : Ke true M0 (f_M_tellsAct p1 p2 M) := by
    unfold f_M_tellsAct
    repeat' with_reducible first
      | exact Ke.none
      | exact Ke.some (by assumption)
      | refine Ke.ite ?_ ?_
      | refine Ke.gd ?_
      | (refine Ke.ltM (Kx.set (by assumption) (fun _ => by decide) _) ?_; intro _ _)
      | (refine Ke.ltM (Kx.setl (by assumption) _ _ _) ?_; intro _ _)
      | (refine Ke.ltM (Kx.setr (by assumption) _ _ _) ?_; intro _ _)
      | (refine Ke.ltM (Kx.cpi (by assumption) (fun _ => by decide) _ _ _ _) ?_; intro _ _)
      | (refine Ke.ltM (Kx.cpl (by assumption) _ _ _ _ _) ?_; intro _ _)
      | (refine Ke.ltV ?_; intro _)
      | (apply k_f_M_tellsAct_b36 <;> first | assumption | (intros; apply k_f_M_body <;> assumption) | (intros; apply k_f_M_doorTells <;> assumption))
      | (apply k_f_M_body <;> first | assumption | (intros; apply k_f_M_tellsAct_b36 <;> assumption) | (intros; apply k_f_M_doorTells <;> assumption))
      | (apply k_f_M_doorTells <;> first | assumption | (intros; apply k_f_M_tellsAct_b36 <;> assumption) | (intros; apply k_f_M_body <;> assumption))
      | (refine Ke.b2 (by first | (apply k_f_M_tellsAct_b36 <;> first | assumption | (intros; apply k_f_M_body <;> assumption) | (intros; apply k_f_M_doorTells <;> assumption)) | (apply k_f_M_body <;> first | assumption | (intros; apply k_f_M_tellsAct_b36 <;> assumption) | (intros; apply k_f_M_doorTells <;> assumption)) | (apply k_f_M_doorTells <;> first | assumption | (intros; apply k_f_M_tellsAct_b36 <;> assumption) | (intros; apply k_f_M_body <;> assumption))) ?_; intro _ _ _)
      | (refine Ke.bdM (by first | (apply k_f_M_tellsAct_b36 <;> first | assumption | (intros; apply k_f_M_body <;> assumption) | (intros; apply k_f_M_doorTells <;> assumption)) | (apply k_f_M_body <;> first | assumption | (intros; apply k_f_M_tellsAct_b36 <;> assumption) | (intros; apply k_f_M_doorTells <;> assumption)) | (apply k_f_M_doorTells <;> first | assumption | (intros; apply k_f_M_tellsAct_b36 <;> assumption) | (intros; apply k_f_M_body <;> assumption))) ?_; intro _ _)
      | (refine Ke.bdV ?_; intro _)
theorem k_f_M_act (p1 : Int32) (p2 : Int32) (p3 : Int32) {M0 M : Mem}  (h : Kx true M0 M) : Ke true M0 (f_M_act p1 p2 p3 M) := by
    unfold f_M_act
    repeat' with_reducible first
      | exact Ke.none
      | exact Ke.some (by assumption)
      | refine Ke.ite ?_ ?_
      | refine Ke.gd ?_
      | (refine Ke.ltM (Kx.set (by assumption) (fun _ => by decide) _) ?_; intro _ _)
      | (refine Ke.ltM (Kx.setl (by assumption) _ _ _) ?_; intro _ _)
      | (refine Ke.ltM (Kx.setr (by assumption) _ _ _) ?_; intro _ _)
      | (refine Ke.ltM (Kx.cpi (by assumption) (fun _ => by decide) _ _ _ _) ?_; intro _ _)
      | (refine Ke.ltM (Kx.cpl (by assumption) _ _ _ _ _) ?_; intro _ _)
      | (refine Ke.ltV ?_; intro _)
      | (apply k_f_M_swellsAct <;> first | assumption | (intros; apply k_f_M_hangsAct <;> assumption) | (intros; apply k_f_M_tellsAct <;> assumption))
      | (apply k_f_M_hangsAct <;> first | assumption | (intros; apply k_f_M_swellsAct <;> assumption) | (intros; apply k_f_M_tellsAct <;> assumption))
      | (apply k_f_M_tellsAct <;> first | assumption | (intros; apply k_f_M_swellsAct <;> assumption) | (intros; apply k_f_M_hangsAct <;> assumption))
      | (refine Ke.b2 (by first | (apply k_f_M_swellsAct <;> first | assumption | (intros; apply k_f_M_hangsAct <;> assumption) | (intros; apply k_f_M_tellsAct <;> assumption)) | (apply k_f_M_hangsAct <;> first | assumption | (intros; apply k_f_M_swellsAct <;> assumption) | (intros; apply k_f_M_tellsAct <;> assumption)) | (apply k_f_M_tellsAct <;> first | assumption | (intros; apply k_f_M_swellsAct <;> assumption) | (intros; apply k_f_M_hangsAct <;> assumption))) ?_; intro _ _ _)
      | (refine Ke.bdM (by first | (apply k_f_M_swellsAct <;> first | assumption | (intros; apply k_f_M_hangsAct <;> assumption) | (intros; apply k_f_M_tellsAct <;> assumption)) | (apply k_f_M_hangsAct <;> first | assumption | (intros; apply k_f_M_swellsAct <;> assumption) | (intros; apply k_f_M_tellsAct <;> assumption)) | (apply k_f_M_tellsAct <;> first | assumption | (intros; apply k_f_M_swellsAct <;> assumption) | (intros; apply k_f_M_hangsAct <;> assumption))) ?_; intro _ _)
      | (refine Ke.bdV ?_; intro _)
theorem k_f_M_tape_l69  {M0 : Mem}  : ∀ (n : Nat) (w0 : Int32) (w1 : Int32) (M : Mem), Kx true M0 M → Ke true M0 (f_M_tape_l69  n w0 w1 M)
  | 0, _, _, _, _ => by
    simp only [f_M_tape_l69]
    exact Ke.none
  | n + 1, w0, w1, M, h => by
    simp only [f_M_tape_l69]
    repeat' with_reducible first
      | exact Ke.none
      | exact Ke.some (by assumption)
      | refine Ke.ite ?_ ?_
      | refine Ke.gd ?_
      | (refine Ke.ltM (Kx.set (by assumption) (fun _ => by decide) _) ?_; intro _ _)
      | (refine Ke.ltM (Kx.setl (by assumption) _ _ _) ?_; intro _ _)
      | (refine Ke.ltM (Kx.setr (by assumption) _ _ _) ?_; intro _ _)
      | (refine Ke.ltM (Kx.cpi (by assumption) (fun _ => by decide) _ _ _ _) ?_; intro _ _)
      | (refine Ke.ltM (Kx.cpl (by assumption) _ _ _ _ _) ?_; intro _ _)
      | (refine Ke.ltV ?_; intro _)
      | exact k_f_M_tape_l69 n _ _ _ (by assumption)
      | (refine Ke.b2 (by first | exact k_f_M_tape_l69 n _ _ _ (by assumption)) ?_; intro _ _ _)
      | (refine Ke.bdM (by first | exact k_f_M_tape_l69 n _ _ _ (by assumption)) ?_; intro _ _)
      | (refine Ke.bdV ?_; intro _)
theorem k_f_M_tape_b65 (v1 : Int32) (s0 : Int32) (s1 : Int32) {M0 M : Mem}  (h : Kx true M0 M) : Ke true M0 (f_M_tape_b65 v1 s0 s1 M) := by
    unfold f_M_tape_b65
    repeat' with_reducible first
      | exact Ke.none
      | exact Ke.some (by assumption)
      | refine Ke.ite ?_ ?_
      | refine Ke.gd ?_
      | (refine Ke.ltM (Kx.set (by assumption) (fun _ => by decide) _) ?_; intro _ _)
      | (refine Ke.ltM (Kx.setl (by assumption) _ _ _) ?_; intro _ _)
      | (refine Ke.ltM (Kx.setr (by assumption) _ _ _) ?_; intro _ _)
      | (refine Ke.ltM (Kx.cpi (by assumption) (fun _ => by decide) _ _ _ _) ?_; intro _ _)
      | (refine Ke.ltM (Kx.cpl (by assumption) _ _ _ _ _) ?_; intro _ _)
      | (refine Ke.ltV ?_; intro _)
      | (apply k_f_M_tape_l69 <;> first | assumption)
      | (refine Ke.b2 (by first | (apply k_f_M_tape_l69 <;> first | assumption)) ?_; intro _ _ _)
      | (refine Ke.bdM (by first | (apply k_f_M_tape_l69 <;> first | assumption)) ?_; intro _ _)
      | (refine Ke.bdV ?_; intro _)
theorem k_f_M_tape_b44 (v1 : Int32) (v2 : Int32) (v3 : Int32) {M0 M : Mem}  (h : Kx true M0 M) : Ke true M0 (f_M_tape_b44 v1 v2 v3 M) := by
    unfold f_M_tape_b44
    repeat' with_reducible first
      | exact Ke.none
      | exact Ke.some (by assumption)
      | refine Ke.ite ?_ ?_
      | refine Ke.gd ?_
      | (refine Ke.ltM (Kx.set (by assumption) (fun _ => by decide) _) ?_; intro _ _)
      | (refine Ke.ltM (Kx.setl (by assumption) _ _ _) ?_; intro _ _)
      | (refine Ke.ltM (Kx.setr (by assumption) _ _ _) ?_; intro _ _)
      | (refine Ke.ltM (Kx.cpi (by assumption) (fun _ => by decide) _ _ _ _) ?_; intro _ _)
      | (refine Ke.ltM (Kx.cpl (by assumption) _ _ _ _ _) ?_; intro _ _)
      | (refine Ke.ltV ?_; intro _)
      | (apply k_f_M_tape_b65 <;> first | assumption)
      | (refine Ke.b2 (by first | (apply k_f_M_tape_b65 <;> first | assumption)) ?_; intro _ _ _)
      | (refine Ke.bdM (by first | (apply k_f_M_tape_b65 <;> first | assumption)) ?_; intro _ _)
      | (refine Ke.bdV ?_; intro _)
theorem k_f_M_tape_b33 (v1 : Int32) (v2 : Int32) (v3 : Int32) {M0 M : Mem}  (h : Kx true M0 M) : Ke true M0 (f_M_tape_b33 v1 v2 v3 M) := by
    unfold f_M_tape_b33
    repeat' with_reducible first
      | exact Ke.none
      | exact Ke.some (by assumption)
      | refine Ke.ite ?_ ?_
      | refine Ke.gd ?_
      | (refine Ke.ltM (Kx.set (by assumption) (fun _ => by decide) _) ?_; intro _ _)
      | (refine Ke.ltM (Kx.setl (by assumption) _ _ _) ?_; intro _ _)
      | (refine Ke.ltM (Kx.setr (by assumption) _ _ _) ?_; intro _ _)
      | (refine Ke.ltM (Kx.cpi (by assumption) (fun _ => by decide) _ _ _ _) ?_; intro _ _)
      | (refine Ke.ltM (Kx.cpl (by assumption) _ _ _ _ _) ?_; intro _ _)
      | (refine Ke.ltV ?_; intro _)
      | (apply k_f_M_tape_b44 <;> first | assumption)
      | (refine Ke.b2 (by first | (apply k_f_M_tape_b44 <;> first | assumption)) ?_; intro _ _ _)
      | (refine Ke.bdM (by first | (apply k_f_M_tape_b44 <;> first | assumption)) ?_; intro _ _)
      | (refine Ke.bdV ?_; intro _)
theorem k_f_M_tape (p1 : Int32) (p2 : Int32) (p3 : Int32) {M0 M : Mem}  (h : Kx true M0 M) : Ke true M0 (f_M_tape p1 p2 p3 M) := by
    unfold f_M_tape
    repeat' with_reducible first
      | exact Ke.none
      | exact Ke.some (by assumption)
      | refine Ke.ite ?_ ?_
      | refine Ke.gd ?_
      | (refine Ke.ltM (Kx.set (by assumption) (fun _ => by decide) _) ?_; intro _ _)
      | (refine Ke.ltM (Kx.setl (by assumption) _ _ _) ?_; intro _ _)
      | (refine Ke.ltM (Kx.setr (by assumption) _ _ _) ?_; intro _ _)
      | (refine Ke.ltM (Kx.cpi (by assumption) (fun _ => by decide) _ _ _ _) ?_; intro _ _)
      | (refine Ke.ltM (Kx.cpl (by assumption) _ _ _ _ _) ?_; intro _ _)
      | (refine Ke.ltV ?_; intro _)
      | (apply k_f_M_tape_b33 <;> first | assumption)
      | (refine Ke.b2 (by first | (apply k_f_M_tape_b33 <;> first | assumption)) ?_; intro _ _ _)
      | (refine Ke.bdM (by first | (apply k_f_M_tape_b33 <;> first | assumption)) ?_; intro _ _)
      | (refine Ke.bdV ?_; intro _)
theorem k_f_M_item (p1 : Int32) (p2 : Int32) (p3 : Int64) {M0 M : Mem}  (h : Kx true M0 M) : Ke true M0 (f_M_item p1 p2 p3 M) := by
    unfold f_M_item
    repeat' with_reducible first
      | exact Ke.none
      | exact Ke.some (by assumption)
      | refine Ke.ite ?_ ?_
      | refine Ke.gd ?_
      | (refine Ke.ltM (Kx.set (by assumption) (fun _ => by decide) _) ?_; intro _ _)
      | (refine Ke.ltM (Kx.setl (by assumption) _ _ _) ?_; intro _ _)
      | (refine Ke.ltM (Kx.setr (by assumption) _ _ _) ?_; intro _ _)
      | (refine Ke.ltM (Kx.cpi (by assumption) (fun _ => by decide) _ _ _ _) ?_; intro _ _)
      | (refine Ke.ltM (Kx.cpl (by assumption) _ _ _ _ _) ?_; intro _ _)
      | (refine Ke.ltV ?_; intro _)
      | (refine Ke.bdV ?_; intro _)
theorem k_f_M_shift_l141  {M0 : Mem}  : ∀ (n : Nat) (w0 : Int32) (w1 : Int32) (w2 : Int32) (w3 : Int32) (M : Mem), Kx true M0 M → Ke true M0 (f_M_shift_l141  n w0 w1 w2 w3 M)
  | 0, _, _, _, _, _, _ => by
    simp only [f_M_shift_l141]
    exact Ke.none
  | n + 1, w0, w1, w2, w3, M, h => by
    simp only [f_M_shift_l141]
    repeat' with_reducible first
      | exact Ke.none
      | exact Ke.some (by assumption)
      | refine Ke.ite ?_ ?_
      | refine Ke.gd ?_
      | (refine Ke.ltM (Kx.set (by assumption) (fun _ => by decide) _) ?_; intro _ _)
      | (refine Ke.ltM (Kx.setl (by assumption) _ _ _) ?_; intro _ _)
      | (refine Ke.ltM (Kx.setr (by assumption) _ _ _) ?_; intro _ _)
      | (refine Ke.ltM (Kx.cpi (by assumption) (fun _ => by decide) _ _ _ _) ?_; intro _ _)
      | (refine Ke.ltM (Kx.cpl (by assumption) _ _ _ _ _) ?_; intro _ _)
      | (refine Ke.ltV ?_; intro _)
      | exact k_f_M_shift_l141 n _ _ _ _ _ (by assumption)
      | (refine Ke.b2 (by first | exact k_f_M_shift_l141 n _ _ _ _ _ (by assumption)) ?_; intro _ _ _)
      | (refine Ke.bdM (by first | exact k_f_M_shift_l141 n _ _ _ _ _ (by assumption)) ?_; intro _ _)
      | (refine Ke.bdV ?_; intro _)
theorem k_f_M_shift_l104  {M0 : Mem}  : ∀ (n : Nat) (w0 : Int32) (w1 : Int32) (w2 : Int32) (w3 : Int32) (w4 : Int32) (w5 : Int32) (M : Mem), Kx true M0 M → Ke true M0 (f_M_shift_l104  n w0 w1 w2 w3 w4 w5 M)
  | 0, _, _, _, _, _, _, _, _ => by
    simp only [f_M_shift_l104]
    exact Ke.none
  | n + 1, w0, w1, w2, w3, w4, w5, M, h => by
    simp only [f_M_shift_l104]
    repeat' with_reducible first
      | exact Ke.none
      | exact Ke.some (by assumption)
      | refine Ke.ite ?_ ?_
      | refine Ke.gd ?_
      | (refine Ke.ltM (Kx.set (by assumption) (fun _ => by decide) _) ?_; intro _ _)
      | (refine Ke.ltM (Kx.setl (by assumption) _ _ _) ?_; intro _ _)
      | (refine Ke.ltM (Kx.setr (by assumption) _ _ _) ?_; intro _ _)
      | (refine Ke.ltM (Kx.cpi (by assumption) (fun _ => by decide) _ _ _ _) ?_; intro _ _)
      | (refine Ke.ltM (Kx.cpl (by assumption) _ _ _ _ _) ?_; intro _ _)
      | (refine Ke.ltV ?_; intro _)
      | (apply k_f_M_shift_l141 <;> first | assumption | (intros; refine k_f_M_shift_l104 n _ _ _ _ _ _  _ ?_; assumption))
      | exact k_f_M_shift_l104 n _ _ _ _ _ _ _ (by assumption)
      | (refine Ke.b2 (by first | (apply k_f_M_shift_l141 <;> first | assumption | (intros; refine k_f_M_shift_l104 n _ _ _ _ _ _  _ ?_; assumption)) | exact k_f_M_shift_l104 n _ _ _ _ _ _ _ (by assumption)) ?_; intro _ _ _)
      | (refine Ke.bdM (by first | (apply k_f_M_shift_l141 <;> first | assumption | (intros; refine k_f_M_shift_l104 n _ _ _ _ _ _  _ ?_; assumption)) | exact k_f_M_shift_l104 n _ _ _ _ _ _ _ (by assumption)) ?_; intro _ _)
      | (refine Ke.bdV ?_; intro _)
theorem k_f_M_shift (p1 : Int32) (p2 : Int32) (p3 : Int32) (p4 : Int32) (p5 : Int32) {M0 M : Mem}  (h : Kx true M0 M) : Ke true M0 (f_M_shift p1 p2 p3 p4 p5 M) := by
    unfold f_M_shift
    repeat' with_reducible first
      | exact Ke.none
      | exact Ke.some (by assumption)
      | refine Ke.ite ?_ ?_
      | refine Ke.gd ?_
      | (refine Ke.ltM (Kx.set (by assumption) (fun _ => by decide) _) ?_; intro _ _)
      | (refine Ke.ltM (Kx.setl (by assumption) _ _ _) ?_; intro _ _)
      | (refine Ke.ltM (Kx.setr (by assumption) _ _ _) ?_; intro _ _)
      | (refine Ke.ltM (Kx.cpi (by assumption) (fun _ => by decide) _ _ _ _) ?_; intro _ _)
      | (refine Ke.ltM (Kx.cpl (by assumption) _ _ _ _ _) ?_; intro _ _)
      | (refine Ke.ltV ?_; intro _)
      | (apply k_f_M_shift_l104 <;> first | assumption)
      | (refine Ke.b2 (by first | (apply k_f_M_shift_l104 <;> first | assumption)) ?_; intro _ _ _)
      | (refine Ke.bdM (by first | (apply k_f_M_shift_l104 <;> first | assumption)) ?_; intro _ _)
      | (refine Ke.bdV ?_; intro _)
theorem k_f_Acts_forget  {M0 M : Mem}  (h : Kx false M0 M) : Ke1 false M0 (f_Acts_forget  M) := by
    unfold f_Acts_forget
    repeat' with_reducible first
      | exact Ke1.none
      | exact Ke1.some (by assumption)
      | refine Ke1.ite ?_ ?_
      | refine Ke1.gd ?_
      | (refine Ke1.ltM (Kx.set (by assumption) (fun z => absurd z (by decide)) _) ?_; intro _ _)
      | (refine Ke1.ltM (Kx.setl (by assumption) _ _ _) ?_; intro _ _)
      | (refine Ke1.ltM (Kx.setr (by assumption) _ _ _) ?_; intro _ _)
      | (refine Ke1.ltM (Kx.cpi (by assumption) (fun z => absurd z (by decide)) _ _ _ _) ?_; intro _ _)
      | (refine Ke1.ltM (Kx.cpl (by assumption) _ _ _ _ _) ?_; intro _ _)
      | (refine Ke1.ltV ?_; intro _)
      | (refine Ke1.bdV ?_; intro _)
theorem k_f_Acts_began (p1 : Int32) {M0 M : Mem}  (h : Kx false M0 M) : Ke1 false M0 (f_Acts_began p1 M) := by
    unfold f_Acts_began
    repeat' with_reducible first
      | exact Ke1.none
      | exact Ke1.some (by assumption)
      | refine Ke1.ite ?_ ?_
      | refine Ke1.gd ?_
      | (refine Ke1.ltM (Kx.set (by assumption) (fun z => absurd z (by decide)) _) ?_; intro _ _)
      | (refine Ke1.ltM (Kx.setl (by assumption) _ _ _) ?_; intro _ _)
      | (refine Ke1.ltM (Kx.setr (by assumption) _ _ _) ?_; intro _ _)
      | (refine Ke1.ltM (Kx.cpi (by assumption) (fun z => absurd z (by decide)) _ _ _ _) ?_; intro _ _)
      | (refine Ke1.ltM (Kx.cpl (by assumption) _ _ _ _ _) ?_; intro _ _)
      | (refine Ke1.ltV ?_; intro _)
      | (refine Ke1.bdV ?_; intro _)
theorem k_f_Acts_swells_b131 (rec : Nat → Int32 → Int32 → Int32 → Mem → Option (Int32 × Mem)) (v1 : Int32) (v2 : Int32) (v3 : Int32) {M0 M : Mem} (hrec : ∀ y0 y1 y2 y3 M, Kx false M0 M → Ke false M0 (rec y0 y1 y2 y3 M)) (h : Kx false M0 M) : Ke false M0 (f_Acts_swells_b131 rec v1 v2 v3 M) := by
    unfold f_Acts_swells_b131
    repeat' with_reducible first
      | exact Ke.none
      | exact Ke.some (by assumption)
      | refine Ke.ite ?_ ?_
      | refine Ke.gd ?_
      | (refine Ke.ltM (Kx.set (by assumption) (fun z => absurd z (by decide)) _) ?_; intro _ _)
      | (refine Ke.ltM (Kx.setl (by assumption) _ _ _) ?_; intro _ _)
      | (refine Ke.ltM (Kx.setr (by assumption) _ _ _) ?_; intro _ _)
      | (refine Ke.ltM (Kx.cpi (by assumption) (fun z => absurd z (by decide)) _ _ _ _) ?_; intro _ _)
      | (refine Ke.ltM (Kx.cpl (by assumption) _ _ _ _ _) ?_; intro _ _)
      | (refine Ke.ltV ?_; intro _)
      | (apply hrec; assumption)
      | (refine Ke.b2 (by first | (apply hrec; assumption)) ?_; intro _ _ _)
      | (refine Ke.bdM (by first | (apply hrec; assumption)) ?_; intro _ _)
      | (refine Ke.bdV ?_; intro _)
theorem k_f_Acts_swells (rec : Nat → Int32 → Int32 → Int32 → Mem → Option (Int32 × Mem)) (p1 : Int32) (p2 : Int32) (p3 : Int32) {M0 M : Mem} (hrec : ∀ y0 y1 y2 y3 M, Kx false M0 M → Ke false M0 (rec y0 y1 y2 y3 M)) (h : Kx false M0 M) : Ke false M0 (f_Acts_swells rec p1 p2 p3 M) := by
    unfold f_Acts_swells
    repeat' with_reducible first
      | exact Ke.none
      | exact Ke.some (by assumption)
      | refine Ke.ite ?_ ?_
      | refine Ke.gd ?_
      | (refine Ke.ltM (Kx.set (by assumption) (fun z => absurd z (by decide)) _) ?_; intro _ _)
      | (refine Ke.ltM (Kx.setl (by assumption) _ _ _) ?_; intro _ _)
      | (refine Ke.ltM (Kx.setr (by assumption) _ _ _) ?_; intro _ _)
      | (refine Ke.ltM (Kx.cpi (by assumption) (fun z => absurd z (by decide)) _ _ _ _) ?_; intro _ _)
      | (refine Ke.ltM (Kx.cpl (by assumption) _ _ _ _ _) ?_; intro _ _)
      | (refine Ke.ltV ?_; intro _)
      | (apply hrec; assumption)
      | (apply k_f_Acts_began <;> first | assumption | (intros; apply k_f_Acts_swells_b131 <;> assumption) | (intros; apply hrec <;> assumption))
      | (apply k_f_Acts_swells_b131 <;> first | assumption | (intros; apply k_f_Acts_began <;> assumption) | (intros; apply hrec <;> assumption))
      | (refine Ke.b2 (by first | (apply hrec; assumption) | (apply k_f_Acts_began <;> first | assumption | (intros; apply k_f_Acts_swells_b131 <;> assumption) | (intros; apply hrec <;> assumption)) | (apply k_f_Acts_swells_b131 <;> first | assumption | (intros; apply k_f_Acts_began <;> assumption) | (intros; apply hrec <;> assumption))) ?_; intro _ _ _)
      | (refine Ke.bdM (by first | (apply hrec; assumption) | (apply k_f_Acts_began <;> first | assumption | (intros; apply k_f_Acts_swells_b131 <;> assumption) | (intros; apply hrec <;> assumption)) | (apply k_f_Acts_swells_b131 <;> first | assumption | (intros; apply k_f_Acts_began <;> assumption) | (intros; apply hrec <;> assumption))) ?_; intro _ _)
      | (refine Ke.bdV ?_; intro _)
theorem k_f_rec_swells {M0 : Mem} : ∀ (n : Nat) (w0 : Nat) (w1 : Int32) (w2 : Int32) (w3 : Int32) (M : Mem), Kx false M0 M → Ke false M0 (f_rec_swells n w0 w1 w2 w3 M)
  | 0, _, _, _, _, _, _ => by
    simp only [f_rec_swells]
    exact Ke.none
  | n + 1, w0, w1, w2, w3, M, h => by
    simp only [f_rec_swells]
    exact k_f_Acts_swells _ _ _ _  (fun _ _ _ _ _ h => k_f_rec_swells n _ _ _ _  _ h) h
theorem k_f_Acts_hangs_b153 (rec : Nat → Int32 → Int32 → Int32 → Mem → Option (Int32 × Mem)) (v1 : Int32) (v2 : Int32) (v3 : Int32) {M0 M : Mem} (hrec : ∀ y0 y1 y2 y3 M, Kx false M0 M → Ke false M0 (rec y0 y1 y2 y3 M)) (h : Kx false M0 M) : Ke false M0 (f_Acts_hangs_b153 rec v1 v2 v3 M) := by
    unfold f_Acts_hangs_b153
    repeat' with_reducible first
      | exact Ke.none
      | exact Ke.some (by assumption)
      | refine Ke.ite ?_ ?_
      | refine Ke.gd ?_
      | (refine Ke.ltM (Kx.set (by assumption) (fun z => absurd z (by decide)) _) ?_; intro _ _)
      | (refine Ke.ltM (Kx.setl (by assumption) _ _ _) ?_; intro _ _)
      | (refine Ke.ltM (Kx.setr (by assumption) _ _ _) ?_; intro _ _)
      | (refine Ke.ltM (Kx.cpi (by assumption) (fun z => absurd z (by decide)) _ _ _ _) ?_; intro _ _)
      | (refine Ke.ltM (Kx.cpl (by assumption) _ _ _ _ _) ?_; intro _ _)
      | (refine Ke.ltV ?_; intro _)
      | (apply hrec; assumption)
      | (refine Ke.b2 (by first | (apply hrec; assumption)) ?_; intro _ _ _)
      | (refine Ke.bdM (by first | (apply hrec; assumption)) ?_; intro _ _)
      | (refine Ke.bdV ?_; intro _)
theorem k_f_Acts_hangs (rec : Nat → Int32 → Int32 → Int32 → Mem → Option (Int32 × Mem)) (p1 : Int32) (p2 : Int32) (p3 : Int32) {M0 M : Mem} (hrec : ∀ y0 y1 y2 y3 M, Kx false M0 M → Ke false M0 (rec y0 y1 y2 y3 M)) (h : Kx false M0 M) : Ke false M0 (f_Acts_hangs rec p1 p2 p3 M) := by
    unfold f_Acts_hangs
    repeat' with_reducible first
      | exact Ke.none
      | exact Ke.some (by assumption)
      | refine Ke.ite ?_ ?_
      | refine Ke.gd ?_
      | (refine Ke.ltM (Kx.set (by assumption) (fun z => absurd z (by decide)) _) ?_; intro _ _)
      | (refine Ke.ltM (Kx.setl (by assumption) _ _ _) ?_; intro _ _)
      | (refine Ke.ltM (Kx.setr (by assumption) _ _ _) ?_; intro _ _)
      | (refine Ke.ltM (Kx.cpi (by assumption) (fun z => absurd z (by decide)) _ _ _ _) ?_; intro _ _)
      | (refine Ke.ltM (Kx.cpl (by assumption) _ _ _ _ _) ?_; intro _ _)
      | (refine Ke.ltV ?_; intro _)
      | (apply hrec; assumption)
      | (apply k_f_Acts_began <;> first | assumption | (intros; apply k_f_rec_swells <;> assumption) | (intros; apply k_f_Acts_hangs_b153 <;> assumption) | (intros; apply hrec <;> assumption))
      | (apply k_f_rec_swells <;> first | assumption | (intros; apply k_f_Acts_began <;> assumption) | (intros; apply k_f_Acts_hangs_b153 <;> assumption) | (intros; apply hrec <;> assumption))
      | (apply k_f_Acts_hangs_b153 <;> first | assumption | (intros; apply k_f_Acts_began <;> assumption) | (intros; apply k_f_rec_swells <;> assumption) | (intros; apply hrec <;> assumption))
      | (refine Ke.b2 (by first | (apply hrec; assumption) | (apply k_f_Acts_began <;> first | assumption | (intros; apply k_f_rec_swells <;> assumption) | (intros; apply k_f_Acts_hangs_b153 <;> assumption) | (intros; apply hrec <;> assumption)) | (apply k_f_rec_swells <;> first | assumption | (intros; apply k_f_Acts_began <;> assumption) | (intros; apply k_f_Acts_hangs_b153 <;> assumption) | (intros; apply hrec <;> assumption)) | (apply k_f_Acts_hangs_b153 <;> first | assumption | (intros; apply k_f_Acts_began <;> assumption) | (intros; apply k_f_rec_swells <;> assumption) | (intros; apply hrec <;> assumption))) ?_; intro _ _ _)
      | (refine Ke.bdM (by first | (apply hrec; assumption) | (apply k_f_Acts_began <;> first | assumption | (intros; apply k_f_rec_swells <;> assumption) | (intros; apply k_f_Acts_hangs_b153 <;> assumption) | (intros; apply hrec <;> assumption)) | (apply k_f_rec_swells <;> first | assumption | (intros; apply k_f_Acts_began <;> assumption) | (intros; apply k_f_Acts_hangs_b153 <;> assumption) | (intros; apply hrec <;> assumption)) | (apply k_f_Acts_hangs_b153 <;> first | assumption | (intros; apply k_f_Acts_began <;> assumption) | (intros; apply k_f_rec_swells <;> assumption) | (intros; apply hrec <;> assumption))) ?_; intro _ _)
      | (refine Ke.bdV ?_; intro _)
theorem k_f_rec_hangs {M0 : Mem} : ∀ (n : Nat) (w0 : Nat) (w1 : Int32) (w2 : Int32) (w3 : Int32) (M : Mem), Kx false M0 M → Ke false M0 (f_rec_hangs n w0 w1 w2 w3 M)
  | 0, _, _, _, _, _, _ => by
    simp only [f_rec_hangs]
    exact Ke.none
  | n + 1, w0, w1, w2, w3, M, h => by
    simp only [f_rec_hangs]
    exact k_f_Acts_hangs _ _ _ _  (fun _ _ _ _ _ h => k_f_rec_hangs n _ _ _ _  _ h) h
theorem k_f_Acts_tells (rec : Nat → Int32 → Int32 → Int32 → Mem → Option (Int32 × Mem)) (p1 : Int32) (p2 : Int32) (p3 : Int32) {M0 M : Mem} (hrec : ∀ y0 y1 y2 y3 M, Kx false M0 M → Ke false M0 (rec y0 y1 y2 y3 M)) (h : Kx false M0 M) : Ke false M0 (f_Acts_tells rec p1 p2 p3 M) := by
    unfold f_Acts_tells
    repeat' with_reducible first
      | exact Ke.none
      | exact Ke.some (by assumption)
      | refine Ke.ite ?_ ?_
      | refine Ke.gd ?_
      | (refine Ke.ltM (Kx.set (by assumption) (fun z => absurd z (by decide)) _) ?_; intro _ _)
      | (refine Ke.ltM (Kx.setl (by assumption) _ _ _) ?_; intro _ _)
      | (refine Ke.ltM (Kx.setr (by assumption) _ _ _) ?_; intro _ _)
      | (refine Ke.ltM (Kx.cpi (by assumption) (fun z => absurd z (by decide)) _ _ _ _) ?_; intro _ _)
      | (refine Ke.ltM (Kx.cpl (by assumption) _ _ _ _ _) ?_; intro _ _)
      | (refine Ke.ltV ?_; intro _)
      | (apply hrec; assumption)
      | (apply k_f_Acts_began <;> first | assumption | (intros; apply k_f_rec_hangs <;> assumption) | (intros; apply hrec <;> assumption))
      | (apply k_f_rec_hangs <;> first | assumption | (intros; apply k_f_Acts_began <;> assumption) | (intros; apply hrec <;> assumption))
      | (refine Ke.b2 (by first | (apply hrec; assumption) | (apply k_f_Acts_began <;> first | assumption | (intros; apply k_f_rec_hangs <;> assumption) | (intros; apply hrec <;> assumption)) | (apply k_f_rec_hangs <;> first | assumption | (intros; apply k_f_Acts_began <;> assumption) | (intros; apply hrec <;> assumption))) ?_; intro _ _ _)
      | (refine Ke.bdM (by first | (apply hrec; assumption) | (apply k_f_Acts_began <;> first | assumption | (intros; apply k_f_rec_hangs <;> assumption) | (intros; apply hrec <;> assumption)) | (apply k_f_rec_hangs <;> first | assumption | (intros; apply k_f_Acts_began <;> assumption) | (intros; apply hrec <;> assumption))) ?_; intro _ _)
      | (refine Ke.bdV ?_; intro _)
theorem k_f_rec_tells {M0 : Mem} : ∀ (n : Nat) (w0 : Nat) (w1 : Int32) (w2 : Int32) (w3 : Int32) (M : Mem), Kx false M0 M → Ke false M0 (f_rec_tells n w0 w1 w2 w3 M)
  | 0, _, _, _, _, _, _ => by
    simp only [f_rec_tells]
    exact Ke.none
  | n + 1, w0, w1, w2, w3, M, h => by
    simp only [f_rec_tells]
    exact k_f_Acts_tells _ _ _ _  (fun _ _ _ _ _ h => k_f_rec_tells n _ _ _ _  _ h) h
theorem k_f_Acts_perform (p1 : Nat) (p2 : Int32) (p3 : Int32) {M0 M : Mem}  (h : Kx false M0 M) : Ke false M0 (f_Acts_perform p1 p2 p3 M) := by
    unfold f_Acts_perform
    repeat' with_reducible first
      | exact Ke.none
      | exact Ke.some (by assumption)
      | refine Ke.ite ?_ ?_
      | refine Ke.gd ?_
      | (refine Ke.ltM (Kx.set (by assumption) (fun z => absurd z (by decide)) _) ?_; intro _ _)
      | (refine Ke.ltM (Kx.setl (by assumption) _ _ _) ?_; intro _ _)
      | (refine Ke.ltM (Kx.setr (by assumption) _ _ _) ?_; intro _ _)
      | (refine Ke.ltM (Kx.cpi (by assumption) (fun z => absurd z (by decide)) _ _ _ _) ?_; intro _ _)
      | (refine Ke.ltM (Kx.cpl (by assumption) _ _ _ _ _) ?_; intro _ _)
      | (refine Ke.ltV ?_; intro _)
      | (apply k_f_rec_swells <;> first | assumption | (intros; apply k_f_rec_hangs <;> assumption) | (intros; apply k_f_rec_tells <;> assumption))
      | (apply k_f_rec_hangs <;> first | assumption | (intros; apply k_f_rec_swells <;> assumption) | (intros; apply k_f_rec_tells <;> assumption))
      | (apply k_f_rec_tells <;> first | assumption | (intros; apply k_f_rec_swells <;> assumption) | (intros; apply k_f_rec_hangs <;> assumption))
      | (refine Ke.b2 (by first | (apply k_f_rec_swells <;> first | assumption | (intros; apply k_f_rec_hangs <;> assumption) | (intros; apply k_f_rec_tells <;> assumption)) | (apply k_f_rec_hangs <;> first | assumption | (intros; apply k_f_rec_swells <;> assumption) | (intros; apply k_f_rec_tells <;> assumption)) | (apply k_f_rec_tells <;> first | assumption | (intros; apply k_f_rec_swells <;> assumption) | (intros; apply k_f_rec_hangs <;> assumption))) ?_; intro _ _ _)
      | (refine Ke.bdM (by first | (apply k_f_rec_swells <;> first | assumption | (intros; apply k_f_rec_hangs <;> assumption) | (intros; apply k_f_rec_tells <;> assumption)) | (apply k_f_rec_hangs <;> first | assumption | (intros; apply k_f_rec_swells <;> assumption) | (intros; apply k_f_rec_tells <;> assumption)) | (apply k_f_rec_tells <;> first | assumption | (intros; apply k_f_rec_swells <;> assumption) | (intros; apply k_f_rec_hangs <;> assumption))) ?_; intro _ _)
      | (refine Ke.bdV ?_; intro _)
theorem k_f_Dr_become (t : Nat) (p1 : Nat) {M0 M : Mem} (h : Kx false M0 M) : Ke1 false M0 (f_Dr_become t p1 M) := by
  unfold f_Dr_become
  refine Ke1.ltM (Kx.set h (fun z => absurd z Bool.false_ne_true) _) (fun _ h => ?_)
  refine Ke1.ltM (Kx.set h (fun z => absurd z Bool.false_ne_true) _) (fun _ h => ?_)
  refine Ke1.ltM (Kx.set h (fun z => absurd z Bool.false_ne_true) _) (fun _ h => ?_)
  refine Ke1.ltM (Kx.set h (fun z => absurd z Bool.false_ne_true) _) (fun _ h => ?_)
  refine Ke1.ltM (Kx.set h (fun z => absurd z Bool.false_ne_true) _) (fun _ h => ?_)
  refine Ke1.gd (Ke1.ltM (Kx.cpi h (fun z => absurd z Bool.false_ne_true) _ _ _ _) (fun _ h => ?_))
  refine Ke1.gd (Ke1.ltM (Kx.cpi h (fun z => absurd z Bool.false_ne_true) _ _ _ _) (fun _ h => ?_))
  refine Ke1.gd (Ke1.ltM (Kx.cpi h (fun z => absurd z Bool.false_ne_true) _ _ _ _) (fun _ h => ?_))
  exact Ke1.some h
theorem k_f_Dr_factsIn (t : Nat) (p1 : Int32) {M0 M : Mem}  (h : Kx false M0 M) : Ke false M0 (f_Dr_factsIn t p1 M) := by
    unfold f_Dr_factsIn
    repeat' with_reducible first
      | exact Ke.none
      | exact Ke.some (by assumption)
      | refine Ke.ite ?_ ?_
      | refine Ke.gd ?_
      | (refine Ke.ltM (Kx.set (by assumption) (fun z => absurd z (by decide)) _) ?_; intro _ _)
      | (refine Ke.ltM (Kx.setl (by assumption) _ _ _) ?_; intro _ _)
      | (refine Ke.ltM (Kx.setr (by assumption) _ _ _) ?_; intro _ _)
      | (refine Ke.ltM (Kx.cpi (by assumption) (fun z => absurd z (by decide)) _ _ _ _) ?_; intro _ _)
      | (refine Ke.ltM (Kx.cpl (by assumption) _ _ _ _ _) ?_; intro _ _)
      | (refine Ke.ltV ?_; intro _)
      | (refine Ke.bdV ?_; intro _)
theorem k_f_Co_settle_b40 (t : Nat) (s0 : Int32) {M0 M : Mem}  (h : Kx false M0 M) : Ke1 false M0 (f_Co_settle_b40 t s0 M) := by
    unfold f_Co_settle_b40
    repeat' with_reducible first
      | exact Ke1.none
      | exact Ke1.some (by assumption)
      | refine Ke1.ite ?_ ?_
      | refine Ke1.gd ?_
      | (refine Ke1.ltM (Kx.set (by assumption) (fun z => absurd z (by decide)) _) ?_; intro _ _)
      | (refine Ke1.ltM (Kx.setl (by assumption) _ _ _) ?_; intro _ _)
      | (refine Ke1.ltM (Kx.setr (by assumption) _ _ _) ?_; intro _ _)
      | (refine Ke1.ltM (Kx.cpi (by assumption) (fun z => absurd z (by decide)) _ _ _ _) ?_; intro _ _)
      | (refine Ke1.ltM (Kx.cpl (by assumption) _ _ _ _ _) ?_; intro _ _)
      | (refine Ke1.ltV ?_; intro _)
      | (refine Ke1.bdV ?_; intro _)
theorem k_f_Co_settle (t : Nat) {M0 M : Mem}  (h : Kx false M0 M) : Ke1 false M0 (f_Co_settle t M) := by
    unfold f_Co_settle
    repeat' with_reducible first
      | exact Ke1.none
      | exact Ke1.some (by assumption)
      | refine Ke1.ite ?_ ?_
      | refine Ke1.gd ?_
      | (refine Ke1.ltM (Kx.set (by assumption) (fun z => absurd z (by decide)) _) ?_; intro _ _)
      | (refine Ke1.ltM (Kx.setl (by assumption) _ _ _) ?_; intro _ _)
      | (refine Ke1.ltM (Kx.setr (by assumption) _ _ _) ?_; intro _ _)
      | (refine Ke1.ltM (Kx.cpi (by assumption) (fun z => absurd z (by decide)) _ _ _ _) ?_; intro _ _)
      | (refine Ke1.ltM (Kx.cpl (by assumption) _ _ _ _ _) ?_; intro _ _)
      | (refine Ke1.ltV ?_; intro _)
      | (apply k_f_Dr_factsIn <;> first | assumption | (intros; apply k_f_Co_settle_b40 <;> assumption))
      | (apply k_f_Co_settle_b40 <;> first | assumption | (intros; apply k_f_Dr_factsIn <;> assumption))
      | (refine Ke1.b2 (by first | (apply k_f_Dr_factsIn <;> first | assumption | (intros; apply k_f_Co_settle_b40 <;> assumption)) | (apply k_f_Co_settle_b40 <;> first | assumption | (intros; apply k_f_Dr_factsIn <;> assumption))) ?_; intro _ _ _)
      | (refine Ke1.bdM (by first | (apply k_f_Dr_factsIn <;> first | assumption | (intros; apply k_f_Co_settle_b40 <;> assumption)) | (apply k_f_Co_settle_b40 <;> first | assumption | (intros; apply k_f_Dr_factsIn <;> assumption))) ?_; intro _ _)
      | (refine Ke1.bdV ?_; intro _)
theorem k_f_Co_begin (t : Nat) (p1 : Nat) (p2 : Nat) (p3 : Nat) {M0 M : Mem} (h : Kx false M0 M) : Ke1 false M0 (f_Co_begin t p1 p2 p3 M) := by
  unfold f_Co_begin
  refine Ke1.ltM (Kx.setr h _ _ _) (fun _ h => ?_)
  refine Ke1.bdM (k_f_Dr_become _ _ h) (fun _ h => ?_)
  refine Ke1.gd (Ke1.ltM (Kx.cpi h (fun z => absurd z Bool.false_ne_true) _ _ _ _) (fun _ h => ?_))
  refine Ke1.ltM (Kx.set h (fun z => absurd z Bool.false_ne_true) _) (fun _ h => ?_)
  refine Ke1.ltM (Kx.set h (fun z => absurd z Bool.false_ne_true) _) (fun _ h => ?_)
  exact Ke1.bdM (k_f_Co_settle _ h) (fun _ h => Ke1.some h)
theorem k_f_Dr_takeUp_l2 (t : Nat) {M0 : Mem}  : ∀ (n : Nat) (w0 : Int32) (w1 : Int32) (M : Mem), Kx false M0 M → Ke1 false M0 (f_Dr_takeUp_l2 t n w0 w1 M)
  | 0, _, _, _, _ => by
    simp only [f_Dr_takeUp_l2]
    exact Ke1.none
  | n + 1, w0, w1, M, h => by
    simp only [f_Dr_takeUp_l2]
    repeat' with_reducible first
      | exact Ke1.none
      | exact Ke1.some (by assumption)
      | refine Ke1.ite ?_ ?_
      | refine Ke1.gd ?_
      | (refine Ke1.ltM (Kx.set (by assumption) (fun z => absurd z (by decide)) _) ?_; intro _ _)
      | (refine Ke1.ltM (Kx.setl (by assumption) _ _ _) ?_; intro _ _)
      | (refine Ke1.ltM (Kx.setr (by assumption) _ _ _) ?_; intro _ _)
      | (refine Ke1.ltM (Kx.cpi (by assumption) (fun z => absurd z (by decide)) _ _ _ _) ?_; intro _ _)
      | (refine Ke1.ltM (Kx.cpl (by assumption) _ _ _ _ _) ?_; intro _ _)
      | (refine Ke1.ltV ?_; intro _)
      | exact k_f_Dr_takeUp_l2 t n _ _ _ (by assumption)
      | (refine Ke1.b2 (by first | exact k_f_Dr_takeUp_l2 t n _ _ _ (by assumption)) ?_; intro _ _ _)
      | (refine Ke1.bdM (by first | exact k_f_Dr_takeUp_l2 t n _ _ _ (by assumption)) ?_; intro _ _)
      | (refine Ke1.bdV ?_; intro _)
theorem k_f_Dr_takeUp (t : Nat) (p1 : Int32) {M0 M : Mem}  (h : Kx false M0 M) : Ke1 false M0 (f_Dr_takeUp t p1 M) := by
    unfold f_Dr_takeUp
    repeat' with_reducible first
      | exact Ke1.none
      | exact Ke1.some (by assumption)
      | refine Ke1.ite ?_ ?_
      | refine Ke1.gd ?_
      | (refine Ke1.ltM (Kx.set (by assumption) (fun z => absurd z (by decide)) _) ?_; intro _ _)
      | (refine Ke1.ltM (Kx.setl (by assumption) _ _ _) ?_; intro _ _)
      | (refine Ke1.ltM (Kx.setr (by assumption) _ _ _) ?_; intro _ _)
      | (refine Ke1.ltM (Kx.cpi (by assumption) (fun z => absurd z (by decide)) _ _ _ _) ?_; intro _ _)
      | (refine Ke1.ltM (Kx.cpl (by assumption) _ _ _ _ _) ?_; intro _ _)
      | (refine Ke1.ltV ?_; intro _)
      | (apply k_f_Dr_takeUp_l2 <;> first | assumption)
      | (refine Ke1.b2 (by first | (apply k_f_Dr_takeUp_l2 <;> first | assumption)) ?_; intro _ _ _)
      | (refine Ke1.bdM (by first | (apply k_f_Dr_takeUp_l2 <;> first | assumption)) ?_; intro _ _)
      | (refine Ke1.bdV ?_; intro _)
theorem k_f_Dr_drawOut (t : Nat) (p1 : Int32) {M0 M : Mem}  (h : Kx false M0 M) : Ke1 false M0 (f_Dr_drawOut t p1 M) := by
    unfold f_Dr_drawOut
    repeat' with_reducible first
      | exact Ke1.none
      | exact Ke1.some (by assumption)
      | refine Ke1.ite ?_ ?_
      | refine Ke1.gd ?_
      | (refine Ke1.ltM (Kx.set (by assumption) (fun z => absurd z (by decide)) _) ?_; intro _ _)
      | (refine Ke1.ltM (Kx.setl (by assumption) _ _ _) ?_; intro _ _)
      | (refine Ke1.ltM (Kx.setr (by assumption) _ _ _) ?_; intro _ _)
      | (refine Ke1.ltM (Kx.cpi (by assumption) (fun z => absurd z (by decide)) _ _ _ _) ?_; intro _ _)
      | (refine Ke1.ltM (Kx.cpl (by assumption) _ _ _ _ _) ?_; intro _ _)
      | (refine Ke1.ltV ?_; intro _)
      | (refine Ke1.bdV ?_; intro _)
theorem k_f_Co_pass (t : Nat) (p1 : Int32) {M0 M : Mem}  (h : Kx false M0 M) : Ke1 false M0 (f_Co_pass t p1 M) := by
    unfold f_Co_pass
    repeat' with_reducible first
      | exact Ke1.none
      | exact Ke1.some (by assumption)
      | refine Ke1.ite ?_ ?_
      | refine Ke1.gd ?_
      | (refine Ke1.ltM (Kx.set (by assumption) (fun z => absurd z (by decide)) _) ?_; intro _ _)
      | (refine Ke1.ltM (Kx.setl (by assumption) _ _ _) ?_; intro _ _)
      | (refine Ke1.ltM (Kx.setr (by assumption) _ _ _) ?_; intro _ _)
      | (refine Ke1.ltM (Kx.cpi (by assumption) (fun z => absurd z (by decide)) _ _ _ _) ?_; intro _ _)
      | (refine Ke1.ltM (Kx.cpl (by assumption) _ _ _ _ _) ?_; intro _ _)
      | (refine Ke1.ltV ?_; intro _)
      | (apply k_f_Dr_takeUp <;> first | assumption | (intros; apply k_f_Dr_factsIn <;> assumption) | (intros; apply k_f_Dr_drawOut <;> assumption))
      | (apply k_f_Dr_factsIn <;> first | assumption | (intros; apply k_f_Dr_takeUp <;> assumption) | (intros; apply k_f_Dr_drawOut <;> assumption))
      | (apply k_f_Dr_drawOut <;> first | assumption | (intros; apply k_f_Dr_takeUp <;> assumption) | (intros; apply k_f_Dr_factsIn <;> assumption))
      | (refine Ke1.b2 (by first | (apply k_f_Dr_takeUp <;> first | assumption | (intros; apply k_f_Dr_factsIn <;> assumption) | (intros; apply k_f_Dr_drawOut <;> assumption)) | (apply k_f_Dr_factsIn <;> first | assumption | (intros; apply k_f_Dr_takeUp <;> assumption) | (intros; apply k_f_Dr_drawOut <;> assumption)) | (apply k_f_Dr_drawOut <;> first | assumption | (intros; apply k_f_Dr_takeUp <;> assumption) | (intros; apply k_f_Dr_factsIn <;> assumption))) ?_; intro _ _ _)
      | (refine Ke1.bdM (by first | (apply k_f_Dr_takeUp <;> first | assumption | (intros; apply k_f_Dr_factsIn <;> assumption) | (intros; apply k_f_Dr_drawOut <;> assumption)) | (apply k_f_Dr_factsIn <;> first | assumption | (intros; apply k_f_Dr_takeUp <;> assumption) | (intros; apply k_f_Dr_drawOut <;> assumption)) | (apply k_f_Dr_drawOut <;> first | assumption | (intros; apply k_f_Dr_takeUp <;> assumption) | (intros; apply k_f_Dr_factsIn <;> assumption))) ?_; intro _ _)
      | (refine Ke1.bdV ?_; intro _)
theorem k_f_Co_goInAir (t : Nat) (p1 : Int32) {M0 M : Mem}  (h : Kx false M0 M) : Ke1 false M0 (f_Co_goInAir t p1 M) := by
    unfold f_Co_goInAir
    repeat' with_reducible first
      | exact Ke1.none
      | exact Ke1.some (by assumption)
      | refine Ke1.ite ?_ ?_
      | refine Ke1.gd ?_
      | (refine Ke1.ltM (Kx.set (by assumption) (fun z => absurd z (by decide)) _) ?_; intro _ _)
      | (refine Ke1.ltM (Kx.setl (by assumption) _ _ _) ?_; intro _ _)
      | (refine Ke1.ltM (Kx.setr (by assumption) _ _ _) ?_; intro _ _)
      | (refine Ke1.ltM (Kx.cpi (by assumption) (fun z => absurd z (by decide)) _ _ _ _) ?_; intro _ _)
      | (refine Ke1.ltM (Kx.cpl (by assumption) _ _ _ _ _) ?_; intro _ _)
      | (refine Ke1.ltV ?_; intro _)
      | (apply k_f_Co_pass <;> first | assumption | (intros; apply k_f_Co_settle <;> assumption))
      | (apply k_f_Co_settle <;> first | assumption | (intros; apply k_f_Co_pass <;> assumption))
      | (refine Ke1.b2 (by first | (apply k_f_Co_pass <;> first | assumption | (intros; apply k_f_Co_settle <;> assumption)) | (apply k_f_Co_settle <;> first | assumption | (intros; apply k_f_Co_pass <;> assumption))) ?_; intro _ _ _)
      | (refine Ke1.bdM (by first | (apply k_f_Co_pass <;> first | assumption | (intros; apply k_f_Co_settle <;> assumption)) | (apply k_f_Co_settle <;> first | assumption | (intros; apply k_f_Co_pass <;> assumption))) ?_; intro _ _)
      | (refine Ke1.bdV ?_; intro _)
theorem k_f_Co_goOn_l2 (t : Nat) {M0 : Mem}  : ∀ (n : Nat) (w0 : Int32) (w1 : Int32) (M : Mem), Kx false M0 M → Ke1 false M0 (f_Co_goOn_l2 t n w0 w1 M)
  | 0, _, _, _, _ => by
    simp only [f_Co_goOn_l2]
    exact Ke1.none
  | n + 1, w0, w1, M, h => by
    simp only [f_Co_goOn_l2]
    repeat' with_reducible first
      | exact Ke1.none
      | exact Ke1.some (by assumption)
      | refine Ke1.ite ?_ ?_
      | refine Ke1.gd ?_
      | (refine Ke1.ltM (Kx.set (by assumption) (fun z => absurd z (by decide)) _) ?_; intro _ _)
      | (refine Ke1.ltM (Kx.setl (by assumption) _ _ _) ?_; intro _ _)
      | (refine Ke1.ltM (Kx.setr (by assumption) _ _ _) ?_; intro _ _)
      | (refine Ke1.ltM (Kx.cpi (by assumption) (fun z => absurd z (by decide)) _ _ _ _) ?_; intro _ _)
      | (refine Ke1.ltM (Kx.cpl (by assumption) _ _ _ _ _) ?_; intro _ _)
      | (refine Ke1.ltV ?_; intro _)
      | (apply k_f_Co_settle <;> first | assumption | (intros; apply k_f_Co_pass <;> assumption) | (intros; refine k_f_Co_goOn_l2 t n _ _  _ ?_; assumption))
      | (apply k_f_Co_pass <;> first | assumption | (intros; apply k_f_Co_settle <;> assumption) | (intros; refine k_f_Co_goOn_l2 t n _ _  _ ?_; assumption))
      | exact k_f_Co_goOn_l2 t n _ _ _ (by assumption)
      | (refine Ke1.b2 (by first | (apply k_f_Co_settle <;> first | assumption | (intros; apply k_f_Co_pass <;> assumption) | (intros; refine k_f_Co_goOn_l2 t n _ _  _ ?_; assumption)) | (apply k_f_Co_pass <;> first | assumption | (intros; apply k_f_Co_settle <;> assumption) | (intros; refine k_f_Co_goOn_l2 t n _ _  _ ?_; assumption)) | exact k_f_Co_goOn_l2 t n _ _ _ (by assumption)) ?_; intro _ _ _)
      | (refine Ke1.bdM (by first | (apply k_f_Co_settle <;> first | assumption | (intros; apply k_f_Co_pass <;> assumption) | (intros; refine k_f_Co_goOn_l2 t n _ _  _ ?_; assumption)) | (apply k_f_Co_pass <;> first | assumption | (intros; apply k_f_Co_settle <;> assumption) | (intros; refine k_f_Co_goOn_l2 t n _ _  _ ?_; assumption)) | exact k_f_Co_goOn_l2 t n _ _ _ (by assumption)) ?_; intro _ _)
      | (refine Ke1.bdV ?_; intro _)
theorem k_f_Co_goOn (t : Nat) (p1 : Int32) {M0 M : Mem}  (h : Kx false M0 M) : Ke1 false M0 (f_Co_goOn t p1 M) := by
    unfold f_Co_goOn
    repeat' with_reducible first
      | exact Ke1.none
      | exact Ke1.some (by assumption)
      | refine Ke1.ite ?_ ?_
      | refine Ke1.gd ?_
      | (refine Ke1.ltM (Kx.set (by assumption) (fun z => absurd z (by decide)) _) ?_; intro _ _)
      | (refine Ke1.ltM (Kx.setl (by assumption) _ _ _) ?_; intro _ _)
      | (refine Ke1.ltM (Kx.setr (by assumption) _ _ _) ?_; intro _ _)
      | (refine Ke1.ltM (Kx.cpi (by assumption) (fun z => absurd z (by decide)) _ _ _ _) ?_; intro _ _)
      | (refine Ke1.ltM (Kx.cpl (by assumption) _ _ _ _ _) ?_; intro _ _)
      | (refine Ke1.ltV ?_; intro _)
      | (apply k_f_Co_goOn_l2 <;> first | assumption)
      | (refine Ke1.b2 (by first | (apply k_f_Co_goOn_l2 <;> first | assumption)) ?_; intro _ _ _)
      | (refine Ke1.bdM (by first | (apply k_f_Co_goOn_l2 <;> first | assumption)) ?_; intro _ _)
      | (refine Ke1.bdV ?_; intro _)
theorem k_f_Co_goThrough_l65 (t : Nat) (K38 : Int32 → Int32 → Mem → Option Mem) {M0 : Mem} (hK38 : ∀ y0 y1 M, Kx false M0 M → Ke1 false M0 (K38 y0 y1 M)) : ∀ (n : Nat) (w0 : Int32) (w1 : Int32) (w2 : Int32) (M : Mem), Kx false M0 M → Ke1 false M0 (f_Co_goThrough_l65 t K38 n w0 w1 w2 M)
  | 0, _, _, _, _, _ => by
    simp only [f_Co_goThrough_l65]
    exact Ke1.none
  | n + 1, w0, w1, w2, M, h => by
    simp only [f_Co_goThrough_l65]
    repeat' with_reducible first
      | exact Ke1.none
      | exact Ke1.some (by assumption)
      | refine Ke1.ite ?_ ?_
      | refine Ke1.gd ?_
      | (refine Ke1.ltM (Kx.set (by assumption) (fun z => absurd z (by decide)) _) ?_; intro _ _)
      | (refine Ke1.ltM (Kx.setl (by assumption) _ _ _) ?_; intro _ _)
      | (refine Ke1.ltM (Kx.setr (by assumption) _ _ _) ?_; intro _ _)
      | (refine Ke1.ltM (Kx.cpi (by assumption) (fun z => absurd z (by decide)) _ _ _ _) ?_; intro _ _)
      | (refine Ke1.ltM (Kx.cpl (by assumption) _ _ _ _ _) ?_; intro _ _)
      | (refine Ke1.ltV ?_; intro _)
      | (apply hK38; assumption)
      | exact k_f_Co_goThrough_l65 t K38 hK38 n _ _ _ _ (by assumption)
      | (refine Ke1.b2 (by first | (apply hK38; assumption) | exact k_f_Co_goThrough_l65 t K38 hK38 n _ _ _ _ (by assumption)) ?_; intro _ _ _)
      | (refine Ke1.bdM (by first | (apply hK38; assumption) | exact k_f_Co_goThrough_l65 t K38 hK38 n _ _ _ _ (by assumption)) ?_; intro _ _)
      | (refine Ke1.bdV ?_; intro _)
theorem k_f_Co_goThrough_l38 (t : Nat) {M0 : Mem}  : ∀ (n : Nat) (w0 : Int32) (w1 : Int32) (M : Mem), Kx false M0 M → Ke1 false M0 (f_Co_goThrough_l38 t n w0 w1 M)
  | 0, _, _, _, _ => by
    simp only [f_Co_goThrough_l38]
    exact Ke1.none
  | n + 1, w0, w1, M, h => by
    simp only [f_Co_goThrough_l38]
    repeat' with_reducible first
      | exact Ke1.none
      | exact Ke1.some (by assumption)
      | refine Ke1.ite ?_ ?_
      | refine Ke1.gd ?_
      | (refine Ke1.ltM (Kx.set (by assumption) (fun z => absurd z (by decide)) _) ?_; intro _ _)
      | (refine Ke1.ltM (Kx.setl (by assumption) _ _ _) ?_; intro _ _)
      | (refine Ke1.ltM (Kx.setr (by assumption) _ _ _) ?_; intro _ _)
      | (refine Ke1.ltM (Kx.cpi (by assumption) (fun z => absurd z (by decide)) _ _ _ _) ?_; intro _ _)
      | (refine Ke1.ltM (Kx.cpl (by assumption) _ _ _ _ _) ?_; intro _ _)
      | (refine Ke1.ltV ?_; intro _)
      | (apply k_f_Co_pass <;> first | assumption | (intros; apply k_f_Co_settle <;> assumption) | (intros; apply k_f_Co_goThrough_l65 <;> assumption) | (intros; refine k_f_Co_goThrough_l38 t n _ _  _ ?_; assumption))
      | (apply k_f_Co_settle <;> first | assumption | (intros; apply k_f_Co_pass <;> assumption) | (intros; apply k_f_Co_goThrough_l65 <;> assumption) | (intros; refine k_f_Co_goThrough_l38 t n _ _  _ ?_; assumption))
      | (apply k_f_Co_goThrough_l65 <;> first | assumption | (intros; apply k_f_Co_pass <;> assumption) | (intros; apply k_f_Co_settle <;> assumption) | (intros; refine k_f_Co_goThrough_l38 t n _ _  _ ?_; assumption))
      | exact k_f_Co_goThrough_l38 t n _ _ _ (by assumption)
      | (refine Ke1.b2 (by first | (apply k_f_Co_pass <;> first | assumption | (intros; apply k_f_Co_settle <;> assumption) | (intros; apply k_f_Co_goThrough_l65 <;> assumption) | (intros; refine k_f_Co_goThrough_l38 t n _ _  _ ?_; assumption)) | (apply k_f_Co_settle <;> first | assumption | (intros; apply k_f_Co_pass <;> assumption) | (intros; apply k_f_Co_goThrough_l65 <;> assumption) | (intros; refine k_f_Co_goThrough_l38 t n _ _  _ ?_; assumption)) | (apply k_f_Co_goThrough_l65 <;> first | assumption | (intros; apply k_f_Co_pass <;> assumption) | (intros; apply k_f_Co_settle <;> assumption) | (intros; refine k_f_Co_goThrough_l38 t n _ _  _ ?_; assumption)) | exact k_f_Co_goThrough_l38 t n _ _ _ (by assumption)) ?_; intro _ _ _)
      | (refine Ke1.bdM (by first | (apply k_f_Co_pass <;> first | assumption | (intros; apply k_f_Co_settle <;> assumption) | (intros; apply k_f_Co_goThrough_l65 <;> assumption) | (intros; refine k_f_Co_goThrough_l38 t n _ _  _ ?_; assumption)) | (apply k_f_Co_settle <;> first | assumption | (intros; apply k_f_Co_pass <;> assumption) | (intros; apply k_f_Co_goThrough_l65 <;> assumption) | (intros; refine k_f_Co_goThrough_l38 t n _ _  _ ?_; assumption)) | (apply k_f_Co_goThrough_l65 <;> first | assumption | (intros; apply k_f_Co_pass <;> assumption) | (intros; apply k_f_Co_settle <;> assumption) | (intros; refine k_f_Co_goThrough_l38 t n _ _  _ ?_; assumption)) | exact k_f_Co_goThrough_l38 t n _ _ _ (by assumption)) ?_; intro _ _)
      | (refine Ke1.bdV ?_; intro _)
theorem k_f_Co_goThrough_l2 (t : Nat) {M0 : Mem}  : ∀ (n : Nat) (w0 : Int32) (w1 : Int32) (M : Mem), Kx false M0 M → Ke1 false M0 (f_Co_goThrough_l2 t n w0 w1 M)
  | 0, _, _, _, _ => by
    simp only [f_Co_goThrough_l2]
    exact Ke1.none
  | n + 1, w0, w1, M, h => by
    simp only [f_Co_goThrough_l2]
    repeat' with_reducible first
      | exact Ke1.none
      | exact Ke1.some (by assumption)
      | refine Ke1.ite ?_ ?_
      | refine Ke1.gd ?_
      | (refine Ke1.ltM (Kx.set (by assumption) (fun z => absurd z (by decide)) _) ?_; intro _ _)
      | (refine Ke1.ltM (Kx.setl (by assumption) _ _ _) ?_; intro _ _)
      | (refine Ke1.ltM (Kx.setr (by assumption) _ _ _) ?_; intro _ _)
      | (refine Ke1.ltM (Kx.cpi (by assumption) (fun z => absurd z (by decide)) _ _ _ _) ?_; intro _ _)
      | (refine Ke1.ltM (Kx.cpl (by assumption) _ _ _ _ _) ?_; intro _ _)
      | (refine Ke1.ltV ?_; intro _)
      | (apply k_f_Co_goThrough_l38 <;> first | assumption | (intros; refine k_f_Co_goThrough_l2 t n _ _  _ ?_; assumption))
      | exact k_f_Co_goThrough_l2 t n _ _ _ (by assumption)
      | (refine Ke1.b2 (by first | (apply k_f_Co_goThrough_l38 <;> first | assumption | (intros; refine k_f_Co_goThrough_l2 t n _ _  _ ?_; assumption)) | exact k_f_Co_goThrough_l2 t n _ _ _ (by assumption)) ?_; intro _ _ _)
      | (refine Ke1.bdM (by first | (apply k_f_Co_goThrough_l38 <;> first | assumption | (intros; refine k_f_Co_goThrough_l2 t n _ _  _ ?_; assumption)) | exact k_f_Co_goThrough_l2 t n _ _ _ (by assumption)) ?_; intro _ _)
      | (refine Ke1.bdV ?_; intro _)
theorem k_f_Co_goThrough (t : Nat) (p1 : Int32) {M0 M : Mem}  (h : Kx false M0 M) : Ke1 false M0 (f_Co_goThrough t p1 M) := by
    unfold f_Co_goThrough
    repeat' with_reducible first
      | exact Ke1.none
      | exact Ke1.some (by assumption)
      | refine Ke1.ite ?_ ?_
      | refine Ke1.gd ?_
      | (refine Ke1.ltM (Kx.set (by assumption) (fun z => absurd z (by decide)) _) ?_; intro _ _)
      | (refine Ke1.ltM (Kx.setl (by assumption) _ _ _) ?_; intro _ _)
      | (refine Ke1.ltM (Kx.setr (by assumption) _ _ _) ?_; intro _ _)
      | (refine Ke1.ltM (Kx.cpi (by assumption) (fun z => absurd z (by decide)) _ _ _ _) ?_; intro _ _)
      | (refine Ke1.ltM (Kx.cpl (by assumption) _ _ _ _ _) ?_; intro _ _)
      | (refine Ke1.ltV ?_; intro _)
      | (apply k_f_Co_goThrough_l2 <;> first | assumption)
      | (refine Ke1.b2 (by first | (apply k_f_Co_goThrough_l2 <;> first | assumption)) ?_; intro _ _ _)
      | (refine Ke1.bdM (by first | (apply k_f_Co_goThrough_l2 <;> first | assumption)) ?_; intro _ _)
      | (refine Ke1.bdV ?_; intro _)
theorem k_f_Ar_fillI_l5 (p1 : Nat) {M0 : Mem}  : ∀ (n : Nat) (w0 : Int32) (w1 : Int32) (w2 : Int32) (M : Mem), Kx false M0 M → Ke1 false M0 (f_Ar_fillI_l5 p1 n w0 w1 w2 M)
  | 0, _, _, _, _, _ => by
    simp only [f_Ar_fillI_l5]
    exact Ke1.none
  | n + 1, w0, w1, w2, M, h => by
    simp only [f_Ar_fillI_l5]
    repeat' with_reducible first
      | exact Ke1.none
      | exact Ke1.some (by assumption)
      | refine Ke1.ite ?_ ?_
      | refine Ke1.gd ?_
      | (refine Ke1.ltM (Kx.set (by assumption) (fun z => absurd z (by decide)) _) ?_; intro _ _)
      | (refine Ke1.ltM (Kx.setl (by assumption) _ _ _) ?_; intro _ _)
      | (refine Ke1.ltM (Kx.setr (by assumption) _ _ _) ?_; intro _ _)
      | (refine Ke1.ltM (Kx.cpi (by assumption) (fun z => absurd z (by decide)) _ _ _ _) ?_; intro _ _)
      | (refine Ke1.ltM (Kx.cpl (by assumption) _ _ _ _ _) ?_; intro _ _)
      | (refine Ke1.ltV ?_; intro _)
      | exact k_f_Ar_fillI_l5 p1 n _ _ _ _ (by assumption)
      | (refine Ke1.b2 (by first | exact k_f_Ar_fillI_l5 p1 n _ _ _ _ (by assumption)) ?_; intro _ _ _)
      | (refine Ke1.bdM (by first | exact k_f_Ar_fillI_l5 p1 n _ _ _ _ (by assumption)) ?_; intro _ _)
      | (refine Ke1.bdV ?_; intro _)
theorem k_f_Ar_fillI (p1 : Nat) (p2 : Int32) {M0 M : Mem}  (h : Kx false M0 M) : Ke1 false M0 (f_Ar_fillI p1 p2 M) := by
    unfold f_Ar_fillI
    repeat' with_reducible first
      | exact Ke1.none
      | exact Ke1.some (by assumption)
      | refine Ke1.ite ?_ ?_
      | refine Ke1.gd ?_
      | (refine Ke1.ltM (Kx.set (by assumption) (fun z => absurd z (by decide)) _) ?_; intro _ _)
      | (refine Ke1.ltM (Kx.setl (by assumption) _ _ _) ?_; intro _ _)
      | (refine Ke1.ltM (Kx.setr (by assumption) _ _ _) ?_; intro _ _)
      | (refine Ke1.ltM (Kx.cpi (by assumption) (fun z => absurd z (by decide)) _ _ _ _) ?_; intro _ _)
      | (refine Ke1.ltM (Kx.cpl (by assumption) _ _ _ _ _) ?_; intro _ _)
      | (refine Ke1.ltV ?_; intro _)
      | (apply k_f_Ar_fillI_l5 <;> first | assumption)
      | (refine Ke1.b2 (by first | (apply k_f_Ar_fillI_l5 <;> first | assumption)) ?_; intro _ _ _)
      | (refine Ke1.bdM (by first | (apply k_f_Ar_fillI_l5 <;> first | assumption)) ?_; intro _ _)
      | (refine Ke1.bdV ?_; intro _)
theorem k_f_Dr_begin (t : Nat) (p1 : Int32) (p2 : Int32) (p3 : Int32) {M0 M : Mem}  (h : Kx false M0 M) : Ke1 false M0 (f_Dr_begin t p1 p2 p3 M) := by
    unfold f_Dr_begin
    repeat' with_reducible first
      | exact Ke1.none
      | exact Ke1.some (by assumption)
      | refine Ke1.ite ?_ ?_
      | refine Ke1.gd ?_
      | (refine Ke1.ltM (Kx.set (by assumption) (fun z => absurd z (by decide)) _) ?_; intro _ _)
      | (refine Ke1.ltM (Kx.setl (by assumption) _ _ _) ?_; intro _ _)
      | (refine Ke1.ltM (Kx.setr (by assumption) _ _ _) ?_; intro _ _)
      | (refine Ke1.ltM (Kx.cpi (by assumption) (fun z => absurd z (by decide)) _ _ _ _) ?_; intro _ _)
      | (refine Ke1.ltM (Kx.cpl (by assumption) _ _ _ _ _) ?_; intro _ _)
      | (refine Ke1.ltV ?_; intro _)
      | (apply k_f_Ar_fillI <;> first | assumption)
      | (refine Ke1.b2 (by first | (apply k_f_Ar_fillI <;> first | assumption)) ?_; intro _ _ _)
      | (refine Ke1.bdM (by first | (apply k_f_Ar_fillI <;> first | assumption)) ?_; intro _ _)
      | (refine Ke1.bdV ?_; intro _)
theorem k_f_Dr_cutMore (t : Nat) (p1 : Int32) (p2 : Int32) {M0 M : Mem}  (h : Kx false M0 M) : Ke false M0 (f_Dr_cutMore t p1 p2 M) := by
    unfold f_Dr_cutMore
    repeat' with_reducible first
      | exact Ke.none
      | exact Ke.some (by assumption)
      | refine Ke.ite ?_ ?_
      | refine Ke.gd ?_
      | (refine Ke.ltM (Kx.set (by assumption) (fun z => absurd z (by decide)) _) ?_; intro _ _)
      | (refine Ke.ltM (Kx.setl (by assumption) _ _ _) ?_; intro _ _)
      | (refine Ke.ltM (Kx.setr (by assumption) _ _ _) ?_; intro _ _)
      | (refine Ke.ltM (Kx.cpi (by assumption) (fun z => absurd z (by decide)) _ _ _ _) ?_; intro _ _)
      | (refine Ke.ltM (Kx.cpl (by assumption) _ _ _ _ _) ?_; intro _ _)
      | (refine Ke.ltV ?_; intro _)
      | (refine Ke.bdV ?_; intro _)
theorem k_f_Dr_packMore (t : Nat) (p1 : Int32) {M0 M : Mem}  (h : Kx false M0 M) : Ke false M0 (f_Dr_packMore t p1 M) := by
    unfold f_Dr_packMore
    repeat' with_reducible first
      | exact Ke.none
      | exact Ke.some (by assumption)
      | refine Ke.ite ?_ ?_
      | refine Ke.gd ?_
      | (refine Ke.ltM (Kx.set (by assumption) (fun z => absurd z (by decide)) _) ?_; intro _ _)
      | (refine Ke.ltM (Kx.setl (by assumption) _ _ _) ?_; intro _ _)
      | (refine Ke.ltM (Kx.setr (by assumption) _ _ _) ?_; intro _ _)
      | (refine Ke.ltM (Kx.cpi (by assumption) (fun z => absurd z (by decide)) _ _ _ _) ?_; intro _ _)
      | (refine Ke.ltM (Kx.cpl (by assumption) _ _ _ _ _) ?_; intro _ _)
      | (refine Ke.ltV ?_; intro _)
      | (refine Ke.bdV ?_; intro _)
theorem k_f_Dr_driveScrews (t : Nat) {M0 M : Mem}  (h : Kx false M0 M) : Ke false M0 (f_Dr_driveScrews t M) := by
    unfold f_Dr_driveScrews
    repeat' with_reducible first
      | exact Ke.none
      | exact Ke.some (by assumption)
      | refine Ke.ite ?_ ?_
      | refine Ke.gd ?_
      | (refine Ke.ltM (Kx.set (by assumption) (fun z => absurd z (by decide)) _) ?_; intro _ _)
      | (refine Ke.ltM (Kx.setl (by assumption) _ _ _) ?_; intro _ _)
      | (refine Ke.ltM (Kx.setr (by assumption) _ _ _) ?_; intro _ _)
      | (refine Ke.ltM (Kx.cpi (by assumption) (fun z => absurd z (by decide)) _ _ _ _) ?_; intro _ _)
      | (refine Ke.ltM (Kx.cpl (by assumption) _ _ _ _ _) ?_; intro _ _)
      | (refine Ke.ltV ?_; intro _)
      | (refine Ke.bdV ?_; intro _)
theorem k_f_Dr_paintSide (t : Nat) (p1 : Int32) {M0 M : Mem}  (h : Kx false M0 M) : Ke false M0 (f_Dr_paintSide t p1 M) := by
    unfold f_Dr_paintSide
    repeat' with_reducible first
      | exact Ke.none
      | exact Ke.some (by assumption)
      | refine Ke.ite ?_ ?_
      | refine Ke.gd ?_
      | (refine Ke.ltM (Kx.set (by assumption) (fun z => absurd z (by decide)) _) ?_; intro _ _)
      | (refine Ke.ltM (Kx.setl (by assumption) _ _ _) ?_; intro _ _)
      | (refine Ke.ltM (Kx.setr (by assumption) _ _ _) ?_; intro _ _)
      | (refine Ke.ltM (Kx.cpi (by assumption) (fun z => absurd z (by decide)) _ _ _ _) ?_; intro _ _)
      | (refine Ke.ltM (Kx.cpl (by assumption) _ _ _ _ _) ?_; intro _ _)
      | (refine Ke.ltV ?_; intro _)
      | (refine Ke.bdV ?_; intro _)
theorem k_f_Hm_become_l17 (t : Nat) (p1 : Nat) {M0 : Mem} : ∀ (n : Nat) (w0 : Int32) (M : Mem), Kx false M0 M → Ke1 false M0 (f_Hm_become_l17 t p1 n w0 M)
  | 0, _, _, _ => Ke1.none
  | n + 1, w0, M, h => by
    rw [f_Hm_become_l17.eq_2]
    refine Ke1.ite ?_ ?_
    · refine Ke1.ltM (Kx.set h (fun z => absurd z Bool.false_ne_true) _) (fun _ h => ?_)
      refine Ke1.ltM (Kx.set h (fun z => absurd z Bool.false_ne_true) _) (fun _ h => ?_)
      refine Ke1.ltM (Kx.set h (fun z => absurd z Bool.false_ne_true) _) (fun _ h => ?_)
      refine Ke1.ltM (Kx.set h (fun z => absurd z Bool.false_ne_true) _) (fun _ h => ?_)
      refine Ke1.gd (Ke1.ltM (Kx.cpi h (fun z => absurd z Bool.false_ne_true) _ _ _ _) (fun _ h => ?_))
      refine Ke1.gd (Ke1.ltM (Kx.cpi h (fun z => absurd z Bool.false_ne_true) _ _ _ _) (fun _ h => ?_))
      refine Ke1.ltM (Kx.set h (fun z => absurd z Bool.false_ne_true) _) (fun _ h => ?_)
      exact Ke1.some h
    · refine Ke1.gd (Ke1.gd (Ke1.bdM (k_f_Dr_become _ _ h) (fun _ h => Ke1.ltV (fun _ => ?_))))
      exact k_f_Hm_become_l17 t p1 n _ _ h
theorem k_f_Hm_become (t : Nat) (p1 : Nat) {M0 M : Mem} (h : Kx false M0 M) : Ke1 false M0 (f_Hm_become t p1 M) := by
  unfold f_Hm_become
  refine Ke1.gd (Ke1.ltM (Kx.cpi h (fun z => absurd z Bool.false_ne_true) _ _ _ _) (fun _ h => ?_))
  exact k_f_Hm_become_l17 t p1 _ _ _ h
theorem k_f_Tx_append (p1 : Int32) {M0 M : Mem}  (h : Kx false M0 M) : Ke false M0 (f_Tx_append p1 M) := by
    unfold f_Tx_append
    repeat' with_reducible first
      | exact Ke.none
      | exact Ke.some (by assumption)
      | refine Ke.ite ?_ ?_
      | refine Ke.gd ?_
      | (refine Ke.ltM (Kx.set (by assumption) (fun z => absurd z (by decide)) _) ?_; intro _ _)
      | (refine Ke.ltM (Kx.setl (by assumption) _ _ _) ?_; intro _ _)
      | (refine Ke.ltM (Kx.setr (by assumption) _ _ _) ?_; intro _ _)
      | (refine Ke.ltM (Kx.cpi (by assumption) (fun z => absurd z (by decide)) _ _ _ _) ?_; intro _ _)
      | (refine Ke.ltM (Kx.cpl (by assumption) _ _ _ _ _) ?_; intro _ _)
      | (refine Ke.ltV ?_; intro _)
      | (refine Ke.bdV ?_; intro _)
theorem k_f_Tx_takes_b29 (s0 : Int32) {M0 M : Mem}  (h : Kx false M0 M) : Ke false M0 (f_Tx_takes_b29 s0 M) := by
    unfold f_Tx_takes_b29
    repeat' with_reducible first
      | exact Ke.none
      | exact Ke.some (by assumption)
      | refine Ke.ite ?_ ?_
      | refine Ke.gd ?_
      | (refine Ke.ltM (Kx.set (by assumption) (fun z => absurd z (by decide)) _) ?_; intro _ _)
      | (refine Ke.ltM (Kx.setl (by assumption) _ _ _) ?_; intro _ _)
      | (refine Ke.ltM (Kx.setr (by assumption) _ _ _) ?_; intro _ _)
      | (refine Ke.ltM (Kx.cpi (by assumption) (fun z => absurd z (by decide)) _ _ _ _) ?_; intro _ _)
      | (refine Ke.ltM (Kx.cpl (by assumption) _ _ _ _ _) ?_; intro _ _)
      | (refine Ke.ltV ?_; intro _)
      | (refine Ke.bdV ?_; intro _)
theorem k_f_Tx_takes_b28  {M0 M : Mem}  (h : Kx false M0 M) : Ke false M0 (f_Tx_takes_b28  M) := by
    unfold f_Tx_takes_b28
    repeat' with_reducible first
      | exact Ke.none
      | exact Ke.some (by assumption)
      | refine Ke.ite ?_ ?_
      | refine Ke.gd ?_
      | (refine Ke.ltM (Kx.set (by assumption) (fun z => absurd z (by decide)) _) ?_; intro _ _)
      | (refine Ke.ltM (Kx.setl (by assumption) _ _ _) ?_; intro _ _)
      | (refine Ke.ltM (Kx.setr (by assumption) _ _ _) ?_; intro _ _)
      | (refine Ke.ltM (Kx.cpi (by assumption) (fun z => absurd z (by decide)) _ _ _ _) ?_; intro _ _)
      | (refine Ke.ltM (Kx.cpl (by assumption) _ _ _ _ _) ?_; intro _ _)
      | (refine Ke.ltV ?_; intro _)
      | (apply k_f_Tx_takes_b29 <;> first | assumption)
      | (refine Ke.b2 (by first | (apply k_f_Tx_takes_b29 <;> first | assumption)) ?_; intro _ _ _)
      | (refine Ke.bdM (by first | (apply k_f_Tx_takes_b29 <;> first | assumption)) ?_; intro _ _)
      | (refine Ke.bdV ?_; intro _)
theorem k_f_Tx_takes (p1 : Int32) {M0 M : Mem}  (h : Kx false M0 M) : Ke false M0 (f_Tx_takes p1 M) := by
    unfold f_Tx_takes
    repeat' with_reducible first
      | exact Ke.none
      | exact Ke.some (by assumption)
      | refine Ke.ite ?_ ?_
      | refine Ke.gd ?_
      | (refine Ke.ltM (Kx.set (by assumption) (fun z => absurd z (by decide)) _) ?_; intro _ _)
      | (refine Ke.ltM (Kx.setl (by assumption) _ _ _) ?_; intro _ _)
      | (refine Ke.ltM (Kx.setr (by assumption) _ _ _) ?_; intro _ _)
      | (refine Ke.ltM (Kx.cpi (by assumption) (fun z => absurd z (by decide)) _ _ _ _) ?_; intro _ _)
      | (refine Ke.ltM (Kx.cpl (by assumption) _ _ _ _ _) ?_; intro _ _)
      | (refine Ke.ltV ?_; intro _)
      | (apply k_f_Tx_takes_b28 <;> first | assumption | (intros; apply k_f_Tx_takes_b29 <;> assumption))
      | (apply k_f_Tx_takes_b29 <;> first | assumption | (intros; apply k_f_Tx_takes_b28 <;> assumption))
      | (refine Ke.b2 (by first | (apply k_f_Tx_takes_b28 <;> first | assumption | (intros; apply k_f_Tx_takes_b29 <;> assumption)) | (apply k_f_Tx_takes_b29 <;> first | assumption | (intros; apply k_f_Tx_takes_b28 <;> assumption))) ?_; intro _ _ _)
      | (refine Ke.bdM (by first | (apply k_f_Tx_takes_b28 <;> first | assumption | (intros; apply k_f_Tx_takes_b29 <;> assumption)) | (apply k_f_Tx_takes_b29 <;> first | assumption | (intros; apply k_f_Tx_takes_b28 <;> assumption))) ?_; intro _ _)
      | (refine Ke.bdV ?_; intro _)
theorem k_f_Tx_takenWord_l4  {M0 : Mem}  : ∀ (n : Nat) (w0 : Int32) (w1 : Int32) (M : Mem), Kx false M0 M → Ke false M0 (f_Tx_takenWord_l4  n w0 w1 M)
  | 0, _, _, _, _ => by
    simp only [f_Tx_takenWord_l4]
    exact Ke.none
  | n + 1, w0, w1, M, h => by
    simp only [f_Tx_takenWord_l4]
    repeat' with_reducible first
      | exact Ke.none
      | exact Ke.some (by assumption)
      | refine Ke.ite ?_ ?_
      | refine Ke.gd ?_
      | (refine Ke.ltM (Kx.set (by assumption) (fun z => absurd z (by decide)) _) ?_; intro _ _)
      | (refine Ke.ltM (Kx.setl (by assumption) _ _ _) ?_; intro _ _)
      | (refine Ke.ltM (Kx.setr (by assumption) _ _ _) ?_; intro _ _)
      | (refine Ke.ltM (Kx.cpi (by assumption) (fun z => absurd z (by decide)) _ _ _ _) ?_; intro _ _)
      | (refine Ke.ltM (Kx.cpl (by assumption) _ _ _ _ _) ?_; intro _ _)
      | (refine Ke.ltV ?_; intro _)
      | exact k_f_Tx_takenWord_l4 n _ _ _ (by assumption)
      | (refine Ke.b2 (by first | exact k_f_Tx_takenWord_l4 n _ _ _ (by assumption)) ?_; intro _ _ _)
      | (refine Ke.bdM (by first | exact k_f_Tx_takenWord_l4 n _ _ _ (by assumption)) ?_; intro _ _)
      | (refine Ke.bdV ?_; intro _)
theorem k_f_Tx_takenWord  {M0 M : Mem}  (h : Kx false M0 M) : Ke false M0 (f_Tx_takenWord  M) := by
    unfold f_Tx_takenWord
    repeat' with_reducible first
      | exact Ke.none
      | exact Ke.some (by assumption)
      | refine Ke.ite ?_ ?_
      | refine Ke.gd ?_
      | (refine Ke.ltM (Kx.set (by assumption) (fun z => absurd z (by decide)) _) ?_; intro _ _)
      | (refine Ke.ltM (Kx.setl (by assumption) _ _ _) ?_; intro _ _)
      | (refine Ke.ltM (Kx.setr (by assumption) _ _ _) ?_; intro _ _)
      | (refine Ke.ltM (Kx.cpi (by assumption) (fun z => absurd z (by decide)) _ _ _ _) ?_; intro _ _)
      | (refine Ke.ltM (Kx.cpl (by assumption) _ _ _ _ _) ?_; intro _ _)
      | (refine Ke.ltV ?_; intro _)
      | (apply k_f_Tx_takenWord_l4 <;> first | assumption)
      | (refine Ke.b2 (by first | (apply k_f_Tx_takenWord_l4 <;> first | assumption)) ?_; intro _ _ _)
      | (refine Ke.bdM (by first | (apply k_f_Tx_takenWord_l4 <;> first | assumption)) ?_; intro _ _)
      | (refine Ke.bdV ?_; intro _)
theorem k_f_Tx_takenNumber_l4  {M0 : Mem}  : ∀ (n : Nat) (w0 : Int32) (w1 : Int32) (M : Mem), Kx false M0 M → Ke false M0 (f_Tx_takenNumber_l4  n w0 w1 M)
  | 0, _, _, _, _ => by
    simp only [f_Tx_takenNumber_l4]
    exact Ke.none
  | n + 1, w0, w1, M, h => by
    simp only [f_Tx_takenNumber_l4]
    repeat' with_reducible first
      | exact Ke.none
      | exact Ke.some (by assumption)
      | refine Ke.ite ?_ ?_
      | refine Ke.gd ?_
      | (refine Ke.ltM (Kx.set (by assumption) (fun z => absurd z (by decide)) _) ?_; intro _ _)
      | (refine Ke.ltM (Kx.setl (by assumption) _ _ _) ?_; intro _ _)
      | (refine Ke.ltM (Kx.setr (by assumption) _ _ _) ?_; intro _ _)
      | (refine Ke.ltM (Kx.cpi (by assumption) (fun z => absurd z (by decide)) _ _ _ _) ?_; intro _ _)
      | (refine Ke.ltM (Kx.cpl (by assumption) _ _ _ _ _) ?_; intro _ _)
      | (refine Ke.ltV ?_; intro _)
      | exact k_f_Tx_takenNumber_l4 n _ _ _ (by assumption)
      | (refine Ke.b2 (by first | exact k_f_Tx_takenNumber_l4 n _ _ _ (by assumption)) ?_; intro _ _ _)
      | (refine Ke.bdM (by first | exact k_f_Tx_takenNumber_l4 n _ _ _ (by assumption)) ?_; intro _ _)
      | (refine Ke.bdV ?_; intro _)
theorem k_f_Tx_takenNumber  {M0 M : Mem}  (h : Kx false M0 M) : Ke false M0 (f_Tx_takenNumber  M) := by
    unfold f_Tx_takenNumber
    repeat' with_reducible first
      | exact Ke.none
      | exact Ke.some (by assumption)
      | refine Ke.ite ?_ ?_
      | refine Ke.gd ?_
      | (refine Ke.ltM (Kx.set (by assumption) (fun z => absurd z (by decide)) _) ?_; intro _ _)
      | (refine Ke.ltM (Kx.setl (by assumption) _ _ _) ?_; intro _ _)
      | (refine Ke.ltM (Kx.setr (by assumption) _ _ _) ?_; intro _ _)
      | (refine Ke.ltM (Kx.cpi (by assumption) (fun z => absurd z (by decide)) _ _ _ _) ?_; intro _ _)
      | (refine Ke.ltM (Kx.cpl (by assumption) _ _ _ _ _) ?_; intro _ _)
      | (refine Ke.ltV ?_; intro _)
      | (apply k_f_Tx_takenNumber_l4 <;> first | assumption)
      | (refine Ke.b2 (by first | (apply k_f_Tx_takenNumber_l4 <;> first | assumption)) ?_; intro _ _ _)
      | (refine Ke.bdM (by first | (apply k_f_Tx_takenNumber_l4 <;> first | assumption)) ?_; intro _ _)
      | (refine Ke.bdV ?_; intro _)
theorem k_f_Tx_takenOneOf_b29 (p1 : Nat) (s0 : Int32) {M0 M : Mem}  (h : Kx false M0 M) : Ke false M0 (f_Tx_takenOneOf_b29 p1 s0 M) := by
    unfold f_Tx_takenOneOf_b29
    repeat' with_reducible first
      | exact Ke.none
      | exact Ke.some (by assumption)
      | refine Ke.ite ?_ ?_
      | refine Ke.gd ?_
      | (refine Ke.ltM (Kx.set (by assumption) (fun z => absurd z (by decide)) _) ?_; intro _ _)
      | (refine Ke.ltM (Kx.setl (by assumption) _ _ _) ?_; intro _ _)
      | (refine Ke.ltM (Kx.setr (by assumption) _ _ _) ?_; intro _ _)
      | (refine Ke.ltM (Kx.cpi (by assumption) (fun z => absurd z (by decide)) _ _ _ _) ?_; intro _ _)
      | (refine Ke.ltM (Kx.cpl (by assumption) _ _ _ _ _) ?_; intro _ _)
      | (refine Ke.ltV ?_; intro _)
      | (refine Ke.bdV ?_; intro _)
theorem k_f_Tx_takenOneOf (p1 : Nat) {M0 M : Mem}  (h : Kx false M0 M) : Ke false M0 (f_Tx_takenOneOf p1 M) := by
    unfold f_Tx_takenOneOf
    repeat' with_reducible first
      | exact Ke.none
      | exact Ke.some (by assumption)
      | refine Ke.ite ?_ ?_
      | refine Ke.gd ?_
      | (refine Ke.ltM (Kx.set (by assumption) (fun z => absurd z (by decide)) _) ?_; intro _ _)
      | (refine Ke.ltM (Kx.setl (by assumption) _ _ _) ?_; intro _ _)
      | (refine Ke.ltM (Kx.setr (by assumption) _ _ _) ?_; intro _ _)
      | (refine Ke.ltM (Kx.cpi (by assumption) (fun z => absurd z (by decide)) _ _ _ _) ?_; intro _ _)
      | (refine Ke.ltM (Kx.cpl (by assumption) _ _ _ _ _) ?_; intro _ _)
      | (refine Ke.ltV ?_; intro _)
      | (apply k_f_Tx_takenOneOf_b29 <;> first | assumption)
      | (refine Ke.b2 (by first | (apply k_f_Tx_takenOneOf_b29 <;> first | assumption)) ?_; intro _ _ _)
      | (refine Ke.bdM (by first | (apply k_f_Tx_takenOneOf_b29 <;> first | assumption)) ?_; intro _ _)
      | (refine Ke.bdV ?_; intro _)
theorem k_f_Tx_addCode (p1 : Int32) {M0 M : Mem}  (h : Kx false M0 M) : Ke1 false M0 (f_Tx_addCode p1 M) := by
    unfold f_Tx_addCode
    repeat' with_reducible first
      | exact Ke1.none
      | exact Ke1.some (by assumption)
      | refine Ke1.ite ?_ ?_
      | refine Ke1.gd ?_
      | (refine Ke1.ltM (Kx.set (by assumption) (fun z => absurd z (by decide)) _) ?_; intro _ _)
      | (refine Ke1.ltM (Kx.setl (by assumption) _ _ _) ?_; intro _ _)
      | (refine Ke1.ltM (Kx.setr (by assumption) _ _ _) ?_; intro _ _)
      | (refine Ke1.ltM (Kx.cpi (by assumption) (fun z => absurd z (by decide)) _ _ _ _) ?_; intro _ _)
      | (refine Ke1.ltM (Kx.cpl (by assumption) _ _ _ _ _) ?_; intro _ _)
      | (refine Ke1.ltV ?_; intro _)
      | (refine Ke1.bdV ?_; intro _)
theorem k_f_Tx_takesTest_b34 (v1 : Int32) (v2 : Int32) (s0 : Int32) {M0 M : Mem}  (h : Kx false M0 M) : Ke false M0 (f_Tx_takesTest_b34 v1 v2 s0 M) := by
    unfold f_Tx_takesTest_b34
    repeat' with_reducible first
      | exact Ke.none
      | exact Ke.some (by assumption)
      | refine Ke.ite ?_ ?_
      | refine Ke.gd ?_
      | (refine Ke.ltM (Kx.set (by assumption) (fun z => absurd z (by decide)) _) ?_; intro _ _)
      | (refine Ke.ltM (Kx.setl (by assumption) _ _ _) ?_; intro _ _)
      | (refine Ke.ltM (Kx.setr (by assumption) _ _ _) ?_; intro _ _)
      | (refine Ke.ltM (Kx.cpi (by assumption) (fun z => absurd z (by decide)) _ _ _ _) ?_; intro _ _)
      | (refine Ke.ltM (Kx.cpl (by assumption) _ _ _ _ _) ?_; intro _ _)
      | (refine Ke.ltV ?_; intro _)
      | (apply k_f_Tx_addCode <;> first | assumption)
      | (refine Ke.b2 (by first | (apply k_f_Tx_addCode <;> first | assumption)) ?_; intro _ _ _)
      | (refine Ke.bdM (by first | (apply k_f_Tx_addCode <;> first | assumption)) ?_; intro _ _)
      | (refine Ke.bdV ?_; intro _)
theorem k_f_Tx_takesTest_b21 (v1 : Int32) (s0 : Int32) {M0 M : Mem}  (h : Kx false M0 M) : Ke false M0 (f_Tx_takesTest_b21 v1 s0 M) := by
    unfold f_Tx_takesTest_b21
    repeat' with_reducible first
      | exact Ke.none
      | exact Ke.some (by assumption)
      | refine Ke.ite ?_ ?_
      | refine Ke.gd ?_
      | (refine Ke.ltM (Kx.set (by assumption) (fun z => absurd z (by decide)) _) ?_; intro _ _)
      | (refine Ke.ltM (Kx.setl (by assumption) _ _ _) ?_; intro _ _)
      | (refine Ke.ltM (Kx.setr (by assumption) _ _ _) ?_; intro _ _)
      | (refine Ke.ltM (Kx.cpi (by assumption) (fun z => absurd z (by decide)) _ _ _ _) ?_; intro _ _)
      | (refine Ke.ltM (Kx.cpl (by assumption) _ _ _ _ _) ?_; intro _ _)
      | (refine Ke.ltV ?_; intro _)
      | (apply k_f_Tx_takenNumber <;> first | assumption | (intros; apply k_f_Tx_takesTest_b34 <;> assumption))
      | (apply k_f_Tx_takesTest_b34 <;> first | assumption | (intros; apply k_f_Tx_takenNumber <;> assumption))
      | (refine Ke.b2 (by first | (apply k_f_Tx_takenNumber <;> first | assumption | (intros; apply k_f_Tx_takesTest_b34 <;> assumption)) | (apply k_f_Tx_takesTest_b34 <;> first | assumption | (intros; apply k_f_Tx_takenNumber <;> assumption))) ?_; intro _ _ _)
      | (refine Ke.bdM (by first | (apply k_f_Tx_takenNumber <;> first | assumption | (intros; apply k_f_Tx_takesTest_b34 <;> assumption)) | (apply k_f_Tx_takesTest_b34 <;> first | assumption | (intros; apply k_f_Tx_takenNumber <;> assumption))) ?_; intro _ _)
      | (refine Ke.bdV ?_; intro _)
theorem k_f_Tx_takesTest  {M0 M : Mem}  (h : Kx false M0 M) : Ke false M0 (f_Tx_takesTest  M) := by
    unfold f_Tx_takesTest
    repeat' with_reducible first
      | exact Ke.none
      | exact Ke.some (by assumption)
      | refine Ke.ite ?_ ?_
      | refine Ke.gd ?_
      | (refine Ke.ltM (Kx.set (by assumption) (fun z => absurd z (by decide)) _) ?_; intro _ _)
      | (refine Ke.ltM (Kx.setl (by assumption) _ _ _) ?_; intro _ _)
      | (refine Ke.ltM (Kx.setr (by assumption) _ _ _) ?_; intro _ _)
      | (refine Ke.ltM (Kx.cpi (by assumption) (fun z => absurd z (by decide)) _ _ _ _) ?_; intro _ _)
      | (refine Ke.ltM (Kx.cpl (by assumption) _ _ _ _ _) ?_; intro _ _)
      | (refine Ke.ltV ?_; intro _)
      | (apply k_f_Tx_takenOneOf <;> first | assumption | (intros; apply k_f_Tx_takesTest_b21 <;> assumption))
      | (apply k_f_Tx_takesTest_b21 <;> first | assumption | (intros; apply k_f_Tx_takenOneOf <;> assumption))
      | (refine Ke.b2 (by first | (apply k_f_Tx_takenOneOf <;> first | assumption | (intros; apply k_f_Tx_takesTest_b21 <;> assumption)) | (apply k_f_Tx_takesTest_b21 <;> first | assumption | (intros; apply k_f_Tx_takenOneOf <;> assumption))) ?_; intro _ _ _)
      | (refine Ke.bdM (by first | (apply k_f_Tx_takenOneOf <;> first | assumption | (intros; apply k_f_Tx_takesTest_b21 <;> assumption)) | (apply k_f_Tx_takesTest_b21 <;> first | assumption | (intros; apply k_f_Tx_takenOneOf <;> assumption))) ?_; intro _ _)
      | (refine Ke.bdV ?_; intro _)
theorem k_f_Tx_takesFactor_l71 (rec : Nat → Int32 → Mem → Option (Int32 × Mem)) {M0 : Mem} (hrec : ∀ y0 y1 M, Kx false M0 M → Ke false M0 (rec y0 y1 M)) : ∀ (n : Nat) (w0 : Int32) (w1 : Int32) (w2 : Int32) (M : Mem), Kx false M0 M → Ke false M0 (f_Tx_takesFactor_l71 rec n w0 w1 w2 M)
  | 0, _, _, _, _, _ => by
    simp only [f_Tx_takesFactor_l71]
    exact Ke.none
  | n + 1, w0, w1, w2, M, h => by
    simp only [f_Tx_takesFactor_l71]
    repeat' with_reducible first
      | exact Ke.none
      | exact Ke.some (by assumption)
      | refine Ke.ite ?_ ?_
      | refine Ke.gd ?_
      | (refine Ke.ltM (Kx.set (by assumption) (fun z => absurd z (by decide)) _) ?_; intro _ _)
      | (refine Ke.ltM (Kx.setl (by assumption) _ _ _) ?_; intro _ _)
      | (refine Ke.ltM (Kx.setr (by assumption) _ _ _) ?_; intro _ _)
      | (refine Ke.ltM (Kx.cpi (by assumption) (fun z => absurd z (by decide)) _ _ _ _) ?_; intro _ _)
      | (refine Ke.ltM (Kx.cpl (by assumption) _ _ _ _ _) ?_; intro _ _)
      | (refine Ke.ltV ?_; intro _)
      | (apply hrec; assumption)
      | (apply k_f_Tx_addCode <;> first | assumption | (intros; refine k_f_Tx_takesFactor_l71 rec hrec n _ _ _  _ ?_; assumption) | (intros; apply hrec <;> assumption))
      | exact k_f_Tx_takesFactor_l71 rec hrec n _ _ _ _ (by assumption)
      | (refine Ke.b2 (by first | (apply hrec; assumption) | (apply k_f_Tx_addCode <;> first | assumption | (intros; refine k_f_Tx_takesFactor_l71 rec hrec n _ _ _  _ ?_; assumption) | (intros; apply hrec <;> assumption)) | exact k_f_Tx_takesFactor_l71 rec hrec n _ _ _ _ (by assumption)) ?_; intro _ _ _)
      | (refine Ke.bdM (by first | (apply hrec; assumption) | (apply k_f_Tx_addCode <;> first | assumption | (intros; refine k_f_Tx_takesFactor_l71 rec hrec n _ _ _  _ ?_; assumption) | (intros; apply hrec <;> assumption)) | exact k_f_Tx_takesFactor_l71 rec hrec n _ _ _ _ (by assumption)) ?_; intro _ _)
      | (refine Ke.bdV ?_; intro _)
theorem k_f_Tx_takesFactor_b67 (rec : Nat → Int32 → Mem → Option (Int32 × Mem)) (v1 : Int32) (v2 : Int32) (s0 : Int32) {M0 M : Mem} (hrec : ∀ y0 y1 M, Kx false M0 M → Ke false M0 (rec y0 y1 M)) (h : Kx false M0 M) : Ke false M0 (f_Tx_takesFactor_b67 rec v1 v2 s0 M) := by
    unfold f_Tx_takesFactor_b67
    repeat' with_reducible first
      | exact Ke.none
      | exact Ke.some (by assumption)
      | refine Ke.ite ?_ ?_
      | refine Ke.gd ?_
      | (refine Ke.ltM (Kx.set (by assumption) (fun z => absurd z (by decide)) _) ?_; intro _ _)
      | (refine Ke.ltM (Kx.setl (by assumption) _ _ _) ?_; intro _ _)
      | (refine Ke.ltM (Kx.setr (by assumption) _ _ _) ?_; intro _ _)
      | (refine Ke.ltM (Kx.cpi (by assumption) (fun z => absurd z (by decide)) _ _ _ _) ?_; intro _ _)
      | (refine Ke.ltM (Kx.cpl (by assumption) _ _ _ _ _) ?_; intro _ _)
      | (refine Ke.ltV ?_; intro _)
      | (apply hrec; assumption)
      | (apply k_f_Tx_takesFactor_l71 <;> first | assumption | (intros; apply hrec <;> assumption))
      | (refine Ke.b2 (by first | (apply hrec; assumption) | (apply k_f_Tx_takesFactor_l71 <;> first | assumption | (intros; apply hrec <;> assumption))) ?_; intro _ _ _)
      | (refine Ke.bdM (by first | (apply hrec; assumption) | (apply k_f_Tx_takesFactor_l71 <;> first | assumption | (intros; apply hrec <;> assumption))) ?_; intro _ _)
      | (refine Ke.bdV ?_; intro _)
theorem k_f_Tx_takesFactor_b63 (rec : Nat → Int32 → Mem → Option (Int32 × Mem)) (v1 : Int32) (v2 : Int32) {M0 M : Mem} (hrec : ∀ y0 y1 M, Kx false M0 M → Ke false M0 (rec y0 y1 M)) (h : Kx false M0 M) : Ke false M0 (f_Tx_takesFactor_b63 rec v1 v2 M) := by
    unfold f_Tx_takesFactor_b63
    repeat' with_reducible first
      | exact Ke.none
      | exact Ke.some (by assumption)
      | refine Ke.ite ?_ ?_
      | refine Ke.gd ?_
      | (refine Ke.ltM (Kx.set (by assumption) (fun z => absurd z (by decide)) _) ?_; intro _ _)
      | (refine Ke.ltM (Kx.setl (by assumption) _ _ _) ?_; intro _ _)
      | (refine Ke.ltM (Kx.setr (by assumption) _ _ _) ?_; intro _ _)
      | (refine Ke.ltM (Kx.cpi (by assumption) (fun z => absurd z (by decide)) _ _ _ _) ?_; intro _ _)
      | (refine Ke.ltM (Kx.cpl (by assumption) _ _ _ _ _) ?_; intro _ _)
      | (refine Ke.ltV ?_; intro _)
      | (apply hrec; assumption)
      | (apply k_f_Tx_takesTest <;> first | assumption | (intros; apply k_f_Tx_takesFactor_b67 <;> assumption) | (intros; apply hrec <;> assumption))
      | (apply k_f_Tx_takesFactor_b67 <;> first | assumption | (intros; apply k_f_Tx_takesTest <;> assumption) | (intros; apply hrec <;> assumption))
      | (refine Ke.b2 (by first | (apply hrec; assumption) | (apply k_f_Tx_takesTest <;> first | assumption | (intros; apply k_f_Tx_takesFactor_b67 <;> assumption) | (intros; apply hrec <;> assumption)) | (apply k_f_Tx_takesFactor_b67 <;> first | assumption | (intros; apply k_f_Tx_takesTest <;> assumption) | (intros; apply hrec <;> assumption))) ?_; intro _ _ _)
      | (refine Ke.bdM (by first | (apply hrec; assumption) | (apply k_f_Tx_takesTest <;> first | assumption | (intros; apply k_f_Tx_takesFactor_b67 <;> assumption) | (intros; apply hrec <;> assumption)) | (apply k_f_Tx_takesFactor_b67 <;> first | assumption | (intros; apply k_f_Tx_takesTest <;> assumption) | (intros; apply hrec <;> assumption))) ?_; intro _ _)
      | (refine Ke.bdV ?_; intro _)
theorem k_f_Tx_takesFactor_b59 (rec : Nat → Int32 → Mem → Option (Int32 × Mem)) (v1 : Int32) (v2 : Int32) {M0 M : Mem} (hrec : ∀ y0 y1 M, Kx false M0 M → Ke false M0 (rec y0 y1 M)) (h : Kx false M0 M) : Ke false M0 (f_Tx_takesFactor_b59 rec v1 v2 M) := by
    unfold f_Tx_takesFactor_b59
    repeat' with_reducible first
      | exact Ke.none
      | exact Ke.some (by assumption)
      | refine Ke.ite ?_ ?_
      | refine Ke.gd ?_
      | (refine Ke.ltM (Kx.set (by assumption) (fun z => absurd z (by decide)) _) ?_; intro _ _)
      | (refine Ke.ltM (Kx.setl (by assumption) _ _ _) ?_; intro _ _)
      | (refine Ke.ltM (Kx.setr (by assumption) _ _ _) ?_; intro _ _)
      | (refine Ke.ltM (Kx.cpi (by assumption) (fun z => absurd z (by decide)) _ _ _ _) ?_; intro _ _)
      | (refine Ke.ltM (Kx.cpl (by assumption) _ _ _ _ _) ?_; intro _ _)
      | (refine Ke.ltV ?_; intro _)
      | (apply hrec; assumption)
      | (apply k_f_Tx_takesFactor_b67 <;> first | assumption | (intros; apply hrec <;> assumption))
      | (refine Ke.b2 (by first | (apply hrec; assumption) | (apply k_f_Tx_takesFactor_b67 <;> first | assumption | (intros; apply hrec <;> assumption))) ?_; intro _ _ _)
      | (refine Ke.bdM (by first | (apply hrec; assumption) | (apply k_f_Tx_takesFactor_b67 <;> first | assumption | (intros; apply hrec <;> assumption))) ?_; intro _ _)
      | (refine Ke.bdV ?_; intro _)
theorem k_f_Tx_takesFactor_b22 (rec : Nat → Int32 → Mem → Option (Int32 × Mem)) (v1 : Int32) (v2 : Int32) {M0 M : Mem} (hrec : ∀ y0 y1 M, Kx false M0 M → Ke false M0 (rec y0 y1 M)) (h : Kx false M0 M) : Ke false M0 (f_Tx_takesFactor_b22 rec v1 v2 M) := by
    unfold f_Tx_takesFactor_b22
    repeat' with_reducible first
      | exact Ke.none
      | exact Ke.some (by assumption)
      | refine Ke.ite ?_ ?_
      | refine Ke.gd ?_
      | (refine Ke.ltM (Kx.set (by assumption) (fun z => absurd z (by decide)) _) ?_; intro _ _)
      | (refine Ke.ltM (Kx.setl (by assumption) _ _ _) ?_; intro _ _)
      | (refine Ke.ltM (Kx.setr (by assumption) _ _ _) ?_; intro _ _)
      | (refine Ke.ltM (Kx.cpi (by assumption) (fun z => absurd z (by decide)) _ _ _ _) ?_; intro _ _)
      | (refine Ke.ltM (Kx.cpl (by assumption) _ _ _ _ _) ?_; intro _ _)
      | (refine Ke.ltV ?_; intro _)
      | (apply hrec; assumption)
      | (apply k_f_Tx_takesFactor_b63 <;> first | assumption | (intros; apply k_f_Tx_takes <;> assumption) | (intros; apply k_f_Tx_takesFactor_b59 <;> assumption) | (intros; apply k_f_Tx_takesFactor_b67 <;> assumption) | (intros; apply hrec <;> assumption))
      | (apply k_f_Tx_takes <;> first | assumption | (intros; apply k_f_Tx_takesFactor_b63 <;> assumption) | (intros; apply k_f_Tx_takesFactor_b59 <;> assumption) | (intros; apply k_f_Tx_takesFactor_b67 <;> assumption) | (intros; apply hrec <;> assumption))
      | (apply k_f_Tx_takesFactor_b59 <;> first | assumption | (intros; apply k_f_Tx_takesFactor_b63 <;> assumption) | (intros; apply k_f_Tx_takes <;> assumption) | (intros; apply k_f_Tx_takesFactor_b67 <;> assumption) | (intros; apply hrec <;> assumption))
      | (apply k_f_Tx_takesFactor_b67 <;> first | assumption | (intros; apply k_f_Tx_takesFactor_b63 <;> assumption) | (intros; apply k_f_Tx_takes <;> assumption) | (intros; apply k_f_Tx_takesFactor_b59 <;> assumption) | (intros; apply hrec <;> assumption))
      | (refine Ke.b2 (by first | (apply hrec; assumption) | (apply k_f_Tx_takesFactor_b63 <;> first | assumption | (intros; apply k_f_Tx_takes <;> assumption) | (intros; apply k_f_Tx_takesFactor_b59 <;> assumption) | (intros; apply k_f_Tx_takesFactor_b67 <;> assumption) | (intros; apply hrec <;> assumption)) | (apply k_f_Tx_takes <;> first | assumption | (intros; apply k_f_Tx_takesFactor_b63 <;> assumption) | (intros; apply k_f_Tx_takesFactor_b59 <;> assumption) | (intros; apply k_f_Tx_takesFactor_b67 <;> assumption) | (intros; apply hrec <;> assumption)) | (apply k_f_Tx_takesFactor_b59 <;> first | assumption | (intros; apply k_f_Tx_takesFactor_b63 <;> assumption) | (intros; apply k_f_Tx_takes <;> assumption) | (intros; apply k_f_Tx_takesFactor_b67 <;> assumption) | (intros; apply hrec <;> assumption)) | (apply k_f_Tx_takesFactor_b67 <;> first | assumption | (intros; apply k_f_Tx_takesFactor_b63 <;> assumption) | (intros; apply k_f_Tx_takes <;> assumption) | (intros; apply k_f_Tx_takesFactor_b59 <;> assumption) | (intros; apply hrec <;> assumption))) ?_; intro _ _ _)
      | (refine Ke.bdM (by first | (apply hrec; assumption) | (apply k_f_Tx_takesFactor_b63 <;> first | assumption | (intros; apply k_f_Tx_takes <;> assumption) | (intros; apply k_f_Tx_takesFactor_b59 <;> assumption) | (intros; apply k_f_Tx_takesFactor_b67 <;> assumption) | (intros; apply hrec <;> assumption)) | (apply k_f_Tx_takes <;> first | assumption | (intros; apply k_f_Tx_takesFactor_b63 <;> assumption) | (intros; apply k_f_Tx_takesFactor_b59 <;> assumption) | (intros; apply k_f_Tx_takesFactor_b67 <;> assumption) | (intros; apply hrec <;> assumption)) | (apply k_f_Tx_takesFactor_b59 <;> first | assumption | (intros; apply k_f_Tx_takesFactor_b63 <;> assumption) | (intros; apply k_f_Tx_takes <;> assumption) | (intros; apply k_f_Tx_takesFactor_b67 <;> assumption) | (intros; apply hrec <;> assumption)) | (apply k_f_Tx_takesFactor_b67 <;> first | assumption | (intros; apply k_f_Tx_takesFactor_b63 <;> assumption) | (intros; apply k_f_Tx_takes <;> assumption) | (intros; apply k_f_Tx_takesFactor_b59 <;> assumption) | (intros; apply hrec <;> assumption))) ?_; intro _ _)
      | (refine Ke.bdV ?_; intro _)
theorem k_f_Tx_takesFactor_l2 (rec : Nat → Int32 → Mem → Option (Int32 × Mem)) {M0 : Mem} (hrec : ∀ y0 y1 M, Kx false M0 M → Ke false M0 (rec y0 y1 M)) : ∀ (n : Nat) (w0 : Int32) (w1 : Int32) (M : Mem), Kx false M0 M → Ke false M0 (f_Tx_takesFactor_l2 rec n w0 w1 M)
  | 0, _, _, _, _ => by
    simp only [f_Tx_takesFactor_l2]
    exact Ke.none
  | n + 1, w0, w1, M, h => by
    simp only [f_Tx_takesFactor_l2]
    repeat' with_reducible first
      | exact Ke.none
      | exact Ke.some (by assumption)
      | refine Ke.ite ?_ ?_
      | refine Ke.gd ?_
      | (refine Ke.ltM (Kx.set (by assumption) (fun z => absurd z (by decide)) _) ?_; intro _ _)
      | (refine Ke.ltM (Kx.setl (by assumption) _ _ _) ?_; intro _ _)
      | (refine Ke.ltM (Kx.setr (by assumption) _ _ _) ?_; intro _ _)
      | (refine Ke.ltM (Kx.cpi (by assumption) (fun z => absurd z (by decide)) _ _ _ _) ?_; intro _ _)
      | (refine Ke.ltM (Kx.cpl (by assumption) _ _ _ _ _) ?_; intro _ _)
      | (refine Ke.ltV ?_; intro _)
      | (apply hrec; assumption)
      | (apply k_f_Tx_takesFactor_b22 <;> first | assumption | (intros; apply k_f_Tx_takes <;> assumption) | (intros; refine k_f_Tx_takesFactor_l2 rec hrec n _ _  _ ?_; assumption) | (intros; apply hrec <;> assumption))
      | (apply k_f_Tx_takes <;> first | assumption | (intros; apply k_f_Tx_takesFactor_b22 <;> assumption) | (intros; refine k_f_Tx_takesFactor_l2 rec hrec n _ _  _ ?_; assumption) | (intros; apply hrec <;> assumption))
      | exact k_f_Tx_takesFactor_l2 rec hrec n _ _ _ (by assumption)
      | (refine Ke.b2 (by first | (apply hrec; assumption) | (apply k_f_Tx_takesFactor_b22 <;> first | assumption | (intros; apply k_f_Tx_takes <;> assumption) | (intros; refine k_f_Tx_takesFactor_l2 rec hrec n _ _  _ ?_; assumption) | (intros; apply hrec <;> assumption)) | (apply k_f_Tx_takes <;> first | assumption | (intros; apply k_f_Tx_takesFactor_b22 <;> assumption) | (intros; refine k_f_Tx_takesFactor_l2 rec hrec n _ _  _ ?_; assumption) | (intros; apply hrec <;> assumption)) | exact k_f_Tx_takesFactor_l2 rec hrec n _ _ _ (by assumption)) ?_; intro _ _ _)
      | (refine Ke.bdM (by first | (apply hrec; assumption) | (apply k_f_Tx_takesFactor_b22 <;> first | assumption | (intros; apply k_f_Tx_takes <;> assumption) | (intros; refine k_f_Tx_takesFactor_l2 rec hrec n _ _  _ ?_; assumption) | (intros; apply hrec <;> assumption)) | (apply k_f_Tx_takes <;> first | assumption | (intros; apply k_f_Tx_takesFactor_b22 <;> assumption) | (intros; refine k_f_Tx_takesFactor_l2 rec hrec n _ _  _ ?_; assumption) | (intros; apply hrec <;> assumption)) | exact k_f_Tx_takesFactor_l2 rec hrec n _ _ _ (by assumption)) ?_; intro _ _)
      | (refine Ke.bdV ?_; intro _)
theorem k_f_Tx_takesFactor (rec : Nat → Int32 → Mem → Option (Int32 × Mem)) (p1 : Int32) {M0 M : Mem} (hrec : ∀ y0 y1 M, Kx false M0 M → Ke false M0 (rec y0 y1 M)) (h : Kx false M0 M) : Ke false M0 (f_Tx_takesFactor rec p1 M) := by
    unfold f_Tx_takesFactor
    repeat' with_reducible first
      | exact Ke.none
      | exact Ke.some (by assumption)
      | refine Ke.ite ?_ ?_
      | refine Ke.gd ?_
      | (refine Ke.ltM (Kx.set (by assumption) (fun z => absurd z (by decide)) _) ?_; intro _ _)
      | (refine Ke.ltM (Kx.setl (by assumption) _ _ _) ?_; intro _ _)
      | (refine Ke.ltM (Kx.setr (by assumption) _ _ _) ?_; intro _ _)
      | (refine Ke.ltM (Kx.cpi (by assumption) (fun z => absurd z (by decide)) _ _ _ _) ?_; intro _ _)
      | (refine Ke.ltM (Kx.cpl (by assumption) _ _ _ _ _) ?_; intro _ _)
      | (refine Ke.ltV ?_; intro _)
      | (apply hrec; assumption)
      | (apply k_f_Tx_takesFactor_l2 <;> first | assumption | (intros; apply hrec <;> assumption))
      | (refine Ke.b2 (by first | (apply hrec; assumption) | (apply k_f_Tx_takesFactor_l2 <;> first | assumption | (intros; apply hrec <;> assumption))) ?_; intro _ _ _)
      | (refine Ke.bdM (by first | (apply hrec; assumption) | (apply k_f_Tx_takesFactor_l2 <;> first | assumption | (intros; apply hrec <;> assumption))) ?_; intro _ _)
      | (refine Ke.bdV ?_; intro _)
theorem k_f_Tx_takesAllOf_l12 (rec : Nat → Int32 → Mem → Option (Int32 × Mem)) {M0 : Mem} (hrec : ∀ y0 y1 M, Kx false M0 M → Ke false M0 (rec y0 y1 M)) : ∀ (n : Nat) (w0 : Int32) (w1 : Int32) (M : Mem), Kx false M0 M → Ke false M0 (f_Tx_takesAllOf_l12 rec n w0 w1 M)
  | 0, _, _, _, _ => by
    simp only [f_Tx_takesAllOf_l12]
    exact Ke.none
  | n + 1, w0, w1, M, h => by
    simp only [f_Tx_takesAllOf_l12]
    repeat' with_reducible first
      | exact Ke.none
      | exact Ke.some (by assumption)
      | refine Ke.ite ?_ ?_
      | refine Ke.gd ?_
      | (refine Ke.ltM (Kx.set (by assumption) (fun z => absurd z (by decide)) _) ?_; intro _ _)
      | (refine Ke.ltM (Kx.setl (by assumption) _ _ _) ?_; intro _ _)
      | (refine Ke.ltM (Kx.setr (by assumption) _ _ _) ?_; intro _ _)
      | (refine Ke.ltM (Kx.cpi (by assumption) (fun z => absurd z (by decide)) _ _ _ _) ?_; intro _ _)
      | (refine Ke.ltM (Kx.cpl (by assumption) _ _ _ _ _) ?_; intro _ _)
      | (refine Ke.ltV ?_; intro _)
      | (apply hrec; assumption)
      | (apply k_f_Tx_takes <;> first | assumption | (intros; apply k_f_Tx_addCode <;> assumption) | (intros; refine k_f_Tx_takesAllOf_l12 rec hrec n _ _  _ ?_; assumption) | (intros; apply hrec <;> assumption))
      | (apply k_f_Tx_addCode <;> first | assumption | (intros; apply k_f_Tx_takes <;> assumption) | (intros; refine k_f_Tx_takesAllOf_l12 rec hrec n _ _  _ ?_; assumption) | (intros; apply hrec <;> assumption))
      | exact k_f_Tx_takesAllOf_l12 rec hrec n _ _ _ (by assumption)
      | (refine Ke.b2 (by first | (apply hrec; assumption) | (apply k_f_Tx_takes <;> first | assumption | (intros; apply k_f_Tx_addCode <;> assumption) | (intros; refine k_f_Tx_takesAllOf_l12 rec hrec n _ _  _ ?_; assumption) | (intros; apply hrec <;> assumption)) | (apply k_f_Tx_addCode <;> first | assumption | (intros; apply k_f_Tx_takes <;> assumption) | (intros; refine k_f_Tx_takesAllOf_l12 rec hrec n _ _  _ ?_; assumption) | (intros; apply hrec <;> assumption)) | exact k_f_Tx_takesAllOf_l12 rec hrec n _ _ _ (by assumption)) ?_; intro _ _ _)
      | (refine Ke.bdM (by first | (apply hrec; assumption) | (apply k_f_Tx_takes <;> first | assumption | (intros; apply k_f_Tx_addCode <;> assumption) | (intros; refine k_f_Tx_takesAllOf_l12 rec hrec n _ _  _ ?_; assumption) | (intros; apply hrec <;> assumption)) | (apply k_f_Tx_addCode <;> first | assumption | (intros; apply k_f_Tx_takes <;> assumption) | (intros; refine k_f_Tx_takesAllOf_l12 rec hrec n _ _  _ ?_; assumption) | (intros; apply hrec <;> assumption)) | exact k_f_Tx_takesAllOf_l12 rec hrec n _ _ _ (by assumption)) ?_; intro _ _)
      | (refine Ke.bdV ?_; intro _)
theorem k_f_Tx_takesAllOf (rec : Nat → Int32 → Mem → Option (Int32 × Mem)) (p1 : Int32) {M0 M : Mem} (hrec : ∀ y0 y1 M, Kx false M0 M → Ke false M0 (rec y0 y1 M)) (h : Kx false M0 M) : Ke false M0 (f_Tx_takesAllOf rec p1 M) := by
    unfold f_Tx_takesAllOf
    repeat' with_reducible first
      | exact Ke.none
      | exact Ke.some (by assumption)
      | refine Ke.ite ?_ ?_
      | refine Ke.gd ?_
      | (refine Ke.ltM (Kx.set (by assumption) (fun z => absurd z (by decide)) _) ?_; intro _ _)
      | (refine Ke.ltM (Kx.setl (by assumption) _ _ _) ?_; intro _ _)
      | (refine Ke.ltM (Kx.setr (by assumption) _ _ _) ?_; intro _ _)
      | (refine Ke.ltM (Kx.cpi (by assumption) (fun z => absurd z (by decide)) _ _ _ _) ?_; intro _ _)
      | (refine Ke.ltM (Kx.cpl (by assumption) _ _ _ _ _) ?_; intro _ _)
      | (refine Ke.ltV ?_; intro _)
      | (apply hrec; assumption)
      | (apply k_f_Tx_takesAllOf_l12 <;> first | assumption | (intros; apply hrec <;> assumption))
      | (refine Ke.b2 (by first | (apply hrec; assumption) | (apply k_f_Tx_takesAllOf_l12 <;> first | assumption | (intros; apply hrec <;> assumption))) ?_; intro _ _ _)
      | (refine Ke.bdM (by first | (apply hrec; assumption) | (apply k_f_Tx_takesAllOf_l12 <;> first | assumption | (intros; apply hrec <;> assumption))) ?_; intro _ _)
      | (refine Ke.bdV ?_; intro _)
theorem k_f_Tx_takesAnyOf_l12 (rec : Nat → Int32 → Mem → Option (Int32 × Mem)) {M0 : Mem} (hrec : ∀ y0 y1 M, Kx false M0 M → Ke false M0 (rec y0 y1 M)) : ∀ (n : Nat) (w0 : Int32) (w1 : Int32) (M : Mem), Kx false M0 M → Ke false M0 (f_Tx_takesAnyOf_l12 rec n w0 w1 M)
  | 0, _, _, _, _ => by
    simp only [f_Tx_takesAnyOf_l12]
    exact Ke.none
  | n + 1, w0, w1, M, h => by
    simp only [f_Tx_takesAnyOf_l12]
    repeat' with_reducible first
      | exact Ke.none
      | exact Ke.some (by assumption)
      | refine Ke.ite ?_ ?_
      | refine Ke.gd ?_
      | (refine Ke.ltM (Kx.set (by assumption) (fun z => absurd z (by decide)) _) ?_; intro _ _)
      | (refine Ke.ltM (Kx.setl (by assumption) _ _ _) ?_; intro _ _)
      | (refine Ke.ltM (Kx.setr (by assumption) _ _ _) ?_; intro _ _)
      | (refine Ke.ltM (Kx.cpi (by assumption) (fun z => absurd z (by decide)) _ _ _ _) ?_; intro _ _)
      | (refine Ke.ltM (Kx.cpl (by assumption) _ _ _ _ _) ?_; intro _ _)
      | (refine Ke.ltV ?_; intro _)
      | (apply hrec; assumption)
      | (apply k_f_Tx_takes <;> first | assumption | (intros; apply k_f_Tx_addCode <;> assumption) | (intros; refine k_f_Tx_takesAnyOf_l12 rec hrec n _ _  _ ?_; assumption) | (intros; apply hrec <;> assumption))
      | (apply k_f_Tx_addCode <;> first | assumption | (intros; apply k_f_Tx_takes <;> assumption) | (intros; refine k_f_Tx_takesAnyOf_l12 rec hrec n _ _  _ ?_; assumption) | (intros; apply hrec <;> assumption))
      | exact k_f_Tx_takesAnyOf_l12 rec hrec n _ _ _ (by assumption)
      | (refine Ke.b2 (by first | (apply hrec; assumption) | (apply k_f_Tx_takes <;> first | assumption | (intros; apply k_f_Tx_addCode <;> assumption) | (intros; refine k_f_Tx_takesAnyOf_l12 rec hrec n _ _  _ ?_; assumption) | (intros; apply hrec <;> assumption)) | (apply k_f_Tx_addCode <;> first | assumption | (intros; apply k_f_Tx_takes <;> assumption) | (intros; refine k_f_Tx_takesAnyOf_l12 rec hrec n _ _  _ ?_; assumption) | (intros; apply hrec <;> assumption)) | exact k_f_Tx_takesAnyOf_l12 rec hrec n _ _ _ (by assumption)) ?_; intro _ _ _)
      | (refine Ke.bdM (by first | (apply hrec; assumption) | (apply k_f_Tx_takes <;> first | assumption | (intros; apply k_f_Tx_addCode <;> assumption) | (intros; refine k_f_Tx_takesAnyOf_l12 rec hrec n _ _  _ ?_; assumption) | (intros; apply hrec <;> assumption)) | (apply k_f_Tx_addCode <;> first | assumption | (intros; apply k_f_Tx_takes <;> assumption) | (intros; refine k_f_Tx_takesAnyOf_l12 rec hrec n _ _  _ ?_; assumption) | (intros; apply hrec <;> assumption)) | exact k_f_Tx_takesAnyOf_l12 rec hrec n _ _ _ (by assumption)) ?_; intro _ _)
      | (refine Ke.bdV ?_; intro _)
theorem k_f_Tx_takesAnyOf (rec : Nat → Int32 → Mem → Option (Int32 × Mem)) (p1 : Int32) {M0 M : Mem} (hrec : ∀ y0 y1 M, Kx false M0 M → Ke false M0 (rec y0 y1 M)) (h : Kx false M0 M) : Ke false M0 (f_Tx_takesAnyOf rec p1 M) := by
    unfold f_Tx_takesAnyOf
    repeat' with_reducible first
      | exact Ke.none
      | exact Ke.some (by assumption)
      | refine Ke.ite ?_ ?_
      | refine Ke.gd ?_
      | (refine Ke.ltM (Kx.set (by assumption) (fun z => absurd z (by decide)) _) ?_; intro _ _)
      | (refine Ke.ltM (Kx.setl (by assumption) _ _ _) ?_; intro _ _)
      | (refine Ke.ltM (Kx.setr (by assumption) _ _ _) ?_; intro _ _)
      | (refine Ke.ltM (Kx.cpi (by assumption) (fun z => absurd z (by decide)) _ _ _ _) ?_; intro _ _)
      | (refine Ke.ltM (Kx.cpl (by assumption) _ _ _ _ _) ?_; intro _ _)
      | (refine Ke.ltV ?_; intro _)
      | (apply hrec; assumption)
      | (apply k_f_Tx_takesAnyOf_l12 <;> first | assumption | (intros; apply hrec <;> assumption))
      | (refine Ke.b2 (by first | (apply hrec; assumption) | (apply k_f_Tx_takesAnyOf_l12 <;> first | assumption | (intros; apply hrec <;> assumption))) ?_; intro _ _ _)
      | (refine Ke.bdM (by first | (apply hrec; assumption) | (apply k_f_Tx_takesAnyOf_l12 <;> first | assumption | (intros; apply hrec <;> assumption))) ?_; intro _ _)
      | (refine Ke.bdV ?_; intro _)
theorem k_f_rec_takes {M0 : Mem} : ∀ (n : Nat) (w0 : Nat) (w1 : Int32) (M : Mem), Kx false M0 M → Ke false M0 (f_rec_takes n w0 w1 M)
  | 0, _, _, _, _ => by
    simp only [f_rec_takes]
    exact Ke.none
  | n + 1, 0, p1, M, h => by
    simp only [f_rec_takes]
    exact k_f_Tx_takesAnyOf _ _ (fun _ _ _ h => k_f_rec_takes n _ _ _ h) h
  | n + 1, 1, p1, M, h => by
    simp only [f_rec_takes]
    exact k_f_Tx_takesAllOf _ _ (fun _ _ _ h => k_f_rec_takes n _ _ _ h) h
  | n + 1, s + 2, p1, M, h => by
    simp only [f_rec_takes]
    exact k_f_Tx_takesFactor _ _ (fun _ _ _ h => k_f_rec_takes n _ _ _ h) h
theorem k_f_Ar_fillL_l6 (p1 : Nat) {M0 : Mem}  : ∀ (n : Nat) (w0 : Int64) (w1 : Int32) (w2 : Int32) (M : Mem), Kx false M0 M → Ke1 false M0 (f_Ar_fillL_l6 p1 n w0 w1 w2 M)
  | 0, _, _, _, _, _ => by
    simp only [f_Ar_fillL_l6]
    exact Ke1.none
  | n + 1, w0, w1, w2, M, h => by
    simp only [f_Ar_fillL_l6]
    repeat' with_reducible first
      | exact Ke1.none
      | exact Ke1.some (by assumption)
      | refine Ke1.ite ?_ ?_
      | refine Ke1.gd ?_
      | (refine Ke1.ltM (Kx.set (by assumption) (fun z => absurd z (by decide)) _) ?_; intro _ _)
      | (refine Ke1.ltM (Kx.setl (by assumption) _ _ _) ?_; intro _ _)
      | (refine Ke1.ltM (Kx.setr (by assumption) _ _ _) ?_; intro _ _)
      | (refine Ke1.ltM (Kx.cpi (by assumption) (fun z => absurd z (by decide)) _ _ _ _) ?_; intro _ _)
      | (refine Ke1.ltM (Kx.cpl (by assumption) _ _ _ _ _) ?_; intro _ _)
      | (refine Ke1.ltV ?_; intro _)
      | exact k_f_Ar_fillL_l6 p1 n _ _ _ _ (by assumption)
      | (refine Ke1.b2 (by first | exact k_f_Ar_fillL_l6 p1 n _ _ _ _ (by assumption)) ?_; intro _ _ _)
      | (refine Ke1.bdM (by first | exact k_f_Ar_fillL_l6 p1 n _ _ _ _ (by assumption)) ?_; intro _ _)
      | (refine Ke1.bdV ?_; intro _)
theorem k_f_Ar_fillL (p1 : Nat) (p2 : Int64) {M0 M : Mem}  (h : Kx false M0 M) : Ke1 false M0 (f_Ar_fillL p1 p2 M) := by
    unfold f_Ar_fillL
    repeat' with_reducible first
      | exact Ke1.none
      | exact Ke1.some (by assumption)
      | refine Ke1.ite ?_ ?_
      | refine Ke1.gd ?_
      | (refine Ke1.ltM (Kx.set (by assumption) (fun z => absurd z (by decide)) _) ?_; intro _ _)
      | (refine Ke1.ltM (Kx.setl (by assumption) _ _ _) ?_; intro _ _)
      | (refine Ke1.ltM (Kx.setr (by assumption) _ _ _) ?_; intro _ _)
      | (refine Ke1.ltM (Kx.cpi (by assumption) (fun z => absurd z (by decide)) _ _ _ _) ?_; intro _ _)
      | (refine Ke1.ltM (Kx.cpl (by assumption) _ _ _ _ _) ?_; intro _ _)
      | (refine Ke1.ltV ?_; intro _)
      | (apply k_f_Ar_fillL_l6 <;> first | assumption)
      | (refine Ke1.b2 (by first | (apply k_f_Ar_fillL_l6 <;> first | assumption)) ?_; intro _ _ _)
      | (refine Ke1.bdM (by first | (apply k_f_Ar_fillL_l6 <;> first | assumption)) ?_; intro _ _)
      | (refine Ke1.bdV ?_; intro _)
theorem k_f_Tp_becomeRow (t : Nat) (p1 : Int32) (p2 : Int32) {M0 M : Mem}  (h : Kx false M0 M) : Ke1 false M0 (f_Tp_becomeRow t p1 p2 M) := by
    unfold f_Tp_becomeRow
    repeat' with_reducible first
      | exact Ke1.none
      | exact Ke1.some (by assumption)
      | refine Ke1.ite ?_ ?_
      | refine Ke1.gd ?_
      | (refine Ke1.ltM (Kx.set (by assumption) (fun z => absurd z (by decide)) _) ?_; intro _ _)
      | (refine Ke1.ltM (Kx.setl (by assumption) _ _ _) ?_; intro _ _)
      | (refine Ke1.ltM (Kx.setr (by assumption) _ _ _) ?_; intro _ _)
      | (refine Ke1.ltM (Kx.cpi (by assumption) (fun z => absurd z (by decide)) _ _ _ _) ?_; intro _ _)
      | (refine Ke1.ltM (Kx.cpl (by assumption) _ _ _ _ _) ?_; intro _ _)
      | (refine Ke1.ltV ?_; intro _)
      | (apply k_f_Ar_fillL <;> first | assumption)
      | (refine Ke1.b2 (by first | (apply k_f_Ar_fillL <;> first | assumption)) ?_; intro _ _ _)
      | (refine Ke1.bdM (by first | (apply k_f_Ar_fillL <;> first | assumption)) ?_; intro _ _)
      | (refine Ke1.bdV ?_; intro _)
theorem k_f_D_air (p1 : Int32) (p2 : Int32) {M0 M : Mem}  (h : Kx false M0 M) : Ke false M0 (f_D_air p1 p2 M) := by
    unfold f_D_air
    repeat' with_reducible first
      | exact Ke.none
      | exact Ke.some (by assumption)
      | refine Ke.ite ?_ ?_
      | refine Ke.gd ?_
      | (refine Ke.ltM (Kx.set (by assumption) (fun z => absurd z (by decide)) _) ?_; intro _ _)
      | (refine Ke.ltM (Kx.setl (by assumption) _ _ _) ?_; intro _ _)
      | (refine Ke.ltM (Kx.setr (by assumption) _ _ _) ?_; intro _ _)
      | (refine Ke.ltM (Kx.cpi (by assumption) (fun z => absurd z (by decide)) _ _ _ _) ?_; intro _ _)
      | (refine Ke.ltM (Kx.cpl (by assumption) _ _ _ _ _) ?_; intro _ _)
      | (refine Ke.ltV ?_; intro _)
      | (refine Ke.bdV ?_; intro _)
theorem k_f_D_lean (p1 : Int32) {M0 M : Mem}  (h : Kx false M0 M) : Ke false M0 (f_D_lean p1 M) := by
    unfold f_D_lean
    repeat' with_reducible first
      | exact Ke.none
      | exact Ke.some (by assumption)
      | refine Ke.ite ?_ ?_
      | refine Ke.gd ?_
      | (refine Ke.ltM (Kx.set (by assumption) (fun z => absurd z (by decide)) _) ?_; intro _ _)
      | (refine Ke.ltM (Kx.setl (by assumption) _ _ _) ?_; intro _ _)
      | (refine Ke.ltM (Kx.setr (by assumption) _ _ _) ?_; intro _ _)
      | (refine Ke.ltM (Kx.cpi (by assumption) (fun z => absurd z (by decide)) _ _ _ _) ?_; intro _ _)
      | (refine Ke.ltM (Kx.cpl (by assumption) _ _ _ _ _) ?_; intro _ _)
      | (refine Ke.ltV ?_; intro _)
      | (refine Ke.bdV ?_; intro _)
theorem k_f_D_door (p1 : Int32) (p2 : Int32) {M0 M : Mem}  (h : Kx false M0 M) : Ke false M0 (f_D_door p1 p2 M) := by
    unfold f_D_door
    repeat' with_reducible first
      | exact Ke.none
      | exact Ke.some (by assumption)
      | refine Ke.ite ?_ ?_
      | refine Ke.gd ?_
      | (refine Ke.ltM (Kx.set (by assumption) (fun z => absurd z (by decide)) _) ?_; intro _ _)
      | (refine Ke.ltM (Kx.setl (by assumption) _ _ _) ?_; intro _ _)
      | (refine Ke.ltM (Kx.setr (by assumption) _ _ _) ?_; intro _ _)
      | (refine Ke.ltM (Kx.cpi (by assumption) (fun z => absurd z (by decide)) _ _ _ _) ?_; intro _ _)
      | (refine Ke.ltM (Kx.cpl (by assumption) _ _ _ _ _) ?_; intro _ _)
      | (refine Ke.ltV ?_; intro _)
      | (apply k_f_Dr_begin <;> first | assumption)
      | (refine Ke.b2 (by first | (apply k_f_Dr_begin <;> first | assumption)) ?_; intro _ _ _)
      | (refine Ke.bdM (by first | (apply k_f_Dr_begin <;> first | assumption)) ?_; intro _ _)
      | (refine Ke.bdV ?_; intro _)
theorem k_f_D_courseNow (p1 : Nat) {M0 M : Mem}  (h : Kx false M0 M) : Ke false M0 (f_D_courseNow p1 M) := by
    unfold f_D_courseNow
    repeat' with_reducible first
      | exact Ke.none
      | exact Ke.some (by assumption)
      | refine Ke.ite ?_ ?_
      | refine Ke.gd ?_
      | (refine Ke.ltM (Kx.set (by assumption) (fun z => absurd z (by decide)) _) ?_; intro _ _)
      | (refine Ke.ltM (Kx.setl (by assumption) _ _ _) ?_; intro _ _)
      | (refine Ke.ltM (Kx.setr (by assumption) _ _ _) ?_; intro _ _)
      | (refine Ke.ltM (Kx.cpi (by assumption) (fun z => absurd z (by decide)) _ _ _ _) ?_; intro _ _)
      | (refine Ke.ltM (Kx.cpl (by assumption) _ _ _ _ _) ?_; intro _ _)
      | (refine Ke.ltV ?_; intro _)
      | (apply k_f_Co_begin <;> first | assumption)
      | (refine Ke.b2 (by first | (apply k_f_Co_begin <;> first | assumption)) ?_; intro _ _ _)
      | (refine Ke.bdM (by first | (apply k_f_Co_begin <;> first | assumption)) ?_; intro _ _)
      | (refine Ke.bdV ?_; intro _)
theorem k_f_D_of (p1 : Int32) (p2 : Int32) {M0 M : Mem}  (h : Kx false M0 M) : Ke false M0 (f_D_of p1 p2 M) := by
    unfold f_D_of
    repeat' with_reducible first
      | exact Ke.none
      | exact Ke.some (by assumption)
      | refine Ke.ite ?_ ?_
      | refine Ke.gd ?_
      | (refine Ke.ltM (Kx.set (by assumption) (fun z => absurd z (by decide)) _) ?_; intro _ _)
      | (refine Ke.ltM (Kx.setl (by assumption) _ _ _) ?_; intro _ _)
      | (refine Ke.ltM (Kx.setr (by assumption) _ _ _) ?_; intro _ _)
      | (refine Ke.ltM (Kx.cpi (by assumption) (fun z => absurd z (by decide)) _ _ _ _) ?_; intro _ _)
      | (refine Ke.ltM (Kx.cpl (by assumption) _ _ _ _ _) ?_; intro _ _)
      | (refine Ke.ltV ?_; intro _)
      | (apply k_f_D_courseNow <;> first | assumption)
      | (refine Ke.b2 (by first | (apply k_f_D_courseNow <;> first | assumption)) ?_; intro _ _ _)
      | (refine Ke.bdM (by first | (apply k_f_D_courseNow <;> first | assumption)) ?_; intro _ _)
      | (refine Ke.bdV ?_; intro _)
theorem k_f_D_water (p1 : Int32) (p2 : Int32) (p3 : Int32) {M0 M : Mem}  (h : Kx false M0 M) : Ke false M0 (f_D_water p1 p2 p3 M) := by
    unfold f_D_water
    repeat' with_reducible first
      | exact Ke.none
      | exact Ke.some (by assumption)
      | refine Ke.ite ?_ ?_
      | refine Ke.gd ?_
      | (refine Ke.ltM (Kx.set (by assumption) (fun z => absurd z (by decide)) _) ?_; intro _ _)
      | (refine Ke.ltM (Kx.setl (by assumption) _ _ _) ?_; intro _ _)
      | (refine Ke.ltM (Kx.setr (by assumption) _ _ _) ?_; intro _ _)
      | (refine Ke.ltM (Kx.cpi (by assumption) (fun z => absurd z (by decide)) _ _ _ _) ?_; intro _ _)
      | (refine Ke.ltM (Kx.cpl (by assumption) _ _ _ _ _) ?_; intro _ _)
      | (refine Ke.ltV ?_; intro _)
      | (refine Ke.bdV ?_; intro _)
theorem k_f_D_sag (p1 : Int32) (p2 : Int32) {M0 M : Mem}  (h : Kx false M0 M) : Ke false M0 (f_D_sag p1 p2 M) := by
    unfold f_D_sag
    repeat' with_reducible first
      | exact Ke.none
      | exact Ke.some (by assumption)
      | refine Ke.ite ?_ ?_
      | refine Ke.gd ?_
      | (refine Ke.ltM (Kx.set (by assumption) (fun z => absurd z (by decide)) _) ?_; intro _ _)
      | (refine Ke.ltM (Kx.setl (by assumption) _ _ _) ?_; intro _ _)
      | (refine Ke.ltM (Kx.setr (by assumption) _ _ _) ?_; intro _ _)
      | (refine Ke.ltM (Kx.cpi (by assumption) (fun z => absurd z (by decide)) _ _ _ _) ?_; intro _ _)
      | (refine Ke.ltM (Kx.cpl (by assumption) _ _ _ _ _) ?_; intro _ _)
      | (refine Ke.ltV ?_; intro _)
      | (refine Ke.bdV ?_; intro _)
theorem k_f_D_feed (p1 : Int32) {M0 M : Mem}  (h : Kx false M0 M) : Ke false M0 (f_D_feed p1 M) := by
    unfold f_D_feed
    repeat' with_reducible first
      | exact Ke.none
      | exact Ke.some (by assumption)
      | refine Ke.ite ?_ ?_
      | refine Ke.gd ?_
      | (refine Ke.ltM (Kx.set (by assumption) (fun z => absurd z (by decide)) _) ?_; intro _ _)
      | (refine Ke.ltM (Kx.setl (by assumption) _ _ _) ?_; intro _ _)
      | (refine Ke.ltM (Kx.setr (by assumption) _ _ _) ?_; intro _ _)
      | (refine Ke.ltM (Kx.cpi (by assumption) (fun z => absurd z (by decide)) _ _ _ _) ?_; intro _ _)
      | (refine Ke.ltM (Kx.cpl (by assumption) _ _ _ _ _) ?_; intro _ _)
      | (refine Ke.ltV ?_; intro _)
      | (apply k_f_Tx_append <;> first | assumption)
      | (refine Ke.b2 (by first | (apply k_f_Tx_append <;> first | assumption)) ?_; intro _ _ _)
      | (refine Ke.bdM (by first | (apply k_f_Tx_append <;> first | assumption)) ?_; intro _ _)
      | (refine Ke.bdV ?_; intro _)
theorem k_f_D_month_l42  {M0 : Mem}  : ∀ (n : Nat) (w0 : Nat) (w1 : Int32) (w2 : Int32) (M : Mem), Kx false M0 M → Ke false M0 (f_D_month_l42  n w0 w1 w2 M)
  | 0, _, _, _, _, _ => by
    simp only [f_D_month_l42]
    exact Ke.none
  | n + 1, w0, w1, w2, M, h => by
    simp only [f_D_month_l42]
    repeat' with_reducible first
      | exact Ke.none
      | exact Ke.some (by assumption)
      | refine Ke.ite ?_ ?_
      | refine Ke.gd ?_
      | (refine Ke.ltM (Kx.set (by assumption) (fun z => absurd z (by decide)) _) ?_; intro _ _)
      | (refine Ke.ltM (Kx.setl (by assumption) _ _ _) ?_; intro _ _)
      | (refine Ke.ltM (Kx.setr (by assumption) _ _ _) ?_; intro _ _)
      | (refine Ke.ltM (Kx.cpi (by assumption) (fun z => absurd z (by decide)) _ _ _ _) ?_; intro _ _)
      | (refine Ke.ltM (Kx.cpl (by assumption) _ _ _ _ _) ?_; intro _ _)
      | (refine Ke.ltV ?_; intro _)
      | (apply k_f_Dr_takeUp <;> first | assumption | (intros; apply k_f_Dr_factsIn <;> assumption) | (intros; apply k_f_Dr_drawOut <;> assumption) | (intros; refine k_f_D_month_l42 n _ _ _  _ ?_; assumption))
      | (apply k_f_Dr_factsIn <;> first | assumption | (intros; apply k_f_Dr_takeUp <;> assumption) | (intros; apply k_f_Dr_drawOut <;> assumption) | (intros; refine k_f_D_month_l42 n _ _ _  _ ?_; assumption))
      | (apply k_f_Dr_drawOut <;> first | assumption | (intros; apply k_f_Dr_takeUp <;> assumption) | (intros; apply k_f_Dr_factsIn <;> assumption) | (intros; refine k_f_D_month_l42 n _ _ _  _ ?_; assumption))
      | exact k_f_D_month_l42 n _ _ _ _ (by assumption)
      | (refine Ke.b2 (by first | (apply k_f_Dr_takeUp <;> first | assumption | (intros; apply k_f_Dr_factsIn <;> assumption) | (intros; apply k_f_Dr_drawOut <;> assumption) | (intros; refine k_f_D_month_l42 n _ _ _  _ ?_; assumption)) | (apply k_f_Dr_factsIn <;> first | assumption | (intros; apply k_f_Dr_takeUp <;> assumption) | (intros; apply k_f_Dr_drawOut <;> assumption) | (intros; refine k_f_D_month_l42 n _ _ _  _ ?_; assumption)) | (apply k_f_Dr_drawOut <;> first | assumption | (intros; apply k_f_Dr_takeUp <;> assumption) | (intros; apply k_f_Dr_factsIn <;> assumption) | (intros; refine k_f_D_month_l42 n _ _ _  _ ?_; assumption)) | exact k_f_D_month_l42 n _ _ _ _ (by assumption)) ?_; intro _ _ _)
      | (refine Ke.bdM (by first | (apply k_f_Dr_takeUp <;> first | assumption | (intros; apply k_f_Dr_factsIn <;> assumption) | (intros; apply k_f_Dr_drawOut <;> assumption) | (intros; refine k_f_D_month_l42 n _ _ _  _ ?_; assumption)) | (apply k_f_Dr_factsIn <;> first | assumption | (intros; apply k_f_Dr_takeUp <;> assumption) | (intros; apply k_f_Dr_drawOut <;> assumption) | (intros; refine k_f_D_month_l42 n _ _ _  _ ?_; assumption)) | (apply k_f_Dr_drawOut <;> first | assumption | (intros; apply k_f_Dr_takeUp <;> assumption) | (intros; apply k_f_Dr_factsIn <;> assumption) | (intros; refine k_f_D_month_l42 n _ _ _  _ ?_; assumption)) | exact k_f_D_month_l42 n _ _ _ _ (by assumption)) ?_; intro _ _)
      | (refine Ke.bdV ?_; intro _)
theorem k_f_D_month  {M0 M : Mem}  (h : Kx false M0 M) : Ke false M0 (f_D_month  M) := by
    unfold f_D_month
    repeat' with_reducible first
      | exact Ke.none
      | exact Ke.some (by assumption)
      | refine Ke.ite ?_ ?_
      | refine Ke.gd ?_
      | (refine Ke.ltM (Kx.set (by assumption) (fun z => absurd z (by decide)) _) ?_; intro _ _)
      | (refine Ke.ltM (Kx.setl (by assumption) _ _ _) ?_; intro _ _)
      | (refine Ke.ltM (Kx.setr (by assumption) _ _ _) ?_; intro _ _)
      | (refine Ke.ltM (Kx.cpi (by assumption) (fun z => absurd z (by decide)) _ _ _ _) ?_; intro _ _)
      | (refine Ke.ltM (Kx.cpl (by assumption) _ _ _ _ _) ?_; intro _ _)
      | (refine Ke.ltV ?_; intro _)
      | (apply k_f_D_month_l42 <;> first | assumption)
      | (refine Ke.b2 (by first | (apply k_f_D_month_l42 <;> first | assumption)) ?_; intro _ _ _)
      | (refine Ke.bdM (by first | (apply k_f_D_month_l42 <;> first | assumption)) ?_; intro _ _)
      | (refine Ke.bdV ?_; intro _)
theorem k_f_D_mend_b55 (v2 : Int32) (v3 : Int32) (v4 : Int32) (v5 : Nat) {M0 M : Mem}  (h : Kx false M0 M) : Ke false M0 (f_D_mend_b55 v2 v3 v4 v5 M) := by
    unfold f_D_mend_b55
    repeat' with_reducible first
      | exact Ke.none
      | exact Ke.some (by assumption)
      | refine Ke.ite ?_ ?_
      | refine Ke.gd ?_
      | (refine Ke.ltM (Kx.set (by assumption) (fun z => absurd z (by decide)) _) ?_; intro _ _)
      | (refine Ke.ltM (Kx.setl (by assumption) _ _ _) ?_; intro _ _)
      | (refine Ke.ltM (Kx.setr (by assumption) _ _ _) ?_; intro _ _)
      | (refine Ke.ltM (Kx.cpi (by assumption) (fun z => absurd z (by decide)) _ _ _ _) ?_; intro _ _)
      | (refine Ke.ltM (Kx.cpl (by assumption) _ _ _ _ _) ?_; intro _ _)
      | (refine Ke.ltV ?_; intro _)
      | (apply k_f_Dr_cutMore <;> first | assumption | (intros; apply k_f_Dr_packMore <;> assumption) | (intros; apply k_f_Dr_driveScrews <;> assumption) | (intros; apply k_f_Dr_paintSide <;> assumption))
      | (apply k_f_Dr_packMore <;> first | assumption | (intros; apply k_f_Dr_cutMore <;> assumption) | (intros; apply k_f_Dr_driveScrews <;> assumption) | (intros; apply k_f_Dr_paintSide <;> assumption))
      | (apply k_f_Dr_driveScrews <;> first | assumption | (intros; apply k_f_Dr_cutMore <;> assumption) | (intros; apply k_f_Dr_packMore <;> assumption) | (intros; apply k_f_Dr_paintSide <;> assumption))
      | (apply k_f_Dr_paintSide <;> first | assumption | (intros; apply k_f_Dr_cutMore <;> assumption) | (intros; apply k_f_Dr_packMore <;> assumption) | (intros; apply k_f_Dr_driveScrews <;> assumption))
      | (refine Ke.b2 (by first | (apply k_f_Dr_cutMore <;> first | assumption | (intros; apply k_f_Dr_packMore <;> assumption) | (intros; apply k_f_Dr_driveScrews <;> assumption) | (intros; apply k_f_Dr_paintSide <;> assumption)) | (apply k_f_Dr_packMore <;> first | assumption | (intros; apply k_f_Dr_cutMore <;> assumption) | (intros; apply k_f_Dr_driveScrews <;> assumption) | (intros; apply k_f_Dr_paintSide <;> assumption)) | (apply k_f_Dr_driveScrews <;> first | assumption | (intros; apply k_f_Dr_cutMore <;> assumption) | (intros; apply k_f_Dr_packMore <;> assumption) | (intros; apply k_f_Dr_paintSide <;> assumption)) | (apply k_f_Dr_paintSide <;> first | assumption | (intros; apply k_f_Dr_cutMore <;> assumption) | (intros; apply k_f_Dr_packMore <;> assumption) | (intros; apply k_f_Dr_driveScrews <;> assumption))) ?_; intro _ _ _)
      | (refine Ke.bdM (by first | (apply k_f_Dr_cutMore <;> first | assumption | (intros; apply k_f_Dr_packMore <;> assumption) | (intros; apply k_f_Dr_driveScrews <;> assumption) | (intros; apply k_f_Dr_paintSide <;> assumption)) | (apply k_f_Dr_packMore <;> first | assumption | (intros; apply k_f_Dr_cutMore <;> assumption) | (intros; apply k_f_Dr_driveScrews <;> assumption) | (intros; apply k_f_Dr_paintSide <;> assumption)) | (apply k_f_Dr_driveScrews <;> first | assumption | (intros; apply k_f_Dr_cutMore <;> assumption) | (intros; apply k_f_Dr_packMore <;> assumption) | (intros; apply k_f_Dr_paintSide <;> assumption)) | (apply k_f_Dr_paintSide <;> first | assumption | (intros; apply k_f_Dr_cutMore <;> assumption) | (intros; apply k_f_Dr_packMore <;> assumption) | (intros; apply k_f_Dr_driveScrews <;> assumption))) ?_; intro _ _)
      | (refine Ke.bdV ?_; intro _)
theorem k_f_D_mend (p1 : Int32) (p2 : Int32) (p3 : Int32) (p4 : Int32) {M0 M : Mem}  (h : Kx false M0 M) : Ke false M0 (f_D_mend p1 p2 p3 p4 M) := by
    unfold f_D_mend
    repeat' with_reducible first
      | exact Ke.none
      | exact Ke.some (by assumption)
      | refine Ke.ite ?_ ?_
      | refine Ke.gd ?_
      | (refine Ke.ltM (Kx.set (by assumption) (fun z => absurd z (by decide)) _) ?_; intro _ _)
      | (refine Ke.ltM (Kx.setl (by assumption) _ _ _) ?_; intro _ _)
      | (refine Ke.ltM (Kx.setr (by assumption) _ _ _) ?_; intro _ _)
      | (refine Ke.ltM (Kx.cpi (by assumption) (fun z => absurd z (by decide)) _ _ _ _) ?_; intro _ _)
      | (refine Ke.ltM (Kx.cpl (by assumption) _ _ _ _ _) ?_; intro _ _)
      | (refine Ke.ltV ?_; intro _)
      | (apply k_f_D_mend_b55 <;> first | assumption)
      | (refine Ke.b2 (by first | (apply k_f_D_mend_b55 <;> first | assumption)) ?_; intro _ _ _)
      | (refine Ke.bdM (by first | (apply k_f_D_mend_b55 <;> first | assumption)) ?_; intro _ _)
      | (refine Ke.bdV ?_; intro _)
theorem k_f_D_run (p1 : Int32) (p2 : Int32) (p3 : Int32) {M0 M : Mem}  (h : Kx false M0 M) : Ke false M0 (f_D_run p1 p2 p3 M) := by
    unfold f_D_run
    repeat' with_reducible first
      | exact Ke.none
      | exact Ke.some (by assumption)
      | refine Ke.ite ?_ ?_
      | refine Ke.gd ?_
      | (refine Ke.ltM (Kx.set (by assumption) (fun z => absurd z (by decide)) _) ?_; intro _ _)
      | (refine Ke.ltM (Kx.setl (by assumption) _ _ _) ?_; intro _ _)
      | (refine Ke.ltM (Kx.setr (by assumption) _ _ _) ?_; intro _ _)
      | (refine Ke.ltM (Kx.cpi (by assumption) (fun z => absurd z (by decide)) _ _ _ _) ?_; intro _ _)
      | (refine Ke.ltM (Kx.cpl (by assumption) _ _ _ _ _) ?_; intro _ _)
      | (refine Ke.ltV ?_; intro _)
      | (apply k_f_D_courseNow <;> first | assumption | (intros; apply k_f_Co_goOn <;> assumption))
      | (apply k_f_Co_goOn <;> first | assumption | (intros; apply k_f_D_courseNow <;> assumption))
      | (refine Ke.b2 (by first | (apply k_f_D_courseNow <;> first | assumption | (intros; apply k_f_Co_goOn <;> assumption)) | (apply k_f_Co_goOn <;> first | assumption | (intros; apply k_f_D_courseNow <;> assumption))) ?_; intro _ _ _)
      | (refine Ke.bdM (by first | (apply k_f_D_courseNow <;> first | assumption | (intros; apply k_f_Co_goOn <;> assumption)) | (apply k_f_Co_goOn <;> first | assumption | (intros; apply k_f_D_courseNow <;> assumption))) ?_; intro _ _)
      | (refine Ke.bdV ?_; intro _)
theorem k_f_D_first_l30  {M0 : Mem}  : ∀ (n : Nat) (w0 : Int32) (w1 : Int32) (M : Mem), Kx false M0 M → Ke false M0 (f_D_first_l30  n w0 w1 M)
  | 0, _, _, _, _ => by
    simp only [f_D_first_l30]
    exact Ke.none
  | n + 1, w0, w1, M, h => by
    simp only [f_D_first_l30]
    repeat' with_reducible first
      | exact Ke.none
      | exact Ke.some (by assumption)
      | refine Ke.ite ?_ ?_
      | refine Ke.gd ?_
      | (refine Ke.ltM (Kx.set (by assumption) (fun z => absurd z (by decide)) _) ?_; intro _ _)
      | (refine Ke.ltM (Kx.setl (by assumption) _ _ _) ?_; intro _ _)
      | (refine Ke.ltM (Kx.setr (by assumption) _ _ _) ?_; intro _ _)
      | (refine Ke.ltM (Kx.cpi (by assumption) (fun z => absurd z (by decide)) _ _ _ _) ?_; intro _ _)
      | (refine Ke.ltM (Kx.cpl (by assumption) _ _ _ _ _) ?_; intro _ _)
      | (refine Ke.ltV ?_; intro _)
      | (apply k_f_Co_goOn <;> first | assumption | (intros; refine k_f_D_first_l30 n _ _  _ ?_; assumption))
      | exact k_f_D_first_l30 n _ _ _ (by assumption)
      | (refine Ke.b2 (by first | (apply k_f_Co_goOn <;> first | assumption | (intros; refine k_f_D_first_l30 n _ _  _ ?_; assumption)) | exact k_f_D_first_l30 n _ _ _ (by assumption)) ?_; intro _ _ _)
      | (refine Ke.bdM (by first | (apply k_f_Co_goOn <;> first | assumption | (intros; refine k_f_D_first_l30 n _ _  _ ?_; assumption)) | exact k_f_D_first_l30 n _ _ _ (by assumption)) ?_; intro _ _)
      | (refine Ke.bdV ?_; intro _)
theorem k_f_D_first (p1 : Int32) (p2 : Int32) {M0 M : Mem}  (h : Kx false M0 M) : Ke false M0 (f_D_first p1 p2 M) := by
    unfold f_D_first
    repeat' with_reducible first
      | exact Ke.none
      | exact Ke.some (by assumption)
      | refine Ke.ite ?_ ?_
      | refine Ke.gd ?_
      | (refine Ke.ltM (Kx.set (by assumption) (fun z => absurd z (by decide)) _) ?_; intro _ _)
      | (refine Ke.ltM (Kx.setl (by assumption) _ _ _) ?_; intro _ _)
      | (refine Ke.ltM (Kx.setr (by assumption) _ _ _) ?_; intro _ _)
      | (refine Ke.ltM (Kx.cpi (by assumption) (fun z => absurd z (by decide)) _ _ _ _) ?_; intro _ _)
      | (refine Ke.ltM (Kx.cpl (by assumption) _ _ _ _ _) ?_; intro _ _)
      | (refine Ke.ltV ?_; intro _)
      | (apply k_f_D_courseNow <;> first | assumption | (intros; apply k_f_D_first_l30 <;> assumption))
      | (apply k_f_D_first_l30 <;> first | assumption | (intros; apply k_f_D_courseNow <;> assumption))
      | (refine Ke.b2 (by first | (apply k_f_D_courseNow <;> first | assumption | (intros; apply k_f_D_first_l30 <;> assumption)) | (apply k_f_D_first_l30 <;> first | assumption | (intros; apply k_f_D_courseNow <;> assumption))) ?_; intro _ _ _)
      | (refine Ke.bdM (by first | (apply k_f_D_courseNow <;> first | assumption | (intros; apply k_f_D_first_l30 <;> assumption)) | (apply k_f_D_first_l30 <;> first | assumption | (intros; apply k_f_D_courseNow <;> assumption))) ?_; intro _ _)
      | (refine Ke.bdV ?_; intro _)
theorem k_f_D_worst (p1 : Int32) (p2 : Int32) (p3 : Int32) (p4 : Int32) {M0 M : Mem}  (h : Kx false M0 M) : Ke false M0 (f_D_worst p1 p2 p3 p4 M) := by
    unfold f_D_worst
    repeat' with_reducible first
      | exact Ke.none
      | exact Ke.some (by assumption)
      | refine Ke.ite ?_ ?_
      | refine Ke.gd ?_
      | (refine Ke.ltM (Kx.set (by assumption) (fun z => absurd z (by decide)) _) ?_; intro _ _)
      | (refine Ke.ltM (Kx.setl (by assumption) _ _ _) ?_; intro _ _)
      | (refine Ke.ltM (Kx.setr (by assumption) _ _ _) ?_; intro _ _)
      | (refine Ke.ltM (Kx.cpi (by assumption) (fun z => absurd z (by decide)) _ _ _ _) ?_; intro _ _)
      | (refine Ke.ltM (Kx.cpl (by assumption) _ _ _ _ _) ?_; intro _ _)
      | (refine Ke.ltV ?_; intro _)
      | (apply k_f_D_courseNow <;> first | assumption | (intros; apply k_f_Co_goThrough <;> assumption))
      | (apply k_f_Co_goThrough <;> first | assumption | (intros; apply k_f_D_courseNow <;> assumption))
      | (refine Ke.b2 (by first | (apply k_f_D_courseNow <;> first | assumption | (intros; apply k_f_Co_goThrough <;> assumption)) | (apply k_f_Co_goThrough <;> first | assumption | (intros; apply k_f_D_courseNow <;> assumption))) ?_; intro _ _ _)
      | (refine Ke.bdM (by first | (apply k_f_D_courseNow <;> first | assumption | (intros; apply k_f_Co_goThrough <;> assumption)) | (apply k_f_Co_goThrough <;> first | assumption | (intros; apply k_f_D_courseNow <;> assumption))) ?_; intro _ _)
      | (refine Ke.bdV ?_; intro _)
theorem k_f_D_off (p1 : Int32) (p2 : Int32) {M0 M : Mem}  (h : Kx false M0 M) : Ke false M0 (f_D_off p1 p2 M) := by
    unfold f_D_off
    repeat' with_reducible first
      | exact Ke.none
      | exact Ke.some (by assumption)
      | refine Ke.ite ?_ ?_
      | refine Ke.gd ?_
      | (refine Ke.ltM (Kx.set (by assumption) (fun z => absurd z (by decide)) _) ?_; intro _ _)
      | (refine Ke.ltM (Kx.setl (by assumption) _ _ _) ?_; intro _ _)
      | (refine Ke.ltM (Kx.setr (by assumption) _ _ _) ?_; intro _ _)
      | (refine Ke.ltM (Kx.cpi (by assumption) (fun z => absurd z (by decide)) _ _ _ _) ?_; intro _ _)
      | (refine Ke.ltM (Kx.cpl (by assumption) _ _ _ _ _) ?_; intro _ _)
      | (refine Ke.ltV ?_; intro _)
      | (apply k_f_D_courseNow <;> first | assumption | (intros; apply k_f_Co_goThrough <;> assumption))
      | (apply k_f_Co_goThrough <;> first | assumption | (intros; apply k_f_D_courseNow <;> assumption))
      | (refine Ke.b2 (by first | (apply k_f_D_courseNow <;> first | assumption | (intros; apply k_f_Co_goThrough <;> assumption)) | (apply k_f_Co_goThrough <;> first | assumption | (intros; apply k_f_D_courseNow <;> assumption))) ?_; intro _ _ _)
      | (refine Ke.bdM (by first | (apply k_f_D_courseNow <;> first | assumption | (intros; apply k_f_Co_goThrough <;> assumption)) | (apply k_f_Co_goThrough <;> first | assumption | (intros; apply k_f_D_courseNow <;> assumption))) ?_; intro _ _)
      | (refine Ke.bdV ?_; intro _)
theorem k_f_D_costOf_b78 (p1 : Nat) (v2 : Int32) (v4 : Int32) {M0 M : Mem}  (h : Kx false M0 M) : Ke false M0 (f_D_costOf_b78 p1 v2 v4 M) := by
    unfold f_D_costOf_b78
    repeat' with_reducible first
      | exact Ke.none
      | exact Ke.some (by assumption)
      | refine Ke.ite ?_ ?_
      | refine Ke.gd ?_
      | (refine Ke.ltM (Kx.set (by assumption) (fun z => absurd z (by decide)) _) ?_; intro _ _)
      | (refine Ke.ltM (Kx.setl (by assumption) _ _ _) ?_; intro _ _)
      | (refine Ke.ltM (Kx.setr (by assumption) _ _ _) ?_; intro _ _)
      | (refine Ke.ltM (Kx.cpi (by assumption) (fun z => absurd z (by decide)) _ _ _ _) ?_; intro _ _)
      | (refine Ke.ltM (Kx.cpl (by assumption) _ _ _ _ _) ?_; intro _ _)
      | (refine Ke.ltV ?_; intro _)
      | (apply k_f_Co_settle <;> first | assumption | (intros; apply k_f_Co_goThrough <;> assumption))
      | (apply k_f_Co_goThrough <;> first | assumption | (intros; apply k_f_Co_settle <;> assumption))
      | (refine Ke.b2 (by first | (apply k_f_Co_settle <;> first | assumption | (intros; apply k_f_Co_goThrough <;> assumption)) | (apply k_f_Co_goThrough <;> first | assumption | (intros; apply k_f_Co_settle <;> assumption))) ?_; intro _ _ _)
      | (refine Ke.bdM (by first | (apply k_f_Co_settle <;> first | assumption | (intros; apply k_f_Co_goThrough <;> assumption)) | (apply k_f_Co_goThrough <;> first | assumption | (intros; apply k_f_Co_settle <;> assumption))) ?_; intro _ _)
      | (refine Ke.bdV ?_; intro _)
theorem k_f_D_costOf_b56 (p1 : Nat) (v2 : Int32) (v3 : Nat) (v4 : Int32) {M0 M : Mem}  (h : Kx false M0 M) : Ke false M0 (f_D_costOf_b56 p1 v2 v3 v4 M) := by
    unfold f_D_costOf_b56
    repeat' with_reducible first
      | exact Ke.none
      | exact Ke.some (by assumption)
      | refine Ke.ite ?_ ?_
      | refine Ke.gd ?_
      | (refine Ke.ltM (Kx.set (by assumption) (fun z => absurd z (by decide)) _) ?_; intro _ _)
      | (refine Ke.ltM (Kx.setl (by assumption) _ _ _) ?_; intro _ _)
      | (refine Ke.ltM (Kx.setr (by assumption) _ _ _) ?_; intro _ _)
      | (refine Ke.ltM (Kx.cpi (by assumption) (fun z => absurd z (by decide)) _ _ _ _) ?_; intro _ _)
      | (refine Ke.ltM (Kx.cpl (by assumption) _ _ _ _ _) ?_; intro _ _)
      | (refine Ke.ltV ?_; intro _)
      | (apply k_f_D_costOf_b78 <;> first | assumption | (intros; apply k_f_Dr_paintSide <;> assumption))
      | (apply k_f_Dr_paintSide <;> first | assumption | (intros; apply k_f_D_costOf_b78 <;> assumption))
      | (refine Ke.b2 (by first | (apply k_f_D_costOf_b78 <;> first | assumption | (intros; apply k_f_Dr_paintSide <;> assumption)) | (apply k_f_Dr_paintSide <;> first | assumption | (intros; apply k_f_D_costOf_b78 <;> assumption))) ?_; intro _ _ _)
      | (refine Ke.bdM (by first | (apply k_f_D_costOf_b78 <;> first | assumption | (intros; apply k_f_Dr_paintSide <;> assumption)) | (apply k_f_Dr_paintSide <;> first | assumption | (intros; apply k_f_D_costOf_b78 <;> assumption))) ?_; intro _ _)
      | (refine Ke.bdV ?_; intro _)
theorem k_f_D_costOf_b42 (p1 : Nat) (v2 : Int32) (v3 : Nat) (v4 : Int32) {M0 M : Mem}  (h : Kx false M0 M) : Ke false M0 (f_D_costOf_b42 p1 v2 v3 v4 M) := by
    unfold f_D_costOf_b42
    repeat' with_reducible first
      | exact Ke.none
      | exact Ke.some (by assumption)
      | refine Ke.ite ?_ ?_
      | refine Ke.gd ?_
      | (refine Ke.ltM (Kx.set (by assumption) (fun z => absurd z (by decide)) _) ?_; intro _ _)
      | (refine Ke.ltM (Kx.setl (by assumption) _ _ _) ?_; intro _ _)
      | (refine Ke.ltM (Kx.setr (by assumption) _ _ _) ?_; intro _ _)
      | (refine Ke.ltM (Kx.cpi (by assumption) (fun z => absurd z (by decide)) _ _ _ _) ?_; intro _ _)
      | (refine Ke.ltM (Kx.cpl (by assumption) _ _ _ _ _) ?_; intro _ _)
      | (refine Ke.ltV ?_; intro _)
      | (apply k_f_D_costOf_b56 <;> first | assumption | (intros; apply k_f_Dr_driveScrews <;> assumption))
      | (apply k_f_Dr_driveScrews <;> first | assumption | (intros; apply k_f_D_costOf_b56 <;> assumption))
      | (refine Ke.b2 (by first | (apply k_f_D_costOf_b56 <;> first | assumption | (intros; apply k_f_Dr_driveScrews <;> assumption)) | (apply k_f_Dr_driveScrews <;> first | assumption | (intros; apply k_f_D_costOf_b56 <;> assumption))) ?_; intro _ _ _)
      | (refine Ke.bdM (by first | (apply k_f_D_costOf_b56 <;> first | assumption | (intros; apply k_f_Dr_driveScrews <;> assumption)) | (apply k_f_Dr_driveScrews <;> first | assumption | (intros; apply k_f_D_costOf_b56 <;> assumption))) ?_; intro _ _)
      | (refine Ke.bdV ?_; intro _)
theorem k_f_D_costOf (p1 : Nat) (p2 : Int32) {M0 M : Mem}  (h : Kx false M0 M) : Ke false M0 (f_D_costOf p1 p2 M) := by
    unfold f_D_costOf
    repeat' with_reducible first
      | exact Ke.none
      | exact Ke.some (by assumption)
      | refine Ke.ite ?_ ?_
      | refine Ke.gd ?_
      | (refine Ke.ltM (Kx.set (by assumption) (fun z => absurd z (by decide)) _) ?_; intro _ _)
      | (refine Ke.ltM (Kx.setl (by assumption) _ _ _) ?_; intro _ _)
      | (refine Ke.ltM (Kx.setr (by assumption) _ _ _) ?_; intro _ _)
      | (refine Ke.ltM (Kx.cpi (by assumption) (fun z => absurd z (by decide)) _ _ _ _) ?_; intro _ _)
      | (refine Ke.ltM (Kx.cpl (by assumption) _ _ _ _ _) ?_; intro _ _)
      | (refine Ke.ltV ?_; intro _)
      | (apply k_f_Co_begin <;> first | assumption | (intros; apply k_f_D_costOf_b42 <;> assumption) | (intros; apply k_f_Dr_packMore <;> assumption))
      | (apply k_f_D_costOf_b42 <;> first | assumption | (intros; apply k_f_Co_begin <;> assumption) | (intros; apply k_f_Dr_packMore <;> assumption))
      | (apply k_f_Dr_packMore <;> first | assumption | (intros; apply k_f_Co_begin <;> assumption) | (intros; apply k_f_D_costOf_b42 <;> assumption))
      | (refine Ke.b2 (by first | (apply k_f_Co_begin <;> first | assumption | (intros; apply k_f_D_costOf_b42 <;> assumption) | (intros; apply k_f_Dr_packMore <;> assumption)) | (apply k_f_D_costOf_b42 <;> first | assumption | (intros; apply k_f_Co_begin <;> assumption) | (intros; apply k_f_Dr_packMore <;> assumption)) | (apply k_f_Dr_packMore <;> first | assumption | (intros; apply k_f_Co_begin <;> assumption) | (intros; apply k_f_D_costOf_b42 <;> assumption))) ?_; intro _ _ _)
      | (refine Ke.bdM (by first | (apply k_f_Co_begin <;> first | assumption | (intros; apply k_f_D_costOf_b42 <;> assumption) | (intros; apply k_f_Dr_packMore <;> assumption)) | (apply k_f_D_costOf_b42 <;> first | assumption | (intros; apply k_f_Co_begin <;> assumption) | (intros; apply k_f_Dr_packMore <;> assumption)) | (apply k_f_Dr_packMore <;> first | assumption | (intros; apply k_f_Co_begin <;> assumption) | (intros; apply k_f_D_costOf_b42 <;> assumption))) ?_; intro _ _)
      | (refine Ke.bdV ?_; intro _)
theorem k_f_D_cheapest_l31  {M0 : Mem}  : ∀ (n : Nat) (w0 : Int32) (w1 : Nat) (w2 : Int32) (w3 : Int32) (w4 : Int32) (M : Mem), Kx false M0 M → Ke false M0 (f_D_cheapest_l31  n w0 w1 w2 w3 w4 M)
  | 0, _, _, _, _, _, _, _ => by
    simp only [f_D_cheapest_l31]
    exact Ke.none
  | n + 1, w0, w1, w2, w3, w4, M, h => by
    simp only [f_D_cheapest_l31]
    repeat' with_reducible first
      | exact Ke.none
      | exact Ke.some (by assumption)
      | refine Ke.ite ?_ ?_
      | refine Ke.gd ?_
      | (refine Ke.ltM (Kx.set (by assumption) (fun z => absurd z (by decide)) _) ?_; intro _ _)
      | (refine Ke.ltM (Kx.setl (by assumption) _ _ _) ?_; intro _ _)
      | (refine Ke.ltM (Kx.setr (by assumption) _ _ _) ?_; intro _ _)
      | (refine Ke.ltM (Kx.cpi (by assumption) (fun z => absurd z (by decide)) _ _ _ _) ?_; intro _ _)
      | (refine Ke.ltM (Kx.cpl (by assumption) _ _ _ _ _) ?_; intro _ _)
      | (refine Ke.ltV ?_; intro _)
      | (apply k_f_D_costOf <;> first | assumption | (intros; refine k_f_D_cheapest_l31 n _ _ _ _ _  _ ?_; assumption))
      | exact k_f_D_cheapest_l31 n _ _ _ _ _ _ (by assumption)
      | (refine Ke.b2 (by first | (apply k_f_D_costOf <;> first | assumption | (intros; refine k_f_D_cheapest_l31 n _ _ _ _ _  _ ?_; assumption)) | exact k_f_D_cheapest_l31 n _ _ _ _ _ _ (by assumption)) ?_; intro _ _ _)
      | (refine Ke.bdM (by first | (apply k_f_D_costOf <;> first | assumption | (intros; refine k_f_D_cheapest_l31 n _ _ _ _ _  _ ?_; assumption)) | exact k_f_D_cheapest_l31 n _ _ _ _ _ _ (by assumption)) ?_; intro _ _)
      | (refine Ke.bdV ?_; intro _)
theorem k_f_D_cheapest (p1 : Int32) (p2 : Int32) {M0 M : Mem}  (h : Kx false M0 M) : Ke false M0 (f_D_cheapest p1 p2 M) := by
    unfold f_D_cheapest
    repeat' with_reducible first
      | exact Ke.none
      | exact Ke.some (by assumption)
      | refine Ke.ite ?_ ?_
      | refine Ke.gd ?_
      | (refine Ke.ltM (Kx.set (by assumption) (fun z => absurd z (by decide)) _) ?_; intro _ _)
      | (refine Ke.ltM (Kx.setl (by assumption) _ _ _) ?_; intro _ _)
      | (refine Ke.ltM (Kx.setr (by assumption) _ _ _) ?_; intro _ _)
      | (refine Ke.ltM (Kx.cpi (by assumption) (fun z => absurd z (by decide)) _ _ _ _) ?_; intro _ _)
      | (refine Ke.ltM (Kx.cpl (by assumption) _ _ _ _ _) ?_; intro _ _)
      | (refine Ke.ltV ?_; intro _)
      | (apply k_f_D_cheapest_l31 <;> first | assumption)
      | (refine Ke.b2 (by first | (apply k_f_D_cheapest_l31 <;> first | assumption)) ?_; intro _ _ _)
      | (refine Ke.bdM (by first | (apply k_f_D_cheapest_l31 <;> first | assumption)) ?_; intro _ _)
      | (refine Ke.bdV ?_; intro _)
theorem k_f_D_why_b163 (v2 : Int32) (v3 : Nat) (v4 : Nat) (v5 : Int32) (s0 : Int32) (s1 : Int32) {M0 M : Mem}  (h : Kx false M0 M) : Ke false M0 (f_D_why_b163 v2 v3 v4 v5 s0 s1 M) := by
    unfold f_D_why_b163
    repeat' with_reducible first
      | exact Ke.none
      | exact Ke.some (by assumption)
      | refine Ke.ite ?_ ?_
      | refine Ke.gd ?_
      | (refine Ke.ltM (Kx.set (by assumption) (fun z => absurd z (by decide)) _) ?_; intro _ _)
      | (refine Ke.ltM (Kx.setl (by assumption) _ _ _) ?_; intro _ _)
      | (refine Ke.ltM (Kx.setr (by assumption) _ _ _) ?_; intro _ _)
      | (refine Ke.ltM (Kx.cpi (by assumption) (fun z => absurd z (by decide)) _ _ _ _) ?_; intro _ _)
      | (refine Ke.ltM (Kx.cpl (by assumption) _ _ _ _ _) ?_; intro _ _)
      | (refine Ke.ltV ?_; intro _)
      | (refine Ke.bdV ?_; intro _)
theorem k_f_D_why_b124 (v2 : Int32) (v3 : Nat) (v4 : Nat) (v5 : Int32) (s0 : Int32) (s1 : Int32) {M0 M : Mem}  (h : Kx false M0 M) : Ke false M0 (f_D_why_b124 v2 v3 v4 v5 s0 s1 M) := by
    unfold f_D_why_b124
    repeat' with_reducible first
      | exact Ke.none
      | exact Ke.some (by assumption)
      | refine Ke.ite ?_ ?_
      | refine Ke.gd ?_
      | (refine Ke.ltM (Kx.set (by assumption) (fun z => absurd z (by decide)) _) ?_; intro _ _)
      | (refine Ke.ltM (Kx.setl (by assumption) _ _ _) ?_; intro _ _)
      | (refine Ke.ltM (Kx.setr (by assumption) _ _ _) ?_; intro _ _)
      | (refine Ke.ltM (Kx.cpi (by assumption) (fun z => absurd z (by decide)) _ _ _ _) ?_; intro _ _)
      | (refine Ke.ltM (Kx.cpl (by assumption) _ _ _ _ _) ?_; intro _ _)
      | (refine Ke.ltV ?_; intro _)
      | (apply k_f_D_why_b163 <;> first | assumption)
      | (refine Ke.b2 (by first | (apply k_f_D_why_b163 <;> first | assumption)) ?_; intro _ _ _)
      | (refine Ke.bdM (by first | (apply k_f_D_why_b163 <;> first | assumption)) ?_; intro _ _)
      | (refine Ke.bdV ?_; intro _)
theorem k_f_D_why_b85 (v2 : Int32) (v3 : Nat) (v4 : Nat) (v5 : Int32) (s0 : Int32) (s1 : Int32) {M0 M : Mem}  (h : Kx false M0 M) : Ke false M0 (f_D_why_b85 v2 v3 v4 v5 s0 s1 M) := by
    unfold f_D_why_b85
    repeat' with_reducible first
      | exact Ke.none
      | exact Ke.some (by assumption)
      | refine Ke.ite ?_ ?_
      | refine Ke.gd ?_
      | (refine Ke.ltM (Kx.set (by assumption) (fun z => absurd z (by decide)) _) ?_; intro _ _)
      | (refine Ke.ltM (Kx.setl (by assumption) _ _ _) ?_; intro _ _)
      | (refine Ke.ltM (Kx.setr (by assumption) _ _ _) ?_; intro _ _)
      | (refine Ke.ltM (Kx.cpi (by assumption) (fun z => absurd z (by decide)) _ _ _ _) ?_; intro _ _)
      | (refine Ke.ltM (Kx.cpl (by assumption) _ _ _ _ _) ?_; intro _ _)
      | (refine Ke.ltV ?_; intro _)
      | (apply k_f_D_why_b124 <;> first | assumption)
      | (refine Ke.b2 (by first | (apply k_f_D_why_b124 <;> first | assumption)) ?_; intro _ _ _)
      | (refine Ke.bdM (by first | (apply k_f_D_why_b124 <;> first | assumption)) ?_; intro _ _)
      | (refine Ke.bdV ?_; intro _)
theorem k_f_D_why (p1 : Int32) (p2 : Int32) {M0 M : Mem}  (h : Kx false M0 M) : Ke false M0 (f_D_why p1 p2 M) := by
    unfold f_D_why
    repeat' with_reducible first
      | exact Ke.none
      | exact Ke.some (by assumption)
      | refine Ke.ite ?_ ?_
      | refine Ke.gd ?_
      | (refine Ke.ltM (Kx.set (by assumption) (fun z => absurd z (by decide)) _) ?_; intro _ _)
      | (refine Ke.ltM (Kx.setl (by assumption) _ _ _) ?_; intro _ _)
      | (refine Ke.ltM (Kx.setr (by assumption) _ _ _) ?_; intro _ _)
      | (refine Ke.ltM (Kx.cpi (by assumption) (fun z => absurd z (by decide)) _ _ _ _) ?_; intro _ _)
      | (refine Ke.ltM (Kx.cpl (by assumption) _ _ _ _ _) ?_; intro _ _)
      | (refine Ke.ltV ?_; intro _)
      | (apply k_f_D_courseNow <;> first | assumption | (intros; apply k_f_D_why_b85 <;> assumption))
      | (apply k_f_D_why_b85 <;> first | assumption | (intros; apply k_f_D_courseNow <;> assumption))
      | (refine Ke.b2 (by first | (apply k_f_D_courseNow <;> first | assumption | (intros; apply k_f_D_why_b85 <;> assumption)) | (apply k_f_D_why_b85 <;> first | assumption | (intros; apply k_f_D_courseNow <;> assumption))) ?_; intro _ _ _)
      | (refine Ke.bdM (by first | (apply k_f_D_courseNow <;> first | assumption | (intros; apply k_f_D_why_b85 <;> assumption)) | (apply k_f_D_why_b85 <;> first | assumption | (intros; apply k_f_D_courseNow <;> assumption))) ?_; intro _ _)
      | (refine Ke.bdV ?_; intro _)
theorem k_f_D_odds_l29  {M0 : Mem}  : ∀ (n : Nat) (w0 : Int32) (w1 : Nat) (w2 : Int32) (w3 : Int32) (M : Mem), Kx false M0 M → Ke false M0 (f_D_odds_l29  n w0 w1 w2 w3 M)
  | 0, _, _, _, _, _, _ => by
    simp only [f_D_odds_l29]
    exact Ke.none
  | n + 1, w0, w1, w2, w3, M, h => by
    simp only [f_D_odds_l29]
    repeat' with_reducible first
      | exact Ke.none
      | exact Ke.some (by assumption)
      | refine Ke.ite ?_ ?_
      | refine Ke.gd ?_
      | (refine Ke.ltM (Kx.set (by assumption) (fun z => absurd z (by decide)) _) ?_; intro _ _)
      | (refine Ke.ltM (Kx.setl (by assumption) _ _ _) ?_; intro _ _)
      | (refine Ke.ltM (Kx.setr (by assumption) _ _ _) ?_; intro _ _)
      | (refine Ke.ltM (Kx.cpi (by assumption) (fun z => absurd z (by decide)) _ _ _ _) ?_; intro _ _)
      | (refine Ke.ltM (Kx.cpl (by assumption) _ _ _ _ _) ?_; intro _ _)
      | (refine Ke.ltV ?_; intro _)
      | (apply k_f_D_courseNow <;> first | assumption | (intros; apply k_f_Co_goInAir <;> assumption) | (intros; refine k_f_D_odds_l29 n _ _ _ _  _ ?_; assumption))
      | (apply k_f_Co_goInAir <;> first | assumption | (intros; apply k_f_D_courseNow <;> assumption) | (intros; refine k_f_D_odds_l29 n _ _ _ _  _ ?_; assumption))
      | exact k_f_D_odds_l29 n _ _ _ _ _ (by assumption)
      | (refine Ke.b2 (by first | (apply k_f_D_courseNow <;> first | assumption | (intros; apply k_f_Co_goInAir <;> assumption) | (intros; refine k_f_D_odds_l29 n _ _ _ _  _ ?_; assumption)) | (apply k_f_Co_goInAir <;> first | assumption | (intros; apply k_f_D_courseNow <;> assumption) | (intros; refine k_f_D_odds_l29 n _ _ _ _  _ ?_; assumption)) | exact k_f_D_odds_l29 n _ _ _ _ _ (by assumption)) ?_; intro _ _ _)
      | (refine Ke.bdM (by first | (apply k_f_D_courseNow <;> first | assumption | (intros; apply k_f_Co_goInAir <;> assumption) | (intros; refine k_f_D_odds_l29 n _ _ _ _  _ ?_; assumption)) | (apply k_f_Co_goInAir <;> first | assumption | (intros; apply k_f_D_courseNow <;> assumption) | (intros; refine k_f_D_odds_l29 n _ _ _ _  _ ?_; assumption)) | exact k_f_D_odds_l29 n _ _ _ _ _ (by assumption)) ?_; intro _ _)
      | (refine Ke.bdV ?_; intro _)
theorem k_f_D_odds (p1 : Int32) (p2 : Int32) {M0 M : Mem}  (h : Kx false M0 M) : Ke false M0 (f_D_odds p1 p2 M) := by
    unfold f_D_odds
    repeat' with_reducible first
      | exact Ke.none
      | exact Ke.some (by assumption)
      | refine Ke.ite ?_ ?_
      | refine Ke.gd ?_
      | (refine Ke.ltM (Kx.set (by assumption) (fun z => absurd z (by decide)) _) ?_; intro _ _)
      | (refine Ke.ltM (Kx.setl (by assumption) _ _ _) ?_; intro _ _)
      | (refine Ke.ltM (Kx.setr (by assumption) _ _ _) ?_; intro _ _)
      | (refine Ke.ltM (Kx.cpi (by assumption) (fun z => absurd z (by decide)) _ _ _ _) ?_; intro _ _)
      | (refine Ke.ltM (Kx.cpl (by assumption) _ _ _ _ _) ?_; intro _ _)
      | (refine Ke.ltV ?_; intro _)
      | (apply k_f_D_odds_l29 <;> first | assumption)
      | (refine Ke.b2 (by first | (apply k_f_D_odds_l29 <;> first | assumption)) ?_; intro _ _ _)
      | (refine Ke.bdM (by first | (apply k_f_D_odds_l29 <;> first | assumption)) ?_; intro _ _)
      | (refine Ke.bdV ?_; intro _)
theorem k_f_D_mean_l40  {M0 : Mem}  : ∀ (n : Nat) (w0 : Int32) (w1 : Int32) (w2 : Nat) (w3 : Int32) (w4 : Int32) (M : Mem), Kx false M0 M → Ke false M0 (f_D_mean_l40  n w0 w1 w2 w3 w4 M)
  | 0, _, _, _, _, _, _, _ => by
    simp only [f_D_mean_l40]
    exact Ke.none
  | n + 1, w0, w1, w2, w3, w4, M, h => by
    simp only [f_D_mean_l40]
    repeat' with_reducible first
      | exact Ke.none
      | exact Ke.some (by assumption)
      | refine Ke.ite ?_ ?_
      | refine Ke.gd ?_
      | (refine Ke.ltM (Kx.set (by assumption) (fun z => absurd z (by decide)) _) ?_; intro _ _)
      | (refine Ke.ltM (Kx.setl (by assumption) _ _ _) ?_; intro _ _)
      | (refine Ke.ltM (Kx.setr (by assumption) _ _ _) ?_; intro _ _)
      | (refine Ke.ltM (Kx.cpi (by assumption) (fun z => absurd z (by decide)) _ _ _ _) ?_; intro _ _)
      | (refine Ke.ltM (Kx.cpl (by assumption) _ _ _ _ _) ?_; intro _ _)
      | (refine Ke.ltV ?_; intro _)
      | (apply k_f_D_courseNow <;> first | assumption | (intros; apply k_f_Co_goInAir <;> assumption) | (intros; refine k_f_D_mean_l40 n _ _ _ _ _  _ ?_; assumption))
      | (apply k_f_Co_goInAir <;> first | assumption | (intros; apply k_f_D_courseNow <;> assumption) | (intros; refine k_f_D_mean_l40 n _ _ _ _ _  _ ?_; assumption))
      | exact k_f_D_mean_l40 n _ _ _ _ _ _ (by assumption)
      | (refine Ke.b2 (by first | (apply k_f_D_courseNow <;> first | assumption | (intros; apply k_f_Co_goInAir <;> assumption) | (intros; refine k_f_D_mean_l40 n _ _ _ _ _  _ ?_; assumption)) | (apply k_f_Co_goInAir <;> first | assumption | (intros; apply k_f_D_courseNow <;> assumption) | (intros; refine k_f_D_mean_l40 n _ _ _ _ _  _ ?_; assumption)) | exact k_f_D_mean_l40 n _ _ _ _ _ _ (by assumption)) ?_; intro _ _ _)
      | (refine Ke.bdM (by first | (apply k_f_D_courseNow <;> first | assumption | (intros; apply k_f_Co_goInAir <;> assumption) | (intros; refine k_f_D_mean_l40 n _ _ _ _ _  _ ?_; assumption)) | (apply k_f_Co_goInAir <;> first | assumption | (intros; apply k_f_D_courseNow <;> assumption) | (intros; refine k_f_D_mean_l40 n _ _ _ _ _  _ ?_; assumption)) | exact k_f_D_mean_l40 n _ _ _ _ _ _ (by assumption)) ?_; intro _ _)
      | (refine Ke.bdV ?_; intro _)
theorem k_f_D_mean (p1 : Int32) (p2 : Int32) (p3 : Int32) {M0 M : Mem}  (h : Kx false M0 M) : Ke false M0 (f_D_mean p1 p2 p3 M) := by
    unfold f_D_mean
    repeat' with_reducible first
      | exact Ke.none
      | exact Ke.some (by assumption)
      | refine Ke.ite ?_ ?_
      | refine Ke.gd ?_
      | (refine Ke.ltM (Kx.set (by assumption) (fun z => absurd z (by decide)) _) ?_; intro _ _)
      | (refine Ke.ltM (Kx.setl (by assumption) _ _ _) ?_; intro _ _)
      | (refine Ke.ltM (Kx.setr (by assumption) _ _ _) ?_; intro _ _)
      | (refine Ke.ltM (Kx.cpi (by assumption) (fun z => absurd z (by decide)) _ _ _ _) ?_; intro _ _)
      | (refine Ke.ltM (Kx.cpl (by assumption) _ _ _ _ _) ?_; intro _ _)
      | (refine Ke.ltV ?_; intro _)
      | (apply k_f_D_mean_l40 <;> first | assumption)
      | (refine Ke.b2 (by first | (apply k_f_D_mean_l40 <;> first | assumption)) ?_; intro _ _ _)
      | (refine Ke.bdM (by first | (apply k_f_D_mean_l40 <;> first | assumption)) ?_; intro _ _)
      | (refine Ke.bdV ?_; intro _)
theorem k_f_D_rubsLessChanged (p1 : Nat) (p2 : Nat) {M0 M : Mem}  (h : Kx false M0 M) : Ke false M0 (f_D_rubsLessChanged p1 p2 M) := by
    unfold f_D_rubsLessChanged
    repeat' with_reducible first
      | exact Ke.none
      | exact Ke.some (by assumption)
      | refine Ke.ite ?_ ?_
      | refine Ke.gd ?_
      | (refine Ke.ltM (Kx.set (by assumption) (fun z => absurd z (by decide)) _) ?_; intro _ _)
      | (refine Ke.ltM (Kx.setl (by assumption) _ _ _) ?_; intro _ _)
      | (refine Ke.ltM (Kx.setr (by assumption) _ _ _) ?_; intro _ _)
      | (refine Ke.ltM (Kx.cpi (by assumption) (fun z => absurd z (by decide)) _ _ _ _) ?_; intro _ _)
      | (refine Ke.ltM (Kx.cpl (by assumption) _ _ _ _ _) ?_; intro _ _)
      | (refine Ke.ltV ?_; intro _)
      | (apply k_f_Co_begin <;> first | assumption)
      | (refine Ke.b2 (by first | (apply k_f_Co_begin <;> first | assumption)) ?_; intro _ _ _)
      | (refine Ke.bdM (by first | (apply k_f_Co_begin <;> first | assumption)) ?_; intro _ _)
      | (refine Ke.bdV ?_; intro _)
theorem k_f_D_changed_l37 (K19 : Int32 → Int32 → Int32 → Int32 → Mem → Option (Int32 × Mem)) {M0 : Mem} (hK19 : ∀ y0 y1 y2 y3 M, Kx false M0 M → Ke false M0 (K19 y0 y1 y2 y3 M)) : ∀ (n : Nat) (w0 : Int32) (w1 : Int32) (w2 : Int32) (w3 : Int32) (w4 : Int32) (M : Mem), Kx false M0 M → Ke false M0 (f_D_changed_l37 K19 n w0 w1 w2 w3 w4 M)
  | 0, _, _, _, _, _, _, _ => by
    simp only [f_D_changed_l37]
    exact Ke.none
  | n + 1, w0, w1, w2, w3, w4, M, h => by
    simp only [f_D_changed_l37]
    repeat' with_reducible first
      | exact Ke.none
      | exact Ke.some (by assumption)
      | refine Ke.ite ?_ ?_
      | refine Ke.gd ?_
      | (refine Ke.ltM (Kx.set (by assumption) (fun z => absurd z (by decide)) _) ?_; intro _ _)
      | (refine Ke.ltM (Kx.setl (by assumption) _ _ _) ?_; intro _ _)
      | (refine Ke.ltM (Kx.setr (by assumption) _ _ _) ?_; intro _ _)
      | (refine Ke.ltM (Kx.cpi (by assumption) (fun z => absurd z (by decide)) _ _ _ _) ?_; intro _ _)
      | (refine Ke.ltM (Kx.cpl (by assumption) _ _ _ _ _) ?_; intro _ _)
      | (refine Ke.ltV ?_; intro _)
      | (apply hK19; assumption)
      | (apply k_f_D_rubsLessChanged <;> first | assumption | (intros; refine k_f_D_changed_l37 K19 hK19 n _ _ _ _ _  _ ?_; assumption) | (intros; apply hK19 <;> assumption))
      | exact k_f_D_changed_l37 K19 hK19 n _ _ _ _ _ _ (by assumption)
      | (refine Ke.b2 (by first | (apply hK19; assumption) | (apply k_f_D_rubsLessChanged <;> first | assumption | (intros; refine k_f_D_changed_l37 K19 hK19 n _ _ _ _ _  _ ?_; assumption) | (intros; apply hK19 <;> assumption)) | exact k_f_D_changed_l37 K19 hK19 n _ _ _ _ _ _ (by assumption)) ?_; intro _ _ _)
      | (refine Ke.bdM (by first | (apply hK19; assumption) | (apply k_f_D_rubsLessChanged <;> first | assumption | (intros; refine k_f_D_changed_l37 K19 hK19 n _ _ _ _ _  _ ?_; assumption) | (intros; apply hK19 <;> assumption)) | exact k_f_D_changed_l37 K19 hK19 n _ _ _ _ _ _ (by assumption)) ?_; intro _ _)
      | (refine Ke.bdV ?_; intro _)
theorem k_f_D_changed_l19  {M0 : Mem}  : ∀ (n : Nat) (w0 : Int32) (w1 : Int32) (w2 : Int32) (w3 : Int32) (M : Mem), Kx false M0 M → Ke false M0 (f_D_changed_l19  n w0 w1 w2 w3 M)
  | 0, _, _, _, _, _, _ => by
    simp only [f_D_changed_l19]
    exact Ke.none
  | n + 1, w0, w1, w2, w3, M, h => by
    simp only [f_D_changed_l19]
    repeat' with_reducible first
      | exact Ke.none
      | exact Ke.some (by assumption)
      | refine Ke.ite ?_ ?_
      | refine Ke.gd ?_
      | (refine Ke.ltM (Kx.set (by assumption) (fun z => absurd z (by decide)) _) ?_; intro _ _)
      | (refine Ke.ltM (Kx.setl (by assumption) _ _ _) ?_; intro _ _)
      | (refine Ke.ltM (Kx.setr (by assumption) _ _ _) ?_; intro _ _)
      | (refine Ke.ltM (Kx.cpi (by assumption) (fun z => absurd z (by decide)) _ _ _ _) ?_; intro _ _)
      | (refine Ke.ltM (Kx.cpl (by assumption) _ _ _ _ _) ?_; intro _ _)
      | (refine Ke.ltV ?_; intro _)
      | (apply k_f_D_changed_l37 <;> first | assumption | (intros; refine k_f_D_changed_l19 n _ _ _ _  _ ?_; assumption))
      | exact k_f_D_changed_l19 n _ _ _ _ _ (by assumption)
      | (refine Ke.b2 (by first | (apply k_f_D_changed_l37 <;> first | assumption | (intros; refine k_f_D_changed_l19 n _ _ _ _  _ ?_; assumption)) | exact k_f_D_changed_l19 n _ _ _ _ _ (by assumption)) ?_; intro _ _ _)
      | (refine Ke.bdM (by first | (apply k_f_D_changed_l37 <;> first | assumption | (intros; refine k_f_D_changed_l19 n _ _ _ _  _ ?_; assumption)) | exact k_f_D_changed_l19 n _ _ _ _ _ (by assumption)) ?_; intro _ _)
      | (refine Ke.bdV ?_; intro _)
theorem k_f_D_changed (p1 : Int32) {M0 M : Mem}  (h : Kx false M0 M) : Ke false M0 (f_D_changed p1 M) := by
    unfold f_D_changed
    repeat' with_reducible first
      | exact Ke.none
      | exact Ke.some (by assumption)
      | refine Ke.ite ?_ ?_
      | refine Ke.gd ?_
      | (refine Ke.ltM (Kx.set (by assumption) (fun z => absurd z (by decide)) _) ?_; intro _ _)
      | (refine Ke.ltM (Kx.setl (by assumption) _ _ _) ?_; intro _ _)
      | (refine Ke.ltM (Kx.setr (by assumption) _ _ _) ?_; intro _ _)
      | (refine Ke.ltM (Kx.cpi (by assumption) (fun z => absurd z (by decide)) _ _ _ _) ?_; intro _ _)
      | (refine Ke.ltM (Kx.cpl (by assumption) _ _ _ _ _) ?_; intro _ _)
      | (refine Ke.ltV ?_; intro _)
      | (apply k_f_D_changed_l19 <;> first | assumption)
      | (refine Ke.b2 (by first | (apply k_f_D_changed_l19 <;> first | assumption)) ?_; intro _ _ _)
      | (refine Ke.bdM (by first | (apply k_f_D_changed_l19 <;> first | assumption)) ?_; intro _ _)
      | (refine Ke.bdV ?_; intro _)
theorem k_f_D_book (p1 : Int32) (p2 : Int32) {M0 M : Mem}  (h : Kx false M0 M) : Ke false M0 (f_D_book p1 p2 M) := by
    unfold f_D_book
    repeat' with_reducible first
      | exact Ke.none
      | exact Ke.some (by assumption)
      | refine Ke.ite ?_ ?_
      | refine Ke.gd ?_
      | (refine Ke.ltM (Kx.set (by assumption) (fun z => absurd z (by decide)) _) ?_; intro _ _)
      | (refine Ke.ltM (Kx.setl (by assumption) _ _ _) ?_; intro _ _)
      | (refine Ke.ltM (Kx.setr (by assumption) _ _ _) ?_; intro _ _)
      | (refine Ke.ltM (Kx.cpi (by assumption) (fun z => absurd z (by decide)) _ _ _ _) ?_; intro _ _)
      | (refine Ke.ltM (Kx.cpl (by assumption) _ _ _ _ _) ?_; intro _ _)
      | (refine Ke.ltV ?_; intro _)
      | (refine Ke.bdV ?_; intro _)
theorem k_f_D_looked_l34  {M0 : Mem}  : ∀ (n : Nat) (w0 : Int32) (w1 : Int32) (M : Mem), Kx false M0 M → Ke false M0 (f_D_looked_l34  n w0 w1 M)
  | 0, _, _, _, _ => by
    simp only [f_D_looked_l34]
    exact Ke.none
  | n + 1, w0, w1, M, h => by
    simp only [f_D_looked_l34]
    repeat' with_reducible first
      | exact Ke.none
      | exact Ke.some (by assumption)
      | refine Ke.ite ?_ ?_
      | refine Ke.gd ?_
      | (refine Ke.ltM (Kx.set (by assumption) (fun z => absurd z (by decide)) _) ?_; intro _ _)
      | (refine Ke.ltM (Kx.setl (by assumption) _ _ _) ?_; intro _ _)
      | (refine Ke.ltM (Kx.setr (by assumption) _ _ _) ?_; intro _ _)
      | (refine Ke.ltM (Kx.cpi (by assumption) (fun z => absurd z (by decide)) _ _ _ _) ?_; intro _ _)
      | (refine Ke.ltM (Kx.cpl (by assumption) _ _ _ _ _) ?_; intro _ _)
      | (refine Ke.ltV ?_; intro _)
      | (apply k_f_Co_goOn <;> first | assumption | (intros; refine k_f_D_looked_l34 n _ _  _ ?_; assumption))
      | exact k_f_D_looked_l34 n _ _ _ (by assumption)
      | (refine Ke.b2 (by first | (apply k_f_Co_goOn <;> first | assumption | (intros; refine k_f_D_looked_l34 n _ _  _ ?_; assumption)) | exact k_f_D_looked_l34 n _ _ _ (by assumption)) ?_; intro _ _ _)
      | (refine Ke.bdM (by first | (apply k_f_Co_goOn <;> first | assumption | (intros; refine k_f_D_looked_l34 n _ _  _ ?_; assumption)) | exact k_f_D_looked_l34 n _ _ _ (by assumption)) ?_; intro _ _)
      | (refine Ke.bdV ?_; intro _)
theorem k_f_D_looked (p1 : Int32) (p2 : Int32) {M0 M : Mem}  (h : Kx false M0 M) : Ke false M0 (f_D_looked p1 p2 M) := by
    unfold f_D_looked
    repeat' with_reducible first
      | exact Ke.none
      | exact Ke.some (by assumption)
      | refine Ke.ite ?_ ?_
      | refine Ke.gd ?_
      | (refine Ke.ltM (Kx.set (by assumption) (fun z => absurd z (by decide)) _) ?_; intro _ _)
      | (refine Ke.ltM (Kx.setl (by assumption) _ _ _) ?_; intro _ _)
      | (refine Ke.ltM (Kx.setr (by assumption) _ _ _) ?_; intro _ _)
      | (refine Ke.ltM (Kx.cpi (by assumption) (fun z => absurd z (by decide)) _ _ _ _) ?_; intro _ _)
      | (refine Ke.ltM (Kx.cpl (by assumption) _ _ _ _ _) ?_; intro _ _)
      | (refine Ke.ltV ?_; intro _)
      | (apply k_f_D_courseNow <;> first | assumption | (intros; apply k_f_D_looked_l34 <;> assumption))
      | (apply k_f_D_looked_l34 <;> first | assumption | (intros; apply k_f_D_courseNow <;> assumption))
      | (refine Ke.b2 (by first | (apply k_f_D_courseNow <;> first | assumption | (intros; apply k_f_D_looked_l34 <;> assumption)) | (apply k_f_D_looked_l34 <;> first | assumption | (intros; apply k_f_D_courseNow <;> assumption))) ?_; intro _ _ _)
      | (refine Ke.bdM (by first | (apply k_f_D_courseNow <;> first | assumption | (intros; apply k_f_D_looked_l34 <;> assumption)) | (apply k_f_D_looked_l34 <;> first | assumption | (intros; apply k_f_D_courseNow <;> assumption))) ?_; intro _ _)
      | (refine Ke.bdV ?_; intro _)
theorem k_f_D_judge_l57  {M0 : Mem}  : ∀ (n : Nat) (w0 : Int32) (w1 : Nat) (w2 : Int32) (M : Mem), Kx false M0 M → Ke false M0 (f_D_judge_l57  n w0 w1 w2 M)
  | 0, _, _, _, _, _ => by
    simp only [f_D_judge_l57]
    exact Ke.none
  | n + 1, w0, w1, w2, M, h => by
    simp only [f_D_judge_l57]
    repeat' with_reducible first
      | exact Ke.none
      | exact Ke.some (by assumption)
      | refine Ke.ite ?_ ?_
      | refine Ke.gd ?_
      | (refine Ke.ltM (Kx.set (by assumption) (fun z => absurd z (by decide)) _) ?_; intro _ _)
      | (refine Ke.ltM (Kx.setl (by assumption) _ _ _) ?_; intro _ _)
      | (refine Ke.ltM (Kx.setr (by assumption) _ _ _) ?_; intro _ _)
      | (refine Ke.ltM (Kx.cpi (by assumption) (fun z => absurd z (by decide)) _ _ _ _) ?_; intro _ _)
      | (refine Ke.ltM (Kx.cpl (by assumption) _ _ _ _ _) ?_; intro _ _)
      | (refine Ke.ltV ?_; intro _)
      | exact k_f_D_judge_l57 n _ _ _ _ (by assumption)
      | (refine Ke.b2 (by first | exact k_f_D_judge_l57 n _ _ _ _ (by assumption)) ?_; intro _ _ _)
      | (refine Ke.bdM (by first | exact k_f_D_judge_l57 n _ _ _ _ (by assumption)) ?_; intro _ _)
      | (refine Ke.bdV ?_; intro _)
theorem k_f_D_judge_b47 (v2 : Int32) (v4 : Nat) (v5 : Nat) {M0 M : Mem}  (h : Kx false M0 M) : Ke false M0 (f_D_judge_b47 v2 v4 v5 M) := by
    unfold f_D_judge_b47
    repeat' with_reducible first
      | exact Ke.none
      | exact Ke.some (by assumption)
      | refine Ke.ite ?_ ?_
      | refine Ke.gd ?_
      | (refine Ke.ltM (Kx.set (by assumption) (fun z => absurd z (by decide)) _) ?_; intro _ _)
      | (refine Ke.ltM (Kx.setl (by assumption) _ _ _) ?_; intro _ _)
      | (refine Ke.ltM (Kx.setr (by assumption) _ _ _) ?_; intro _ _)
      | (refine Ke.ltM (Kx.cpi (by assumption) (fun z => absurd z (by decide)) _ _ _ _) ?_; intro _ _)
      | (refine Ke.ltM (Kx.cpl (by assumption) _ _ _ _ _) ?_; intro _ _)
      | (refine Ke.ltV ?_; intro _)
      | (apply k_f_D_courseNow <;> first | assumption | (intros; apply k_f_D_judge_l57 <;> assumption))
      | (apply k_f_D_judge_l57 <;> first | assumption | (intros; apply k_f_D_courseNow <;> assumption))
      | (refine Ke.b2 (by first | (apply k_f_D_courseNow <;> first | assumption | (intros; apply k_f_D_judge_l57 <;> assumption)) | (apply k_f_D_judge_l57 <;> first | assumption | (intros; apply k_f_D_courseNow <;> assumption))) ?_; intro _ _ _)
      | (refine Ke.bdM (by first | (apply k_f_D_courseNow <;> first | assumption | (intros; apply k_f_D_judge_l57 <;> assumption)) | (apply k_f_D_judge_l57 <;> first | assumption | (intros; apply k_f_D_courseNow <;> assumption))) ?_; intro _ _)
      | (refine Ke.bdV ?_; intro _)
theorem k_f_D_judge (p1 : Int32) (p2 : Int32) (p3 : Int32) {M0 M : Mem}  (h : Kx false M0 M) : Ke false M0 (f_D_judge p1 p2 p3 M) := by
    unfold f_D_judge
    repeat' with_reducible first
      | exact Ke.none
      | exact Ke.some (by assumption)
      | refine Ke.ite ?_ ?_
      | refine Ke.gd ?_
      | (refine Ke.ltM (Kx.set (by assumption) (fun z => absurd z (by decide)) _) ?_; intro _ _)
      | (refine Ke.ltM (Kx.setl (by assumption) _ _ _) ?_; intro _ _)
      | (refine Ke.ltM (Kx.setr (by assumption) _ _ _) ?_; intro _ _)
      | (refine Ke.ltM (Kx.cpi (by assumption) (fun z => absurd z (by decide)) _ _ _ _) ?_; intro _ _)
      | (refine Ke.ltM (Kx.cpl (by assumption) _ _ _ _ _) ?_; intro _ _)
      | (refine Ke.ltV ?_; intro _)
      | (apply k_f_D_judge_b47 <;> first | assumption)
      | (refine Ke.b2 (by first | (apply k_f_D_judge_b47 <;> first | assumption)) ?_; intro _ _ _)
      | (refine Ke.bdM (by first | (apply k_f_D_judge_b47 <;> first | assumption)) ?_; intro _ _)
      | (refine Ke.bdV ?_; intro _)
theorem k_f_D_image  {M0 M : Mem}  (h : Kx false M0 M) : Ke false M0 (f_D_image  M) := by
    unfold f_D_image
    repeat' with_reducible first
      | exact Ke.none
      | exact Ke.some (by assumption)
      | refine Ke.ite ?_ ?_
      | refine Ke.gd ?_
      | (refine Ke.ltM (Kx.set (by assumption) (fun z => absurd z (by decide)) _) ?_; intro _ _)
      | (refine Ke.ltM (Kx.setl (by assumption) _ _ _) ?_; intro _ _)
      | (refine Ke.ltM (Kx.setr (by assumption) _ _ _) ?_; intro _ _)
      | (refine Ke.ltM (Kx.cpi (by assumption) (fun z => absurd z (by decide)) _ _ _ _) ?_; intro _ _)
      | (refine Ke.ltM (Kx.cpl (by assumption) _ _ _ _ _) ?_; intro _ _)
      | (refine Ke.ltV ?_; intro _)
      | (apply k_f_Hm_become <;> first | assumption)
      | (refine Ke.b2 (by first | (apply k_f_Hm_become <;> first | assumption)) ?_; intro _ _ _)
      | (refine Ke.bdM (by first | (apply k_f_Hm_become <;> first | assumption)) ?_; intro _ _)
      | (refine Ke.bdV ?_; intro _)
theorem k_f_D_undo  {M0 M : Mem}  (h : Kx false M0 M) : Ke false M0 (f_D_undo  M) := by
    unfold f_D_undo
    repeat' with_reducible first
      | exact Ke.none
      | exact Ke.some (by assumption)
      | refine Ke.ite ?_ ?_
      | refine Ke.gd ?_
      | (refine Ke.ltM (Kx.set (by assumption) (fun z => absurd z (by decide)) _) ?_; intro _ _)
      | (refine Ke.ltM (Kx.setl (by assumption) _ _ _) ?_; intro _ _)
      | (refine Ke.ltM (Kx.setr (by assumption) _ _ _) ?_; intro _ _)
      | (refine Ke.ltM (Kx.cpi (by assumption) (fun z => absurd z (by decide)) _ _ _ _) ?_; intro _ _)
      | (refine Ke.ltM (Kx.cpl (by assumption) _ _ _ _ _) ?_; intro _ _)
      | (refine Ke.ltV ?_; intro _)
      | (apply k_f_Hm_become <;> first | assumption)
      | (refine Ke.b2 (by first | (apply k_f_Hm_become <;> first | assumption)) ?_; intro _ _ _)
      | (refine Ke.bdM (by first | (apply k_f_Hm_become <;> first | assumption)) ?_; intro _ _)
      | (refine Ke.bdV ?_; intro _)
theorem k_f_D_act (p1 : Int32) (p2 : Int32) (p3 : Int32) {M0 M : Mem}  (h : Kx false M0 M) : Ke false M0 (f_D_act p1 p2 p3 M) := by
    unfold f_D_act
    repeat' with_reducible first
      | exact Ke.none
      | exact Ke.some (by assumption)
      | refine Ke.ite ?_ ?_
      | refine Ke.gd ?_
      | (refine Ke.ltM (Kx.set (by assumption) (fun z => absurd z (by decide)) _) ?_; intro _ _)
      | (refine Ke.ltM (Kx.setl (by assumption) _ _ _) ?_; intro _ _)
      | (refine Ke.ltM (Kx.setr (by assumption) _ _ _) ?_; intro _ _)
      | (refine Ke.ltM (Kx.cpi (by assumption) (fun z => absurd z (by decide)) _ _ _ _) ?_; intro _ _)
      | (refine Ke.ltM (Kx.cpl (by assumption) _ _ _ _ _) ?_; intro _ _)
      | (refine Ke.ltV ?_; intro _)
      | (apply k_f_Acts_forget <;> first | assumption | (intros; apply k_f_Acts_perform <;> assumption))
      | (apply k_f_Acts_perform <;> first | assumption | (intros; apply k_f_Acts_forget <;> assumption))
      | (refine Ke.b2 (by first | (apply k_f_Acts_forget <;> first | assumption | (intros; apply k_f_Acts_perform <;> assumption)) | (apply k_f_Acts_perform <;> first | assumption | (intros; apply k_f_Acts_forget <;> assumption))) ?_; intro _ _ _)
      | (refine Ke.bdM (by first | (apply k_f_Acts_forget <;> first | assumption | (intros; apply k_f_Acts_perform <;> assumption)) | (apply k_f_Acts_perform <;> first | assumption | (intros; apply k_f_Acts_forget <;> assumption))) ?_; intro _ _)
      | (refine Ke.bdV ?_; intro _)
theorem k_f_D_tape (p1 : Int32) (p2 : Int32) (p3 : Int32) {M0 M : Mem}  (h : Kx false M0 M) : Ke false M0 (f_D_tape p1 p2 p3 M) := by
    unfold f_D_tape
    repeat' with_reducible first
      | exact Ke.none
      | exact Ke.some (by assumption)
      | refine Ke.ite ?_ ?_
      | refine Ke.gd ?_
      | (refine Ke.ltM (Kx.set (by assumption) (fun z => absurd z (by decide)) _) ?_; intro _ _)
      | (refine Ke.ltM (Kx.setl (by assumption) _ _ _) ?_; intro _ _)
      | (refine Ke.ltM (Kx.setr (by assumption) _ _ _) ?_; intro _ _)
      | (refine Ke.ltM (Kx.cpi (by assumption) (fun z => absurd z (by decide)) _ _ _ _) ?_; intro _ _)
      | (refine Ke.ltM (Kx.cpl (by assumption) _ _ _ _ _) ?_; intro _ _)
      | (refine Ke.ltV ?_; intro _)
      | (apply k_f_Tp_becomeRow <;> first | assumption)
      | (refine Ke.b2 (by first | (apply k_f_Tp_becomeRow <;> first | assumption)) ?_; intro _ _ _)
      | (refine Ke.bdM (by first | (apply k_f_Tp_becomeRow <;> first | assumption)) ?_; intro _ _)
      | (refine Ke.bdV ?_; intro _)
theorem k_f_D_item (p1 : Int32) (p2 : Int32) (p3 : Int64) {M0 M : Mem}  (h : Kx false M0 M) : Ke false M0 (f_D_item p1 p2 p3 M) := by
    unfold f_D_item
    repeat' with_reducible first
      | exact Ke.none
      | exact Ke.some (by assumption)
      | refine Ke.ite ?_ ?_
      | refine Ke.gd ?_
      | (refine Ke.ltM (Kx.set (by assumption) (fun z => absurd z (by decide)) _) ?_; intro _ _)
      | (refine Ke.ltM (Kx.setl (by assumption) _ _ _) ?_; intro _ _)
      | (refine Ke.ltM (Kx.setr (by assumption) _ _ _) ?_; intro _ _)
      | (refine Ke.ltM (Kx.cpi (by assumption) (fun z => absurd z (by decide)) _ _ _ _) ?_; intro _ _)
      | (refine Ke.ltM (Kx.cpl (by assumption) _ _ _ _ _) ?_; intro _ _)
      | (refine Ke.ltV ?_; intro _)
      | (refine Ke.bdV ?_; intro _)
theorem k_f_D_shift (p1 : Int32) (p2 : Int32) (p3 : Int32) (p4 : Int32) (p5 : Int32) {M0 M : Mem}  (h : Kx false M0 M) : Ke false M0 (f_D_shift p1 p2 p3 p4 p5 M) := by
    unfold f_D_shift
    repeat' with_reducible first
      | exact Ke.none
      | exact Ke.some (by assumption)
      | refine Ke.ite ?_ ?_
      | refine Ke.gd ?_
      | (refine Ke.ltM (Kx.set (by assumption) (fun z => absurd z (by decide)) _) ?_; intro _ _)
      | (refine Ke.ltM (Kx.setl (by assumption) _ _ _) ?_; intro _ _)
      | (refine Ke.ltM (Kx.setr (by assumption) _ _ _) ?_; intro _ _)
      | (refine Ke.ltM (Kx.cpi (by assumption) (fun z => absurd z (by decide)) _ _ _ _) ?_; intro _ _)
      | (refine Ke.ltM (Kx.cpl (by assumption) _ _ _ _ _) ?_; intro _ _)
      | (refine Ke.ltV ?_; intro _)
      | (refine Ke.bdV ?_; intro _)
