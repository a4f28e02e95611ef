/-! TO RUN AS A FUNCTION SAYS: Go sR Γ fin f pc ls st M: from the place pc with these locals, stack and memory, where f = some x, the method comes to its return with what fin x says -/
def retAt (b : ByteArray) (pc : Nat) (v : Option Value) : Prop := match v with
  | none => decode b pc = .ok (.return_, 1)
  | some (.int _) => decode b pc = .ok (.ireturn, 1)
  | some (.long _) => decode b pc = .ok (.lreturn, 1)
  | some (.ref _) => decode b pc = .ok (.areturn, 1)
  | _ => False
def retOK (ret : Option FieldType) (v : Option Value) : Prop := match v with
  | none => ret = none
  | some (.int x) => ∃ ty, ret = some ty ∧ narrow ty (.int x) = .int x
  | some (.long _) => ret = some .long
  | some (.ref _) => ∃ rt, ret = some rt ∧ ((∃ n, rt = .object n) ∨ ∃ t, rt = .array t)
  | _ => False
def CxV (Γ : GM) (D : DN) (E : EN) (M0 : Mem) (A : Nat → Prop) (M : Mem) (ls : List Value) (s : State) (H : Heap) (locs : List Loc) (cells slots : Nat) (la : Array Slot) : Prop :=
  H.size = E.1 + mZ M ∧ va_P D.1 vwCl (wsL D E M) H ∧ va_D A (wsL D E M) ∧ va_S A s.heap H locs ∧ lcOK E Γ.2.2.1 ls la ∧ cells + mZ M0 = mZ M ∧ slots + mW M0 = mW M
def CxF (Γ : GM) (D : DN) (E : EN) (M0 : Mem) (A : Nat → Prop) (z : Option Value × Mem) (p : Program) (l : Launch) (e : Env) (R : Room) (s : State) (m : MethodId) (args : Array Value) (below : List Frame) (meth : Method) (c : Code) (Q : State → Prop) : Prop :=
  p.tables.exec = Jvm.exec ∧ c.code = Γ.2.1 ∧ c.maxLocals = Γ.2.2.1 ∧ s.vm.findClass Γ.1.cls = some m.cls ∧ meth.name = Γ.1.name ∧ (∀ w ∈ gT, w.before args s = true) ∧ envOK D E s ∧ s.heap.size = E.1 + mZ M0 ∧
  (∀ q : Nat, s.heap.size ≤ q → A q) ∧ (∀ q, A q → bA E q) ∧ Γ.2.2.2.2 ≤ R.frames ∧ 40 * Γ.2.2.2.2 ≤ R.locals ∧ mZ z.2 ≤ mZ M0 + R.cells ∧ mW z.2 ≤ mW M0 + R.slots ∧
  (∀ (pc' : Nat) (H' : Heap) (locs' : List Loc) (cells' slots' : Nat) (la' : Array Slot), retAt Γ.2.1 pc' z.1 → retOK Γ.2.2.2.1 z.1 → CxV Γ D E M0 A z.2 [] s H' locs' cells' slots' la' → W p l e R s m args below meth c H' locs' cells' slots' Q (F0 m pc' la' (z.1.toList.map (cV E))))
def Go {β : Type} (sR : Nat → Nat → Nat) (Γ : GM) (fin : β → Option Value × Mem) (f : Option β) (pc : Nat) (ls st : List Value) (M : Mem) : Prop :=
  ∀ x : β, f = some x → pOK sR M (ls ++ st) → (ext M (fin x).2 ∧ pOK sR (fin x).2 (fin x).1.toList) ∧
  ∀ (D : DN) (E : EN) (M0 : Mem) (A : Nat → Prop) (p : Program) (l : Launch) (e : Env) (R : Room) (s : State) (m : MethodId) (args : Array Value) (below : List Frame) (meth : Method) (c : Code) (Q : State → Prop) (H : Heap) (locs : List Loc) (cells slots : Nat) (la : Array Slot),
    CxF Γ D E M0 A (fin x) p l e R s m args below meth c Q → CxV Γ D E M0 A M ls s H locs cells slots la → W p l e R s m args below meth c H locs cells slots Q (F0 m pc la (st.map (cV E)))
section RULES
variable {β : Type} {sR : Nat → Nat → Nat} {Γ : GM} {fin : β → Option Value × Mem} {f f1 f2 : Option β} {pc : Nat} {ls st : List Value} {M : Mem}
/-- the stack alone -/
theorem go_st {st st' : List Value} {pc' : Nat} (hlv : ∀ v, v ∈ st' → v ∈ st ∨ ∀ M, lvV M v)
    (hw : ∀ {E : EN} {p : Program} {l : Launch} {e : Env} {R : Room} {s : State} {m : MethodId} {args : Array Value} {below : List Frame} {meth : Method} {c : Code} {H : Heap} {locs : List Loc} {cells slots : Nat} {Q : State → Prop} {la : Array Slot}, p.tables.exec = Jvm.exec → c.code = Γ.2.1 → W p l e R s m args below meth c H locs cells slots Q (F0 m pc' la (st'.map (cV E))) → W p l e R s m args below meth c H locs cells slots Q (F0 m pc la (st.map (cV E))))
    (k : Go sR Γ fin f pc' ls st' M) : Go sR Γ fin f pc ls st M := by
  intro x hx hp
  obtain ⟨k1, k2⟩ := k x hx (hp.sub fun v hv => by
    rcases List.mem_append.mp hv with h | h
    · exact Or.inl (List.mem_append_left _ h)
    · rcases hlv v h with h | h
      · exact Or.inl (List.mem_append_right _ h)
      · exact Or.inr (h M))
  exact ⟨k1, fun D E M0 A p l e R s m args below meth c Q H locs cells slots la hF hV => hw hF.1 hF.2.1 (k2 D E M0 A p l e R s m args below meth c Q H locs cells slots la hF hV)⟩
theorem lv_i {v : Value} {x : Int32} {st st' : List Value} (h : ∀ v, v ∈ st' → v ∈ st) : ∀ v, v ∈ (.int x :: st') → v ∈ st ∨ ∀ M, lvV M v := by
  intro v hv
  rcases List.mem_cons.mp hv with e | e
  · subst e; exact Or.inr fun _ => trivial
  · exact Or.inl (h v e)
theorem lv_l {v : Value} {x : Int64} {st st' : List Value} (h : ∀ v, v ∈ st' → v ∈ st) : ∀ v, v ∈ (.long x :: st') → v ∈ st ∨ ∀ M, lvV M v := by
  intro v hv
  rcases List.mem_cons.mp hv with e | e
  · subst e; exact Or.inr fun _ => trivial
  · exact Or.inl (h v e)
theorem lv_0 {st st' : List Value} (h : ∀ v, v ∈ st' → v ∈ st) : ∀ v, v ∈ st' → v ∈ st ∨ ∀ M, lvV M v := fun v hv => Or.inl (h v hv)
theorem mm0 {st : List Value} : ∀ v, v ∈ st → v ∈ st := fun _ h => h
theorem mm1 {a : Value} {st : List Value} : ∀ v, v ∈ st → v ∈ a :: st := fun _ h => List.mem_cons_of_mem _ h
theorem mm2 {a b : Value} {st : List Value} : ∀ v, v ∈ st → v ∈ a :: b :: st := fun _ h => List.mem_cons_of_mem _ (List.mem_cons_of_mem _ h)
theorem go_iconst {n : Int} (v : Int32) (hd : decode Γ.2.1 pc = .ok (.iconst n, 1)) (hv : Int32.ofInt n = v) (k : Go sR Γ fin f (pc + 1) ls (.int v :: st) M) : Go sR Γ fin f pc ls st M := go_st (lv_i (v := .null) mm0) (fun hx hb w => lv_iconst hx hb hd hv w) k
theorem go_bipush {n : Int} (v : Int32) (hd : decode Γ.2.1 pc = .ok (.bipush n, 2)) (hv : (Int8.ofInt n).toInt32 = v) (k : Go sR Γ fin f (pc + 2) ls (.int v :: st) M) : Go sR Γ fin f pc ls st M := go_st (lv_i (v := .null) mm0) (fun hx hb w => lv_bipush hx hb hd hv w) k
theorem go_sipush {n : Int} (v : Int32) (hd : decode Γ.2.1 pc = .ok (.sipush n, 3)) (hv : (Int16.ofInt n).toInt32 = v) (k : Go sR Γ fin f (pc + 3) ls (.int v :: st) M) : Go sR Γ fin f pc ls st M := go_st (lv_i (v := .null) mm0) (fun hx hb w => lv_sipush hx hb hd hv w) k
theorem go_lconst {n : Fin 2} (v : Int64) (hd : decode Γ.2.1 pc = .ok (.lconst n, 1)) (hv : Int64.ofNat (n : Nat) = v) (k : Go sR Γ fin f (pc + 1) ls (.long v :: st) M) : Go sR Γ fin f pc ls st M := go_st (lv_l (v := .null) mm0) (fun hx hb w => lv_lconst hx hb hd hv w) k
theorem go_iadd {x y : Int32} (hd : decode Γ.2.1 pc = .ok (.iadd, 1)) (k : Go sR Γ fin f (pc + 1) ls (.int (x + y) :: st) M) : Go sR Γ fin f pc ls (.int y :: .int x :: st) M := go_st (lv_i (v := .null) mm2) (fun hx hb w => lv_iadd hx hb hd w) k
theorem go_isub {x y : Int32} (hd : decode Γ.2.1 pc = .ok (.isub, 1)) (k : Go sR Γ fin f (pc + 1) ls (.int (x - y) :: st) M) : Go sR Γ fin f pc ls (.int y :: .int x :: st) M := go_st (lv_i (v := .null) mm2) (fun hx hb w => lv_isub hx hb hd w) k
theorem go_imul {x y : Int32} (hd : decode Γ.2.1 pc = .ok (.imul, 1)) (k : Go sR Γ fin f (pc + 1) ls (.int (x * y) :: st) M) : Go sR Γ fin f pc ls (.int y :: .int x :: st) M := go_st (lv_i (v := .null) mm2) (fun hx hb w => lv_imul hx hb hd w) k
theorem go_iand {x y : Int32} (hd : decode Γ.2.1 pc = .ok (.iand, 1)) (k : Go sR Γ fin f (pc + 1) ls (.int (x &&& y) :: st) M) : Go sR Γ fin f pc ls (.int y :: .int x :: st) M := go_st (lv_i (v := .null) mm2) (fun hx hb w => lv_iand hx hb hd w) k
theorem go_ior {x y : Int32} (hd : decode Γ.2.1 pc = .ok (.ior, 1)) (k : Go sR Γ fin f (pc + 1) ls (.int (x ||| y) :: st) M) : Go sR Γ fin f pc ls (.int y :: .int x :: st) M := go_st (lv_i (v := .null) mm2) (fun hx hb w => lv_ior hx hb hd w) k
theorem go_ixor {x y : Int32} (hd : decode Γ.2.1 pc = .ok (.ixor, 1)) (k : Go sR Γ fin f (pc + 1) ls (.int (x ^^^ y) :: st) M) : Go sR Γ fin f pc ls (.int y :: .int x :: st) M := go_st (lv_i (v := .null) mm2) (fun hx hb w => lv_ixor hx hb hd w) k
theorem go_idiv {x y : Int32} (hd : decode Γ.2.1 pc = .ok (.idiv, 1)) (k : ¬ y = 0 → Go sR Γ fin f (pc + 1) ls (.int (x / y) :: st) M) : Go sR Γ fin (gd (¬ y = 0) f) pc ls (.int y :: .int x :: st) M := by
  intro z hz
  obtain ⟨hy, hz⟩ := gd_some hz
  exact go_st (lv_i (v := .null) mm2) (fun hx hb w => lv_idiv hx hb hd hy w) (k hy) z hz
theorem go_idiv' {x y : Int32} (hy : ¬ y = 0) (hd : decode Γ.2.1 pc = .ok (.idiv, 1)) (k : Go sR Γ fin f (pc + 1) ls (.int (x / y) :: st) M) : Go sR Γ fin f pc ls (.int y :: .int x :: st) M := go_st (lv_i (v := .null) mm2) (fun hx hb w => lv_idiv hx hb hd hy w) k
theorem go_irem {x y : Int32} (hd : decode Γ.2.1 pc = .ok (.irem, 1)) (k : ¬ y = 0 → Go sR Γ fin f (pc + 1) ls (.int (x - x / y * y) :: st) M) : Go sR Γ fin (gd (¬ y = 0) f) pc ls (.int y :: .int x :: st) M := by
  intro z hz
  obtain ⟨hy, hz⟩ := gd_some hz
  exact go_st (lv_i (v := .null) mm2) (fun hx hb w => lv_irem hx hb hd hy w) (k hy) z hz
theorem go_irem' {x y : Int32} (hy : ¬ y = 0) (hd : decode Γ.2.1 pc = .ok (.irem, 1)) (k : Go sR Γ fin f (pc + 1) ls (.int (x - x / y * y) :: st) M) : Go sR Γ fin f pc ls (.int y :: .int x :: st) M := go_st (lv_i (v := .null) mm2) (fun hx hb w => lv_irem hx hb hd hy w) k
theorem go_ladd {x y : Int64} (hd : decode Γ.2.1 pc = .ok (.ladd, 1)) (k : Go sR Γ fin f (pc + 1) ls (.long (x + y) :: st) M) : Go sR Γ fin f pc ls (.long y :: .long x :: st) M := go_st (lv_l (v := .null) mm2) (fun hx hb w => lv_ladd hx hb hd w) k
theorem go_lsub {x y : Int64} (hd : decode Γ.2.1 pc = .ok (.lsub, 1)) (k : Go sR Γ fin f (pc + 1) ls (.long (x - y) :: st) M) : Go sR Γ fin f pc ls (.long y :: .long x :: st) M := go_st (lv_l (v := .null) mm2) (fun hx hb w => lv_lsub hx hb hd w) k
theorem go_land {x y : Int64} (hd : decode Γ.2.1 pc = .ok (.land, 1)) (k : Go sR Γ fin f (pc + 1) ls (.long (x &&& y) :: st) M) : Go sR Γ fin f pc ls (.long y :: .long x :: st) M := go_st (lv_l (v := .null) mm2) (fun hx hb w => lv_land hx hb hd w) k
theorem go_lor {x y : Int64} (hd : decode Γ.2.1 pc = .ok (.lor, 1)) (k : Go sR Γ fin f (pc + 1) ls (.long (x ||| y) :: st) M) : Go sR Γ fin f pc ls (.long y :: .long x :: st) M := go_st (lv_l (v := .null) mm2) (fun hx hb w => lv_lor hx hb hd w) k
theorem go_lxor {x y : Int64} (hd : decode Γ.2.1 pc = .ok (.lxor, 1)) (k : Go sR Γ fin f (pc + 1) ls (.long (x ^^^ y) :: st) M) : Go sR Γ fin f pc ls (.long y :: .long x :: st) M := go_st (lv_l (v := .null) mm2) (fun hx hb w => lv_lxor hx hb hd w) k
theorem go_ishl {x y : Int32} (hd : decode Γ.2.1 pc = .ok (.ishl, 1)) (k : Go sR Γ fin f (pc + 1) ls (.int (x <<< (y &&& 31)) :: st) M) : Go sR Γ fin f pc ls (.int y :: .int x :: st) M := go_st (lv_i (v := .null) mm2) (fun hx hb w => lv_ishl hx hb hd w) k
theorem go_ishr {x y : Int32} (hd : decode Γ.2.1 pc = .ok (.ishr, 1)) (k : Go sR Γ fin f (pc + 1) ls (.int (x >>> (y &&& 31)) :: st) M) : Go sR Γ fin f pc ls (.int y :: .int x :: st) M := go_st (lv_i (v := .null) mm2) (fun hx hb w => lv_ishr hx hb hd w) k
theorem go_ineg {x : Int32} (hd : decode Γ.2.1 pc = .ok (.ineg, 1)) (k : Go sR Γ fin f (pc + 1) ls (.int (-x) :: st) M) : Go sR Γ fin f pc ls (.int x :: st) M := go_st (lv_i (v := .null) mm1) (fun hx hb w => lv_ineg hx hb hd w) k
theorem go_i2l {x : Int32} (hd : decode Γ.2.1 pc = .ok (.i2l, 1)) (k : Go sR Γ fin f (pc + 1) ls (.long (x.toInt64) :: st) M) : Go sR Γ fin f pc ls (.int x :: st) M := go_st (lv_l (v := .null) mm1) (fun hx hb w => lv_i2l hx hb hd rfl w) k
theorem go_l2i {x : Int64} (hd : decode Γ.2.1 pc = .ok (.l2i, 1)) (k : Go sR Γ fin f (pc + 1) ls (.int (x.toInt32) :: st) M) : Go sR Γ fin f pc ls (.long x :: st) M := go_st (lv_i (v := .null) mm1) (fun hx hb w => lv_l2i hx hb hd rfl w) k
theorem go_i2b {x : Int32} (hd : decode Γ.2.1 pc = .ok (.i2b, 1)) (k : Go sR Γ fin f (pc + 1) ls (.int (x.toInt8.toInt32) :: st) M) : Go sR Γ fin f pc ls (.int x :: st) M := go_st (lv_i (v := .null) mm1) (fun hx hb w => lv_i2b hx hb hd rfl w) k
theorem go_i2s {x : Int32} (hd : decode Γ.2.1 pc = .ok (.i2s, 1)) (k : Go sR Γ fin f (pc + 1) ls (.int (x.toInt16.toInt32) :: st) M) : Go sR Γ fin f pc ls (.int x :: st) M := go_st (lv_i (v := .null) mm1) (fun hx hb w => lv_i2s hx hb hd rfl w) k
theorem go_i2c {x : Int32} (hd : decode Γ.2.1 pc = .ok (.i2c, 1)) (k : Go sR Γ fin f (pc + 1) ls (.int ((x.toUInt32 % 65536).toInt32) :: st) M) : Go sR Γ fin f pc ls (.int x :: st) M := go_st (lv_i (v := .null) mm1) (fun hx hb w => lv_i2c hx hb hd rfl w) k
theorem go_iushr {x y : Int32} (hd : decode Γ.2.1 pc = .ok (.iushr, 1)) (k : Go sR Γ fin f (pc + 1) ls (.int ((x.toUInt32 >>> (y.toUInt32 &&& Int32.toUInt32 31)).toInt32) :: st) M) : Go sR Γ fin f pc ls (.int y :: .int x :: st) M := go_st (lv_i (v := .null) mm2) (fun hx hb w => lv_iushr hx hb hd rfl w) k
theorem go_lushr {x : Int64} {y : Int32} (hd : decode Γ.2.1 pc = .ok (.lushr, 1)) (k : Go sR Γ fin f (pc + 1) ls (.long ((x.toUInt64 >>> (y.toInt64.toUInt64 &&& Int64.toUInt64 63)).toInt64) :: st) M) : Go sR Γ fin f pc ls (.int y :: .long x :: st) M := go_st (lv_l (v := .null) mm2) (fun hx hb w => lv_lushr hx hb hd rfl w) k
theorem go_lshl {x : Int64} {y : Int32} (hd : decode Γ.2.1 pc = .ok (.lshl, 1)) (k : Go sR Γ fin f (pc + 1) ls (.long (x <<< (y.toInt64 &&& 63)) :: st) M) : Go sR Γ fin f pc ls (.int y :: .long x :: st) M := go_st (lv_l (v := .null) mm2) (fun hx hb w => lv_lshl hx hb hd rfl w) k
theorem go_lcmp {x y : Int64} (hd : decode Γ.2.1 pc = .ok (.lcmp, 1)) (k : Go sR Γ fin f (pc + 1) ls (.int (lg_cmp x y) :: st) M) : Go sR Γ fin f pc ls (.long y :: .long x :: st) M := go_st (lv_i (v := .null) mm2) (fun hx hb w => W.lcmp hx hb hd w) k
theorem go_pop {v : Value} (hd : decode Γ.2.1 pc = .ok (.pop, 1)) (hc : v.category = 1) (k : Go sR Γ fin f (pc + 1) ls st M) : Go sR Γ fin f pc ls (v :: st) M := go_st (lv_0 mm1) (fun {E} _ _ _ _ _ _ _ _ _ _ _ _ _ _ _ _ hx hb w => lv_pop hx hb hd (by rw [cV_cat]; exact hc) w) k
theorem go_dup {v : Value} (hd : decode Γ.2.1 pc = .ok (.dup, 1)) (hc : v.category = 1) (k : Go sR Γ fin f (pc + 1) ls (v :: v :: st) M) : Go sR Γ fin f pc ls (v :: st) M := go_st (fun w hw => Or.inl (by rcases List.mem_cons.mp hw with e | e; exact e ▸ List.mem_cons_self; exact e)) (fun hx hb w => lv_dup hx hb hd (by rw [cV_cat]; exact hc) w) k
theorem go_dup2 {v u : Value} (hd : decode Γ.2.1 pc = .ok (.dup2, 1)) (hc : v.category = 1) (hc2 : u.category = 1) (k : Go sR Γ fin f (pc + 1) ls (v :: u :: v :: u :: st) M) : Go sR Γ fin f pc ls (v :: u :: st) M := go_st (fun w hw => Or.inl (by simp only [List.mem_cons] at hw ⊢; rcases hw with e | e | e | e | e <;> simp [e])) (fun hx hb w => lv_dup2_11 hx hb hd (by rw [cV_cat]; exact hc) (by rw [cV_cat]; exact hc2) w) k
theorem go_null (hd : decode Γ.2.1 pc = .ok (.aconst_null, 1)) (k : Go sR Γ fin f (pc + 1) ls (.ref 0 :: st) M) : Go sR Γ fin f pc ls st M := go_st (fun w hw => by rcases List.mem_cons.mp hw with e | e; exact Or.inr fun _ => e ▸ Or.inl rfl; exact Or.inl e) (fun hx hb w => lv_null hx hb hd w) k
theorem go_goto {off : Int} (tgt : Nat) (hd : decode Γ.2.1 pc = .ok (.goto off, 3)) (ht : (pc : Int) + off = (tgt : Int)) (k : Go sR Γ fin f tgt ls st M) : Go sR Γ fin f pc ls st M := go_st (lv_0 mm0) (fun hx hb w => lv_goto hx hb hd ht w) k
/-- two ways -/
theorem go_br {c : Prop} [Decidable c] {st st' : List Value} {pt pf : Nat} (hlv : ∀ v, v ∈ st' → v ∈ st)
    (hw : ∀ {E : EN} {p : Program} {l : Launch} {e : Env} {R : Room} {s : State} {m : MethodId} {args : Array Value} {below : List Frame} {meth : Method} {cc : Code} {H : Heap} {locs : List Loc} {cells slots : Nat} {Q : State → Prop} {la : Array Slot}, p.tables.exec = Jvm.exec → cc.code = Γ.2.1 → (c → W p l e R s m args below meth cc H locs cells slots Q (F0 m pt la (st'.map (cV E)))) → (¬ c → W p l e R s m args below meth cc H locs cells slots Q (F0 m pf la (st'.map (cV E)))) → W p l e R s m args below meth cc H locs cells slots Q (F0 m pc la (st.map (cV E))))
    (kt : c → Go sR Γ fin f1 pt ls st' M) (kf : ¬ c → Go sR Γ fin f2 pf ls st' M) : Go sR Γ fin (if c then f1 else f2) pc ls st M := by
  by_cases h : c
  · rw [if_pos h]
    exact go_st (lv_0 hlv) (fun hx hb w => hw hx hb (fun _ => w) (fun n => absurd h n)) (kt h)
  · rw [if_neg h]
    exact go_st (lv_0 hlv) (fun hx hb w => hw hx hb (fun n => absurd n h) (fun _ => w)) (kf h)
theorem go_ifeq {x : Int32} {off : Int} (tgt : Nat) (hd : decode Γ.2.1 pc = .ok (.ifCond .eq off, 3)) (ht : (pc : Int) + off = (tgt : Int)) (kt : x = 0 → Go sR Γ fin f1 tgt ls st M) (kf : ¬ x = 0 → Go sR Γ fin f2 (pc + 3) ls st M) : Go sR Γ fin (if x = 0 then f1 else f2) pc ls (.int x :: st) M := go_br mm1 (fun hx hb w1 w2 => lv_if_eq hx hb hd ht w1 w2) kt kf
theorem go_ifne {x : Int32} {off : Int} (tgt : Nat) (hd : decode Γ.2.1 pc = .ok (.ifCond .ne off, 3)) (ht : (pc : Int) + off = (tgt : Int)) (kt : x = 0 → Go sR Γ fin f1 (pc + 3) ls st M) (kf : ¬ x = 0 → Go sR Γ fin f2 tgt ls st M) : Go sR Γ fin (if x = 0 then f1 else f2) pc ls (.int x :: st) M := go_br mm1 (fun hx hb w1 w2 => lv_if_ne hx hb hd ht w2 w1) kt kf
theorem go_iflt {x : Int32} {off : Int} (tgt : Nat) (hd : decode Γ.2.1 pc = .ok (.ifCond .lt off, 3)) (ht : (pc : Int) + off = (tgt : Int)) (kt : x < 0 → Go sR Γ fin f1 tgt ls st M) (kf : ¬ x < 0 → Go sR Γ fin f2 (pc + 3) ls st M) : Go sR Γ fin (if x < 0 then f1 else f2) pc ls (.int x :: st) M := go_br mm1 (fun hx hb w1 w2 => lv_if_lt hx hb hd ht w1 w2) kt kf
theorem go_ifge {x : Int32} {off : Int} (tgt : Nat) (hd : decode Γ.2.1 pc = .ok (.ifCond .ge off, 3)) (ht : (pc : Int) + off = (tgt : Int)) (kt : 0 ≤ x → Go sR Γ fin f1 tgt ls st M) (kf : ¬ 0 ≤ x → Go sR Γ fin f2 (pc + 3) ls st M) : Go sR Γ fin (if 0 ≤ x then f1 else f2) pc ls (.int x :: st) M := go_br mm1 (fun hx hb w1 w2 => lv_if_ge hx hb hd ht w1 w2) kt kf
theorem go_ifgt {x : Int32} {off : Int} (tgt : Nat) (hd : decode Γ.2.1 pc = .ok (.ifCond .gt off, 3)) (ht : (pc : Int) + off = (tgt : Int)) (kt : 0 < x → Go sR Γ fin f1 tgt ls st M) (kf : ¬ 0 < x → Go sR Γ fin f2 (pc + 3) ls st M) : Go sR Γ fin (if 0 < x then f1 else f2) pc ls (.int x :: st) M := go_br mm1 (fun hx hb w1 w2 => lv_if_gt hx hb hd ht w1 w2) kt kf
theorem go_ifle {x : Int32} {off : Int} (tgt : Nat) (hd : decode Γ.2.1 pc = .ok (.ifCond .le off, 3)) (ht : (pc : Int) + off = (tgt : Int)) (kt : x ≤ 0 → Go sR Γ fin f1 tgt ls st M) (kf : ¬ x ≤ 0 → Go sR Γ fin f2 (pc + 3) ls st M) : Go sR Γ fin (if x ≤ 0 then f1 else f2) pc ls (.int x :: st) M := go_br mm1 (fun hx hb w1 w2 => lv_if_le hx hb hd ht w1 w2) kt kf
theorem go_icmpeq {x y : Int32} {off : Int} (tgt : Nat) (hd : decode Γ.2.1 pc = .ok (.if_icmp .eq off, 3)) (ht : (pc : Int) + off = (tgt : Int)) (kt : x = y → Go sR Γ fin f1 tgt ls st M) (kf : ¬ x = y → Go sR Γ fin f2 (pc + 3) ls st M) : Go sR Γ fin (if x = y then f1 else f2) pc ls (.int y :: .int x :: st) M := go_br mm2 (fun hx hb w1 w2 => lv_icmp_eq hx hb hd ht w1 w2) kt kf
theorem go_icmpne {x y : Int32} {off : Int} (tgt : Nat) (hd : decode Γ.2.1 pc = .ok (.if_icmp .ne off, 3)) (ht : (pc : Int) + off = (tgt : Int)) (kt : x = y → Go sR Γ fin f1 (pc + 3) ls st M) (kf : ¬ x = y → Go sR Γ fin f2 tgt ls st M) : Go sR Γ fin (if x = y then f1 else f2) pc ls (.int y :: .int x :: st) M := go_br mm2 (fun hx hb w1 w2 => lv_icmp_ne hx hb hd ht w2 w1) kt kf
theorem go_icmplt {x y : Int32} {off : Int} (tgt : Nat) (hd : decode Γ.2.1 pc = .ok (.if_icmp .lt off, 3)) (ht : (pc : Int) + off = (tgt : Int)) (kt : x < y → Go sR Γ fin f1 tgt ls st M) (kf : ¬ x < y → Go sR Γ fin f2 (pc + 3) ls st M) : Go sR Γ fin (if x < y then f1 else f2) pc ls (.int y :: .int x :: st) M := go_br mm2 (fun hx hb w1 w2 => lv_icmp_lt hx hb hd ht w1 w2) kt kf
theorem go_icmpge {x y : Int32} {off : Int} (tgt : Nat) (hd : decode Γ.2.1 pc = .ok (.if_icmp .ge off, 3)) (ht : (pc : Int) + off = (tgt : Int)) (kt : y ≤ x → Go sR Γ fin f1 tgt ls st M) (kf : ¬ y ≤ x → Go sR Γ fin f2 (pc + 3) ls st M) : Go sR Γ fin (if y ≤ x then f1 else f2) pc ls (.int y :: .int x :: st) M := go_br mm2 (fun hx hb w1 w2 => lv_icmp_ge hx hb hd ht w1 w2) kt kf
theorem go_icmpgt {x y : Int32} {off : Int} (tgt : Nat) (hd : decode Γ.2.1 pc = .ok (.if_icmp .gt off, 3)) (ht : (pc : Int) + off = (tgt : Int)) (kt : y < x → Go sR Γ fin f1 tgt ls st M) (kf : ¬ y < x → Go sR Γ fin f2 (pc + 3) ls st M) : Go sR Γ fin (if y < x then f1 else f2) pc ls (.int y :: .int x :: st) M := go_br mm2 (fun hx hb w1 w2 => lv_icmp_gt hx hb hd ht w1 w2) kt kf
theorem go_icmple {x y : Int32} {off : Int} (tgt : Nat) (hd : decode Γ.2.1 pc = .ok (.if_icmp .le off, 3)) (ht : (pc : Int) + off = (tgt : Int)) (kt : x ≤ y → Go sR Γ fin f1 tgt ls st M) (kf : ¬ x ≤ y → Go sR Γ fin f2 (pc + 3) ls st M) : Go sR Γ fin (if x ≤ y then f1 else f2) pc ls (.int y :: .int x :: st) M := go_br mm2 (fun hx hb w1 w2 => lv_icmp_le hx hb hd ht w1 w2) kt kf
theorem go_ifnull {r : Nat} {off : Int} (tgt : Nat) (hd : decode Γ.2.1 pc = .ok (.ifnull off, 3)) (ht : (pc : Int) + off = (tgt : Int)) (kt : r = 0 → Go sR Γ fin f1 tgt ls st M) (kf : ¬ r = 0 → Go sR Γ fin f2 (pc + 3) ls st M) : Go sR Γ fin (if r = 0 then f1 else f2) pc ls (.ref r :: st) M := by
  by_cases h : r = 0
  · rw [if_pos h]
    subst h
    exact go_st (lv_0 mm1) (fun hx hb w => lv_ifnullN hx hb hd ht w) (kt rfl)
  · rw [if_neg h]
    refine go_st (lv_0 mm1) (fun {E} _ _ _ _ _ _ _ _ _ _ _ _ _ _ _ _ hx hb w => ?_) (kf h)
    show W _ _ _ _ _ _ _ _ _ _ _ _ _ _ _ (F0 _ _ _ (va_rf (oA E r) :: _))
    rw [oA_nz h]
    exact lv_ifnull hx hb hd w
theorem go_ifnonnull {r : Nat} {off : Int} (tgt : Nat) (hd : decode Γ.2.1 pc = .ok (.ifnonnull off, 3)) (ht : (pc : Int) + off = (tgt : Int)) (kt : r = 0 → Go sR Γ fin f1 (pc + 3) ls st M) (kf : ¬ r = 0 → Go sR Γ fin f2 tgt ls st M) : Go sR Γ fin (if r = 0 then f1 else f2) pc ls (.ref r :: st) M := by
  by_cases h : r = 0
  · rw [if_pos h]
    subst h
    exact go_st (lv_0 mm1) (fun hx hb w => lv_ifnonnullN hx hb hd w) (kt rfl)
  · rw [if_neg h]
    refine go_st (lv_0 mm1) (fun {E} _ _ _ _ _ _ _ _ _ _ _ _ _ _ _ _ hx hb w => ?_) (kf h)
    show W _ _ _ _ _ _ _ _ _ _ _ _ _ _ _ (F0 _ _ _ (va_rf (oA E r) :: _))
    rw [oA_nz h]
    exact lv_ifnonnull hx hb hd ht w
/-- a load -/
theorem go_load {i : Nat} {v : Value} {pc' : Nat} (hl : ls[i]? = some v) (hv : v ≠ .null)
    (hw : ∀ {E : EN} {p : Program} {l : Launch} {e : Env} {R : Room} {s : State} {m : MethodId} {args : Array Value} {below : List Frame} {meth : Method} {c : Code} {H : Heap} {locs : List Loc} {cells slots : Nat} {Q : State → Prop} {la : Array Slot}, p.tables.exec = Jvm.exec → c.code = Γ.2.1 → la[i]? = some (.val (cV E v)) → W p l e R s m args below meth c H locs cells slots Q (F0 m pc' la (cV E v :: st.map (cV E))) → W p l e R s m args below meth c H locs cells slots Q (F0 m pc la (st.map (cV E))))
    (k : Go sR Γ fin f pc' ls (v :: st) M) : Go sR Γ fin f pc ls st M := by
  intro x hx hp
  obtain ⟨k1, k2⟩ := k x hx (hp.sub fun w hw => by
    rcases List.mem_append.mp hw with h | h
    · exact Or.inl (List.mem_append_left _ h)
    · rcases List.mem_cons.mp h with h | h
      · exact Or.inl (List.mem_append_left _ (h ▸ List.mem_of_getElem? hl))
      · exact Or.inl (List.mem_append_right _ h))
  exact ⟨k1, fun D E M0 A p l e R s m args below meth c Q H locs cells slots la hF hV => hw hF.1 hF.2.1 (hV.2.2.2.2.1.2.2 i v hl hv) (k2 D E M0 A p l e R s m args below meth c Q H locs cells slots la hF hV)⟩
theorem go_iload_n {k : Fin 4} {x : Int32} (hd : decode Γ.2.1 pc = .ok (.iload_n k, 1)) (hl : ls[(k : Nat)]? = some (.int x)) (kk : Go sR Γ fin f (pc + 1) ls (.int x :: st) M) : Go sR Γ fin f pc ls st M := go_load hl (by simp) (fun hx hb h w => lv_iload_n hx hb hd rfl h w) kk
theorem go_iload {i : Nat} {x : Int32} (hd : decode Γ.2.1 pc = .ok (.iload i, 2)) (hl : ls[i]? = some (.int x)) (kk : Go sR Γ fin f (pc + 2) ls (.int x :: st) M) : Go sR Γ fin f pc ls st M := go_load hl (by simp) (fun hx hb h w => lv_iload hx hb hd h w) kk
theorem go_lload_n {k : Fin 4} {x : Int64} (hd : decode Γ.2.1 pc = .ok (.lload_n k, 1)) (hl : ls[(k : Nat)]? = some (.long x)) (kk : Go sR Γ fin f (pc + 1) ls (.long x :: st) M) : Go sR Γ fin f pc ls st M := go_load hl (by simp) (fun hx hb h w => lv_lload_n hx hb hd rfl h w) kk
theorem go_lload {i : Nat} {x : Int64} (hd : decode Γ.2.1 pc = .ok (.lload i, 2)) (hl : ls[i]? = some (.long x)) (kk : Go sR Γ fin f (pc + 2) ls (.long x :: st) M) : Go sR Γ fin f pc ls st M := go_load hl (by simp) (fun hx hb h w => lv_lload hx hb hd h w) kk
theorem go_aload_n {k : Fin 4} {x : Nat} (hd : decode Γ.2.1 pc = .ok (.aload_n k, 1)) (hl : ls[(k : Nat)]? = some (.ref x)) (kk : Go sR Γ fin f (pc + 1) ls (.ref x :: st) M) : Go sR Γ fin f pc ls st M := go_load hl (by simp) (fun {E} _ _ _ _ _ _ _ _ _ _ _ _ _ _ _ _ hx hb h w => by
  change _ = some (Slot.val (va_rf (oA E x))) at h
  change W _ _ _ _ _ _ _ _ _ _ _ _ _ _ _ (F0 _ _ _ (va_rf (oA E x) :: _)) at w
  cases ho : oA E x with
  | none => rw [ho] at h w; exact lv_aload_nN hx hb hd rfl h w
  | some a => rw [ho] at h w; exact lv_aload_n hx hb hd rfl h w) kk
theorem go_aload {i : Nat} {x : Nat} (hd : decode Γ.2.1 pc = .ok (.aload i, 2)) (hl : ls[i]? = some (.ref x)) (kk : Go sR Γ fin f (pc + 2) ls (.ref x :: st) M) : Go sR Γ fin f pc ls st M := go_load hl (by simp) (fun {E} _ _ _ _ _ _ _ _ _ _ _ _ _ _ _ _ hx hb h w => by
  change _ = some (Slot.val (va_rf (oA E x))) at h
  change W _ _ _ _ _ _ _ _ _ _ _ _ _ _ _ (F0 _ _ _ (va_rf (oA E x) :: _)) at w
  cases ho : oA E x with
  | none => rw [ho] at h w; exact lv_aloadN hx hb hd h w
  | some a => rw [ho] at h w; exact lv_aload hx hb hd h w) kk
/-- a store -/
theorem go_store {i : Nat} {v : Value} {st : List Value} {pc' : Nat} {ls' : List Value} (hc : v.category = 1) (hn : i < Γ.2.2.1) (hg : nlg ls i = true) (he : ls.set i v = ls')
    (hw : ∀ {E : EN} {p : Program} {l : Launch} {e : Env} {R : Room} {s : State} {m : MethodId} {args : Array Value} {below : List Frame} {meth : Method} {c : Code} {H : Heap} {locs : List Loc} {cells slots : Nat} {Q : State → Prop} {la : Array Slot}, p.tables.exec = Jvm.exec → c.code = Γ.2.1 → lv_has la Γ.2.2.1 (lcL E ls) → (∀ la' : Array Slot, lv_has la' Γ.2.2.1 ((i, cV E v) :: (lcL E ls).filter (fun q => !(q.1 == i) && !(q.1 + 1 == i && q.2.category == 2))) → W p l e R s m args below meth c H locs cells slots Q (F0 m pc' la' (st.map (cV E)))) → W p l e R s m args below meth c H locs cells slots Q (F0 m pc la (cV E v :: st.map (cV E))))
    (k : Go sR Γ fin f pc' ls' st M) : Go sR Γ fin f pc ls (v :: st) M := by
  subst he
  intro x hx hp
  obtain ⟨k1, k2⟩ := k x hx (hp.sub fun w hw => by
    rcases List.mem_append.mp hw with h | h
    · rcases List.mem_or_eq_of_mem_set h with h | h
      · exact Or.inl (List.mem_append_left _ h)
      · exact Or.inl (List.mem_append_right _ (h ▸ List.mem_cons_self))
    · exact Or.inl (List.mem_append_right _ (List.mem_cons_of_mem _ h)))
  refine ⟨k1, fun D E M0 A p l e R s m args below meth c Q H locs cells slots la hF hV => hw hF.1 hF.2.1 hV.2.2.2.2.1.has fun la' hla => ?_⟩
  obtain ⟨v1, v2, v3, v4, v5, v6, v7⟩ := hV
  exact k2 D E M0 A p l e R s m args below meth c Q H locs cells slots la' hF ⟨v1, v2, v3, v4, lcOK.put1 hg hla, v6, v7⟩
theorem go_istore_n {k : Fin 4} {x : Int32} {ls' : List Value} (hd : decode Γ.2.1 pc = .ok (.istore_n k, 1)) (hn : (k : Nat) < Γ.2.2.1) (hg : nlg ls k = true) (he : ls.set k (.int x) = ls') (kk : Go sR Γ fin f (pc + 1) ls' st M) : Go sR Γ fin f pc ls (.int x :: st) M := go_store rfl hn hg he (fun hx hb h w => lv_istore_n hx hb hd rfl h hn rfl w) kk
theorem go_istore {i : Nat} {x : Int32} {ls' : List Value} (hd : decode Γ.2.1 pc = .ok (.istore i, 2)) (hn : i < Γ.2.2.1) (hg : nlg ls i = true) (he : ls.set i (.int x) = ls') (kk : Go sR Γ fin f (pc + 2) ls' st M) : Go sR Γ fin f pc ls (.int x :: st) M := go_store rfl hn hg he (fun hx hb h w => lv_istore hx hb hd h hn rfl w) kk
theorem go_astore_n {k : Fin 4} {x : Nat} {ls' : List Value} (hd : decode Γ.2.1 pc = .ok (.astore_n k, 1)) (hn : (k : Nat) < Γ.2.2.1) (hg : nlg ls k = true) (he : ls.set k (.ref x) = ls') (kk : Go sR Γ fin f (pc + 1) ls' st M) : Go sR Γ fin f pc ls (.ref x :: st) M := go_store rfl hn hg he (fun {E} _ _ _ _ _ _ _ _ _ _ _ _ _ _ _ _ hx hb h w => by
  change ∀ la' : Array Slot, lv_has la' _ ((_, va_rf (oA E x)) :: _) → _ at w
  show W _ _ _ _ _ _ _ _ _ _ _ _ _ _ _ (F0 _ _ _ (va_rf (oA E x) :: _))
  cases ho : oA E x with
  | none => rw [ho] at w; exact lv_astore_nN hx hb hd rfl h hn rfl w
  | some a => rw [ho] at w; exact lv_astore_n hx hb hd rfl h hn rfl w) kk
theorem go_astore {i : Nat} {x : Nat} {ls' : List Value} (hd : decode Γ.2.1 pc = .ok (.astore i, 2)) (hn : i < Γ.2.2.1) (hg : nlg ls i = true) (he : ls.set i (.ref x) = ls') (kk : Go sR Γ fin f (pc + 2) ls' st M) : Go sR Γ fin f pc ls (.ref x :: st) M := go_store rfl hn hg he (fun {E} _ _ _ _ _ _ _ _ _ _ _ _ _ _ _ _ hx hb h w => by
  change ∀ la' : Array Slot, lv_has la' _ ((_, va_rf (oA E x)) :: _) → _ at w
  show W _ _ _ _ _ _ _ _ _ _ _ _ _ _ _ (F0 _ _ _ (va_rf (oA E x) :: _))
  cases ho : oA E x with
  | none => rw [ho] at w; exact lv_astoreN hx hb hd h hn rfl w
  | some a => rw [ho] at w; exact lv_astore hx hb hd h hn rfl w) kk
theorem go_store2 {i : Nat} {y : Int64} {st : List Value} {pc' : Nat} {ls' : List Value} (hn : i + 1 < Γ.2.2.1) (hg : nlg ls i = true) (he : (ls.set i (.long y)).set (i + 1) .null = ls')
    (hw : ∀ {E : EN} {p : Program} {l : Launch} {e : Env} {R : Room} {s : State} {m : MethodId} {args : Array Value} {below : List Frame} {meth : Method} {c : Code} {H : Heap} {locs : List Loc} {cells slots : Nat} {Q : State → Prop} {la : Array Slot}, p.tables.exec = Jvm.exec → c.code = Γ.2.1 → lv_has la Γ.2.2.1 (lcL E ls) → (∀ la' : Array Slot, lv_has la' Γ.2.2.1 ((i, cV E (.long y)) :: (lcL E ls).filter (fun q => !(q.1 == i) && (!(q.1 == i + 1) && !(q.1 + 1 == i && q.2.category == 2)))) → W p l e R s m args below meth c H locs cells slots Q (F0 m pc' la' (st.map (cV E)))) → W p l e R s m args below meth c H locs cells slots Q (F0 m pc la (cV E (.long y) :: st.map (cV E))))
    (k : Go sR Γ fin f pc' ls' st M) : Go sR Γ fin f pc ls (.long y :: st) M := by
  subst he
  intro x hx hp
  obtain ⟨k1, k2⟩ := k x hx (hp.sub fun w hw => by
    rcases List.mem_append.mp hw with h | h
    · rcases List.mem_or_eq_of_mem_set h with h | h
      · rcases List.mem_or_eq_of_mem_set h with h | h
        · exact Or.inl (List.mem_append_left _ h)
        · exact Or.inr (by subst h; trivial)
      · exact Or.inr (by subst h; trivial)
    · exact Or.inl (List.mem_append_right _ (List.mem_cons_of_mem _ h)))
  refine ⟨k1, fun D E M0 A p l e R s m args below meth c Q H locs cells slots la hF hV => hw hF.1 hF.2.1 hV.2.2.2.2.1.has fun la' hla => ?_⟩
  obtain ⟨v1, v2, v3, v4, v5, v6, v7⟩ := hV
  exact k2 D E M0 A p l e R s m args below meth c Q H locs cells slots la' hF ⟨v1, v2, v3, v4, lcOK.put2 hg hla, v6, v7⟩
theorem go_lstore_n {k : Fin 4} {x : Int64} {ls' : List Value} (hd : decode Γ.2.1 pc = .ok (.lstore_n k, 1)) (hn : (k : Nat) + 1 < Γ.2.2.1) (hg : nlg ls k = true) (he : (ls.set k (.long x)).set (k + 1) .null = ls') (kk : Go sR Γ fin f (pc + 1) ls' st M) : Go sR Γ fin f pc ls (.long x :: st) M := go_store2 hn hg he (fun hx hb h w => lv_lstore_n hx hb hd rfl h hn rfl w) kk
theorem go_lstore {i : Nat} {x : Int64} {ls' : List Value} (hd : decode Γ.2.1 pc = .ok (.lstore i, 2)) (hn : i + 1 < Γ.2.2.1) (hg : nlg ls i = true) (he : (ls.set i (.long x)).set (i + 1) .null = ls') (kk : Go sR Γ fin f (pc + 2) ls' st M) : Go sR Γ fin f pc ls (.long x :: st) M := go_store2 hn hg he (fun hx hb h w => lv_lstore hx hb hd h hn rfl w) kk
theorem go_iinc {i : Nat} {n : Int} (v : Int32) {x : Int32} {ls' : List Value} (hd : decode Γ.2.1 pc = .ok (.iinc i n, 3)) (hl : ls[i]? = some (.int x)) (hv : Int32.ofInt n = v) (hn : i < Γ.2.2.1) (hg : nlg ls i = true) (he : ls.set i (.int (x + v)) = ls') (k : Go sR Γ fin f (pc + 3) ls' st M) : Go sR Γ fin f pc ls st M := by
  subst he
  subst hv
  intro z hz hp
  obtain ⟨k1, k2⟩ := k z hz (hp.sub fun w hw => by
    rcases List.mem_append.mp hw with h | h
    · rcases List.mem_or_eq_of_mem_set h with h | h
      · exact Or.inl (List.mem_append_left _ h)
      · exact Or.inr (by subst h; trivial)
    · exact Or.inl (List.mem_append_right _ h))
  refine ⟨k1, fun D E M0 A p l e R s m args below meth c Q H locs cells slots la hF hV => ?_⟩
  obtain ⟨v1, v2, v3, v4, v5, v6, v7⟩ := hV
  have hm := mem_lcL (E := E) hl (by simp)
  obtain ⟨q, hq⟩ := List.getElem?_of_mem hm
  exact lv_iinc hF.1 hF.2.1 hd v5.has (k := q) hq rfl hn rfl fun la' hla => k2 D E M0 A p l e R s m args below meth c Q H locs cells slots la' hF ⟨v1, v2, v3, v4, lcOK.put1 (v := .int (x + Int32.ofInt n)) hg hla, v6, v7⟩
/-- fewer locals known -/
theorem go_le {ls' : List Value} (h : lcLe ls' ls) (hm : ∀ v, v ∈ ls' → v ∈ ls ∨ v = .null) (k : Go sR Γ fin f pc ls' st M) : Go sR Γ fin f pc ls st M := by
  intro x hx hp
  obtain ⟨k1, k2⟩ := k x hx (hp.sub fun w hw => by
    rcases List.mem_append.mp hw with h | h
    · rcases hm w h with h | h
      · exact Or.inl (List.mem_append_left _ h)
      · exact Or.inr (by subst h; trivial)
    · exact Or.inl (List.mem_append_right _ h))
  refine ⟨k1, fun D E M0 A p l e R s m args below meth c Q H locs cells slots la hF hV => ?_⟩
  obtain ⟨v1, v2, v3, v4, v5, v6, v7⟩ := hV
  exact k2 D E M0 A p l e R s m args below meth c Q H locs cells slots la hF ⟨v1, v2, v3, v4, v5.le h, v6, v7⟩
/-- names, guards, nothing -/
theorem go_lt {α : Type} {x : α} {g : α → Option β} (k : Go sR Γ fin (g x) pc ls st M) : Go sR Γ fin (lt x g) pc ls st M := k
theorem go_gd {c : Prop} [Decidable c] (k : c → Go sR Γ fin f pc ls st M) : Go sR Γ fin (gd c f) pc ls st M := by
  intro x hx
  obtain ⟨hc, hx⟩ := gd_some hx
  exact k hc x hx
theorem go_none : Go sR Γ fin none pc ls st M := fun _ h => by cases h
theorem go_eq {st' ls' : List Value} (h1 : ls' = ls) (h2 : st' = st) (k : Go sR Γ fin f pc ls' st' M) : Go sR Γ fin f pc ls st M := by subst h1; subst h2; exact k
/-- the return -/
theorem go_ret {x : β} (hr : retAt Γ.2.1 pc (fin x).1) (hk : retOK Γ.2.2.2.1 (fin x).1) (hs : st = (fin x).1.toList) (hM : (fin x).2 = M) : Go sR Γ fin (some x) pc ls st M := by
  intro y hy hp
  cases hy
  subst hM
  refine ⟨⟨ext_rfl, hp.sub fun v hv => Or.inl (List.mem_append_right _ (hs ▸ hv))⟩, fun D E M0 A p l e R s m args below meth c Q H locs cells slots la hF hV => ?_⟩
  obtain ⟨v1, v2, v3, v4, v5, v6, v7⟩ := hV
  rw [hs]
  exact hF.2.2.2.2.2.2.2.2.2.2.2.2.2.2 pc H locs cells slots la hr hk ⟨v1, v2, v3, v4, ⟨v5.1, v5.2.1, fun i v h => by simp at h⟩, v6, v7⟩
end RULES
