/-! A METHOD'S CONTRACT, AND ITS CALL -/
def Ct {γ : Type} (sR : Nat → Nat → Nat) (Γ : GM) (fin : γ → Option Value × Mem) (as : List Value) (f : Option γ) (M : Mem) : Prop :=
  (lcA as).length ≤ Γ.2.2.1 ∧ Go sR Γ fin f 0 (lcA as ++ List.replicate (Γ.2.2.1 - (lcA as).length) .null) [] M
def rmD (d mc ms : Nat) : Room := { frames := d, cells := mc, slots := ms, locals := 40 * d }
def AM (D : DN) (E : EN) (M : Mem) : Nat → Prop := va_A (wsL D E M) (E.1 + mZ M)
def cP (D : DN) (E : EN) (as : List Value) (M : Mem) : Array Value → State → Prop := va_Pc (as.map (cV E)) (fun U => U.heap.size = E.1 + mZ M ∧ envOK D E U ∧ va_P D.1 vwCl (wsL D E M) U.heap ∧ va_D (fun _ => True) (wsL D E M))
def cQ (D : DN) (E : EN) (A : Nat → Prop) (z : Option Value × Mem) : Array Value → State → Outcome → State → Prop := fun _ st o t =>
  o = .returned (z.1.map (cV E)) ∧ t.heap.size = E.1 + mZ z.2 ∧ va_P D.1 vwCl (wsL D E z.2) t.heap ∧ va_D A (wsL D E z.2) ∧ va_F A st t
theorem AM_bA {D : DN} {E : EN} {M : Mem} (h : cl M) {q : Nat} (hq : AM D E M q) : bA E q := by
  rcases hq with ⟨k, e, hk⟩ | hq
  · unfold wsL at hk
    rw [List.getElem?_map] at hk
    cases hm : (mV M)[k]? with
    | none => rw [hm] at hk; cases hk
    | some a =>
      rw [hm] at hk
      have e1 : adr E a = q := congrArg Prod.fst (Option.some.inj hk)
      rw [adr_own (h a (List.mem_of_getElem? hm)).2.1] at e1
      show E.1 ≤ q
      omega
  · show E.1 ≤ q
    omega
theorem lcA_len (E : EN) : ∀ as : List Value, (lg_sl (as.map (cV E))).length = (lcA as).length
  | [] => rfl
  | v :: vs => by
    have ih := lcA_len E vs
    unfold lg_sl at ih ⊢
    simp only [List.map_cons, List.flatMap_cons, List.length_append, lcA, cV_cat]
    by_cases h : v.category = 2
    · rw [if_pos h, if_pos h]; simp only [List.length_cons, List.length_nil]; omega
    · rw [if_neg h, if_neg h]; simp only [List.length_cons, List.length_nil]; omega
theorem lcA_in : ∀ (as : List Value) (v : Value), v ∈ lcA as → v ∈ as ∨ v = .null
  | [], v, h => by simp [lcA] at h
  | a :: vs, v, h => by
    simp only [lcA] at h
    have key : v ∈ lcA vs → v ∈ a :: vs ∨ v = .null := fun h => (lcA_in vs v h).imp (List.mem_cons_of_mem _) id
    by_cases hc : a.category = 2
    · rw [if_pos hc] at h
      rcases List.mem_cons.mp h with e | h
      · exact Or.inl (e ▸ List.mem_cons_self)
      · rcases List.mem_cons.mp h with e | h
        · exact Or.inr e
        · exact key h
    · rw [if_neg hc] at h
      rcases List.mem_cons.mp h with e | h
      · exact Or.inl (e ▸ List.mem_cons_self)
      · exact key h
theorem met_of {γ : Type} {sR : Nat → Nat → Nat} {Γ : GM} {fin : γ → Option Value × Mem} {as : List Value} {f : Option γ} {M : Mem} {y : γ} (hC : Ct sR Γ fin as f M) (hf : f = some y) (hp : pOK sR M as) (hpl : plainName Γ.1.cls = true) (l : Launch) (D : DN) (E : EN) :
    Met l Γ.1 (Cond.code Γ.1 Γ.2.1 Γ.2.2.1 Γ.2.2.2.1 :: gT) (rmD Γ.2.2.2.2 (mZ (fin y).2 - mZ M) (mW (fin y).2 - mW M)) (cP D E as M) (cQ D E (AM D E M) (fin y)) (mZ (fin y).2 - mZ M) (mW (fin y).2 - mW M) (AM D E M) := by
  obtain ⟨hlen, hgo⟩ := hC
  obtain ⟨⟨hex, -⟩, hgo⟩ := hgo y hf ⟨hp.1, hp.2.1, fun v hv => by
    rcases List.mem_append.mp (List.append_nil _ ▸ hv) with h | h
    · rcases lcA_in as v h with h | h
      · exact hp.2.2 v h
      · subst h; trivial
    · rw [(List.mem_replicate.mp h).2]; trivial⟩
  refine Met.ofW (cc := Γ.2.1) (maxL := Γ.2.2.1) (ret := Γ.2.2.2.1) hpl rfl ?_
  intro p e s m args below meth c s₁ B hml hv
  obtain ⟨rfl, hz, hE, hP, hD0⟩ := hv
  have hts := atoms_spec (ws := Cond.code Γ.1 Γ.2.1 Γ.2.2.1 Γ.2.2.2.1 :: gT) B.pre
  have hown : s.vm.findClass Γ.1.cls = some m.cls := findClass_of_methodNamed B.named
  have hr := B.returns
  have hlocks := B.notSynchronized
  have hl := lv_entry (as.map (cV E)) (n := Γ.2.2.1) (by rw [lcA_len]; exact hlen)
  rw [lg_entry_eq]
  generalize (lg_sl (as.map (cV E)) ++ List.replicate (Γ.2.2.1 - (lg_sl (as.map (cV E))).length) Slot.unset).toArray = la at hl ⊢
  have hlc : lcOK E Γ.2.2.1 (lcA as ++ List.replicate (Γ.2.2.1 - (lcA as).length) .null) la := ⟨hl.1, hl.2.1, fun i v hi hv => by
    by_cases hil : i < (lcA as).length
    · rw [List.getElem?_append_left hil] at hi
      have h1 := lcA_at E as 0 i v hi hv
      rw [Nat.zero_add] at h1
      exact hl.2.2 (i, cV E v) h1
    · rw [List.getElem?_append_right (by omega)] at hi
      exact absurd (List.mem_replicate.mp (List.mem_of_getElem? hi)).2 hv⟩
  have hD : va_D (AM D E M) (wsL D E M) := hD0.self
  have hAM : ∀ q : Nat, s.heap.size ≤ q → AM D E M q := fun q hq => Or.inr (by rw [← hz]; exact hq)
  refine hgo D E M (AM D E M) p l e _ s m _ below meth c _ s.heap [] 0 0 la ⟨B.exec, B.bytes, hml, hown, (name_of_methodNamed B.named B.method).1, fun w hw => hts w (List.mem_cons_of_mem _ hw), hE, hz, hAM, fun q hq => AM_bA hp.1 hq, Nat.le_refl _, Nat.le_refl _, ?_, ?_, ?_⟩ ⟨hz, hP, hD, va_S.rf, hlc, by omega, by omega⟩
  · show mZ (fin y).2 ≤ mZ M + (mZ (fin y).2 - mZ M)
    omega
  · show mW (fin y).2 ≤ mW M + (mW (fin y).2 - mW M)
    omega
  · intro pc' H' locs' cells' slots' la' hra hrk hV
    obtain ⟨v1, v2, v3, v4, v5, v6, v7⟩ := hV
    have e1 : mZ (fin y).2 - mZ M = cells' := by omega
    have e2 : mW (fin y).2 - mW M = slots' := by omega
    rw [e1, e2]
    have hq : ∀ t : State, t.heap = H' → s.WarmedH t.vm → cQ D E (AM D E M) (fin y) (as.map (cV E)).toArray s (.returned ((fin y).1.map (cV E))) t := fun t ht hW => ⟨rfl, by rw [ht]; exact v1, by rw [ht]; exact v2, v3, v4.F ht⟩
    generalize hz1 : (fin y).1 = z1 at hra hrk hq ⊢
    match z1, hra, hrk, hq with
    | none, hra, hrk, hq => exact W.vret B.exec B.bytes (hr.trans hrk) hq v4.2.2 hra hlocks
    | some (.int x), hra, hrk, hq =>
      obtain ⟨ty, t1, t2⟩ := hrk
      exact W.zret B.exec B.bytes (hr.trans t1) t2 hq v4.2.2 hra hlocks
    | some (.long x), hra, hrk, hq => exact W.lret B.exec B.bytes (hr.trans hrk) hq v4.2.2 hra hlocks
    | some (.ref x), hra, hrk, hq =>
      obtain ⟨rt, t1, t2⟩ := hrk
      exact W.aret B.exec B.bytes (hr.trans t1) t2 (show va_rf (oA E x) = .null ∨ ∃ a, va_rf (oA E x) = .ref a by cases oA E x with | none => exact Or.inl rfl | some a => exact Or.inr ⟨a, rfl⟩) hq v4.2.2 hra hlocks
section CALLW
variable {p : Program} {l : Launch} {e : Env} {R : Room} {s : State} {m : MethodId} {args : Array Value} {below : List Frame} {meth : Method} {c : Code} {H : Heap} {locs : List Loc} {cells slots : Nat} {Q : State → Prop}
theorem call_w {pc mc ms : Nat} {ls : Array Slot} {rest st0 : List Value} {a : Array Value} {A0 A1 free : Nat → Prop} {H0 : Heap} {D : DN} {E : EN} {z : Option Value × Mem} (hr : va_Run p l e R s m args below meth c H locs cells slots mc ms (F0 m pc ls st0) rest (cQ D E A1 z a) free) (hS : va_S A0 H0 H locs) (hA : ∀ q, A1 q → A0 q) (hf : ∀ q, free q → A0 q)
    (kk : ∀ (H1 : Heap) (locs1 : List Loc), H1.size = E.1 + mZ z.2 → va_P D.1 vwCl (wsL D E z.2) H1 → va_D A1 (wsL D E z.2) → va_S A0 H0 H1 locs1 → W p l e R s m args below meth c H1 locs1 (cells + mc) (slots + ms) Q (F0 m (pc + 3) ls ((z.1.map (cV E)).toList ++ rest))) : W p l e R s m args below meth c H locs cells slots Q (F0 m pc ls st0) := by
  intro T hT X
  obtain ⟨v, st₀, t, T', L, h0, X', hL, e1, e2, ⟨hv, hz, hP, hD, hF⟩, st⟩ := hr T hT X
  cases hv
  obtain ⟨hz1, hk⟩ := hF
  rw [h0] at hz1 hk
  obtain ⟨t2, a1, b1⟩ := kk T'.heap (locs ++ L) (by rw [e1]; exact hz) (by rw [e1]; exact hP) hD
    ⟨Nat.le_trans hS.1 (by rw [e1]; exact hz1), fun q h1 h2 => by rw [e1, hk q (Nat.lt_of_lt_of_le h1 hS.1) (fun z => h2 (hA q z))]; exact hS.2.1 q h1 h2, fun q hq => by
      rcases List.mem_append.mp hq with h | h
      · exact hS.2.2 q h
      · exact hf _ (hL q h)⟩ T' rfl X'
  exact ⟨t2, st t2 a1, b1⟩
end CALLW
/-! the words of a callee, and of a call -/
def IvC (Γc : GM) (n : Nat) : Prop := Cond.initialized Γc.1.cls ∈ gT ∧ Cond.code Γc.1 Γc.2.1 Γc.2.2.1 Γc.2.2.2.1 ∈ gT ∧ (Γc.1.cls ≠ "java/lang/invoke/MethodHandle" ∧ Γc.1.cls ≠ "java/lang/invoke/VarHandle" ∧ (parseMethodDescriptor Γc.1.desc).map (fun d => d.parameters.length) = some n) ∧ plainName Γc.1.cls = true ∧ Γc.2.2.1 ≤ 21
def IvS (own : String) (idx : Nat) (y : MethodName) : Prop := Cond.methodLink own idx y ∈ gT ∧ Cond.static y ∈ gT
def IvV (own : String) (idx : Nat) (y : MethodName) : Prop := Cond.methodLink own idx y ∈ gT ∧ Cond.instanceMethod y ∈ gT ∧ Cond.selects y.cls y y ∈ gT
def IvI (own : String) (idx : Nat) (y : MethodName) : Prop := Cond.methodLink own idx y ∈ gT ∧ Cond.instanceMethod y ∈ gT ∧ y.name = "<init>"
def IvSN (own : String) (idx : Nat) (y : MethodName) : Prop := ∃ host, Cond.methodLinkNest own idx y host ∈ nW ∧ Cond.static y ∈ gT
def IvVN (own : String) (idx : Nat) (y : MethodName) : Prop := ∃ host, Cond.methodLinkNest own idx y host ∈ nW ∧ Cond.instanceMethod y ∈ gT ∧ Cond.selects y.cls y y ∈ gT
def IvIN (own : String) (idx : Nat) (y : MethodName) : Prop := ∃ host, Cond.methodLinkNest own idx y host ∈ nW ∧ Cond.instanceMethod y ∈ gT ∧ y.name = "<init>"
/-- the receiver is an object of this class -/
def Rcv (a : Nat) (C : String) : Prop := (1 ≤ a % 32 ∧ a % 32 ≤ 10 ∧ (clT (a % 32)).1 = C) ∨ (a % 131072 = 19 ∧ a / 131072 < 6 ∧ C = RJ0)
theorem gT_app {w1 w2 w3 : Cond} {ws : List Cond} (h1 : w1 ∈ gT) (h2 : w2 ∈ gT) (h3 : w3 ∈ gT) (h : GoodIn gT ws) : GoodIn gT ([w1, w2, w3] ++ ws) := fun w hw => by
  rcases List.mem_append.mp hw with hw | hw
  · simp only [List.mem_cons, List.mem_nil_iff, or_false] at hw
    rcases hw with rfl | rfl | rfl
    · exact ⟨h1, gT_good h1⟩
    · exact ⟨h2, gT_good h2⟩
    · exact ⟨h3, gT_good h3⟩
  · exact h w hw
theorem gT_app4 {w1 w2 w3 w4 : Cond} {ws : List Cond} (h1 : w1 ∈ gT) (h2 : w2 ∈ gT) (h3 : w3 ∈ gT) (h4 : w4 ∈ gT) (h : GoodIn gT ws) : GoodIn gT ([w1, w2, w3, w4] ++ ws) := fun w hw => by
  rcases List.mem_append.mp hw with hw | hw
  · simp only [List.mem_cons, List.mem_nil_iff, or_false] at hw
    rcases hw with rfl | rfl | rfl | rfl
    · exact ⟨h1, gT_good h1⟩
    · exact ⟨h2, gT_good h2⟩
    · exact ⟨h3, gT_good h3⟩
    · exact ⟨h4, gT_good h4⟩
  · exact h w hw
section CALL
variable {β γ : Type} {sR : Nat → Nat → Nat} {Γ Γc : GM} {fin : β → Option Value × Mem} {finc : γ → Option Value × Mem} {g : γ → Option β} {fc : Option γ} {pc : Nat} {ls st : List Value} {M : Mem}
/-- a call, whatever its kind: 'hrun' is the machine's part -/
theorem go_call0 {as : List Value} (hC : Ct sR Γc finc as fc M) (hI : plainName Γc.1.cls = true)
    (hrun : ∀ {D : DN} {E : EN} {M0 : Mem} {A : Nat → Prop} {z : Option Value × Mem} {p : Program} {l : Launch} {e : Env} {R : Room} {s : State} {m : MethodId} {args : Array Value} {below : List Frame} {meth : Method} {c : Code} {Q : State → Prop} {H : Heap} {locs : List Loc} {cells slots mc ms : Nat} {la : Array Slot} {Pc : Array Value → State → Prop} {Qc : Array Value → State → Outcome → State → Prop} {free : Addr → Prop},
      CxF Γ D E M0 A z p l e R s m args below meth c Q → CxV Γ D E M0 A M ls s H locs cells slots la → pOK sR M as → Met l Γc.1 (Cond.code Γc.1 Γc.2.1 Γc.2.2.1 Γc.2.2.2.1 :: gT) (rmD Γc.2.2.2.2 mc ms) Pc Qc mc ms free → FrameBlind Pc → (∀ U : State, U.heap = H → s.WarmedH U.vm → Pc (as.map (cV E)).toArray U) → cells + mc ≤ R.cells ∧ slots + ms ≤ R.slots →
      va_Run p l e R s m args below meth c H locs cells slots mc ms (F0 m pc la ((as.map (cV E)).reverse ++ st.map (cV E))) (st.map (cV E)) (Qc (as.map (cV E)).toArray) free)
    (kk : ∀ y, fc = some y → Go sR Γ fin (g y) (pc + 3) ls ((finc y).1.toList ++ st) (finc y).2) : Go sR Γ fin (bd fc g) pc ls (as.reverse ++ st) M := by
  intro x hx hp
  obtain ⟨y, hy, hx⟩ := bd_of hx
  have hpa : pOK sR M as := hp.sub fun v hv => Or.inl (List.mem_append_right _ (List.mem_append_left _ (List.mem_reverse.mpr hv)))
  have hCg := hC.2 y hy ⟨hp.1, hp.2.1, fun v hv => by
    rcases List.mem_append.mp (List.append_nil _ ▸ hv) with h | h
    · rcases lcA_in as v h with h | h
      · exact hpa.2.2 v h
      · subst h; trivial
    · rw [(List.mem_replicate.mp h).2]; trivial⟩
  obtain ⟨hex, hpo⟩ := hCg.1
  obtain ⟨k1, k2⟩ := kk y hy x hx ⟨hpo.1, hpo.2.1, fun v hv => by
    rcases List.mem_append.mp hv with h | h
    · exact lvV.mono hex.2.2 (hp.2.2 v (List.mem_append_left _ h))
    · rcases List.mem_append.mp h with h | h
      · exact hpo.2.2 v h
      · exact lvV.mono hex.2.2 (hp.2.2 v (List.mem_append_right _ (List.mem_append_right _ h)))⟩
  refine ⟨⟨hex.trans k1.1, k1.2⟩, fun D E M0 A p l e R s m args below meth c Q H locs cells slots la hF hV => ?_⟩
  have hM := met_of hC hy hpa hI l D E
  obtain ⟨v1, v2, v3, v4, v5, v6, v7⟩ := id hV
  obtain ⟨g1, g2, g3, g4, g5, g6, g7, g8, g9, g10, g11, g12, g13, g14, g15⟩ := id hF
  have hz1 : mZ (finc y).2 ≤ mZ (fin x).2 := k1.1.1
  have hz2 : mW (finc y).2 ≤ mW (fin x).2 := k1.1.2.1
  have hz3 : mZ M ≤ mZ (finc y).2 := hex.1
  have hz4 : mW M ≤ mW (finc y).2 := hex.2.1
  have hr := hrun hF hV hpa hM (fun a U g mk q => ⟨q.1, q.2.1, envOK_call g mk a q.2.2.1, q.2.2.2⟩) (fun U hU hW => ⟨rfl, by rw [hU]; exact v1, envOK_to hW (fun q q1 q2 => by rw [hU]; exact v4.2.1 q q1 (fun h => q2 (g10 q h))) g7, by rw [hU]; exact v2, v3.weaken (fun _ _ _ _ => trivial)⟩) ⟨by omega, by omega⟩
  have hAA : ∀ q, AM D E M q → A q := fun q hq => by
    rcases hq with ⟨k, e2, hk⟩ | hq
    · exact v3.2 k _ hk
    · exact g9 q (Nat.le_trans v4.1 (by rw [v1]; exact hq))
  have goal := call_w hr v4 hAA hAA (Q := Q) fun H1 locs1 n1 n2 n3 n4 => ?_
  · have e : (as.reverse ++ st).map (cV E) = (as.map (cV E)).reverse ++ st.map (cV E) := by rw [List.map_append, List.map_reverse]
    rw [e]; exact goal
  · have k3 := k2 D E M0 A p l e R s m args below meth c Q H1 locs1 (cells + (mZ (finc y).2 - mZ M)) (slots + (mW (finc y).2 - mW M)) la hF ⟨n1, n2, n3.weaken (fun _ _ _ h => hAA _ h), n4, v5, by omega, by omega⟩
    have e : ((finc y).1.toList ++ st).map (cV E) = ((finc y).1.map (cV E)).toList ++ st.map (cV E) := by
      rw [List.map_append]; cases (finc y).1 <;> rfl
    rw [e] at k3
    exact k3
theorem go_callS {as : List Value} {n idx : Nat} (hC : Ct sR Γc finc as fc M) (hI : IvC Γc n) (hS : IvS Γ.1.cls idx Γc.1) (hn : as.length = n) (hdp : Γc.2.2.2.2 + 1 ≤ Γ.2.2.2.2) (hst : (st.map fun v => v.category).sum ≤ 8) (hd : decode Γ.2.1 pc = .ok (.invokestatic idx, 3))
    (kk : ∀ y, fc = some y → Go sR Γ fin (g y) (pc + 3) ls ((finc y).1.toList ++ st) (finc y).2) : Go sR Γ fin (bd fc g) pc ls (as.reverse ++ st) M := by
  refine go_call0 hC hI.2.2.2.1 (fun {D E M0 A z p l e R s m args below meth c Q H locs cells slots mc ms la Pc Qc free} hF hV hp hM hB hU hr => ?_) kk
  obtain ⟨g1, g2, g3, g4, g5, g6, g7, g8, g9, g10, g11, g12, g13, g14, g15⟩ := id hF
  have hcat := cat_le hst E
  exact va_runS (As := as.map (cV E)) (n := n) (own := Γ.1.cls) (index := idx) ⟨g1, g2, g3, g4, g6⟩ hM (va_cwS n g6 (gT_app hS.1 hS.2 hI.1 (gT_in hI.2.1)) rfl rfl rfl hI.2.2.1 ⟨by show Γc.2.2.2.2 + 1 ≤ _; omega, by show 8 + (_ + 11) + 40 * Γc.2.2.2.2 ≤ _; have := hI.2.2.2.2; omega⟩) ⟨hB, hU⟩ rfl (by simp [hn]) hV.2.2.2.2.1.1 rfl (by show 2 * 0 + _ ≤ 8; omega) hd hr
theorem go_callSN {as : List Value} {n idx : Nat} (hC : Ct sR Γc finc as fc M) (hI : IvC Γc n) (hS : IvSN Γ.1.cls idx Γc.1) (hn : as.length = n) (hdp : Γc.2.2.2.2 + 1 ≤ Γ.2.2.2.2) (hst : (st.map fun v => v.category).sum ≤ 8) (hd : decode Γ.2.1 pc = .ok (.invokestatic idx, 3))
    (kk : ∀ y, fc = some y → Go sR Γ fin (g y) (pc + 3) ls ((finc y).1.toList ++ st) (finc y).2) : Go sR Γ fin (bd fc g) pc ls (as.reverse ++ st) M := by
  refine go_call0 hC hI.2.2.2.1 (fun {D E M0 A z p l e R s m args below meth c Q H locs cells slots mc ms la Pc Qc free} hF hV hp hM hB hU hr => ?_) kk
  obtain ⟨g1, g2, g3, g4, g5, g6, g7, g8, g9, g10, g11, g12, g13, g14, g15⟩ := id hF
  have hcat := cat_le hst E
  obtain ⟨host, s1, s2⟩ := hS
  exact va_runSN (As := as.map (cV E)) (n := n) (own := Γ.1.cls) (index := idx) ⟨g1, g2, g3, g4, g6⟩ hM ⟨va_cnB n g6 (gT_in hI.2.1) rfl rfl rfl (g7.2.2.2.2.2.2.2.1 _ s1) (g6 _ hI.1) hI.2.2.1 ⟨by show Γc.2.2.2.2 + 1 ≤ _; omega, by show 8 + (_ + 11) + 40 * Γc.2.2.2.2 ≤ _; have := hI.2.2.2.2; omega⟩, g6 _ s2, trivial⟩ ⟨hB, hU⟩ rfl (by simp [hn]) hV.2.2.2.2.1.1 rfl (by show 2 * 0 + _ ≤ 8; omega) hd hr
theorem rcv_cell {D : DN} {E : EN} {M0 : Mem} {A : Nat → Prop} {z : Option Value × Mem} {p : Program} {l : Launch} {e : Env} {R : Room} {s : State} {m : MethodId} {args : Array Value} {below : List Frame} {meth : Method} {c : Code} {Q : State → Prop} {H : Heap} {locs : List Loc} {cells slots : Nat} {la : Array Slot} {a : Nat} {C : String} (hF : CxF Γ D E M0 A z p l e R s m args below meth c Q) (hV : CxV Γ D E M0 A M ls s H locs cells slots la) (hc : cl M) (hlv : lvM M a) (hR : Rcv a C) : cV E (.ref a) = .ref (adr E a) ∧ ∃ cell : Cell, H[adr E a]? = some cell ∧ cell.vm.isStatics = false ∧ s.vm.findClass C = some cell.cls := by
  obtain ⟨g1, g2, g3, g4, g5, g6, g7, g8, g9, g10, g11⟩ := id hF
  rcases hR with ⟨r1, r2, r3⟩ | ⟨r1, r2, r3⟩
  · refine ⟨cV_ref r1 (by omega), ?_⟩
    obtain ⟨q, -, hq⟩ := wsL_at (D := D) (E := E) (hlv.own r1 (by omega))
    rw [cellE_obj rfl r2] at hq
    rw [← r3]
    exact va_recv g7.1 hV.2.1 (clT_get r1 r2) hq
  · refine ⟨cV_ref (by omega) (by omega), ?_⟩
    subst r3
    rw [adr19 (by omega)]
    exact vk_recv (g7.2.2.2.2.2.1.narrow g10) r2 hV.2.2.2.1
theorem go_callV {a : Nat} {as : List Value} {n idx : Nat} (hC : Ct sR Γc finc (.ref a :: as) fc M) (hI : IvC Γc n) (hS : IvV Γ.1.cls idx Γc.1) (hR : Rcv a Γc.1.cls) (hn : as.length = n) (hdp : Γc.2.2.2.2 + 1 ≤ Γ.2.2.2.2) (hst : (st.map fun v => v.category).sum ≤ 8) (hd : decode Γ.2.1 pc = .ok (.invokevirtual idx, 3))
    (kk : ∀ y, fc = some y → Go sR Γ fin (g y) (pc + 3) ls ((finc y).1.toList ++ st) (finc y).2) : Go sR Γ fin (bd fc g) pc ls ((.ref a :: as).reverse ++ st) M := by
  refine go_call0 hC hI.2.2.2.1 (fun {D E M0 A z p l e R s m args below meth c Q H locs cells slots mc ms la Pc Qc free} hF hV hp hM hB hU hr => ?_) kk
  obtain ⟨g1, g2, g3, g4, g5, g6, g7, g8, g9, g10, g11, g12, g13, g14, g15⟩ := id hF
  have hcat := cat_le hst E
  obtain ⟨r1, r2⟩ := rcv_cell hF hV hp.1 (hp.2.2 (.ref a) List.mem_cons_self) hR
  have e1 : ((Value.ref a :: as).map (cV E)).reverse ++ st.map (cV E) = (as.map (cV E)).reverse ++ .ref (adr E a) :: st.map (cV E) := by
    rw [List.map_cons, List.reverse_cons, List.append_assoc, r1]; rfl
  have e2 : (Value.ref a :: as).map (cV E) = .ref (adr E a) :: as.map (cV E) := by rw [List.map_cons, r1]
  rw [e1]
  rw [e2] at hU ⊢
  exact va_runV (As := as.map (cV E)) (n := n) (own := Γ.1.cls) (index := idx) (C := Γc.1.cls) ⟨g1, g2, g3, g4, g6⟩ hM (cwV n g6 (gT_app4 hS.1 hS.2.1 hS.2.2 hI.1 (gT_in hI.2.1)) rfl rfl rfl ⟨rfl, hI.2.2.1⟩ ⟨by show Γc.2.2.2.2 + 1 ≤ _; omega, by show 8 + (_ + 11) + 40 * Γc.2.2.2.2 ≤ _; have := hI.2.2.2.2; omega⟩) ⟨hB, r2, hU⟩ rfl (by simp [hn]) hV.2.2.2.2.1.1 rfl (by show 2 * 0 + _ ≤ 8; omega) hd hr
theorem go_callVN {a : Nat} {as : List Value} {n idx : Nat} (hC : Ct sR Γc finc (.ref a :: as) fc M) (hI : IvC Γc n) (hS : IvVN Γ.1.cls idx Γc.1) (hR : Rcv a Γc.1.cls) (hn : as.length = n) (hdp : Γc.2.2.2.2 + 1 ≤ Γ.2.2.2.2) (hst : (st.map fun v => v.category).sum ≤ 8) (hd : decode Γ.2.1 pc = .ok (.invokevirtual idx, 3))
    (kk : ∀ y, fc = some y → Go sR Γ fin (g y) (pc + 3) ls ((finc y).1.toList ++ st) (finc y).2) : Go sR Γ fin (bd fc g) pc ls ((.ref a :: as).reverse ++ st) M := by
  refine go_call0 hC hI.2.2.2.1 (fun {D E M0 A z p l e R s m args below meth c Q H locs cells slots mc ms la Pc Qc free} hF hV hp hM hB hU hr => ?_) kk
  obtain ⟨g1, g2, g3, g4, g5, g6, g7, g8, g9, g10, g11, g12, g13, g14, g15⟩ := id hF
  have hcat := cat_le hst E
  obtain ⟨r1, r2⟩ := rcv_cell hF hV hp.1 (hp.2.2 (.ref a) List.mem_cons_self) hR
  have e1 : ((Value.ref a :: as).map (cV E)).reverse ++ st.map (cV E) = (as.map (cV E)).reverse ++ .ref (adr E a) :: st.map (cV E) := by
    rw [List.map_cons, List.reverse_cons, List.append_assoc, r1]; rfl
  have e2 : (Value.ref a :: as).map (cV E) = .ref (adr E a) :: as.map (cV E) := by rw [List.map_cons, r1]
  rw [e1]
  rw [e2] at hU ⊢
  obtain ⟨host, s1, s2, s3⟩ := hS
  exact va_runVN (As := as.map (cV E)) (n := n) (own := Γ.1.cls) (index := idx) (C := Γc.1.cls) ⟨g1, g2, g3, g4, g6⟩ hM ⟨va_cnB n g6 (gT_in hI.2.1) rfl rfl rfl (g7.2.2.2.2.2.2.2.1 _ s1) (g6 _ hI.1) hI.2.2.1 ⟨by show Γc.2.2.2.2 + 1 ≤ _; omega, by show 8 + (_ + 11) + 40 * Γc.2.2.2.2 ≤ _; have := hI.2.2.2.2; omega⟩, g6 _ s2, g6 _ s3⟩ ⟨hB, r2, hU⟩ rfl (by simp [hn]) hV.2.2.2.2.1.1 rfl (by show 2 * 0 + _ ≤ 8; omega) hd hr
theorem go_callI {a : Nat} {as : List Value} {n idx : Nat} (hC : Ct sR Γc finc (.ref a :: as) fc M) (hI : IvC Γc n) (hv : Γc.2.2.2.1 = none) (hS : IvI Γ.1.cls idx Γc.1) (hR : Rcv a Γc.1.cls) (hn : as.length = n) (hdp : Γc.2.2.2.2 + 1 ≤ Γ.2.2.2.2) (hst : (st.map fun v => v.category).sum ≤ 8) (hd : decode Γ.2.1 pc = .ok (.invokespecial idx, 3))
    (kk : ∀ y, fc = some y → Go sR Γ fin (g y) (pc + 3) ls ((finc y).1.toList ++ st) (finc y).2) : Go sR Γ fin (bd fc g) pc ls ((.ref a :: as).reverse ++ st) M := by
  refine go_call0 hC hI.2.2.2.1 (fun {D E M0 A z p l e R s m args below meth c Q H locs cells slots mc ms la Pc Qc free} hF hV hp hM hB hU hr => ?_) kk
  obtain ⟨g1, g2, g3, g4, g5, g6, g7, g8, g9, g10, g11, g12, g13, g14, g15⟩ := id hF
  have hcat := cat_le hst E
  obtain ⟨r1, r2⟩ := rcv_cell hF hV hp.1 (hp.2.2 (.ref a) List.mem_cons_self) hR
  have e1 : ((Value.ref a :: as).map (cV E)).reverse ++ st.map (cV E) = (as.map (cV E)).reverse ++ .ref (adr E a) :: st.map (cV E) := by
    rw [List.map_cons, List.reverse_cons, List.append_assoc, r1]; rfl
  have e2 : (Value.ref a :: as).map (cV E) = .ref (adr E a) :: as.map (cV E) := by rw [List.map_cons, r1]
  have hcode := hI.2.1
  rw [hv] at hM hcode
  rw [e1]
  rw [e2] at hU ⊢
  exact va_runI (As := as.map (cV E)) (n := n) (own := Γ.1.cls) (index := idx) ⟨g1, g2, g3, g4, g6⟩ hM (cwI n g6 (gT_in hcode) rfl rfl rfl (g6 _ hI.1) (g6 _ hS.1) (g6 _ hS.2.1) hS.2.2 hI.2.2.1 ⟨by show Γc.2.2.2.2 + 1 ≤ _; omega, by show 8 + (_ + 11) + 40 * Γc.2.2.2.2 ≤ _; have := hI.2.2.2.2; omega⟩) ⟨hB, hU⟩ rfl (by simp [hn]) hV.2.2.2.2.1.1 rfl (by show 2 * 0 + _ ≤ 8; omega) hd hr
theorem go_callIN {a : Nat} {as : List Value} {n idx : Nat} (hC : Ct sR Γc finc (.ref a :: as) fc M) (hI : IvC Γc n) (hv : Γc.2.2.2.1 = none) (hS : IvIN Γ.1.cls idx Γc.1) (hR : Rcv a Γc.1.cls) (hn : as.length = n) (hdp : Γc.2.2.2.2 + 1 ≤ Γ.2.2.2.2) (hst : (st.map fun v => v.category).sum ≤ 8) (hd : decode Γ.2.1 pc = .ok (.invokespecial idx, 3))
    (kk : ∀ y, fc = some y → Go sR Γ fin (g y) (pc + 3) ls ((finc y).1.toList ++ st) (finc y).2) : Go sR Γ fin (bd fc g) pc ls ((.ref a :: as).reverse ++ st) M := by
  refine go_call0 hC hI.2.2.2.1 (fun {D E M0 A z p l e R s m args below meth c Q H locs cells slots mc ms la Pc Qc free} hF hV hp hM hB hU hr => ?_) kk
  obtain ⟨g1, g2, g3, g4, g5, g6, g7, g8, g9, g10, g11, g12, g13, g14, g15⟩ := id hF
  have hcat := cat_le hst E
  obtain ⟨r1, r2⟩ := rcv_cell hF hV hp.1 (hp.2.2 (.ref a) List.mem_cons_self) hR
  have e1 : ((Value.ref a :: as).map (cV E)).reverse ++ st.map (cV E) = (as.map (cV E)).reverse ++ .ref (adr E a) :: st.map (cV E) := by
    rw [List.map_cons, List.reverse_cons, List.append_assoc, r1]; rfl
  have e2 : (Value.ref a :: as).map (cV E) = .ref (adr E a) :: as.map (cV E) := by rw [List.map_cons, r1]
  have hcode := hI.2.1
  rw [hv] at hM hcode
  rw [e1]
  rw [e2] at hU ⊢
  obtain ⟨host, s1, s2, s3⟩ := hS
  exact va_runIN (As := as.map (cV E)) (n := n) (own := Γ.1.cls) (index := idx) ⟨g1, g2, g3, g4, g6⟩ hM ⟨va_cnB n g6 (gT_in hcode) rfl rfl rfl (g7.2.2.2.2.2.2.2.1 _ s1) (g6 _ hI.1) hI.2.2.1 ⟨by show Γc.2.2.2.2 + 1 ≤ _; omega, by show 8 + (_ + 11) + 40 * Γc.2.2.2.2 ≤ _; have := hI.2.2.2.2; omega⟩, s3, g6 _ s2⟩ ⟨hB, hU⟩ rfl (by simp [hn]) hV.2.2.2.2.1.1 rfl (by show 2 * 0 + _ ≤ 8; omega) hd hr
end CALL
/-! how a method ends: with memory (W) or none written (R), an int, a long, a reference, nothing -/
abbrev fWi : Int32 × Mem → Option Value × Mem := fun y => (some (.int y.1), y.2)
abbrev fWl : Int64 × Mem → Option Value × Mem := fun y => (some (.long y.1), y.2)
abbrev fWr : Nat × Mem → Option Value × Mem := fun y => (some (.ref y.1), y.2)
abbrev fWv : Mem → Option Value × Mem := fun y => (none, y)
abbrev fRi (M : Mem) : Int32 → Option Value × Mem := fun y => (some (.int y), M)
abbrev fRl (M : Mem) : Int64 → Option Value × Mem := fun y => (some (.long y), M)
abbrev fRr (M : Mem) : Nat → Option Value × Mem := fun y => (some (.ref y), M)
abbrev fRv (M : Mem) : Unit → Option Value × Mem := fun _ => (none, M)
def ap2 {α β : Type} (g : α → Mem → β) (y : α × Mem) : β := g y.1 y.2
abbrev b2 {α β : Type} (o : Option (α × Mem)) (g : α → Mem → Option β) : Option β := bd o (ap2 g)
section KK
variable {β γ : Type} {sR : Nat → Nat → Nat} {Γ : GM} {fin : β → Option Value × Mem} {f f' : Option β} {pc : Nat} {ls ls' st : List Value} {M : Mem}
theorem kWi {fc : Option (Int32 × Mem)} {g : Int32 → Mem → Option β} (k : ∀ r M1, Go sR Γ fin (g r M1) pc ls (.int r :: st) M1) : ∀ y, fc = some y → Go sR Γ fin (ap2 g y) pc ls ((fWi y).1.toList ++ st) (fWi y).2 := fun y _ => k y.1 y.2
theorem kWl {fc : Option (Int64 × Mem)} {g : Int64 → Mem → Option β} (k : ∀ r M1, Go sR Γ fin (g r M1) pc ls (.long r :: st) M1) : ∀ y, fc = some y → Go sR Γ fin (ap2 g y) pc ls ((fWl y).1.toList ++ st) (fWl y).2 := fun y _ => k y.1 y.2
theorem kWr {fc : Option (Nat × Mem)} {g : Nat → Mem → Option β} (k : ∀ r M1, Go sR Γ fin (g r M1) pc ls (.ref r :: st) M1) : ∀ y, fc = some y → Go sR Γ fin (ap2 g y) pc ls ((fWr y).1.toList ++ st) (fWr y).2 := fun y _ => k y.1 y.2
theorem kWv {fc : Option Mem} {g : Mem → Option β} (k : ∀ M1, Go sR Γ fin (g M1) pc ls st M1) : ∀ y, fc = some y → Go sR Γ fin (g y) pc ls ((fWv y).1.toList ++ st) (fWv y).2 := fun y _ => k y
theorem kRi {fc : Option Int32} {g : Int32 → Option β} (k : ∀ r, Go sR Γ fin (g r) pc ls (.int r :: st) M) : ∀ y, fc = some y → Go sR Γ fin (g y) pc ls ((fRi M y).1.toList ++ st) (fRi M y).2 := fun y _ => k y
theorem kRl {fc : Option Int64} {g : Int64 → Option β} (k : ∀ r, Go sR Γ fin (g r) pc ls (.long r :: st) M) : ∀ y, fc = some y → Go sR Γ fin (g y) pc ls ((fRl M y).1.toList ++ st) (fRl M y).2 := fun y _ => k y
theorem kRr {fc : Option Nat} {g : Nat → Option β} (k : ∀ r, Go sR Γ fin (g r) pc ls (.ref r :: st) M) : ∀ y, fc = some y → Go sR Γ fin (g y) pc ls ((fRr M y).1.toList ++ st) (fRr M y).2 := fun y _ => k y
theorem kRv {fc : Option Unit} {g : Unit → Option β} (k : ∀ r, Go sR Γ fin (g r) pc ls st M) : ∀ y, fc = some y → Go sR Γ fin (g y) pc ls ((fRv M y).1.toList ++ st) (fRv M y).2 := fun y _ => k y
theorem kTi {v : Int32} (k : Go sR Γ fin f pc ls (.int v :: st) M) : ∀ y, some v = some y → Go sR Γ fin ((fun _ => f) y) pc ls ((fRi M y).1.toList ++ st) (fRi M y).2 := fun y h => by cases h; exact k
theorem kTl {v : Int64} (k : Go sR Γ fin f pc ls (.long v :: st) M) : ∀ y, some v = some y → Go sR Γ fin ((fun _ => f) y) pc ls ((fRl M y).1.toList ++ st) (fRl M y).2 := fun y h => by cases h; exact k
theorem kTr {v : Nat} (k : Go sR Γ fin f pc ls (.ref v :: st) M) : ∀ y, some v = some y → Go sR Γ fin ((fun _ => f) y) pc ls ((fRr M y).1.toList ++ st) (fRr M y).2 := fun y h => by cases h; exact k
theorem go_T {v : γ} (k : Go sR Γ fin (bd (some v) (fun _ => f)) pc ls st M) : Go sR Γ fin f pc ls st M := k
theorem go_def (h : f = f') (k : Go sR Γ fin f' pc ls st M) : Go sR Γ fin f pc ls st M := h ▸ k
theorem go_stk {st' : List Value} (h : st' = st) (k : Go sR Γ fin f pc ls st' M) : Go sR Γ fin f pc ls st M := h ▸ k
theorem go_sub (h : lcLe ls' ls) (k : Go sR Γ fin f pc ls' st M) : Go sR Γ fin f pc ls st M := go_le h (fun v hv => by
  by_cases e : v = .null
  · exact Or.inr e
  · obtain ⟨i, hi⟩ := List.getElem?_of_mem hv
    exact Or.inl (List.mem_of_getElem? (h.at hi e))) k
theorem go_site {a b : β} {c : Prop} [Decidable c] (k : Go sR Γ fin (if c then some a else some b) pc ls st M) : Go sR Γ fin (some (if c then a else b)) pc ls st M := by
  by_cases h : c
  · rw [if_pos h] at k ⊢; exact k
  · rw [if_neg h] at k ⊢; exact k
theorem go_slt {α : Type} {x : α} {g : α → β} (k : Go sR Γ fin (lt x fun y => some (g y)) pc ls st M) : Go sR Γ fin (some (lt x g)) pc ls st M := k
theorem go_istore_nL {k : Fin 4} {x : Int32} {g : Int32 → Option β} {L : Int32 → List Value} (hd : decode Γ.2.1 pc = .ok (.istore_n k, 1)) (hn : (k : Nat) < Γ.2.2.1) (hg : nlg ls k = true) (he : ∀ y, ls.set k (.int y) = L y) (kk : ∀ y, Go sR Γ fin (g y) (pc + 1) (L y) st M) : Go sR Γ fin (lt x g) pc ls (.int x :: st) M := go_istore_n hd hn hg (he x) (kk x)
theorem go_istoreL {i : Nat} {x : Int32} {g : Int32 → Option β} {L : Int32 → List Value} (hd : decode Γ.2.1 pc = .ok (.istore i, 2)) (hn : i < Γ.2.2.1) (hg : nlg ls i = true) (he : ∀ y, ls.set i (.int y) = L y) (kk : ∀ y, Go sR Γ fin (g y) (pc + 2) (L y) st M) : Go sR Γ fin (lt x g) pc ls (.int x :: st) M := go_istore hd hn hg (he x) (kk x)
theorem go_lstore_nL {k : Fin 4} {x : Int64} {g : Int64 → Option β} {L : Int64 → List Value} (hd : decode Γ.2.1 pc = .ok (.lstore_n k, 1)) (hn : (k : Nat) + 1 < Γ.2.2.1) (hg : nlg ls k = true) (he : ∀ y, (ls.set k (.long y)).set (k + 1) .null = L y) (kk : ∀ y, Go sR Γ fin (g y) (pc + 1) (L y) st M) : Go sR Γ fin (lt x g) pc ls (.long x :: st) M := go_lstore_n hd hn hg (he x) (kk x)
theorem go_lstoreL {i : Nat} {x : Int64} {g : Int64 → Option β} {L : Int64 → List Value} (hd : decode Γ.2.1 pc = .ok (.lstore i, 2)) (hn : i + 1 < Γ.2.2.1) (hg : nlg ls i = true) (he : ∀ y, (ls.set i (.long y)).set (i + 1) .null = L y) (kk : ∀ y, Go sR Γ fin (g y) (pc + 2) (L y) st M) : Go sR Γ fin (lt x g) pc ls (.long x :: st) M := go_lstore hd hn hg (he x) (kk x)
theorem go_astore_nL {k : Fin 4} {x : Nat} {g : Nat → Option β} {L : Nat → List Value} (hd : decode Γ.2.1 pc = .ok (.astore_n k, 1)) (hn : (k : Nat) < Γ.2.2.1) (hg : nlg ls k = true) (he : ∀ y, ls.set k (.ref y) = L y) (kk : ∀ y, Go sR Γ fin (g y) (pc + 1) (L y) st M) : Go sR Γ fin (lt x g) pc ls (.ref x :: st) M := go_astore_n hd hn hg (he x) (kk x)
theorem go_astoreL {i : Nat} {x : Nat} {g : Nat → Option β} {L : Nat → List Value} (hd : decode Γ.2.1 pc = .ok (.astore i, 2)) (hn : i < Γ.2.2.1) (hg : nlg ls i = true) (he : ∀ y, ls.set i (.ref y) = L y) (kk : ∀ y, Go sR Γ fin (g y) (pc + 2) (L y) st M) : Go sR Γ fin (lt x g) pc ls (.ref x :: st) M := go_astore hd hn hg (he x) (kk x)
theorem go_iincL {i : Nat} {n : Int} (v : Int32) {x : Int32} {g : Int32 → Option β} {L : Int32 → List Value} (hd : decode Γ.2.1 pc = .ok (.iinc i n, 3)) (hl : ls[i]? = some (.int x)) (hv : Int32.ofInt n = v) (hn : i < Γ.2.2.1) (hg : nlg ls i = true) (he : ∀ y, ls.set i (.int y) = L y) (kk : ∀ y, Go sR Γ fin (g y) (pc + 3) (L y) st M) : Go sR Γ fin (lt (x + v) g) pc ls st M := go_iinc v hd hl hv hn hg (he _) (kk _)
/-- a known place in a row -/
theorem go_iald' {a n : Nat} {i : Int32} (j : Nat) (hi : inR i n) (hj : i.toNatClampNeg = j) (ha : a % 32 = 11) (hn : lnA a = n) (hd : decode Γ.2.1 pc = .ok (.iaload, 1)) (kk : Go sR Γ fin f (pc + 1) ls (.int (mI M a j) :: st) M) : Go sR Γ fin f pc ls (.int i :: .ref a :: st) M := by
  have h := go_iald (f := f) ha hn hd (fun _ => by rw [hj]; exact kk) (i := i)
  rw [gd_pos hi] at h; exact h
theorem go_zald' {a n : Nat} {i : Int32} (j : Nat) (hi : inR i n) (hj : i.toNatClampNeg = j) (ha : a % 32 = 13) (hn : lnA a = n) (hd : decode Γ.2.1 pc = .ok (.baload, 1)) (kk : Go sR Γ fin f (pc + 1) ls (.int (mI M a j) :: st) M) : Go sR Γ fin f pc ls (.int i :: .ref a :: st) M := by
  have h := go_zald (f := f) ha hn hd (fun _ => by rw [hj]; exact kk) (i := i)
  rw [gd_pos hi] at h; exact h
theorem go_iast' {a n : Nat} {i v : Int32} {g : Mem → Option β} (j : Nat) (hi : inR i n) (hj : i.toNatClampNeg = j) (ha : a % 32 = 11) (hn : lnA a = n) (hd : decode Γ.2.1 pc = .ok (.iastore, 1)) (kk : ∀ M1, Go sR Γ fin (g M1) (pc + 1) ls st M1) : Go sR Γ fin (lt (setI M a j v) g) pc ls (.int v :: .int i :: .ref a :: st) M := by
  have h := go_iast (g := g) (v := v) (i := i) (M := M) ha hn hd (fun _ => kk)
  rw [gd_pos hi, hj] at h; exact h
end KK
/-! kinds of ids -/
theorem kd32 {a k t : Nat} (h : a % 131072 = k) (e : k % 32 = t) : a % 32 = t := by omega
theorem kln {a k n : Nat} (h : a % 131072 = k) (e : k / 32 % 4096 = n) : lnA a = n := by unfold lnA; omega
theorem kadd {d k c k' : Nat} (h : d % 131072 = k) (e : (k + c) % 131072 = k') : (d + c) % 131072 = k' := by omega
theorem knz {d c : Nat} (e : 0 < c) : d + c ≠ 0 := by omega
theorem k5 {d k : Nat} (h : d % 131072 = k) (j : Nat) : (d + 655360 * j) % 131072 = k := by omega
theorem k2m {d k : Nat} (h : d % 131072 = k) (j : Nat) : (d + 262144 * j) % 131072 = k := by omega
theorem nbz {v : Int32} (h : v = 0 ∨ v = 1) : narrow .boolean (.int v) = .int v ∧ fits .boolean (.int v) = true := by
  rcases h with rfl | rfl <;> exact ⟨by decide +kernel, by decide +kernel⟩
theorem rbz {v : Int32} (h : v = 0 ∨ v = 1) : ∃ ty, (some FieldType.boolean) = some ty ∧ narrow ty (.int v) = .int v := ⟨_, rfl, (nbz h).1⟩
theorem rii {v : Int32} : ∃ ty, (some FieldType.int) = some ty ∧ narrow ty (.int v) = .int v := ⟨_, rfl, rfl⟩
/-- no field of a class that is made later holds always the same -/
def dynZ (sR : Nat → Nat → Nat) : Prop := ∀ a k, (a % 32 = 2 ∨ a % 32 = 6 ∨ a % 32 = 11 ∨ a % 32 = 12 ∨ a % 32 = 13 ∨ a % 32 = 15 ∨ a % 32 = 16) → sR a k = 0
def sR0 : Nat → Nat → Nat := fun _ _ => 0
theorem dz0 : dynZ sR0 := fun _ _ _ => rfl
