/-! THE LAW'S OWN WALK: two memories in one heap, X being the one that is called next -/
abbrev RLw : String := "DoorSticksLaw"
def apt (D : DN) (E : EN) (X Y : Mem) : Prop := ∀ a, a ∈ mV Y → ¬ AM D E X (adr E a)
def L2 (D : DN) (E : EN) (X Y : Mem) (s : State) (H : Heap) (locs : List Loc) (cells slots : Nat) : Prop :=
  H.size = E.1 + mZ X ∧ va_P D.1 vwCl (wsL D E X) H ∧ va_P D.1 vwCl (wsL D E Y) H ∧ va_D (bA E) (wsL D E X) ∧ va_D (bA E) (wsL D E Y) ∧ va_S (bA E) s.heap H locs ∧ cells = mZ X ∧ slots = mW X + mW Y ∧ cl Y ∧ apt D E X Y
/-- what stays through the law: the machine, the words, what was there before -/
def LF (D : DN) (E : EN) (p : Program) (s : State) (m : MethodId) (args : Array Value) (c : Code) : Prop :=
  p.tables.exec = Jvm.exec ∧ c.code = cL_law ∧ c.maxLocals = 4 ∧ s.vm.findClass RLw = some m.cls ∧ (∀ w ∈ gT, w.before args s = true) ∧ envOK D E s ∧ s.heap.size = E.1
theorem wsL_mem {D : DN} {E : EN} {X : Mem} {a : Nat} (h : a ∈ mV X) (sz : Nat) : va_A (wsL D E X) sz (adr E a) := by
  obtain ⟨i, hi⟩ := List.getElem?_of_mem h
  refine Or.inl ⟨i, cellE D E X a, ?_⟩
  unfold wsL
  rw [List.getElem?_map, hi]; rfl
theorem L2.swap {D : DN} {E : EN} {X Y : Mem} {s : State} {H : Heap} {locs : List Loc} {cells slots : Nat} (h : L2 D E X Y s H locs cells slots) (hX : cl X) : L2 D E (bump Y (mZ X)) X s H locs cells slots := by
  obtain ⟨h1, h2, h3, h4, h5, h6, h7, h8, h9, h10⟩ := h
  refine ⟨h1, h3, h2, h5, h4, h6, h7, by rw [h8, Nat.add_comm]; rfl, hX, fun a ha q => ?_⟩
  rcases q with ⟨k, e, hk⟩ | q
  · have hk' : (wsL D E Y)[k]? = some (adr E a, e) := hk
    unfold wsL at hk'
    rw [List.getElem?_map] at hk'
    cases hm : (mV Y)[k]? with
    | none => rw [hm] at hk'; cases hk'
    | some a' =>
      rw [hm] at hk'
      have e1 : adr E a' = adr E a := congrArg Prod.fst (Option.some.inj hk')
      refine h10 a' (List.mem_of_getElem? hm) ?_
      rw [e1]
      exact wsL_mem ha _
  · have := hX a ha
    rw [adr_own this.2.1] at q
    have hq : E.1 + mZ X ≤ E.1 + a / 131072 := q
    omega
section CALLL
variable {p : Program} {l : Launch} {e : Env} {R : Room} {s : State} {m : MethodId} {args : Array Value} {below : List Frame} {meth : Method} {c : Code} {H : Heap} {locs : List Loc} {cells slots : Nat} {Q : State → Prop}
theorem call_w2 {pc mc ms : Nat} {ls : Array Slot} {rest st0 : List Value} {a : Array Value} {A0 A1 free : Nat → Prop} {H0 : Heap} {D : DN} {E : EN} {z : Option Value × Mem} (hr : va_Run p l e R s m args below meth c H locs cells slots mc ms (F0 m pc ls st0) rest (cQ D E A1 z a) free) (hS : va_S A0 H0 H locs) (hA : ∀ q, A1 q → A0 q) (hf : ∀ q, free q → A0 q)
    (kk : ∀ (H1 : Heap) (locs1 : List Loc), H1.size = E.1 + mZ z.2 → va_P D.1 vwCl (wsL D E z.2) H1 → va_D A1 (wsL D E z.2) → va_S A0 H0 H1 locs1 → (∀ q : Nat, q < H.size → ¬ A1 q → H1[q]? = H[q]?) → W p l e R s m args below meth c H1 locs1 (cells + mc) (slots + ms) Q (F0 m (pc + 3) ls ((z.1.map (cV E)).toList ++ rest))) : W p l e R s m args below meth c H locs cells slots Q (F0 m pc ls st0) := by
  intro T hT X
  obtain ⟨v, st₀, t, T', L, h0, X', hL, e1, e2, ⟨hv, hz, hP, hD, hF⟩, st⟩ := hr T hT X
  cases hv
  obtain ⟨hz1, hk⟩ := hF
  rw [h0] at hz1 hk
  obtain ⟨t2, a1, b1⟩ := kk T'.heap (locs ++ L) (by rw [e1]; exact hz) (by rw [e1]; exact hP) hD
    ⟨Nat.le_trans hS.1 (by rw [e1]; exact hz1), fun q h1 h2 => by rw [e1, hk q (Nat.lt_of_lt_of_le h1 hS.1) (fun z => h2 (hA q z))]; exact hS.2.1 q h1 h2, fun q hq => by
      rcases List.mem_append.mp hq with h | h
      · exact hS.2.2 q h
      · exact hf _ (hL q h)⟩ (fun q q1 q2 => by rw [e1]; exact hk q q1 q2) T' rfl X'
  exact ⟨t2, st t2 a1, b1⟩
end CALLL
theorem lw_call {D : DN} {E : EN} {γ : Type} {sR : Nat → Nat → Nat} {Γc : GM} {finc : γ → Option Value × Mem} {fc : Option γ} {y : γ} {X Y : Mem} {a n idx pc : Nat} {as st : List Value} {p : Program} {l : Launch} {e : Env} {s : State} {m : MethodId} {args : Array Value} {below : List Frame} {meth : Method} {c : Code} {H : Heap} {locs : List Loc} {cells slots : Nat} {Q : State → Prop} {la : Array Slot}
    (hC : Ct sR Γc finc (.ref a :: as) fc X) (hy : fc = some y) (hp : pOK sR X (.ref a :: as)) (hI : IvC Γc n) (hS : IvV RLw idx Γc.1) (hR : 1 ≤ a % 32 ∧ a % 32 ≤ 10 ∧ (clT (a % 32)).1 = Γc.1.cls) (hn : as.length = n) (hdp : Γc.2.2.2.2 ≤ 1000) (hst : (st.map fun v => v.category).sum ≤ 8) (hd : decode cL_law pc = .ok (.invokevirtual idx, 3)) (hla : la.size = 4)
    (hF : LF D E p s m args c) (hV : L2 D E X Y s H locs cells slots) (hr1 : mZ (finc y).2 ≤ 600000) (hr2 : mW (finc y).2 + mW Y ≤ 7302249)
    (kk : ∀ (H1 : Heap) (locs1 : List Loc), pOK sR (finc y).2 (finc y).1.toList → L2 D E (finc y).2 Y s H1 locs1 (mZ (finc y).2) (mW (finc y).2 + mW Y) → W p l e room_1 s m args below meth c H1 locs1 (mZ (finc y).2) (mW (finc y).2 + mW Y) Q (F0 m (pc + 3) la (((finc y).1.map (cV E)).toList ++ st))) :
    W p l e room_1 s m args below meth c H locs cells slots Q (F0 m pc la ((as.map (cV E)).reverse ++ .ref (adr E a) :: st)) := by
  have hCg := hC.2 y hy ⟨hp.1, hp.2.1, fun v hv => by
    rcases List.mem_append.mp (List.append_nil _ ▸ hv) with h | h
    · rcases lcA_in (.ref a :: as) v h with h | h
      · exact hp.2.2 v h
      · subst h; trivial
    · rw [(List.mem_replicate.mp h).2]; trivial⟩
  obtain ⟨hex, hpo⟩ := hCg.1
  have hM := met_of hC hy hp hI.2.2.2.1 l D E
  obtain ⟨v1, v2, v3, v4, v5, v6, v7, v8, v9, v10⟩ := id hV
  obtain ⟨g1, g2, g3, g4, g5, g6, g7⟩ := id hF
  have r1 : cV E (.ref a) = .ref (adr E a) := cV_ref hR.1 (by omega)
  have rc : ∃ cell : Cell, H[adr E a]? = some cell ∧ cell.vm.isStatics = false ∧ s.vm.findClass Γc.1.cls = some cell.cls := by
    obtain ⟨q, -, hq⟩ := wsL_at (D := D) (E := E) (lvM.own (hp.2.2 (.ref a) List.mem_cons_self) hR.1 (by omega))
    rw [cellE_obj rfl hR.2.1] at hq
    rw [← hR.2.2]
    exact va_recv g6.1 v2 (clT_get hR.1 hR.2.1) hq
  have hz3 : mZ X ≤ mZ (finc y).2 := hex.1
  have hz4 : mW X ≤ mW (finc y).2 := hex.2.1
  have e2 : (Value.ref a :: as).map (cV E) = .ref (adr E a) :: as.map (cV E) := by rw [List.map_cons, r1]
  have hU : ∀ U : State, U.heap = H → s.WarmedH U.vm → cP D E (.ref a :: as) X (Value.ref (adr E a) :: as.map (cV E)).toArray U := fun U hU hW => ⟨by rw [e2], by rw [hU]; exact v1, envOK_to hW (fun q q1 q2 => by rw [hU]; exact v6.2.1 q q1 q2) g6, by rw [hU]; exact v2, v4.weaken (fun _ _ _ _ => trivial)⟩
  have hr := va_runV (l := l) (e := e) (R := room_1) (below := below) (meth := meth) (H := H) (locs := locs) (cells := cells) (slots := slots) (g := F0 m pc la ((as.map (cV E)).reverse ++ .ref (adr E a) :: st)) (rest := st) (As := as.map (cV E)) (n := n) (own := RLw) (index := idx) (C := Γc.1.cls) ⟨g1, g2, g3, g4, g5⟩ hM (cwV n g5 (gT_app4 hS.1 hS.2.1 hS.2.2 hI.1 (gT_in hI.2.1)) rfl rfl rfl ⟨rfl, hI.2.2.1⟩ ⟨by show Γc.2.2.2.2 + 1 ≤ 2048; omega, by show 8 + (_ + 11) + 40 * Γc.2.2.2.2 ≤ 84000; have := hI.2.2.2.2; omega⟩) ⟨fun a U g mk q => ⟨q.1, q.2.1, envOK_call g mk a q.2.2.1, q.2.2.2⟩, rc, hU⟩ rfl (by simp [hn]) hla rfl (by show 2 * 0 + _ ≤ 8; omega) hd ⟨by show cells + _ ≤ 600000; omega, by show slots + _ ≤ 7302249; omega⟩
  have hAA : ∀ q, AM D E X q → bA E q := fun q hq => AM_bA hp.1 hq
  refine call_w2 hr v6 hAA hAA fun H1 locs1 n1 n2 n3 n4 n5 => ?_
  have e3 : cells + (mZ (finc y).2 - mZ X) = mZ (finc y).2 := by omega
  have e4 : slots + (mW (finc y).2 - mW X) = mW (finc y).2 + mW Y := by omega
  rw [e3, e4]
  refine kk H1 locs1 hpo ⟨n1, n2, ?_, n3.weaken (fun _ _ _ h => hAA _ h), v5, n4, rfl, rfl, v9, fun b hb q => ?_⟩
  · refine v3.kept fun k q hk => ?_
    have hk' := hk
    unfold wsL at hk'
    rw [List.getElem?_map] at hk'
    cases hm : (mV Y)[k]? with
    | none => rw [hm] at hk'; cases hk'
    | some b =>
      rw [hm] at hk'
      have e1 : adr E b = q.1 := congrArg Prod.fst (Option.some.inj hk')
      have hb := List.mem_of_getElem? hm
      have nb := v10 b hb
      rw [← e1]
      refine n5 _ ?_ nb
      have : ¬ E.1 + mZ X ≤ adr E b := fun z => nb (Or.inr z)
      omega
  · rcases q with ⟨k, e, hk⟩ | q
    · exact v10 b hb (n3.2 k _ hk)
    · exact v10 b hb (Or.inr (Nat.le_trans (Nat.add_le_add_left hz3 _) q))
