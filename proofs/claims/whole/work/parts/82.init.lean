section STARTI
variable {D : DN} {E : EN} {p : Program} {l : Launch} {e : Env} {s : State} {m : MethodId} {args : Array Value} {below : List Frame} {meth : Method} {c : Code} {Q : State → Prop} {la : Array Slot}
theorem lw_callI {X Y : Mem} {Z : Mem} {Γc : GM} {fc : Option Mem} {a idx pc : Nat} {st : List Value} {H : Heap} {locs : List Loc} {cells slots : Nat}
    (hC : Ct sR0 Γc fWv [.ref a] fc X) (hy : fc = some Z) (hp : pOK sR0 X [.ref a]) (hI : IvC Γc 0) (hv : Γc.2.2.2.1 = none) (hS : IvI RLw idx Γc.1) (hR : 1 ≤ a % 32 ∧ a % 32 ≤ 10 ∧ (clT (a % 32)).1 = Γc.1.cls) (hdp : Γc.2.2.2.2 ≤ 1000) (hst : (st.map fun v => v.category).sum ≤ 8) (hd : decode cL_law pc = .ok (.invokespecial idx, 3)) (hla : la.size = 4)
    (hF : LF D E p s m args c) (hV : L2 D E X Y s H locs cells slots) (hr1 : mZ Z ≤ 600000) (hr2 : mW Z + mW Y ≤ 7302249)
    (kk : ∀ (H1 : Heap) (locs1 : List Loc), pOK sR0 Z [] → ext X Z → L2 D E Z Y s H1 locs1 (mZ Z) (mW Z + mW Y) → W p l e room_1 s m args below meth c H1 locs1 (mZ Z) (mW Z + mW Y) Q (F0 m (pc + 3) la st)) :
    W p l e room_1 s m args below meth c H locs cells slots Q (F0 m pc la (.ref (adr E a) :: st)) := by
  have hCg := hC.2 Z hy ⟨hp.1, hp.2.1, fun v hv => by
    rcases List.mem_append.mp (List.append_nil _ ▸ hv) with h | h
    · rcases lcA_in [.ref a] v h with h | h
      · exact hp.2.2 v h
      · subst h; trivial
    · rw [(List.mem_replicate.mp h).2]; trivial⟩
  obtain ⟨hex, hpo⟩ := hCg.1
  have hM := met_of hC hy hp hI.2.2.2.1 l D E
  obtain ⟨v1, v2, v3, v4, v5, v6, v7, v8, v9, v10⟩ := id hV
  obtain ⟨g1, g2, g3, g4, g5, g6, g7⟩ := id hF
  have r1 : cV E (.ref a) = .ref (adr E a) := cV_ref hR.1 (by omega)
  have rc : ∃ cell : Cell, H[adr E a]? = some cell ∧ cell.vm.isStatics = false ∧ s.vm.findClass Γc.1.cls = some cell.cls := by
    obtain ⟨q, -, hq⟩ := wsL_at (D := D) (E := E) (lvM.own (hp.2.2 (.ref a) List.mem_cons_self) hR.1 (by omega))
    rw [cellE_obj rfl hR.2.1] at hq
    rw [← hR.2.2]
    exact va_recv g6.1 v2 (clT_get hR.1 hR.2.1) hq
  have hz3 : mZ X ≤ mZ Z := hex.1
  have hz4 : mW X ≤ mW Z := hex.2.1
  have e2 : ([Value.ref a]).map (cV E) = [.ref (adr E a)] := by rw [List.map_cons, r1]; rfl
  have hU : ∀ U : State, U.heap = H → s.WarmedH U.vm → cP D E [.ref a] X (#[Value.ref (adr E a)]) U := fun U hU hW => ⟨by rw [e2], by rw [hU]; exact v1, envOK_to hW (fun q q1 q2 => by rw [hU]; exact v6.2.1 q q1 q2) g6, by rw [hU]; exact v2, v4.weaken (fun _ _ _ _ => trivial)⟩
  have hcode := hI.2.1
  rw [hv] at hM hcode
  have hr := va_runI (l := l) (e := e) (R := room_1) (below := below) (meth := meth) (H := H) (locs := locs) (cells := cells) (slots := slots) (g := F0 m pc la (.ref (adr E a) :: st)) (rest := st) (As := []) (n := 0) (own := RLw) (index := idx) ⟨g1, g2, g3, g4, g5⟩ hM (cwI 0 g5 (gT_in hcode) rfl rfl rfl (g5 _ hI.1) (g5 _ hS.1) (g5 _ hS.2.1) hS.2.2 hI.2.2.1 ⟨by show Γc.2.2.2.2 + 1 ≤ 2048; omega, by show 8 + (_ + 11) + 40 * Γc.2.2.2.2 ≤ 84000; have := hI.2.2.2.2; omega⟩) ⟨fun a U g mk q => ⟨q.1, q.2.1, envOK_call g mk a q.2.2.1, q.2.2.2⟩, hU⟩ rfl rfl hla rfl (by show 2 * 0 + _ ≤ 8; omega) hd ⟨by show cells + (mZ Z - mZ X) ≤ 600000; omega, by show slots + (mW Z - mW X) ≤ 7302249; omega⟩
  have hAA : ∀ q, AM D E X q → bA E q := fun q hq => AM_bA hp.1 hq
  refine call_w2 hr v6 hAA hAA fun H1 locs1 n1 n2 n3 n4 n5 => ?_
  have e3 : cells + (mZ Z - mZ X) = mZ Z := by omega
  have e4 : slots + (mW Z - mW X) = mW Z + mW Y := by omega
  have K := kk H1 locs1 hpo hex ⟨n1, n2, ?_, n3.weaken (fun _ _ _ h => hAA _ h), v5, n4, rfl, rfl, v9, fun b hb q => ?_⟩
  · show W p l e room_1 s m args below meth c H1 locs1 (cells + (mZ Z - mZ X)) (slots + (mW Z - mW X)) Q _
    rw [e3, e4]
    exact K
  · refine v3.kept fun k q hk => ?_
    have hk' := hk
    unfold wsL at hk'
    rw [List.getElem?_map] at hk'
    cases hm : (mV Y)[k]? with
    | none => rw [hm] at hk'; cases hk'
    | some b =>
      rw [hm] at hk'
      have e1 : adr E b = q.1 := congrArg Prod.fst (Option.some.inj hk')
      have hb := List.mem_of_getElem? hm
      have nb := v10 b hb
      rw [← e1]
      refine n5 _ ?_ nb
      have : ¬ E.1 + mZ X ≤ adr E b := fun z => nb (Or.inr z)
      omega
  · rcases q with ⟨k, e, hk⟩ | q
    · exact v10 b hb (n3.2 k _ hk)
    · exact v10 b hb (Or.inr (Nat.le_trans (Nat.add_le_add_left hz3 _) q))
end STARTI
theorem sRC_k {a k : Nat} (h : 64 ≤ k) : sRC a k = 0 := by
  unfold sRC
  simp only [show (k = 0) = False from eq_false (by omega), show (k = 1) = False from eq_false (by omega), show (k = 2) = False from eq_false (by omega), show (k = 3) = False from eq_false (by omega), show (k = 4) = False from eq_false (by omega), show (k = 5) = False from eq_false (by omega), show (k = 6) = False from eq_false (by omega), show (k = 7) = False from eq_false (by omega), show (k = 8) = False from eq_false (by omega), show (k = 9) = False from eq_false (by omega), show (k = 10) = False from eq_false (by omega), show (k < 4) = False from eq_false (by omega), show (k < 6) = False from eq_false (by omega), if_false, ite_self]
theorem sRM_k {a k : Nat} (h : 64 ≤ k) : sRM a k = 0 := by
  by_cases q : a = 12451850
  · unfold sRM
    simp only [if_pos q]
    repeat rw [if_neg (by omega)]
  · unfold sRM
    rw [if_neg q]
theorem stC_0 : stI sRC C0 := fun a ha k hk => by
  have key : (mV C0).all (fun a => (List.range 64).all fun k => sRC a k == 0 || mR C0 a k == sRC a k) = true := by decide +kernel
  have hk64 : k < 64 := by
    rcases Nat.lt_or_ge k 64 with z | z
    · exact z
    · exact absurd (sRC_k z) hk
  have := List.all_eq_true.mp (List.all_eq_true.mp key a ha) k (List.mem_range.mpr hk64)
  simp only [Bool.or_eq_true, beq_iff_eq] at this
  exact this.resolve_left hk
theorem stM_0 : stI sRM M0 := fun a ha k hk => by
  have key : (mV M0).all (fun a => (List.range 64).all fun k => sRM a k == 0 || mR M0 a k == sRM a k) = true := by decide +kernel
  have hk64 : k < 64 := by
    rcases Nat.lt_or_ge k 64 with z | z
    · exact z
    · exact absurd (sRM_k z) hk
  have := List.all_eq_true.mp (List.all_eq_true.mp key a ha) k (List.mem_range.mpr hk64)
  simp only [Bool.or_eq_true, beq_iff_eq] at this
  exact this.resolve_left hk
theorem v9_0 : 9 ∈ mV C0 := by decide +kernel
theorem vM_0 : 12451850 ∈ mV M0 := by decide +kernel
theorem stI_bmp {sR : Nat → Nat → Nat} {M : Mem} {n : Nat} (h : stI sR M) : stI sR (bump M n) := h
theorem mV_bmp {M : Mem} {a n : Nat} (h : a ∈ mV M) : a ∈ mV (bump M n) := h
theorem mW_bmp (M : Mem) (n : Nat) : mW (bump M n) = mW M := rfl
theorem li_0 (hc : cl C0) (hm : cl M0) : LI 0 (bump C0 136) M0 :=
  ⟨⟨_, rel_0⟩, cl_bump hc (by rw [C0_z]; decide), stI_bmp stC_0, mV_bmp v9_0, hm, stM_0, vM_0, hv_0, hz_0, hLt_0, by rw [mZ_bmp]; decide, by
    have a1 := C0_w
    have a2 := M0_w
    rw [mW_bmp]
    omega⟩
theorem iw_9 : IvI RLw 9 yX8_init := ⟨gT_of (by decide +kernel) rfl, gT_of (by decide +kernel) rfl, rfl⟩
theorem iw_12 : IvI RLw 12 yX9_init := ⟨gT_of (by decide +kernel) rfl, gT_of (by decide +kernel) rfl, rfl⟩
theorem nw_7 : Cond.classLink RLw 7 (clT 9).1 ∈ gT ∧ Cond.instantiable (clT 9).1 (nF 9) ∈ gT ∧ Cond.initialized (clT 9).1 ∈ gT := ⟨gT_of (by decide +kernel) rfl, gT_of (by decide +kernel) rfl, gT_of (by decide +kernel) rfl⟩
theorem nw_10 : Cond.classLink RLw 10 (clT 10).1 ∈ gT ∧ Cond.instantiable (clT 10).1 (nF 10) ∈ gT ∧ Cond.initialized (clT 10).1 ∈ gT := ⟨gT_of (by decide +kernel) rfl, gT_of (by decide +kernel) rfl, gT_of (by decide +kernel) rfl⟩
