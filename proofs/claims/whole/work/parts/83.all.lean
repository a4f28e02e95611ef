section WHOLE
variable {D : DN} {E : EN} {p : Program} {l : Launch} {e : Env} {s : State} {m : MethodId} {args : Array Value} {below : List Frame} {meth : Method} {c : Code} {Q : State → Prop} {b L : Nat} {xs : Nat → Int32}
theorem cl_zM (z : Nat) : cl (zM z) := fun _ h => by cases h
theorem L2_0 (hF : LF D E p s m args c) : L2 D E (zM 0) (zM 0) s s.heap [] 0 0 := by
  have no : ∀ (k : Nat) (q : Nat × va_E), ¬ (wsL D E (zM 0))[k]? = some q := fun k q hk => by
    have hk' : ([] : va_W)[k]? = some q := hk
    simp at hk'
  refine ⟨hF.2.2.2.2.2.2, fun k q hk => absurd hk (no k q), fun k q hk => absurd hk (no k q), ⟨fun i j p q hp => absurd hp (no i p), fun k q hk => absurd hk (no k q)⟩, ⟨fun i j p q hp => absurd hp (no i p), fun k q hk => absurd hk (no k q)⟩, va_S.rf, rfl, rfl, cl_zM 0, fun a ha => ?_⟩
  have ha' : a ∈ ([] : List Nat) := ha
  cases ha'
theorem zM_bmp (a b : Nat) : bump (zM a) b = zM b := rfl
theorem C00_p : pOK sR0 C00 [.ref 9] := ⟨cl_newM (cl_zM 0) 11 (by decide) (by decide) (by decide), fun a ha k hk => absurd rfl hk, fun v hv => by
  rw [List.mem_singleton.mp hv]
  exact Or.inr (Or.inr (List.mem_append_right _ (List.mem_singleton.mpr rfl)))⟩
theorem M00_p : pOK sR0 M00 [.ref 12451850] := ⟨cl_newM (cl_zM 95) 63 (by decide) (by decide) (by decide), fun a ha k hk => absurd rfl hk, fun v hv => by
  rw [List.mem_singleton.mp hv]
  exact Or.inr (Or.inr (List.mem_append_right _ (List.mem_singleton.mpr rfl)))⟩
theorem oM_i : Ct sR0 g_M_init fWv [.ref 12451850] (f_M_init 12451850 M00) M00 := o_M_init 12451850 (by decide +kernel) M00
theorem nid_9 : nid (zM 0) 9 = 9 := by decide
theorem nid_M : nid (zM 95) 10 = 12451850 := by decide
theorem lw_all {la : Array Slot} (hB : LB D E p s m args c b L xs) (hla : lv_has la 4 [(0, .ref b)])
    (kend : ∀ (C M : Mem) (H1 : Heap) (locs1 : List Loc) (la : Array Slot), L2 D E C M s H1 locs1 (mZ C) (mW C + mW M) → mZ C ≤ 600000 → mW C + mW M ≤ 7302249 → W p l e room_1 s m args below meth c H1 locs1 (mZ C) (mW C + mW M) Q (F0 m 1308 la [])) :
    W p l e room_1 s m args below meth c s.heap [] 0 0 Q (F0 m 0 la []) := by
  have hF := hB.1
  obtain ⟨g1, g2, -⟩ := id hB.1
  have z00 : mZ (zM 0) = 0 := rfl
  have w00 : mW (zM 0) = 0 := rfl
  have wC := C0_w
  have wM := M0_w
  have zC := C0_z
  have zM' := M0_z
  refine w_new (t := 9) (by decide) (by decide) nw_7.1 nw_7.2.1 nw_7.2.2 dL_law_0 hF (cl_zM 0) (L2_0 hF) (by rw [z00]; decide) (by rw [w00]; decide) fun H1 hV1 => ?_
  rw [nid_9]
  refine lv_dup g1 g2 dL_law_3 rfl ?_
  refine lw_callI (X := C00) (Z := C0) (a := 9) (st := [.ref (adr E 9)]) (o_D_init 9 (by decide) C00) C0_is C00_p ic_D_init rfl iw_9 ⟨by decide, by decide, rfl⟩ (by decide) (by show (1 : Nat) ≤ 8; decide) dL_law_4 hla.1 hF hV1 (by omega) (by rw [w00]; omega) fun H2 locs2 pC eC hV2 => ?_
  refine lv_astore_n (lv' := [(1, .ref (adr E 9)), (0, .ref b)]) g1 g2 dL_law_7 rfl hla (by decide) rfl fun la1 hla1 => ?_
  have hV2' := hV2.swap pC.1
  rw [zC, zM_bmp] at hV2'
  have e2 : mW C0 + mW (zM 0) = 0 + mW C0 := by rw [w00, Nat.add_comm]
  have z89 : mZ (zM 95) = 95 := rfl
  have w89 : mW (zM 95) = 0 := rfl
  have n63 : nF 10 = 63 := rfl
  rw [zC]
  refine w_new (t := 10) (X := zM 95) (Y := C0) (by decide) (by decide) nw_10.1 nw_10.2.1 nw_10.2.2 dL_law_8 hF (cl_zM 95) hV2' (by rw [z89]; decide) (by rw [w89, n63]; omega) fun H3 hV3 => ?_
  rw [nid_M]
  refine lv_dup g1 g2 dL_law_11 rfl ?_
  refine lw_callI (X := M00) (Z := M0) (a := 12451850) (st := [.ref (adr E 12451850)]) oM_i M0_is M00_p ic_M_init rfl iw_12 ⟨by decide, by decide, rfl⟩ (by decide) (by show (1 : Nat) ≤ 8; decide) dL_law_12 hla1.1 hF hV3 (by omega) (by omega) fun H4 locs4 pM eM hV4 => ?_
  refine lv_astore_n (lv' := [(2, .ref (adr E 12451850)), (1, .ref (adr E 9)), (0, .ref b)]) g1 g2 dL_law_15 rfl hla1 (by decide) rfl fun la2 hla2 => ?_
  refine lv_iconst g1 g2 dL_law_16 (v := 0) (by decide) ?_
  refine lv_istore_n (lv' := [(3, .int 0), (2, .ref (adr E 12451850)), (1, .ref (adr E 9)), (0, .ref b)]) g1 g2 dL_law_17 rfl hla2 (by decide) rfl fun la3 hla3 => ?_
  have hV5 := hV4.swap pM.1
  rw [zM'] at hV5
  have h3 : lv_has la3 4 (lcs E b (6 * 0)) := ⟨hla3.1, hla3.2.1, fun q hq => hla3.2.2 q (by
    simp only [lcs, List.mem_cons, List.not_mem_nil, or_false] at hq ⊢
    rcases hq with h | h | h | h
    · exact Or.inl h
    · exact Or.inr (Or.inr (Or.inr h))
    · exact Or.inr (Or.inr (Or.inl h))
    · exact Or.inr (Or.inl h))⟩
  have K := lw_loop (l := l) (e := e) (below := below) (meth := meth) (Q := Q) hB kend 512 0 (bump C0 136) M0 la3 H4 locs4 rfl (li_0 pC.1 pM.1) h3 (by
    have x := hV5
    rw [Nat.add_comm (mW M0)] at x
    rw [mZ_bmp, mW_bmp]
    exact x)
  rw [mZ_bmp, mW_bmp, Nat.add_comm (mW C0)] at K
  rw [zM']
  exact K
end WHOLE
