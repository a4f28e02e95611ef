/-! a case of the law's switch -/
/-- the law's fixed things: the script too -/
def LB (D : DN) (E : EN) (p : Program) (s : State) (m : MethodId) (args : Array Value) (c : Code) (b L : Nat) (xs : Nat → Int32) : Prop := LF D E p s m args c ∧ va_X b L xs s s.heap ∧ b < E.1 ∧ L ≤ 3072
section LAW
variable {D : DN} {E : EN} {p : Program} {l : Launch} {e : Env} {s : State} {m : MethodId} {args : Array Value} {below : List Frame} {meth : Method} {c : Code} {Q : State → Prop} {b L : Nat} {xs : Nat → Int32} {la : Array Slot}
theorem w_arg {H : Heap} {locs : List Loc} {cells slots : Nat} {pc n j : Nat} {jj : Int} {st : List Value} (hB : LB D E p s m args c b L xs) (hl0 : la[0]? = some (Slot.val (Value.ref b))) (hl3 : la[3]? = some (Slot.val (Value.int (Int32.ofNat n)))) (hj : n + j < L) (hjj : Int32.ofInt jj = Int32.ofNat j)
    (d0 : decode cL_law pc = .ok (.aload_n 0, 1)) (d1 : decode cL_law (pc + 1) = .ok (.iload_n 3, 1)) (d2 : decode cL_law (pc + 2) = .ok (.iconst jj, 1)) (d3 : decode cL_law (pc + 3) = .ok (.iadd, 1)) (d4 : decode cL_law (pc + 4) = .ok (.iaload, 1))
    (hS : va_S (bA E) s.heap H locs)
    (kk : W p l e room_1 s m args below meth c H locs cells slots Q (F0 m (pc + 5) la (.int (xs (n + j)) :: st))) : W p l e room_1 s m args below meth c H locs cells slots Q (F0 m pc la st) := by
  obtain ⟨⟨g1, g2, g3, g4, g5, g6, g7⟩, hX, hb, hL⟩ := hB
  refine lv_aload_n g1 g2 d0 rfl hl0 (lv_iload_n g1 g2 d1 rfl hl3 (lv_iconst g1 g2 d2 hjj (lv_iadd g1 g2 d3 ?_)))
  have ix : (Int32.ofNat n + Int32.ofNat j).toNatClampNeg = n + j := by
    rw [← Int32.ofNat_add]; exact oN_ix (by omega)
  have hin : vp_in (Int32.ofNat n + Int32.ofNat j) L := by
    rintro (q | q)
    · rw [← Int32.ofNat_add] at q
      have := (oN_lt (m := n + j) (i := 0) (by omega) (by omega)).mp q
      omega
    · rw [ix] at q; omega
  refine va_sld g1 g2 hX (by rw [g7]; exact hb) (fun q => by unfold bA at q; omega) hS hin d4 ?_
  rw [ix]; exact kk
theorem lw_callZ {sR : Nat → Nat → Nat} {Γc : GM} {X Y : Mem} {a n idx pc : Nat} {as st : List Value} {H : Heap} {locs : List Loc} {cells slots : Nat} {z : Option Value × Mem}
    (hC : Cal sR Γc (.ref a :: as) X z) (hp : pOK sR X (.ref a :: as)) (hI : IvC Γc n) (hS : IvV RLw idx Γc.1) (hR : 1 ≤ a % 32 ∧ a % 32 ≤ 10 ∧ (clT (a % 32)).1 = Γc.1.cls) (hn : as.length = n) (hdp : Γc.2.2.2.2 ≤ 1000) (hst : (st.map fun v => v.category).sum ≤ 8) (hd : decode cL_law pc = .ok (.invokevirtual idx, 3)) (hla : la.size = 4)
    (hF : LF D E p s m args c) (hV : L2 D E X Y s H locs cells slots) (hr1 : mZ z.2 ≤ 600000) (hr2 : mW z.2 + mW Y ≤ 7302249)
    (kk : ∀ (H1 : Heap) (locs1 : List Loc), L2 D E z.2 Y s H1 locs1 (mZ z.2) (mW z.2 + mW Y) → W p l e room_1 s m args below meth c H1 locs1 (mZ z.2) (mW z.2 + mW Y) Q (F0 m (pc + 3) la ((z.1.map (cV E)).toList ++ st))) :
    W p l e room_1 s m args below meth c H locs cells slots Q (F0 m pc la ((as.map (cV E)).reverse ++ .ref (adr E a) :: st)) := by
  obtain ⟨γ, finc, fc, y, hC, hy, rfl⟩ := hC
  exact lw_call hC hy hp hI hS hR hn hdp hst hd hla hF hV hr1 hr2 fun H1 locs1 _ h => kk H1 locs1 h
/-- both calls, one after the other -/
theorem w_two {i : Nat} {C M : Mem} {Γc Γm : GM} {as : List Value} {B : Value → Prop} {H : Heap} {locs : List Loc} {cells slots pc pv pw ic im n n' : Nat} (hst : StpC i C M Γc Γm as B) (hL : LI i C M) (hi' : i < 512) (hn : nums as) (hBc : ∀ v, B v → v.category ≤ 2) (hF : LF D E p s m args c) (hla : la.size = 4) (hl1 : la[1]? = some (Slot.val (Value.ref (adr E 9)))) (hl2 : la[2]? = some (Slot.val (Value.ref (adr E 12451850))))
    (hV : L2 D E C M s H locs cells slots) (d1 : decode cL_law pc = .ok (.aload_n 1, 1))
    (p1 : ∀ {H : Heap} {locs : List Loc} {cells slots : Nat} (st : List Value), va_S (bA E) s.heap H locs → W p l e room_1 s m args below meth c H locs cells slots Q (F0 m pv la ((as.map (cV E)).reverse ++ st)) → W p l e room_1 s m args below meth c H locs cells slots Q (F0 m (pc + 1) la st))
    (hIc : IvC Γc n) (hSc : IvV RLw ic Γc.1) (hcc : Γc.1.cls = RX8) (hnc : as.length = n) (hdc : Γc.2.2.2.2 ≤ 1000) (d2 : decode cL_law pv = .ok (.invokevirtual ic, 3)) (d3 : decode cL_law (pv + 3) = .ok (.aload_n 2, 1))
    (p2 : ∀ {H : Heap} {locs : List Loc} {cells slots : Nat} (st : List Value), va_S (bA E) s.heap H locs → W p l e room_1 s m args below meth c H locs cells slots Q (F0 m pw la ((as.map (cV E)).reverse ++ st)) → W p l e room_1 s m args below meth c H locs cells slots Q (F0 m (pv + 4) la st))
    (hIm : IvC Γm n') (hSm : IvV RLw im Γm.1) (hcm : Γm.1.cls = RX9) (hnm : as.length = n') (hdm : Γm.2.2.2.2 ≤ 1000) (d4 : decode cL_law pw = .ok (.invokevirtual im, 3))
    (kk : ∀ (v : Value) (C' M' : Mem) (H1 : Heap) (locs1 : List Loc), B v → LI (i + 1) C' M' → L2 D E C' M' s H1 locs1 (mZ C') (mW C' + mW M') → W p l e room_1 s m args below meth c H1 locs1 (mZ C') (mW C' + mW M') Q (F0 m (pw + 3) la [cV E v, cV E v])) :
    W p l e room_1 s m args below meth c H locs cells slots Q (F0 m pc la []) := by
  obtain ⟨v, C', M', hb, cc, cm, hL'⟩ := hst
  obtain ⟨h1, h2, h3, h4, h5, h6, h7, h8, h9, h10, h11, h12⟩ := id hL
  obtain ⟨⟨hs', hR'⟩, k2, k3, k4, k5, k6, k7, k8, k9, k10, k11, k12⟩ := id hL'
  obtain ⟨⟨hs, hR⟩, -⟩ := id hL
  have hzM : mZ M = mZ C := hR.2.2.2.2.2.symm
  have hzM' : mZ M' = mZ C' := hR'.2.2.2.2.2.symm
  have pC : pOK sRC C (.ref 9 :: as) := ⟨h2, h3, fun w hw => by
    rcases List.mem_cons.mp hw with q | q
    · subst q; exact Or.inr (Or.inr h4)
    · exact hn w q C⟩
  obtain ⟨e1, q1⟩ := cc.ok pC
  have pM : pOK sRM (bump M (mZ C')) (.ref 12451850 :: as) := ⟨cl_bump h5 (by rw [hzM]; exact e1.1), h6, fun w hw => by
    rcases List.mem_cons.mp hw with q | q
    · subst q; exact Or.inr (Or.inr h7)
    · exact hn w q _⟩
  obtain ⟨e2, q2⟩ := cm.ok pM
  have wM : mW M ≤ mW M' := e2.2.1
  have vc := hBc v hb
  refine lv_aload_n hF.1 hF.2.1 d1 rfl hl1 (p1 _ hV.2.2.2.2.2.1 ?_)
  refine lw_callZ (st := []) cc pC hIc hSc ⟨by decide, by decide, hcc.symm⟩ hnc hdc (by simp) d2 hla hF hV (by show mZ C' ≤ _; omega) (by show mW C' + mW M ≤ _; omega) fun H1 locs1 hV1 => ?_
  have hV2 := hV1.swap k2
  have e3 : mW C' + mW M = mW M + mW C' := Nat.add_comm _ _
  refine lv_aload_n hF.1 hF.2.1 d3 rfl hl2 (p2 _ hV1.2.2.2.2.2.1 ?_)
  refine lw_callZ (st := (Option.map (cV E) (some v)).toList ++ []) cm pM hIm hSm ⟨by decide, by decide, hcm.symm⟩ hnm hdm (by
    simp only [Option.map_some, Option.toList_some, List.append_nil, List.map_cons, List.map_nil, List.sum_cons, List.sum_nil, cV_cat]
    omega) d4 hla hF hV2 (by show mZ M' ≤ _; omega) (by show mW M' + mW C' ≤ _; omega) fun H2 locs2 hV3 => ?_
  have hV4 := hV3.swap k5
  have ee : mZ M' = mZ C' := hzM'
  have e5 : bump C' (mZ M') = C' := by rw [ee]; rfl
  have hV5 : L2 D E C' M' s H2 locs2 (mZ C') (mW C' + mW M') := by
    have hV4' : L2 D E (bump C' (mZ M')) M' s H2 locs2 (mZ M') (mW M' + mW C') := hV4
    rw [e5, ee, Nat.add_comm (mW M')] at hV4'
    exact hV4'
  have r := kk v C' M' H2 locs2 hb hL' hV5
  show W p l e room_1 s m args below meth c H2 locs2 (mZ M') (mW M' + mW C') Q _
  rw [ee, Nat.add_comm (mW M')]
  exact r
end LAW
