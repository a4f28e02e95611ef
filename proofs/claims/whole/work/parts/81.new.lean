/-! the law's start -/
section START
variable {D : DN} {E : EN} {p : Program} {l : Launch} {e : Env} {s : State} {m : MethodId} {args : Array Value} {below : List Frame} {meth : Method} {c : Code} {Q : State → Prop} {la : Array Slot}
theorem w_new {X Y : Mem} {H : Heap} {locs : List Loc} {cells slots pc t idx : Nat} {st : List Value} (h1 : 1 ≤ t) (h2 : t ≤ 10) (hcl : Cond.classLink RLw idx (clT t).1 ∈ gT) (hin : Cond.instantiable (clT t).1 (nF t) ∈ gT) (hini : Cond.initialized (clT t).1 ∈ gT) (hd : decode cL_law pc = .ok (.new idx, 3))
    (hF : LF D E p s m args c) (hX : cl X) (hV : L2 D E X Y s H locs cells slots) (hr1 : mZ X + 1 ≤ 600000) (hr2 : mW X + mW Y + nF t ≤ 7302249)
    (kk : ∀ H1 : Heap, L2 D E (newM X t (nF t)) Y s H1 locs (mZ X + 1) (mW X + nF t + mW Y) → W p l e room_1 s m args below meth c H1 locs (mZ X + 1) (mW X + nF t + mW Y) Q (F0 m (pc + 3) la (.ref (adr E (nid X t)) :: st))) :
    W p l e room_1 s m args below meth c H locs cells slots Q (F0 m pc la st) := by
  obtain ⟨v1, v2, v3, v4, v5, v6, v7, v8, v9, v10⟩ := id hV
  obtain ⟨g1, g2, g3, g4, g5, g6, g7⟩ := id hF
  have hKn := g6.1.1 _ _ (clT_get h1 h2)
  have hN := clT_n h1 h2
  have hm32 : nid X t % 32 = t := by rw [nid_mod X (by omega)]; omega
  have hadr : adr E (nid X t) = H.size := by rw [adr_own (by omega), nid_div X (by omega), v1]
  refine W.newcK g1 g2 g4 (g5 _ hcl) (g5 _ hin) (g5 _ hini) rfl hd (by show cells + 1 ≤ 600000; omega) (by show slots + nF t ≤ 7302249; omega) hKn.2.1 rfl fun H1 kC hkC e1 z1 o1 => ?_
  have hat : va_at D.1 vwCl (H.size, cellE D E (newM X t (nF t)) (nid X t)) H1 := by
    rw [cellE_obj hm32 h2]
    refine ⟨_, clT_get h1 h2, (u_born (tyT t) g5 (clT_in h1 h2) hKn hkC e1 (by rw [hN]; exact clT_ty h1 h2)).to fun j hj => ?_⟩
    rw [hN] at hj
    have e2 : vp_V ((List.range (nF t)).map (fvE E (newM X t (nF t)) (nid X t))) j = fvE E (newM X t (nF t)) (nid X t) j := by simp [vp_V, hj]
    rw [tyT_def h1 h2 hj]
    show _ = vp_V ((List.range (nF t)).map (fvE E (newM X t (nF t)) (nid X t))) j
    rw [e2]
    unfold fvE
    rw [hm32]
    show _ = if refF t j = true then va_rf (oA E (if nid X t = nid X t then 0 else mR X (nid X t) j)) else .int (if nid X t = nid X t then 0 else mI X (nid X t) j)
    rw [if_pos rfl, if_pos rfl]
    rfl
  have hset : wsL D E X ++ [(H.size, cellE D E (newM X t (nF t)) (nid X t))] = wsL D E (newM X t (nF t)) := by
    rw [← hadr]; exact wsL_new rfl (fun b hb => cellE_new hX (by omega) hb) rfl
  have ec : cells + 1 = mZ X + 1 := by omega
  have es : slots + nF t = mW X + nF t + mW Y := by omega
  have K := kk H1 ⟨by rw [z1, v1]; rfl, ?_, v3.kept (fun k q hq => o1 q.1 (v3 k q hq).lt), ?_, v5, ⟨Nat.le_trans v6.1 (by omega), fun r r1 r2 => (o1 r (Nat.lt_of_lt_of_le r1 v6.1)).trans (v6.2.1 r r1 r2), v6.2.2⟩, rfl, rfl, v9, fun a ha q => ?_⟩
  · rw [← ec, ← es, hadr] at K
    exact K
  · rw [← hset]
    refine (v2.kept fun k q hq => o1 q.1 (v2 k q hq).lt).app fun k q hq => ?_
    have hz0 : k < 1 := (List.getElem?_eq_some_iff.mp hq).1
    rw [show k = 0 by omega] at hq
    cases hq
    exact hat
  · rw [← hset]; exact v4.push v2 rfl (by show E.1 ≤ H.size; omega)
  · rcases q with ⟨k, e', hk⟩ | q
    · rw [← hset] at hk
      rcases List.mem_append.mp (List.mem_of_getElem? hk) with z | z
      · obtain ⟨k2, hk2⟩ := List.getElem?_of_mem z
        exact v10 a ha (Or.inl ⟨k2, e', hk2⟩)
      · have := congrArg Prod.fst (List.mem_singleton.mp z)
        exact v10 a ha (Or.inr (by rw [← v1]; exact Nat.le_of_eq this.symm))
    · exact v10 a ha (Or.inr (Nat.le_trans (Nat.add_le_add_left (Nat.le_succ _) _) q))
end START
