/-! NEW CELLS, COPIES, STATICS, STRING CONSTANTS -/
section NRULES
variable {β : Type} {sR : Nat → Nat → Nat} {Γ : GM} {fin : β → Option Value × Mem} {f : Option β} {pc : Nat} {ls st : List Value} {M : Mem}
theorem cellE_new {D : DN} {E : EN} {kd n b : Nat} (h : cl M) (hk : kd < 131072) (hb : b ∈ mV M) : cellE D E (newM M kd n) b = cellE D E M b := by
  have hne : b ≠ nid M kd := fun e => nid_new h hk (e ▸ hb)
  refine cellE_congr ?_ ?_ ?_
  · funext j; show (if b = nid M kd then 0 else mI M b j) = _; rw [if_neg hne]
  · funext j; show (if b = nid M kd then 0 else mL M b j) = _; rw [if_neg hne]
  · funext j; show (if b = nid M kd then 0 else mR M b j) = _; rw [if_neg hne]
/-- one cell comes -/
theorem go_nw {kd n pc' : Nat} {st' : List Value} {g : Nat → Mem → Option β} (hk : kd < 131072) (h1 : 1 ≤ kd % 32) (h2 : kd % 32 ≤ 17) (hs : ∀ q k, sR (q * 131072 + kd) k = 0) (hsub : ∀ v, v ∈ st' → v ∈ st)
    (hw : ∀ {D : DN} {E : EN} {M0 : Mem} {A : Nat → Prop} {z : Option Value × Mem} {p : Program} {l : Launch} {e : Env} {R : Room} {s : State} {m : MethodId} {args : Array Value} {below : List Frame} {meth : Method} {c : Code} {Q : State → Prop} {H : Heap} {locs : List Loc} {cells slots : Nat} {la : Array Slot},
      CxF Γ D E M0 A z p l e R s m args below meth c Q → cells + 1 ≤ R.cells → slots + n ≤ R.slots → H.size = E.1 + mZ M →
      (∀ (H1 : Heap), va_at D.1 vwCl (H.size, cellE D E (newM M kd n) (nid M kd)) H1 → H1.size = H.size + 1 → (∀ q, q < H.size → H1[q]? = H[q]?) → W p l e R s m args below meth c H1 locs (cells + 1) (slots + n) Q (F0 m pc' la (.ref H.size :: st'.map (cV E)))) →
      W p l e R s m args below meth c H locs cells slots Q (F0 m pc la (st.map (cV E))))
    (kk : ∀ a M1, a % 131072 = kd → Go sR Γ fin (g a M1) pc' ls (.ref a :: st') M1) : Go sR Γ fin (lt (nid M kd) fun a => lt (newM M kd n) (g a)) pc ls st M := by
  intro x hx hp
  have hid : nid M kd % 131072 = kd := by unfold nid; omega
  have hex := ext_newM M kd n
  obtain ⟨k1, k2⟩ := kk (nid M kd) (newM M kd n) hid x hx ⟨cl_newM hp.1 n hk h1 h2, stI_newM hp.2.1 hp.1 n hk (hs _), fun w hw => by
    rcases List.mem_append.mp hw with h | h
    · exact lvV.mono hex.2.2 (hp.2.2 w (List.mem_append_left _ h))
    · rcases List.mem_cons.mp h with h | h
      · subst h; exact Or.inr (Or.inr (List.mem_append_right _ (List.mem_singleton.mpr rfl)))
      · exact lvV.mono hex.2.2 (hp.2.2 w (List.mem_append_right _ (hsub w h)))⟩
  refine ⟨⟨hex.trans k1.1, k1.2⟩, fun D E M0 A p l e R s m args below meth c Q H locs cells slots la hF hV => ?_⟩
  obtain ⟨v1, v2, v3, v4, v5, v6, v7⟩ := id hV
  have hr := hF.2.2.2.2.2.2.2.2.2.2.2.2
  have hz1 : mZ M + 1 ≤ mZ (fin x).2 := k1.1.1
  have hz2 : mW M + n ≤ mW (fin x).2 := k1.1.2.1
  have hm32 : nid M kd % 32 = kd % 32 := nid_mod M hk
  have hadr : adr E (nid M kd) = H.size := by rw [adr_own (by rw [hm32]; exact h2), nid_div M hk, v1]
  refine hw hF (by omega) (by omega) v1 fun H1 hat hz ho => ?_
  have hset : wsL D E M ++ [(H.size, cellE D E (newM M kd n) (nid M kd))] = wsL D E (newM M kd n) := by
    rw [← hadr]; exact wsL_new rfl (fun b hb => cellE_new hp.1 hk hb) rfl
  have K := k2 D E M0 A p l e R s m args below meth c Q H1 locs (cells + 1) (slots + n) la hF ⟨by rw [hz, v1]; rfl, ?_, ?_, ⟨Nat.le_trans v4.1 (by omega), fun r r1 r2 => ?_, v4.2.2⟩, v5, by show cells + 1 + mZ M0 = mZ M + 1; omega, by show slots + n + mW M0 = mW M + n; omega⟩
  · have K2 : W p l e R s m args below meth c H1 locs (cells + 1) (slots + n) Q (F0 m pc' la (cV E (.ref (nid M kd)) :: st'.map (cV E))) := K
    rw [cV_ref (by rw [hm32]; exact h1) (by rw [hm32]; omega), hadr] at K2
    exact K2
  · rw [← hset]
    refine (v2.kept fun k q hq => ho q.1 (v2 k q hq).lt).app fun k q hq => ?_
    have hz0 : k < 1 := (List.getElem?_eq_some_iff.mp hq).1
    rw [show k = 0 by omega] at hq
    cases hq
    exact hat
  · rw [← hset]; exact v3.push v2 rfl (hF.2.2.2.2.2.2.2.2.1 _ v4.1)
  · exact (ho r (Nat.lt_of_lt_of_le r1 v4.1)).trans (v4.2.1 r r1 r2)
theorem tyT_def {t k : Nat} (h1 : 1 ≤ t) (h2 : t ≤ 10) (hk : k < nF t) : defaultValue (tyT t k) = if refF t k = true then .null else .int 0 := by
  have key : ∀ t, t < 11 → 1 ≤ t → ∀ k, k < nF t → defaultValue (tyT t k) = if refF t k = true then .null else .int 0 := by decide +kernel
  exact key t (by omega) h1 k hk
/-- a new object -/
theorem go_new {t idx : Nat} {g : Nat → Mem → Option β} (h1 : 1 ≤ t) (h2 : t ≤ 10) (hs : ∀ q k, sR (q * 131072 + t) k = 0) (hcl : Cond.classLink Γ.1.cls idx (clT t).1 ∈ gT) (hin : Cond.instantiable (clT t).1 (nF t) ∈ gT) (hini : Cond.initialized (clT t).1 ∈ gT) (hd : decode Γ.2.1 pc = .ok (.new idx, 3))
    (kk : ∀ a M1, a % 131072 = t → Go sR Γ fin (g a M1) (pc + 3) ls (.ref a :: st) M1) : Go sR Γ fin (lt (nid M t) fun a => lt (newM M t (nF t)) (g a)) pc ls st M := by
  refine go_nw (by omega) (by omega) (by omega) hs mm0 (fun {D E M0 A z p l e R s m args below meth c Q H locs cells slots la} hF hc hsl hz K => ?_) kk
  obtain ⟨g1, g2, g3, g4, g5, g6, g7, g8⟩ := id hF
  have hKn := g7.1.1 _ _ (clT_get h1 h2)
  have hN := clT_n h1 h2
  refine W.newcK g1 g2 g4 (g6 _ hcl) (g6 _ hin) (g6 _ hini) rfl hd hc hsl hKn.2.1 rfl fun H1 kC hkC e1 z1 o1 => K H1 ?_ z1 o1
  have hmod : nid M t % 32 = t := by rw [nid_mod M (by omega)]; omega
  rw [cellE_obj hmod h2]
  refine ⟨_, clT_get h1 h2, (u_born (tyT t) g6 (clT_in h1 h2) hKn hkC e1 (by rw [hN]; exact clT_ty h1 h2)).to fun j hj => ?_⟩
  rw [hN] at hj
  have e2 : vp_V ((List.range (nF t)).map (fvE E (newM M t (nF t)) (nid M t))) j = fvE E (newM M t (nF t)) (nid M t) j := by simp [vp_V, hj]
  rw [tyT_def h1 h2 hj]
  show _ = vp_V ((List.range (nF t)).map (fvE E (newM M t (nF t)) (nid M t))) j
  rw [e2]
  unfold fvE
  rw [hmod]
  show _ = if refF t j = true then va_rf (oA E (if nid M t = nid M t then 0 else mR M (nid M t) j)) else .int (if nid M t = nid M t then 0 else mI M (nid M t) j)
  rw [if_pos rfl, if_pos rfl]
  rfl
def prT (t : Nat) : ArrayType := match t with
  | 11 => .int | 12 => .long | _ => .boolean
theorem va_cA {s : State} {D : DN} (hK : va_K D.1 vwCl (tysD D) s) {t : Nat} (h1 : 11 ≤ t) (h2 : t ≤ 13) {cA : ClassId} (h : s.vm.findClass ("[" ++ (newarray.typeOf (prT t)).toString) = some cA) : cA = D.2 (t - 11) := by
  rcases (show t = 11 ∨ t = 12 ∨ t = 13 by omega) with rfl | rfl | rfl
  · exact Option.some.inj (h.symm.trans (hK.2 0 _ rfl).2)
  · exact Option.some.inj (h.symm.trans (hK.2 1 _ rfl).2)
  · exact Option.some.inj (h.symm.trans (hK.2 2 _ rfl).2)
/-- a new row of numbers -/
theorem go_newa {t N : Nat} {n : Int32} {g : Nat → Mem → Option β} (h1 : 11 ≤ t) (h2 : t ≤ 13) (hn : inR n 4096) (hN : n.toNatClampNeg = N) (hs : ∀ q k, sR (q * 131072 + (N * 32 + t)) k = 0) (harr : Cond.arrayClass (newarray.typeOf (prT t)) ∈ gT) (hd : decode Γ.2.1 pc = .ok (.newarray (prT t), 2))
    (kk : ∀ a M1, a % 131072 = N * 32 + t → Go sR Γ fin (g a M1) (pc + 2) ls (.ref a :: st) M1) : Go sR Γ fin (lt (nid M (N * 32 + t)) fun a => lt (newM M (N * 32 + t) N) (g a)) pc ls (.int n :: st) M := by
  have hlt : N < 4096 := hN ▸ inR_ix hn
  refine go_nw (by omega) (by omega) (by omega) hs mm1 (fun {D E M0 A z p l e R s m args below meth c Q H locs cells slots la} hF hc hsl hz K => ?_) kk
  obtain ⟨g1, g2, g3, g4, g5, g6, g7, g8⟩ := id hF
  have hb : N * componentBytes (newarray.typeOf (prT t)) ≤ 536870912 := by
    rcases (show t = 11 ∨ t = 12 ∨ t = 13 by omega) with rfl | rfl | rfl <;> (simp [prT, newarray.typeOf, componentBytes]; omega)
  have hmod : nid M (N * 32 + t) % 32 = t := by rw [nid_mod M (by omega)]; omega
  have hln : lnA (nid M (N * 32 + t)) = N := by unfold lnA nid; omega
  refine va_newaK g1 g2 (g6 _ harr) rfl hd rfl (fun h => (inR_vp hn) (Or.inl h)) hN hb hc hsl rfl fun H1 cA e1 z1 o1 hAr hNm => K H1 ?_ z1 o1
  have hcA := va_cA g7.1 h1 h2 hNm
  subst hcA
  have ez : ∀ j, mI (newM M (N * 32 + t) N) (nid M (N * 32 + t)) j = 0 := fun j => by show (if nid M (N * 32 + t) = nid M (N * 32 + t) then (0 : Int32) else _) = 0; rw [if_pos rfl]
  have el : ∀ j, mL (newM M (N * 32 + t) N) (nid M (N * 32 + t)) j = 0 := fun j => by show (if nid M (N * 32 + t) = nid M (N * 32 + t) then (0 : Int64) else _) = 0; rw [if_pos rfl]
  have ez' : mI (newM M (N * 32 + t) N) (nid M (N * 32 + t)) = fun _ => 0 := funext ez
  have el' : mL (newM M (N * 32 + t) N) (nid M (N * 32 + t)) = fun _ => 0 := funext el
  rcases (show t = 11 ∨ t = 12 ∨ t = 13 by omega) with rfl | rfl | rfl
  · rw [cellE_i hmod, hln, ez']; exact e1
  · rw [cellE_l hmod, hln, el']; exact e1
  · rw [cellE_z hmod, hln, ez']; exact e1
/-- a new row of references -/
theorem go_newq {t N idx : Nat} {n : Int32} {g : Nat → Mem → Option β} (h1 : 14 ≤ t) (h2 : t ≤ 17) (hn : inR n 4096) (hN : n.toNatClampNeg = N) (hs : ∀ q k, sR (q * 131072 + (N * 32 + t)) k = 0) (hcl : Cond.classLink Γ.1.cls idx (nmA (t - 11)) ∈ gT) (hd : decode Γ.2.1 pc = .ok (.anewarray idx, 3))
    (kk : ∀ a M1, a % 131072 = N * 32 + t → Go sR Γ fin (g a M1) (pc + 3) ls (.ref a :: st) M1) : Go sR Γ fin (lt (nid M (N * 32 + t)) fun a => lt (newM M (N * 32 + t) N) (g a)) pc ls (.int n :: st) M := by
  subst hN
  have hlt : n.toNatClampNeg < 4096 := inR_ix hn
  generalize hNe : n.toNatClampNeg = N at *
  refine go_nw (by omega) (by omega) (by omega) hs mm1 (fun {D E M0 A z p l e R s m args below meth c Q H locs cells slots la} hF hc hsl hz K => ?_) kk
  obtain ⟨g1, g2, g3, g4, g5, g6, g7, g8⟩ := id hF
  have hmod : nid M (N * 32 + t) % 32 = t := by rw [nid_mod M (by omega)]; omega
  have hln : lnA (nid M (N * 32 + t)) = N := by unfold lnA nid; omega
  obtain ⟨e1, e2, e3, e4, e5, e6, e7, e8, a1, a2, a3, a4⟩ := g7
  have hAO : va_AO (nmA (t - 11)) s := by
    rcases (show t = 14 ∨ t = 15 ∨ t = 16 ∨ t = 17 by omega) with rfl | rfl | rfl | rfl
    · exact a1
    · exact a2
    · exact a3
    · exact a4
  refine W.anew g1 g2 g4 (g6 _ hcl) (va_AO.use hAO) rfl hd rfl (fun h => (inR_vp hn) (Or.inl h)) (by rw [hNe]; omega) hc (by rw [hNe]; exact hsl) fun cA kA comp f1 f2 f3 f4 => ?_
  rw [hNe]
  refine K _ ?_ (by simp) (fun q hq => by rw [Array.getElem?_push, if_neg (Nat.ne_of_lt hq)])
  obtain ⟨kB, cB, b1, b2, b3, b4⟩ := (e1.2 _ _ (tys_q h1 h2)).2
  have hcA : cA = D.2 (t - 11) := Option.some.inj (f1.symm.trans b4)
  subst hcA
  have hfun : (fun j => oA E (mR (newM M (N * 32 + t) N) (nid M (N * 32 + t)) j)) = fun _ => none := by
    funext j
    show oA E (if nid M (N * 32 + t) = nid M (N * 32 + t) then 0 else mR M (nid M (N * 32 + t)) j) = none
    rw [if_pos rfl]; rfl
  rw [cellE_q (by rw [hmod]; exact h1), hln, hmod, hfun]
  show (H.push _)[H.size]? = some (arrV (D.2 (t - 11)) N (fun _ => .null))
  rw [Array.getElem?_push_size, ← arrV_new]
/-- Object's constructor -/
theorem go_objInit {idx a : Nat} (hd : decode Γ.2.1 pc = .ok (.invokespecial idx, 3)) (h1 : 1 ≤ a % 32) (h2 : a % 32 ≤ 17) (hl : Cond.methodLink Γ.1.cls idx Lib.objectInit ∈ gT) (hi : Cond.instanceMethod Lib.objectInit ∈ gT) (hc : Cond.code Lib.objectInit ⟨#[0xb1]⟩ 1 none ∈ gT) (hdp : 1 ≤ Γ.2.2.2.2) (hst : (st.map fun v => v.category).sum ≤ 8) (kk : Go sR Γ fin f (pc + 3) ls st M) : Go sR Γ fin f pc ls (.ref a :: st) M := by
  refine go_rd (fun _ v hv => Or.inl (List.mem_append_right _ (List.mem_cons_of_mem _ hv))) (fun {D E M0 A z p l e R s m args below meth c Q H locs cells slots la} hF hV hp k => ?_) kk
  obtain ⟨g1, g2, g3, g4, g5, g6, g7, g8, g9, g10, g11, g12, g13⟩ := id hF
  show W p l e R s m args below meth c H locs cells slots Q (F0 m pc la (cV E (.ref a) :: st.map (cV E)))
  rw [cV_ref h1 (by omega)]
  have hst' : ((st.map (cV E)).map fun v => v.category).sum ≤ 8 := by
    rw [List.map_map]
    have e : ((fun v : Value => v.category) ∘ cV E) = fun v => v.category := funext fun v => cV_cat E v
    rw [e]; exact hst
  exact W.objInit g1 g2 g4 (g6 _ hl) (g6 _ hi) (g6 _ hc) rfl (by rw [g3]; exact hV.2.2.2.2.1.1) rfl hd (by omega) (by show 2 * 0 + _ + 12 ≤ _; omega) k
end NRULES
