/-! ROWS, NEW CELLS, WHAT WAS THERE BEFORE -/
section RRULES
variable {β : Type} {sR : Nat → Nat → Nat} {Γ : GM} {fin : β → Option Value × Mem} {f : Option β} {pc : Nat} {ls st : List Value} {M : Mem}
/-- something is read, nothing written -/
theorem go_rd {pc' : Nat} {st' : List Value} (hlv : pOK sR M (ls ++ st) → ∀ v, v ∈ st' → v ∈ ls ++ st ∨ lvV M v)
    (hw : ∀ {D : DN} {E : EN} {M0 : Mem} {A : Nat → Prop} {z : Option Value × Mem} {p : Program} {l : Launch} {e : Env} {R : Room} {s : State} {m : MethodId} {args : Array Value} {below : List Frame} {meth : Method} {c : Code} {Q : State → Prop} {H : Heap} {locs : List Loc} {cells slots : Nat} {la : Array Slot},
      CxF Γ D E M0 A z p l e R s m args below meth c Q → CxV Γ D E M0 A M ls s H locs cells slots la → pOK sR M (ls ++ st) →
      W p l e R s m args below meth c H locs cells slots Q (F0 m pc' la (st'.map (cV E))) → W p l e R s m args below meth c H locs cells slots Q (F0 m pc la (st.map (cV E))))
    (kk : Go sR Γ fin f pc' ls st' M) : Go sR Γ fin f pc ls st M := by
  intro x hx hp
  obtain ⟨k1, k2⟩ := kk x hx (hp.sub fun w hw => by
    rcases List.mem_append.mp hw with h | h
    · exact Or.inl (List.mem_append_left _ h)
    · exact hlv hp w h)
  exact ⟨k1, fun D E M0 A p l e R s m args below meth c Q H locs cells slots la hF hV => hw hF hV hp (k2 D E M0 A p l e R s m args below meth c Q H locs cells slots la hF hV)⟩
theorem pOK.ref {vs : List Value} {a : Nat} (h : pOK sR M vs) (hin : .ref a ∈ vs) (h1 : 1 ≤ a % 32) (h2 : a % 32 ≤ 17) : a ∈ mV M := lvM.own (h.2.2 (.ref a) hin) h1 h2
theorem cellE_i {D : DN} {E : EN} {a : Nat} (h : a % 32 = 11) : cellE D E M a = .inl (D.2 0, lnA a, .inl (mI M a)) := by unfold cellE; rw [if_neg (by omega), if_pos h]
theorem cellE_l {D : DN} {E : EN} {a : Nat} (h : a % 32 = 12) : cellE D E M a = .inl (D.2 1, lnA a, .inr (.inl (mL M a))) := by unfold cellE; rw [if_neg (by omega), if_neg (by omega), if_pos h]
theorem cellE_z {D : DN} {E : EN} {a : Nat} (h : a % 32 = 13) : cellE D E M a = .inl (D.2 2, lnA a, .inl (mI M a)) := by unfold cellE; rw [if_neg (by omega), if_neg (by omega), if_neg (by omega), if_pos h]
theorem cellE_q {D : DN} {E : EN} {a : Nat} (h : 14 ≤ a % 32) : cellE D E M a = .inl (D.2 (a % 32 - 11), lnA a, .inr (.inr (.inr (.inr fun j => oA E (mR M a j))))) := by unfold cellE; rw [if_neg (by omega), if_neg (by omega), if_neg (by omega), if_neg (by omega)]
theorem mst {a b : Value} {ls st : List Value} {v : Value} (h : v ∈ st) : v ∈ ls ++ (a :: b :: st) := List.mem_append_right _ (List.mem_cons_of_mem _ (List.mem_cons_of_mem _ h))
theorem go_iald {a n : Nat} {i : Int32} (ha : a % 32 = 11) (hn : lnA a = n) (hd : decode Γ.2.1 pc = .ok (.iaload, 1)) (kk : inR i n → Go sR Γ fin f (pc + 1) ls (.int (mI M a i.toNatClampNeg) :: st) M) : Go sR Γ fin (gd (inR i n) f) pc ls (.int i :: .ref a :: st) M := by
  refine go_gd fun hi => go_rd (fun _ v hv => by rcases List.mem_cons.mp hv with e | e; exact Or.inr (e ▸ trivial); exact Or.inl (mst e)) (fun {D E M0 A z p l e R s m args below meth c Q H locs cells slots la} hF hV hp k => ?_) (kk hi)
  obtain ⟨q, -, hq⟩ := wsL_at (D := D) (E := E) (hp.ref (a := a) (by simp) (by omega) (by omega))
  rw [cellE_i ha, hn] at hq
  show W p l e R s m args below meth c H locs cells slots Q (F0 m pc la (.int i :: cV E (.ref a) :: st.map (cV E)))
  rw [cV_ref (by omega) (by omega)]
  exact va_iald hF.1 hF.2.1 hF.2.2.2.2.2.2.1.1 hV.2.1 q 0 hq rfl (inR_vp hi) hd k
theorem go_zald {a n : Nat} {i : Int32} (ha : a % 32 = 13) (hn : lnA a = n) (hd : decode Γ.2.1 pc = .ok (.baload, 1)) (kk : inR i n → Go sR Γ fin f (pc + 1) ls (.int (mI M a i.toNatClampNeg) :: st) M) : Go sR Γ fin (gd (inR i n) f) pc ls (.int i :: .ref a :: st) M := by
  refine go_gd fun hi => go_rd (fun _ v hv => by rcases List.mem_cons.mp hv with e | e; exact Or.inr (e ▸ trivial); exact Or.inl (mst e)) (fun {D E M0 A z p l e R s m args below meth c Q H locs cells slots la} hF hV hp k => ?_) (kk hi)
  obtain ⟨q, -, hq⟩ := wsL_at (D := D) (E := E) (hp.ref (a := a) (by simp) (by omega) (by omega))
  rw [cellE_z ha, hn] at hq
  show W p l e R s m args below meth c H locs cells slots Q (F0 m pc la (.int i :: cV E (.ref a) :: st.map (cV E)))
  rw [cV_ref (by omega) (by omega)]
  exact va_zald hF.1 hF.2.1 hF.2.2.2.2.2.2.1.1 hV.2.1 q 2 hq rfl (inR_vp hi) hd k
theorem go_lald {a n : Nat} {i : Int32} (ha : a % 32 = 12) (hn : lnA a = n) (hd : decode Γ.2.1 pc = .ok (.laload, 1)) (kk : inR i n → Go sR Γ fin f (pc + 1) ls (.long (mL M a i.toNatClampNeg) :: st) M) : Go sR Γ fin (gd (inR i n) f) pc ls (.int i :: .ref a :: st) M := by
  refine go_gd fun hi => go_rd (fun _ v hv => by rcases List.mem_cons.mp hv with e | e; exact Or.inr (e ▸ trivial); exact Or.inl (mst e)) (fun {D E M0 A z p l e R s m args below meth c Q H locs cells slots la} hF hV hp k => ?_) (kk hi)
  obtain ⟨q, -, hq⟩ := wsL_at (D := D) (E := E) (hp.ref (a := a) (by simp) (by omega) (by omega))
  rw [cellE_l ha, hn] at hq
  show W p l e R s m args below meth c H locs cells slots Q (F0 m pc la (.int i :: cV E (.ref a) :: st.map (cV E)))
  rw [cV_ref (by omega) (by omega)]
  exact va_lald hF.1 hF.2.1 hF.2.2.2.2.2.2.1.1 hV.2.1 q 1 hq rfl (inR_vp hi) hd k
theorem tys_q {D : DN} {t : Nat} (h1 : 14 ≤ t) (h2 : t ≤ 17) : (tysD D)[t - 11]? = some (D.2 (t - 11), .object (nmA (t - 11))) := by
  rcases (show t = 14 ∨ t = 15 ∨ t = 16 ∨ t = 17 by omega) with rfl | rfl | rfl | rfl <;> rfl
/-- a reference out of a row: what lies there is b -/
theorem go_aaldV {a n : Nat} {i : Int32} (g : Nat → Nat) (h1 : 14 ≤ a % 32) (h2 : a % 32 ≤ 17) (hn : lnA a = n) (hb : ∀ j, j < n → stI sR M → a ∈ mV M → mR M a j = g j) (hd : decode Γ.2.1 pc = .ok (.aaload, 1)) (kk : inR i n → Go sR Γ fin f (pc + 1) ls (.ref (g i.toNatClampNeg) :: st) M) : Go sR Γ fin (gd (inR i n) f) pc ls (.int i :: .ref a :: st) M := by
  refine go_gd fun hi => go_rd (fun hp v hv => by
      rcases List.mem_cons.mp hv with e | e
      · have ham := hp.ref (a := a) (by simp) (by omega) (by omega)
        refine Or.inr (e ▸ ?_)
        show lvM M (g i.toNatClampNeg)
        rw [← hb _ (inR_ix hi) hp.2.1 ham]
        exact (hp.1 a ham).2.2.2 _
      · exact Or.inl (mst e)) (fun {D E M0 A z p l e R s m args below meth c Q H locs cells slots la} hF hV hp k => ?_) (kk hi)
  have ham := hp.ref (a := a) (by simp) (by omega) (by omega)
  obtain ⟨q, -, hq⟩ := wsL_at (D := D) (E := E) ham
  rw [cellE_q h1, hn] at hq
  show W p l e R s m args below meth c H locs cells slots Q (F0 m pc la (.int i :: cV E (.ref a) :: st.map (cV E)))
  rw [cV_ref (by omega) (by omega)]
  refine va_aldq hF.1 hF.2.1 hF.2.2.2.2.2.2.1.1 hV.2.1 q (a % 32 - 11) hq (tys_q h1 h2) (inR_vp hi) hd ?_
  rw [hb _ (inR_ix hi) hp.2.1 ham]
  exact k
theorem go_aaldR {a n : Nat} {i : Int32} (h1 : 14 ≤ a % 32) (h2 : a % 32 ≤ 17) (hn : lnA a = n) (hd : decode Γ.2.1 pc = .ok (.aaload, 1)) (kk : inR i n → Go sR Γ fin f (pc + 1) ls (.ref (mR M a i.toNatClampNeg) :: st) M) : Go sR Γ fin (gd (inR i n) f) pc ls (.int i :: .ref a :: st) M := go_aaldV (mR M a) h1 h2 hn (fun _ _ _ _ => rfl) hd kk
theorem go_aaldS {a n : Nat} {i : Int32} (g : Nat → Nat) (h1 : 14 ≤ a % 32) (h2 : a % 32 ≤ 17) (hn : lnA a = n) (hg : ∀ j, j < n → sR a j = g j ∧ g j ≠ 0) (hd : decode Γ.2.1 pc = .ok (.aaload, 1)) (kk : inR i n → Go sR Γ fin f (pc + 1) ls (.ref (g i.toNatClampNeg) :: st) M) : Go sR Γ fin (gd (inR i n) f) pc ls (.int i :: .ref a :: st) M :=
  go_aaldV g h1 h2 hn (fun j hj h ha => by rw [h a ha j (by rw [(hg j hj).1]; exact (hg j hj).2)]; exact (hg j hj).1) hd kk
theorem upd_up2 {f : Nat → Nat → Int32} {a k : Nat} {v : Int32} : up2 f a k v a = upd (f a) k v := by
  funext j; rw [up2_eq]; rfl
theorem sub3 {a b c : Value} {st : List Value} : ∀ v, v ∈ st → v ∈ a :: b :: c :: st := fun _ h => List.mem_cons_of_mem _ (List.mem_cons_of_mem _ (List.mem_cons_of_mem _ h))
theorem go_iast {a n : Nat} {i v : Int32} {g : Mem → Option β} (ha : a % 32 = 11) (hn : lnA a = n) (hd : decode Γ.2.1 pc = .ok (.iastore, 1)) (kk : inR i n → ∀ M1, Go sR Γ fin (g M1) (pc + 1) ls st M1) : Go sR Γ fin (gd (inR i n) (lt (setI M a i.toNatClampNeg v) g)) pc ls (.int v :: .int i :: .ref a :: st) M := by
  refine go_gd fun hi => go_wr (M1 := setI M a i.toNatClampNeg v) (a := a) (by omega) (by omega) (by simp) sub3 ⟨rfl, rfl, rfl⟩ (fun b hb => up2_ne hb) (fun b hb => rfl) (fun b hb => rfl) (fun hp => ⟨hp.1, hp.2.1⟩) (fun {D E M0 A z p l e R s m args below meth c Q H locs cells slots la} hF hla hP hp ham K => ?_) (kk hi _)
  obtain ⟨q, -, hq⟩ := wsL_at (D := D) (E := E) ham
  rw [cellE_i ha, hn] at hq
  show W p l e R s m args below meth c H locs cells slots Q (F0 m pc la (.int v :: .int i :: cV E (.ref a) :: st.map (cV E)))
  rw [cV_ref (by omega) (by omega)]
  refine W.iast hF.1 hF.2.1 (hP q _ hq) ((hF.2.2.2.2.2.2.1.1.2 0 _ rfl).1 n (fun j => .int (mI M a j))) (fun q => by cases q) (by show ¬ (i < 0 ∨ (arrV _ _ _).slots.size ≤ _); rw [arrV_size]; exact inR_vp hi) rfl rfl hd fun H1 e1 z1 o1 => K H1 _ list_loc ?_ z1 o1
  rw [cellE_i ha, hn]
  show H1[adr E a]? = some (vp_cell _ _)
  rw [e1, vp_cell_i, vp_cell_i, arrV_store]
  congr 2
  funext j
  show _ = Value.int (up2 (mI M) a i.toNatClampNeg v a j)
  rw [up2_eq]
  by_cases hj : j = i.toNatClampNeg
  · subst hj; simp [updV]
  · simp [updV, hj]
/-- what a boolean row keeps -/
def zN (x : Int32) : Int32 := vp_nar .boolean x
theorem zN_eq (x : Int32) : narrow .boolean (.int x) = .int (zN x) := rfl
theorem go_zast {a n : Nat} {i v : Int32} {g : Mem → Option β} (ha : a % 32 = 13) (hn : lnA a = n) (hd : decode Γ.2.1 pc = .ok (.bastore, 1)) (kk : inR i n → ∀ M1, Go sR Γ fin (g M1) (pc + 1) ls st M1) : Go sR Γ fin (gd (inR i n) (lt (setI M a i.toNatClampNeg (zN v)) g)) pc ls (.int v :: .int i :: .ref a :: st) M := by
  refine go_gd fun hi => go_wr (M1 := setI M a i.toNatClampNeg (zN v)) (a := a) (by omega) (by omega) (by simp) sub3 ⟨rfl, rfl, rfl⟩ (fun b hb => up2_ne hb) (fun b hb => rfl) (fun b hb => rfl) (fun hp => ⟨hp.1, hp.2.1⟩) (fun {D E M0 A z p l e R s m args below meth c Q H locs cells slots la} hF hla hP hp ham K => ?_) (kk hi _)
  obtain ⟨q, -, hq⟩ := wsL_at (D := D) (E := E) ham
  rw [cellE_z ha, hn] at hq
  show W p l e R s m args below meth c H locs cells slots Q (F0 m pc la (.int v :: .int i :: cV E (.ref a) :: st.map (cV E)))
  rw [cV_ref (by omega) (by omega)]
  refine W.zast hF.1 hF.2.1 (hP q _ hq) ((hF.2.2.2.2.2.2.1.1.2 2 _ rfl).1 n (fun j => .int (mI M a j))) (fun q => by cases q) (by show ¬ (i < 0 ∨ (arrV _ _ _).slots.size ≤ _); rw [arrV_size]; exact inR_vp hi) rfl rfl hd fun H1 e1 z1 o1 => K H1 _ list_loc ?_ z1 o1
  rw [cellE_z ha, hn]
  show H1[adr E a]? = some (vp_cell _ _)
  rw [e1, vp_cell_i, vp_cell_i, arrV_store]
  congr 2
  funext j
  show _ = Value.int (up2 (mI M) a i.toNatClampNeg (zN v) a j)
  rw [up2_eq]
  by_cases hj : j = i.toNatClampNeg
  · subst hj; simp [updV, zN_eq]
  · simp [updV, hj]
theorem go_last {a n : Nat} {i : Int32} {v : Int64} {g : Mem → Option β} (ha : a % 32 = 12) (hn : lnA a = n) (hd : decode Γ.2.1 pc = .ok (.lastore, 1)) (kk : inR i n → ∀ M1, Go sR Γ fin (g M1) (pc + 1) ls st M1) : Go sR Γ fin (gd (inR i n) (lt (setL M a i.toNatClampNeg v) g)) pc ls (.long v :: .int i :: .ref a :: st) M := by
  refine go_gd fun hi => go_wr (M1 := setL M a i.toNatClampNeg v) (a := a) (by omega) (by omega) (by simp) sub3 ⟨rfl, rfl, rfl⟩ (fun b hb => rfl) (fun b hb => up2_ne hb) (fun b hb => rfl) (fun hp => ⟨hp.1, hp.2.1⟩) (fun {D E M0 A z p l e R s m args below meth c Q H locs cells slots la} hF hla hP hp ham K => ?_) (kk hi _)
  obtain ⟨q, -, hq⟩ := wsL_at (D := D) (E := E) ham
  rw [cellE_l ha, hn] at hq
  show W p l e R s m args below meth c H locs cells slots Q (F0 m pc la (.long v :: .int i :: cV E (.ref a) :: st.map (cV E)))
  rw [cV_ref (by omega) (by omega)]
  refine W.last hF.1 hF.2.1 (hP q _ hq) ((hF.2.2.2.2.2.2.1.1.2 1 _ rfl).1 n (fun j => .long (mL M a j))) (fun q => by cases q) (by show ¬ (i < 0 ∨ (arrV _ _ _).slots.size ≤ _); rw [arrV_size]; exact inR_vp hi) rfl rfl hd fun H1 e1 z1 o1 => K H1 _ list_loc ?_ z1 o1
  rw [cellE_l ha, hn]
  show H1[adr E a]? = some (vp_cell _ _)
  rw [e1, vp_cell_l, vp_cell_l, arrV_store]
  congr 2
  funext j
  show _ = Value.long (up2 (mL M) a i.toNatClampNeg v a j)
  rw [up2_eq]
  by_cases hj : j = i.toNatClampNeg
  · subst hj; simp [updV]
  · simp [updV, hj]
/-- which class' objects a row of references holds -/
def cmpT (t : Nat) : Nat := match t with
  | 14 => 4 | 15 => 6 | 16 => 2 | _ => 8
theorem cmp_nm {t : Nat} (h1 : 14 ≤ t) (h2 : t ≤ 17) : nmA (t - 11) = (clT (cmpT t)).1 ∧ 1 ≤ cmpT t ∧ cmpT t ≤ 10 := by
  rcases (show t = 14 ∨ t = 15 ∨ t = 16 ∨ t = 17 by omega) with rfl | rfl | rfl | rfl <;> exact ⟨rfl, by decide, by decide⟩
theorem go_aast {a v n : Nat} {i : Int32} {g : Mem → Option β} (h1 : 14 ≤ a % 32) (h2 : a % 32 ≤ 17) (hn : lnA a = n) (hv : v % 32 = cmpT (a % 32)) (hs : ∀ j, sR a j = 0) (hd : decode Γ.2.1 pc = .ok (.aastore, 1)) (kk : inR i n → ∀ M1, Go sR Γ fin (g M1) (pc + 1) ls st M1) : Go sR Γ fin (gd (inR i n) (lt (setR M a i.toNatClampNeg v) g)) pc ls (.ref v :: .int i :: .ref a :: st) M := by
  obtain ⟨c1, c2, c3⟩ := cmp_nm h1 h2
  refine go_gd fun hi => go_wr (M1 := setR M a i.toNatClampNeg v) (a := a) (by omega) (by omega) (by simp) sub3 ⟨rfl, rfl, rfl⟩ (fun b hb => rfl) (fun b hb => rfl) (fun b hb => up2_ne hb) (fun hp => ⟨cl_setR hp.1 a _ v (hp.2.2 (.ref v) (by simp)), stI_setR hp.2.1 a _ v (hs _)⟩) (fun {D E M0 A z p l e R s m args below meth c Q H locs cells slots la} hF hla hP hp ham K => ?_) (kk hi _)
  obtain ⟨q, -, hq⟩ := wsL_at (D := D) (E := E) ham
  rw [cellE_q h1, hn] at hq
  obtain ⟨qk, -, hqk⟩ := wsL_at (D := D) (E := E) (hp.ref (a := v) (by simp) (by omega) (by omega))
  rw [cellE_obj hv c3] at hqk
  show W p l e R s m args below meth c H locs cells slots Q (F0 m pc la (cV E (.ref v) :: .int i :: cV E (.ref a) :: st.map (cV E)))
  rw [cV_ref (by omega) (by omega), cV_ref (by omega) (by omega)]
  have hK := hF.2.2.2.2.2.2.1.1
  obtain ⟨r', hr', cellV, g1, g2, g3, -⟩ := hP qk _ hqk
  have hcls := (hK.1 _ _ (clT_get c2 c3)).2
  obtain ⟨kA, comp, k1, k2, k3, -⟩ := (hK.2 _ _ (tys_q h1 h2)).2
  have hcomp : comp = D.1.1 (cmpT (a % 32) - 1) := Option.some.inj (k3.symm.trans (by rw [c1]; exact hcls.1))
  subst hcomp
  obtain ⟨kC, hkC, -⟩ := hcls.2
  refine W.aast hF.1 hF.2.1 (hP q _ hq) (fun q h => by cases h) (fun h => by cases h) k1 k2 rfl hkC ⟨fun h => (inR_vp hi) (Or.inl h), by show _ < (arrV _ _ _).slots.size; rw [arrV_size]; exact inR_ix hi⟩ g1 (fun q h => by rw [g3] at h; cases h) (by rw [g2]; exact hkC) (by rw [g2]; exact va_assign hcls) rfl rfl hd fun H1 e1 z1 o1 => K H1 _ list_loc ?_ z1 o1
  rw [cellE_q h1, hn]
  show H1[adr E a]? = some (vp_cell _ _)
  rw [e1, vp_cell_q, vp_cell_q, arrV_store]
  congr 2
  funext j
  show _ = va_rf (oA E (up2 (mR M) a i.toNatClampNeg v a j))
  rw [up2_eq]
  by_cases hj : j = i.toNatClampNeg
  · subst hj
    rw [if_pos rfl, oA_some (by intro h; rw [h] at hv; omega) (by omega)]
    simp [updV, va_rf]
  · simp [updV, hj]
theorem go_alen {a n : Nat} (h1 : 11 ≤ a % 32) (h2 : a % 32 ≤ 17) (hn : lnA a = n) (hd : decode Γ.2.1 pc = .ok (.arraylength, 1)) (kk : Go sR Γ fin f (pc + 1) ls (.int (Int32.ofNat n) :: st) M) : Go sR Γ fin f pc ls (.ref a :: st) M := by
  refine go_rd (fun _ v hv => by rcases List.mem_cons.mp hv with e | e; exact Or.inr (e ▸ trivial); exact Or.inl (List.mem_append_right _ (List.mem_cons_of_mem _ e))) (fun {D E M0 A z p l e R s m args below meth c Q H locs cells slots la} hF hV hp k => ?_) kk
  obtain ⟨q, -, hq⟩ := wsL_at (D := D) (E := E) (hp.ref (a := a) (by simp) (by omega) (by omega))
  show W p l e R s m args below meth c H locs cells slots Q (F0 m pc la (cV E (.ref a) :: st.map (cV E)))
  rw [cV_ref (by omega) (by omega)]
  have hK := hF.2.2.2.2.2.2.1.1
  rcases (show a % 32 = 11 ∨ a % 32 = 12 ∨ a % 32 = 13 ∨ 14 ≤ a % 32 by omega) with h | h | h | h
  · rw [cellE_i h] at hq; exact va_alen hF.1 hF.2.1 hK hV.2.1 q 0 hq rfl (by rw [← hn]) hd k
  · rw [cellE_l h] at hq; exact va_alen hF.1 hF.2.1 hK hV.2.1 q 1 hq rfl (by rw [← hn]) hd k
  · rw [cellE_z h] at hq; exact va_alen hF.1 hF.2.1 hK hV.2.1 q 2 hq rfl (by rw [← hn]) hd k
  · rw [cellE_q h] at hq; exact va_alen hF.1 hF.2.1 hK hV.2.1 q (a % 32 - 11) hq (tys_q h h2) (by rw [← hn]) hd k
end RRULES
