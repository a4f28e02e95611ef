/-! COPIES; WHAT WAS THERE BEFORE: statics, String constants, constants of the pool -/
section ORULES
variable {β : Type} {sR : Nat → Nat → Nat} {Γ : GM} {fin : β → Option Value × Mem} {f : Option β} {pc : Nat} {ls st : List Value} {M : Mem}
theorem inR_0 {z : Int32} (h : 0 ≤ z.toInt) : ¬ z < 0 := by
  intro q
  have := Int32.lt_iff_toInt_lt.mp q
  simp at this
  omega
theorem cl_toInt {z : Int32} (h : 0 ≤ z.toInt) : z.toInt = (z.toNatClampNeg : Int) := by
  show z.toInt = ((z.toInt.toNat : Nat) : Int)
  omega
abbrev cpOK (sp dp n : Int32) (la lb : Nat) : Prop := 0 ≤ sp.toInt ∧ 0 ≤ dp.toInt ∧ 0 ≤ n.toInt ∧ sp.toInt + n.toInt ≤ la ∧ dp.toInt + n.toInt ≤ lb
theorem sub5 {a b c d e : Value} {st : List Value} : ∀ v, v ∈ st → v ∈ a :: b :: c :: d :: e :: st := fun _ h => List.mem_cons_of_mem _ (List.mem_cons_of_mem _ (sub3 _ h))
theorem cat_le (h : (st.map fun v => v.category).sum ≤ 8) (E : EN) : ((st.map (cV E)).map fun v => v.category).sum ≤ 8 := by
  rw [List.map_map]
  have e : ((fun v : Value => v.category) ∘ cV E) = fun v => v.category := funext fun v => cV_cat E v
  rw [e]; exact h
theorem go_copyI {a b idx la0 lb0 : Nat} {sp dp n : Int32} {g : Mem → Option β} (ha : a % 32 = 11) (hb : b % 32 = 11) (hla : lnA a = la0) (hlb : lnA b = lb0) (hl : Cond.methodLink Γ.1.cls idx arraycopyName ∈ gT) (hnat : Cond.native arraycopyName ∈ gT) (hstat : Cond.static arraycopyName ∈ gT) (hini : Cond.initialized "java/lang/System" ∈ gT) (hdp : 1 ≤ Γ.2.2.2.2) (hst : (st.map fun v => v.category).sum ≤ 8) (hd : decode Γ.2.1 pc = .ok (.invokestatic idx, 3))
    (kk : cpOK sp dp n la0 lb0 → ∀ M1, Go sR Γ fin (g M1) (pc + 3) ls st M1) : Go sR Γ fin (gd (cpOK sp dp n la0 lb0) (lt (cpyI M a sp.toNatClampNeg b dp.toNatClampNeg n.toNatClampNeg) g)) pc ls (.int n :: .int dp :: .ref b :: .int sp :: .ref a :: st) M := by
  refine go_gd fun hi => go_wr (M1 := cpyI M a sp.toNatClampNeg b dp.toNatClampNeg n.toNatClampNeg) (a := b) (by omega) (by omega) (by simp) sub5 ⟨rfl, rfl, rfl⟩ (fun c hc => by funext j; show (if c = b ∧ _ then _ else mI M c j) = _; rw [if_neg (fun q => hc q.1)]) (fun b hb => rfl) (fun b hb => rfl) (fun hp => ⟨hp.1, hp.2.1⟩) (fun {D E M0 A z p l e R s m args below meth c Q H locs cells slots la} hF hla1 hP hp hbm K => ?_) (kk hi _)
  obtain ⟨i1, i2, i3, i4, i5⟩ := hi
  have ham := hp.ref (a := a) (by simp) (by omega) (by omega)
  obtain ⟨qa, -, hqa⟩ := wsL_at (D := D) (E := E) ham
  obtain ⟨qb, -, hqb⟩ := wsL_at (D := D) (E := E) hbm
  rw [cellE_i ha, hla] at hqa
  rw [cellE_i hb, hlb] at hqb
  obtain ⟨g1, g2, g3, g4, g5, g6, g7, g8, g9, g10, g11, g12, g13⟩ := id hF
  have e1 := cl_toInt i1
  have e2 := cl_toInt i2
  have e3 := cl_toInt i3
  show W p l e R s m args below meth c H locs cells slots Q (F0 m pc la (.int n :: .int dp :: cV E (.ref b) :: .int sp :: cV E (.ref a) :: st.map (cV E)))
  rw [cV_ref (by omega) (by omega), cV_ref (by omega) (by omega)]
  have hcat := cat_le hst E
  have hnfw : nativeFrameWords "java/lang/System" "arraycopy" 5 ≤ 7 := by decide +kernel
  intro T hT X
  have hc0 : H[adr E a]? = some (vp_cell (D.2 0) (la0, .inl (mI M a))) := hP qa _ hqa
  have hc1 : H[adr E b]? = some (vp_cell (D.2 0) (lb0, .inl (mI M b))) := hP qb _ hqb
  obtain ⟨-, k0, hk0, cm0, hkk0⟩ := (g7.1.2 0 _ rfl).1 la0 (fun j => .int (mI M a j))
  obtain ⟨-, k1, hk1, cm1, hkk1⟩ := (g7.1.2 0 _ rfl).1 lb0 (fun j => .int (mI M b j))
  obtain ⟨vm', X', step⟩ := X.arraycopy g1 g4 (g6 _ hl) (g6 _ hnat) (g6 _ hstat) (g6 _ hini) (src := adr E a) (dst := adr E b) (cs := vp_cell (D.2 0) (la0, .inl (mI M a))) (cd := vp_cell (D.2 0) (lb0, .inl (mI M b))) (srcPos := sp) (destPos := dp) (n := n) (by rw [hT]; exact hc0) (by rw [hT]; exact hc1)
    (fun _ h => by cases h) (fun _ h => by cases h) (fun h => by cases h) (fun h => by cases h) hk0 hk1 hkk0 hkk1 (by simp [refKind]) (inR_0 i1) (inR_0 i2) (inR_0 i3)
    (by show ¬ _ > ((arrV (D.2 0) la0 (fun j => .int (mI M a j))).slots.size : Int); rw [arrV_size]; omega)
    (by show ¬ _ > ((arrV (D.2 0) lb0 (fun j => .int (mI M b j))).slots.size : Int); rw [arrV_size]; omega)
    (fun vm₁ _ i hi => by
      have e : (vp_cell (D.2 0) (la0, .inl (mI M a))).slots.getD (sp.toNatClampNeg + i) .null = .int (mI M a (sp.toNatClampNeg + i)) := by
        show (arrV (D.2 0) la0 (fun j => .int (mI M a j))).slots.getD _ _ = _
        rw [Array.getD_eq_getD_getElem?, arrV_read _ _ (by omega)]
        rfl
      rw [e]
      exact ⟨rfl, trivial⟩)
    (g := F0 m pc la (.int n :: .int dp :: .ref (adr E b) :: .int sp :: .ref (adr E a) :: st.map (cV E))) rfl (by rw [g3]; exact hla1) (rest := st.map (cV E)) rfl (by rw [g2]; exact hd) (by omega) (by show 2 * 0 + _ + _ ≤ _; omega)
  have ec : copied (vp_cell (D.2 0) (la0, .inl (mI M a))) (vp_cell (D.2 0) (lb0, .inl (mI M b))) sp dp n = vp_cell (D.2 0) (lb0, .inl (va_cpy (mI M a) (mI M b) sp.toNatClampNeg dp.toNatClampNeg n.toNatClampNeg)) := va_copied (fun z => .int z) (D.2 0) (D.2 0) (mI M a) (mI M b) (by omega)
  rw [ec] at X' step
  have hl2 : adr E b < H.size := (Array.getElem?_eq_some_iff.mp hc1).1
  obtain ⟨t, a1, b1⟩ := K (H.setIfInBounds (adr E b) (vp_cell (D.2 0) (lb0, .inl (va_cpy (mI M a) (mI M b) sp.toNatClampNeg dp.toNatClampNeg n.toNatClampNeg)))) _ (fun q hq => by
      obtain ⟨w, -, hw⟩ := List.mem_map.mp hq
      rw [← hw]) (by
      rw [cellE_i hb, hlb]
      show (H.setIfInBounds (adr E b) _)[adr E b]? = some (vp_cell _ _)
      rw [Array.getElem?_setIfInBounds, if_pos rfl, if_pos hl2]
      congr 4
      funext j
      show va_cpy (mI M a) (mI M b) sp.toNatClampNeg dp.toNatClampNeg n.toNatClampNeg j = if b = b ∧ _ then _ else _
      unfold va_cpy
      simp) (by simp) (fun q hq => by simp [Array.getElem?_setIfInBounds, Ne.symm hq]) _ (by rw [← hT]; rfl) X'
  exact ⟨t, step t a1, b1⟩
theorem go_copyL {a b idx la0 lb0 : Nat} {sp dp n : Int32} {g : Mem → Option β} (ha : a % 32 = 12) (hb : b % 32 = 12) (hla : lnA a = la0) (hlb : lnA b = lb0) (hl : Cond.methodLink Γ.1.cls idx arraycopyName ∈ gT) (hnat : Cond.native arraycopyName ∈ gT) (hstat : Cond.static arraycopyName ∈ gT) (hini : Cond.initialized "java/lang/System" ∈ gT) (hdp : 1 ≤ Γ.2.2.2.2) (hst : (st.map fun v => v.category).sum ≤ 8) (hd : decode Γ.2.1 pc = .ok (.invokestatic idx, 3))
    (kk : cpOK sp dp n la0 lb0 → ∀ M1, Go sR Γ fin (g M1) (pc + 3) ls st M1) : Go sR Γ fin (gd (cpOK sp dp n la0 lb0) (lt (cpyL M a sp.toNatClampNeg b dp.toNatClampNeg n.toNatClampNeg) g)) pc ls (.int n :: .int dp :: .ref b :: .int sp :: .ref a :: st) M := by
  refine go_gd fun hi => go_wr (M1 := cpyL M a sp.toNatClampNeg b dp.toNatClampNeg n.toNatClampNeg) (a := b) (by omega) (by omega) (by simp) sub5 ⟨rfl, rfl, rfl⟩ (fun b hb => rfl) (fun c hc => by funext j; show (if c = b ∧ _ then _ else mL M c j) = _; rw [if_neg (fun q => hc q.1)]) (fun b hb => rfl) (fun hp => ⟨hp.1, hp.2.1⟩) (fun {D E M0 A z p l e R s m args below meth c Q H locs cells slots la} hF hla1 hP hp hbm K => ?_) (kk hi _)
  obtain ⟨i1, i2, i3, i4, i5⟩ := hi
  have ham := hp.ref (a := a) (by simp) (by omega) (by omega)
  obtain ⟨qa, -, hqa⟩ := wsL_at (D := D) (E := E) ham
  obtain ⟨qb, -, hqb⟩ := wsL_at (D := D) (E := E) hbm
  rw [cellE_l ha, hla] at hqa
  rw [cellE_l hb, hlb] at hqb
  obtain ⟨g1, g2, g3, g4, g5, g6, g7, g8, g9, g10, g11, g12, g13⟩ := id hF
  have e1 := cl_toInt i1
  have e2 := cl_toInt i2
  have e3 := cl_toInt i3
  show W p l e R s m args below meth c H locs cells slots Q (F0 m pc la (.int n :: .int dp :: cV E (.ref b) :: .int sp :: cV E (.ref a) :: st.map (cV E)))
  rw [cV_ref (by omega) (by omega), cV_ref (by omega) (by omega)]
  have hcat := cat_le hst E
  have hnfw : nativeFrameWords "java/lang/System" "arraycopy" 5 ≤ 7 := by decide +kernel
  intro T hT X
  have hc0 : H[adr E a]? = some (vp_cell (D.2 1) (la0, .inr (.inl (mL M a)))) := hP qa _ hqa
  have hc1 : H[adr E b]? = some (vp_cell (D.2 1) (lb0, .inr (.inl (mL M b)))) := hP qb _ hqb
  obtain ⟨-, k0, hk0, cm0, hkk0⟩ := (g7.1.2 1 _ rfl).1 la0 (fun j => .long (mL M a j))
  obtain ⟨-, k1, hk1, cm1, hkk1⟩ := (g7.1.2 1 _ rfl).1 lb0 (fun j => .long (mL M b j))
  obtain ⟨vm', X', step⟩ := X.arraycopy g1 g4 (g6 _ hl) (g6 _ hnat) (g6 _ hstat) (g6 _ hini) (src := adr E a) (dst := adr E b) (cs := vp_cell (D.2 1) (la0, .inr (.inl (mL M a)))) (cd := vp_cell (D.2 1) (lb0, .inr (.inl (mL M b)))) (srcPos := sp) (destPos := dp) (n := n) (by rw [hT]; exact hc0) (by rw [hT]; exact hc1)
    (fun _ h => by cases h) (fun _ h => by cases h) (fun h => by cases h) (fun h => by cases h) hk0 hk1 hkk0 hkk1 (by simp [refKind]) (inR_0 i1) (inR_0 i2) (inR_0 i3)
    (by show ¬ _ > ((arrV (D.2 1) la0 (fun j => .long (mL M a j))).slots.size : Int); rw [arrV_size]; omega)
    (by show ¬ _ > ((arrV (D.2 1) lb0 (fun j => .long (mL M b j))).slots.size : Int); rw [arrV_size]; omega)
    (fun vm₁ _ i hi => by
      have e : (vp_cell (D.2 1) (la0, .inr (.inl (mL M a)))).slots.getD (sp.toNatClampNeg + i) .null = .long (mL M a (sp.toNatClampNeg + i)) := by
        show (arrV (D.2 1) la0 (fun j => .long (mL M a j))).slots.getD _ _ = _
        rw [Array.getD_eq_getD_getElem?, arrV_read _ _ (by omega)]
        rfl
      rw [e]
      exact ⟨rfl, trivial⟩)
    (g := F0 m pc la (.int n :: .int dp :: .ref (adr E b) :: .int sp :: .ref (adr E a) :: st.map (cV E))) rfl (by rw [g3]; exact hla1) (rest := st.map (cV E)) rfl (by rw [g2]; exact hd) (by omega) (by show 2 * 0 + _ + _ ≤ _; omega)
  have ec : copied (vp_cell (D.2 1) (la0, .inr (.inl (mL M a)))) (vp_cell (D.2 1) (lb0, .inr (.inl (mL M b)))) sp dp n = vp_cell (D.2 1) (lb0, .inr (.inl (va_cpy (mL M a) (mL M b) sp.toNatClampNeg dp.toNatClampNeg n.toNatClampNeg))) := va_copied (fun z => .long z) (D.2 1) (D.2 1) (mL M a) (mL M b) (by omega)
  rw [ec] at X' step
  have hl2 : adr E b < H.size := (Array.getElem?_eq_some_iff.mp hc1).1
  obtain ⟨t, a1, b1⟩ := K (H.setIfInBounds (adr E b) (vp_cell (D.2 1) (lb0, .inr (.inl (va_cpy (mL M a) (mL M b) sp.toNatClampNeg dp.toNatClampNeg n.toNatClampNeg))))) _ (fun q hq => by
      obtain ⟨w, -, hw⟩ := List.mem_map.mp hq
      rw [← hw]) (by
      rw [cellE_l hb, hlb]
      show (H.setIfInBounds (adr E b) _)[adr E b]? = some (vp_cell _ _)
      rw [Array.getElem?_setIfInBounds, if_pos rfl, if_pos hl2]
      congr 5
      funext j
      show va_cpy (mL M a) (mL M b) sp.toNatClampNeg dp.toNatClampNeg n.toNatClampNeg j = if b = b ∧ _ then _ else _
      unfold va_cpy
      simp) (by simp) (fun q hq => by simp [Array.getElem?_setIfInBounds, Ne.symm hq]) _ (by rw [← hT]; rfl) X'
  exact ⟨t, step t a1, b1⟩
theorem top1 {a v : Value} {ls st : List Value} (h : ∀ M, lvV M a) : pOK sR M (ls ++ st) → ∀ v, v ∈ a :: st → v ∈ ls ++ st ∨ lvV M v := fun _ v hv => by
  rcases List.mem_cons.mp hv with e | e
  · exact Or.inr (e ▸ h M)
  · exact Or.inl (List.mem_append_right _ e)
theorem lv18 {a : Nat} (h : 18 ≤ a % 32) : ∀ M, lvV M (.ref a) := fun _ => Or.inr (Or.inl h)
theorem go_above {idx : Nat} (hl : Cond.fieldLink Γ.1.cls idx RX8 "ABOVE" "[I" ∈ gT) (hd : decode Γ.2.1 pc = .ok (.getstatic idx, 3)) (kk : Go sR Γ fin f (pc + 3) ls (.ref 242 :: st) M) : Go sR Γ fin f pc ls st M := by
  refine go_rd (top1 (v := .null) (lv18 (by decide))) (fun {D E M0 A z p l e R s m args below meth c Q H locs cells slots la} hF hV hp k => ?_) kk
  obtain ⟨g1, g2, g3, g4, g5, g6, ⟨e1, e2, e3⟩, g8, g9, g10, g11⟩ := id hF
  exact va_gets g1 g2 (e2.narrow g10) hV.2.2.2.1 g4 (g6 _ hl) (fun _ h => h) hd k
theorem go_aboveN {idx : Nat} {host : String} (hl : Cond.fieldLinkNest Γ.1.cls idx RX8 "ABOVE" "[I" host ∈ nW) (hd : decode Γ.2.1 pc = .ok (.getstatic idx, 3)) (kk : Go sR Γ fin f (pc + 3) ls (.ref 242 :: st) M) : Go sR Γ fin f pc ls st M := by
  refine go_rd (top1 (v := .null) (lv18 (by decide))) (fun {D E M0 A z p l e R s m args below meth c Q H locs cells slots la} hF hV hp k => ?_) kk
  obtain ⟨g1, g2, g3, g4, g5, g6, ⟨e1, e2, e3, e4, e5, e6, e7, e8, e9⟩, g8, g9, g10, g11⟩ := id hF
  exact va_getsN g1 g2 (e2.narrow g10) hV.2.2.2.1 g4 ((e8 _ hl).use rfl) (fun _ h => h) hd k
theorem go_iald_above {i : Int32} (hd : decode Γ.2.1 pc = .ok (.iaload, 1)) (kk : inR i 7 → Go sR Γ fin f (pc + 1) ls (.int (aBv i.toNatClampNeg) :: st) M) : Go sR Γ fin (gd (inR i 7) f) pc ls (.int i :: .ref 242 :: st) M := by
  refine go_gd fun hi => go_rd (fun _ v hv => by rcases List.mem_cons.mp hv with e | e; exact Or.inr (e ▸ trivial); exact Or.inl (mst e)) (fun {D E M0 A z p l e R s m args below meth c Q H locs cells slots la} hF hV hp k => ?_) (kk hi)
  obtain ⟨g1, g2, g3, g4, g5, g6, ⟨e1, e2, e3, e4⟩, g8, g9, g10, g11⟩ := id hF
  obtain ⟨cell, h1, h2, h3, h4, h5, h6, h7⟩ := (e3.narrow g10).kept hV.2.2.2.1.2.1
  show W p l e R s m args below meth c H locs cells slots Q (F0 m pc la (.int i :: cV E (.ref 242) :: st.map (cV E)))
  rw [cV_ref (by decide) (by decide)]
  have ea : adr E 242 = E.2.2.2.1 := rfl
  rw [ea]
  exact W.iald (v := .int (aBv i.toNatClampNeg)) g1 g2 h1 h2 h3 (fun h => by
    rcases h with h | h
    · exact inR_vp hi (Or.inl h)
    · exact inR_vp hi (Or.inr (by omega))) (h6 _ (inR_ix hi)) rfl rfl hd k
theorem go_compact {idx : Nat} (hl : Cond.fieldLink Γ.1.cls idx RJ0 "COMPACT_STRINGS" "Z" ∈ gT) (hd : decode Γ.2.1 pc = .ok (.getstatic idx, 3)) (kk : Go sR Γ fin f (pc + 3) ls (.int 1 :: st) M) : Go sR Γ fin f pc ls st M := by
  refine go_rd (top1 (a := .int 1) (v := .null) (fun _ => trivial)) (fun {D E M0 A z p l e R s m args below meth c Q H locs cells slots la} hF hV hp k => ?_) kk
  obtain ⟨g1, g2, g3, g4, g5, g6, ⟨e1, e2, e3, e4, e5⟩, g8, g9, g10, g11⟩ := id hF
  exact va_gets g1 g2 (e4.narrow g10) hV.2.2.2.1 g4 (g6 _ hl) (fun _ h => h) hd k
theorem go_sioobe {idx : Nat} (hl : Cond.fieldLink Γ.1.cls idx RPre "SIOOBE_FORMATTER" RBiF ∈ gT) (hd : decode Γ.2.1 pc = .ok (.getstatic idx, 3)) (kk : Go sR Γ fin f (pc + 3) ls (.float 0 :: st) M) : Go sR Γ fin f pc ls st M := by
  refine go_rd (top1 (a := .float 0) (v := .null) (fun _ => trivial)) (fun {D E M0 A z p l e R s m args below meth c Q H locs cells slots la} hF hV hp k => ?_) kk
  obtain ⟨g1, g2, g3, g4, g5, g6, ⟨e1, e2, e3, e4, e5, e6⟩, g8, g9, g10, g11⟩ := id hF
  exact va_gets g1 g2 (e5.narrow g10) hV.2.2.2.1 g4 (g6 _ hl) (fun _ h => h) hd k
theorem go_ldc {idx : Nat} {v : Int32} (hl : Cond.constant Γ.1.cls idx v ∈ gT) (hd : decode Γ.2.1 pc = .ok (.ldc idx, 2)) (kk : Go sR Γ fin f (pc + 2) ls (.int v :: st) M) : Go sR Γ fin f pc ls st M := by
  refine go_rd (top1 (a := .int v) (v := .null) (fun _ => trivial)) (fun {D E M0 A z p l e R s m args below meth c Q H locs cells slots la} hF hV hp k => ?_) kk
  obtain ⟨g1, g2, g3, g4, g5, g6, g7⟩ := id hF
  exact lv_ldc g1 g2 g4 (g6 _ hl) hd k
theorem go_ldc2 {idx : Nat} {v : Int64} (hl : Cond.constantLong Γ.1.cls idx v ∈ gT) (hd : decode Γ.2.1 pc = .ok (.ldc2_w idx, 3)) (kk : Go sR Γ fin f (pc + 3) ls (.long v :: st) M) : Go sR Γ fin f pc ls st M := by
  refine go_rd (top1 (a := .long v) (v := .null) (fun _ => trivial)) (fun {D E M0 A z p l e R s m args below meth c Q H locs cells slots la} hF hV hp k => ?_) kk
  obtain ⟨g1, g2, g3, g4, g5, g6, g7⟩ := id hF
  exact lv_ldc2 g1 g2 g4 (g6 _ hl) hd k
/-- String constants: i's id -/
def sId (i : Nat) : Nat := i * 131072 + 19
theorem go_ldcS (i : Nat) (hi : i < 6) (ho : Γ.1.cls = RX6) (hd : decode Γ.2.1 pc = .ok (.ldc (sIx i), 2)) (kk : Go sR Γ fin f (pc + 2) ls (.ref (sId i) :: st) M) : Go sR Γ fin f pc ls st M := by
  refine go_rd (top1 (v := .null) (lv18 (by unfold sId; omega))) (fun {D E M0 A z p l e R s m args below meth c Q H locs cells slots la} hF hV hp k => ?_) kk
  obtain ⟨g1, g2, g3, g4, g5, g6, ⟨e1, e2, e3, e4, e5, e6, e7, e8⟩, g8, g9, g10, g11⟩ := id hF
  have k2 : W p l e R s m args below meth c H locs cells slots Q (F0 m (pc + 2) la (cV E (.ref (sId i)) :: st.map (cV E))) := k
  rw [cV_ref (by unfold sId; omega) (by unfold sId; omega)] at k2
  have ea : adr E (sId i) = E.2.1 i := by
    unfold adr
    rw [if_neg (by unfold sId; omega), if_pos (by unfold sId; omega), show sId i / 131072 = i by unfold sId; omega]
  rw [ea] at k2
  exact va_ldcS g1 g2 (by rw [← ho]; exact g4) (e7 i hi) hd k2
theorem adr19 {E : EN} {a : Nat} (h : a % 32 = 19) : adr E a = E.2.1 (a / 131072) := by unfold adr; rw [if_neg (by omega), if_pos h]
theorem adr20 {E : EN} {a : Nat} (h : a % 32 = 20) : adr E a = E.2.2.1 (a / 131072) := by unfold adr; rw [if_neg (by omega), if_neg (by omega), if_pos h]
theorem go_sval {a idx : Nat} (ha : a % 131072 = 19) (hi : a / 131072 < 6) (hl : Cond.fieldLink Γ.1.cls idx RJ0 "value" "[B" ∈ gT) (hd : decode Γ.2.1 pc = .ok (.getfield idx, 3)) (kk : Go sR Γ fin f (pc + 3) ls (.ref (a + 1) :: st) M) : Go sR Γ fin f pc ls (.ref a :: st) M := by
  refine go_rd (fun _ v hv => by rcases List.mem_cons.mp hv with e | e; exact Or.inr (e ▸ lv18 (by omega) M); exact Or.inl (List.mem_append_right _ (List.mem_cons_of_mem _ e))) (fun {D E M0 A z p l e R s m args below meth c Q H locs cells slots la} hF hV hp k => ?_) kk
  obtain ⟨g1, g2, g3, g4, g5, g6, ⟨e1, e2, e3, e4, e5, e6, e7, e8⟩, g8, g9, g10, g11⟩ := id hF
  have k2 : W p l e R s m args below meth c H locs cells slots Q (F0 m (pc + 3) la (cV E (.ref (a + 1)) :: st.map (cV E))) := k
  rw [cV_ref (by omega) (by omega), adr20 (by omega), show (a + 1) / 131072 = a / 131072 by omega] at k2
  show W p l e R s m args below meth c H locs cells slots Q (F0 m pc la (cV E (.ref a) :: st.map (cV E)))
  rw [cV_ref (by omega) (by omega), adr19 (by omega)]
  exact vk_getf g1 g2 ((e6.narrow g10).1 _ hi).2.2.1 hV.2.2.2.1 g4 (g6 _ hl) (fun _ h => h) hd k2
theorem go_scoder {a idx : Nat} (ha : a % 131072 = 19) (hi : a / 131072 < 6) (hl : Cond.fieldLink Γ.1.cls idx RJ0 "coder" "B" ∈ gT) (hd : decode Γ.2.1 pc = .ok (.getfield idx, 3)) (kk : Go sR Γ fin f (pc + 3) ls (.int 0 :: st) M) : Go sR Γ fin f pc ls (.ref a :: st) M := by
  refine go_rd (fun _ v hv => by rcases List.mem_cons.mp hv with e | e; exact Or.inr (e ▸ trivial); exact Or.inl (List.mem_append_right _ (List.mem_cons_of_mem _ e))) (fun {D E M0 A z p l e R s m args below meth c Q H locs cells slots la} hF hV hp k => ?_) kk
  obtain ⟨g1, g2, g3, g4, g5, g6, ⟨e1, e2, e3, e4, e5, e6, e7, e8⟩, g8, g9, g10, g11⟩ := id hF
  show W p l e R s m args below meth c H locs cells slots Q (F0 m pc la (cV E (.ref a) :: st.map (cV E)))
  rw [cV_ref (by omega) (by omega), adr19 (by omega)]
  exact vk_getf g1 g2 ((e6.narrow g10).1 _ hi).2.1 hV.2.2.2.1 g4 (g6 _ hl) (fun _ h => h) hd k
def sLen (i : Nat) : Nat := sLn.getD i 0
def sByt (i j : Nat) : Int32 := (sBy.getD i []).getD j 0
theorem go_sbald {a : Nat} {i : Int32} (ha : a % 131072 = 20) (hi : a / 131072 < 6) (hd : decode Γ.2.1 pc = .ok (.baload, 1)) (kk : inR i (sLen (a / 131072)) → Go sR Γ fin f (pc + 1) ls (.int (sByt (a / 131072) i.toNatClampNeg) :: st) M) : Go sR Γ fin (gd (inR i (sLen (a / 131072))) f) pc ls (.int i :: .ref a :: st) M := by
  refine go_gd fun hi2 => go_rd (fun _ v hv => by rcases List.mem_cons.mp hv with e | e; exact Or.inr (e ▸ trivial); exact Or.inl (mst e)) (fun {D E M0 A z p l e R s m args below meth c Q H locs cells slots la} hF hV hp k => ?_) (kk hi2)
  obtain ⟨g1, g2, g3, g4, g5, g6, ⟨e1, e2, e3, e4, e5, e6, e7, e8⟩, g8, g9, g10, g11⟩ := id hF
  obtain ⟨cell, h1, h2, h3, h4, h5, h6, h7⟩ := ((e6.narrow g10).1 _ hi).2.2.2.kept hV.2.2.2.1.2.1
  show W p l e R s m args below meth c H locs cells slots Q (F0 m pc la (.int i :: cV E (.ref a) :: st.map (cV E)))
  rw [cV_ref (by omega) (by omega), adr20 (by omega)]
  exact W.bald (v := .int (sByt (a / 131072) i.toNatClampNeg)) g1 g2 h1 h2 h3 (fun h => by
    rcases h with h | h
    · exact inR_vp hi2 (Or.inl h)
    · exact inR_vp hi2 (Or.inr (Nat.le_trans h4 h))) (h6 _ (inR_ix hi2)) rfl rfl hd k
theorem go_salen {a : Nat} (ha : a % 131072 = 20) (hi : a / 131072 < 6) (hd : decode Γ.2.1 pc = .ok (.arraylength, 1)) (kk : Go sR Γ fin f (pc + 1) ls (.int (Int32.ofNat (sLen (a / 131072))) :: st) M) : Go sR Γ fin f pc ls (.ref a :: st) M := by
  refine go_rd (fun _ v hv => by rcases List.mem_cons.mp hv with e | e; exact Or.inr (e ▸ trivial); exact Or.inl (List.mem_append_right _ (List.mem_cons_of_mem _ e))) (fun {D E M0 A z p l e R s m args below meth c Q H locs cells slots la} hF hV hp k => ?_) kk
  obtain ⟨g1, g2, g3, g4, g5, g6, ⟨e1, e2, e3, e4, e5, e6, e7, e8⟩, g8, g9, g10, g11⟩ := id hF
  obtain ⟨cell, h1, h2, h3, h4, h5, h6, h7⟩ := ((e6.narrow g10).1 _ hi).2.2.2.kept hV.2.2.2.1.2.1
  show W p l e R s m args below meth c H locs cells slots Q (F0 m pc la (cV E (.ref a) :: st.map (cV E)))
  rw [cV_ref (by omega) (by omega), adr20 (by omega)]
  exact W.alen (n := Int32.ofNat (sLen (a / 131072))) g1 g2 h1 h2 h5 rfl rfl hd k
/-! Math's three -/
def mxI (x y : Int32) : Int32 := if x < y then y else x
def mnI (x y : Int32) : Int32 := if y < x then y else x
def abI (x : Int32) : Int32 := if 0 ≤ x then x else 0 - x
/-- the stack alone, with the room at hand -/
theorem go_mth {st' : List Value} {v : Int32} (hsub : ∀ v, v ∈ st' → v ∈ st)
    (hw : ∀ {D : DN} {E : EN} {M0 : Mem} {A : Nat → Prop} {z : Option Value × Mem} {p : Program} {l : Launch} {e : Env} {R : Room} {s : State} {m : MethodId} {args : Array Value} {below : List Frame} {meth : Method} {c : Code} {Q : State → Prop} {H : Heap} {locs : List Loc} {cells slots : Nat} {la : Array Slot},
      CxF Γ D E M0 A z p l e R s m args below meth c Q → la.size = Γ.2.2.1 → cells ≤ R.cells → slots ≤ R.slots →
      W p l e R s m args below meth c H locs cells slots Q (F0 m (pc + 3) la (.int v :: st'.map (cV E))) → W p l e R s m args below meth c H locs cells slots Q (F0 m pc la (st.map (cV E))))
    (kk : Go sR Γ fin f (pc + 3) ls (.int v :: st') M) : Go sR Γ fin f pc ls st M := by
  intro x hx hp
  obtain ⟨k1, k2⟩ := kk x hx (hp.sub fun w hw => by
    rcases List.mem_append.mp hw with h | h
    · exact Or.inl (List.mem_append_left _ h)
    · rcases List.mem_cons.mp h with h | h
      · exact Or.inr (by subst h; trivial)
      · exact Or.inl (List.mem_append_right _ (hsub w h)))
  refine ⟨k1, fun D E M0 A p l e R s m args below meth c Q H locs cells slots la hF hV => ?_⟩
  obtain ⟨v1, v2, v3, v4, v5, v6, v7⟩ := id hV
  have hr := hF.2.2.2.2.2.2.2.2.2.2.2.2
  have hz1 : mZ M ≤ mZ (fin x).2 := k1.1.1
  have hz2 : mW M ≤ mW (fin x).2 := k1.1.2.1
  exact hw hF v5.1 (by omega) (by omega) (k2 D E M0 A p l e R s m args below meth c Q H locs cells slots la hF hV)
theorem go_max {x y : Int32} {idx : Nat} (hl : Cond.methodLink Γ.1.cls idx Lib.Math.max.name ∈ gT) (hs : Cond.static Lib.Math.max.name ∈ gT) (hi : Cond.initialized "java/lang/Math" ∈ gT) (hc : Cond.code Lib.Math.max.name Lib.Math.max.code 2 (some .int) ∈ gT) (hdp : 1 ≤ Γ.2.2.2.2) (hst : (st.map fun v => v.category).sum ≤ 8) (hd : decode Γ.2.1 pc = .ok (.invokestatic idx, 3)) (kk : Go sR Γ fin f (pc + 3) ls (.int (mxI x y) :: st) M) : Go sR Γ fin f pc ls (.int y :: .int x :: st) M :=
  go_mth mm2 (fun {D E M0 A z p l e R s m args below meth c Q H locs cells slots la} hF hla h1 h2 k => by
    obtain ⟨g1, g2, g3, g4, g5, g6, g7, g8, g9, g10, g11, g12, g13⟩ := id hF
    have hcat := cat_le hst E
    exact va_mmax g1 g2 (by rw [g3, hla]) g4 (g6 _ hl) (g6 _ hs) (g6 _ hi) (g6 _ hc) (by omega) (by omega) h1 h2 hd k) kk
theorem go_min {x y : Int32} {idx : Nat} (hl : Cond.methodLink Γ.1.cls idx Lib.Math.min.name ∈ gT) (hs : Cond.static Lib.Math.min.name ∈ gT) (hi : Cond.initialized "java/lang/Math" ∈ gT) (hc : Cond.code Lib.Math.min.name Lib.Math.min.code 2 (some .int) ∈ gT) (hdp : 1 ≤ Γ.2.2.2.2) (hst : (st.map fun v => v.category).sum ≤ 8) (hd : decode Γ.2.1 pc = .ok (.invokestatic idx, 3)) (kk : Go sR Γ fin f (pc + 3) ls (.int (mnI x y) :: st) M) : Go sR Γ fin f pc ls (.int y :: .int x :: st) M :=
  go_mth mm2 (fun {D E M0 A z p l e R s m args below meth c Q H locs cells slots la} hF hla h1 h2 k => by
    obtain ⟨g1, g2, g3, g4, g5, g6, g7, g8, g9, g10, g11, g12, g13⟩ := id hF
    have hcat := cat_le hst E
    exact va_mmin g1 g2 (by rw [g3, hla]) g4 (g6 _ hl) (g6 _ hs) (g6 _ hi) (g6 _ hc) (by omega) (by omega) h1 h2 hd k) kk
theorem go_abs {x : Int32} {idx : Nat} (hl : Cond.methodLink Γ.1.cls idx Lib.Math.abs.name ∈ gT) (hs : Cond.static Lib.Math.abs.name ∈ gT) (hi : Cond.initialized "java/lang/Math" ∈ gT) (hc : Cond.code Lib.Math.abs.name Lib.Math.abs.code 1 (some .int) ∈ gT) (hdp : 1 ≤ Γ.2.2.2.2) (hst : (st.map fun v => v.category).sum ≤ 8) (hd : decode Γ.2.1 pc = .ok (.invokestatic idx, 3)) (kk : Go sR Γ fin f (pc + 3) ls (.int (abI x) :: st) M) : Go sR Γ fin f pc ls (.int x :: st) M :=
  go_mth mm1 (fun {D E M0 A z p l e R s m args below meth c Q H locs cells slots la} hF hla h1 h2 k => by
    obtain ⟨g1, g2, g3, g4, g5, g6, g7, g8, g9, g10, g11, g12, g13⟩ := id hF
    have hcat := cat_le hst E
    exact va_mabs g1 g2 (by rw [g3, hla]) g4 (g6 _ hl) (g6 _ hs) (g6 _ hi) (g6 _ hc) (by omega) (by omega) h1 h2 hd k) kk
end ORULES
