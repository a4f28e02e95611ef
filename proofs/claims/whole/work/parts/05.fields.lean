/-! WHAT THE TABLES SAY OF THE CLASSES; FIELDS, ROWS, NEW CELLS -/
theorem mem_ps {big : List Cond} {ws : List Cond} (ps : List Nat) (hp : ws = ps.filterMap (fun i => big[i]?)) : ∀ w ∈ ws, w ∈ big := by
  intro w hw
  rw [hp] at hw
  obtain ⟨i, -, hi⟩ := List.mem_filterMap.mp hw
  exact List.mem_of_getElem? hi
theorem iwX0 : ∀ w ∈ wsX00, w ∈ lw_tbl := mem_ps [323, 325, 327, 329, 331] (by decide +kernel)
theorem iwX1 : ∀ w ∈ wsX10, w ∈ lw_tbl := mem_ps [701, 703, 705] (by decide +kernel)
theorem iwX2 : ∀ w ∈ wsX20, w ∈ lw_tbl := mem_ps [289, 291, 293, 295, 297, 299, 301, 303, 305, 307] (by decide +kernel)
theorem iwX3 : ∀ w ∈ wsX30, w ∈ lw_tbl := mem_ps [144, 146, 148, 150, 152, 154, 156, 158, 160] (by decide +kernel)
theorem iwX4 : ∀ w ∈ wsX40, w ∈ lw_tbl := mem_ps [185, 187, 189, 191, 193, 195, 197, 199, 201] (by decide +kernel)
theorem iwX5 : ∀ w ∈ wsX50, w ∈ lw_tbl := mem_ps [251, 253, 255, 257] (by decide +kernel)
theorem iwX6 : ∀ w ∈ wsX60, w ∈ lw_tbl := mem_ps [220, 222, 224, 226, 228, 230, 232] (by decide +kernel)
theorem iwX7 : ∀ w ∈ wsX70, w ∈ lw_tbl := mem_ps [346, 348, 350] (by decide +kernel)
theorem iwX8 : ∀ w ∈ wsX80, w ∈ lw_tbl := mem_ps [365, 367, 369, 371, 373, 375, 377, 379, 381, 383, 385] (by decide +kernel)
theorem iwX9 : ∀ w ∈ wsX90, w ∈ lw_tbl := mem_ps [1043, 1045, 1047, 1049, 1051, 1053, 1055, 1057, 1059, 1061, 1063, 1065, 1067, 1069, 1071, 1073, 1075, 1077, 1079, 1081, 1083, 1085, 1087, 1089, 1091, 1093, 1095, 1097, 1099, 1101, 1103, 1105, 1107, 1109, 1111, 1113, 1115, 1117, 1119, 1121, 1123, 1125, 1127, 1129, 1131, 1133, 1135, 1137, 1139, 1141, 1143, 1145, 1147, 1149, 1151, 1153, 1155, 1157, 1159, 1161, 1163, 1165, 1167] (by decide +kernel)
theorem clT_in {t : Nat} (h1 : 1 ≤ t) (h2 : t ≤ 10) : ∀ w ∈ u_ws (clT t).1 (clT t).2.1 (clT t).2.2, w ∈ gT := by
  have key : ∀ {R : String} {T : u_T} {N : Nat}, (∀ w ∈ u_ws R T N, w ∈ lw_tbl) → ∀ w ∈ u_ws R T N, w ∈ gT := fun h w hw => gT_of (h w hw) (by
    obtain ⟨k, -, rfl⟩ := List.mem_map.mp hw
    unfold u_lay
    split <;> rfl)
  match t, h1, h2 with
  | 1, _, _ => exact key iwX0
  | 2, _, _ => exact key iwX1
  | 3, _, _ => exact key iwX2
  | 4, _, _ => exact key iwX3
  | 5, _, _ => exact key iwX4
  | 6, _, _ => exact key iwX5
  | 7, _, _ => exact key iwX6
  | 8, _, _ => exact key iwX7
  | 9, _, _ => exact key iwX8
  | 10, _, _ => exact key iwX9
theorem clT_get {t : Nat} (h1 : 1 ≤ t) (h2 : t ≤ 10) : vwCl[t - 1]? = some (clT t) := by
  match t, h1, h2 with
  | 1, _, _ => rfl
  | 2, _, _ => rfl
  | 3, _, _ => rfl
  | 4, _, _ => rfl
  | 5, _, _ => rfl
  | 6, _, _ => rfl
  | 7, _, _ => rfl
  | 8, _, _ => rfl
  | 9, _, _ => rfl
  | 10, _, _ => rfl
theorem clT_n {t : Nat} (h1 : 1 ≤ t) (h2 : t ≤ 10) : (clT t).2.2 = nF t := by
  match t, h1, h2 with
  | 1, _, _ => rfl
  | 2, _, _ => rfl
  | 3, _, _ => rfl
  | 4, _, _ => rfl
  | 5, _, _ => rfl
  | 6, _, _ => rfl
  | 7, _, _ => rfl
  | 8, _, _ => rfl
  | 9, _, _ => rfl
  | 10, _, _ => rfl
theorem clT_ty {t : Nat} (h1 : 1 ≤ t) (h2 : t ≤ 10) : ∀ k, k < nF t → parseFieldDescriptor ((clT t).2.1 k).2.2.1 = some (tyT t k) := by
  match t, h1, h2 with
  | 1, _, _ => exact tyX0_ok
  | 2, _, _ => exact tyX1_ok
  | 3, _, _ => exact tyX2_ok
  | 4, _, _ => exact tyX3_ok
  | 5, _, _ => exact tyX4_ok
  | 6, _, _ => exact tyX5_ok
  | 7, _, _ => exact tyX6_ok
  | 8, _, _ => exact tyX7_ok
  | 9, _, _ => exact tyX8_ok
  | 10, _, _ => exact tyX9_ok
theorem clT_nm {t : Nat} (h1 : 1 ≤ t) (h2 : t ≤ 10) : ∀ a, a < nF t → ∀ b, b < nF t → a ≠ b → ((clT t).2.1 a).2.1 ≠ ((clT t).2.1 b).2.1 := by
  match t, h1, h2 with
  | 1, _, _ => exact nmX0
  | 2, _, _ => exact nmX1
  | 3, _, _ => exact nmX2
  | 4, _, _ => exact nmX3
  | 5, _, _ => exact nmX4
  | 6, _, _ => exact nmX5
  | 7, _, _ => exact nmX6
  | 8, _, _ => exact nmX7
  | 9, _, _ => exact nmX8
  | 10, _, _ => exact nmX9
/-- a field's link: class own's entry idx is field k of the class with tag t -/
def FLk (own : String) (idx t k : Nat) : Prop := 1 ≤ t ∧ t ≤ 10 ∧ k < nF t ∧ ((clT t).2.1 k).1 = (clT t).1 ∧ Cond.fieldLink own idx (clT t).1 ((clT t).2.1 k).2.1 ((clT t).2.1 k).2.2.1 ∈ gT
theorem wsL_at {D : DN} {E : EN} {M : Mem} {a : Nat} (h : a ∈ mV M) : ∃ q : Nat, (mV M)[q]? = some a ∧ (wsL D E M)[q]? = some (adr E a, cellE D E M a) := by
  obtain ⟨q, hq⟩ := List.getElem?_of_mem h
  exact ⟨q, hq, by unfold wsL; rw [List.getElem?_map, hq]; rfl⟩
theorem cellE_obj {D : DN} {E : EN} {M : Mem} {a t : Nat} (h : a % 32 = t) (h2 : t ≤ 10) : cellE D E M a = .inr (t - 1, (List.range (nF t)).map (fvE E M a)) := by
  subst h; unfold cellE; rw [if_pos h2]
theorem cellE_congr {D : DN} {E : EN} {M M1 : Mem} {b : Nat} (h1 : mI M1 b = mI M b) (h2 : mL M1 b = mL M b) (h3 : mR M1 b = mR M b) : cellE D E M1 b = cellE D E M b := by
  have e : fvE E M1 b = fvE E M b := by funext k; unfold fvE; rw [h1, h3]
  unfold cellE; rw [e, h1, h2, h3]
/-- one cell is written -/
theorem wsL_set {D : DN} {E : EN} {M M1 : Mem} {A : Nat → Prop} {a q : Nat} {e' : va_E} (hD : va_D A (wsL D E M)) (hV : mV M1 = mV M) (hq : (mV M)[q]? = some a) (hb : ∀ b, b ≠ a → cellE D E M1 b = cellE D E M b) (ha : cellE D E M1 a = e') : (wsL D E M).set q (adr E a, e') = wsL D E M1 := by
  apply List.ext_getElem?
  intro i
  rw [List.getElem?_set]
  unfold wsL
  rw [hV, List.getElem?_map, List.getElem?_map]
  by_cases hi : q = i
  · subst hi
    have hl : q < (mV M).length := (List.getElem?_eq_some_iff.mp hq).1
    rw [if_pos rfl, if_pos (by simpa using hl), hq, ← ha]; rfl
  · rw [if_neg hi]
    cases hb' : (mV M)[i]? with
    | none => rfl
    | some b =>
      have hne : b ≠ a := by
        intro e
        have h1 : (wsL D E M)[i]? = some (adr E b, cellE D E M b) := by unfold wsL; rw [List.getElem?_map, hb']; rfl
        have h2 : (wsL D E M)[q]? = some (adr E a, cellE D E M a) := by unfold wsL; rw [List.getElem?_map, hq]; rfl
        exact hi (hD.1 i q _ _ h1 h2 (by rw [e])).symm
      show some (adr E b, cellE D E M b) = some (adr E b, cellE D E M1 b)
      rw [hb b hne]
theorem wsL_new {D : DN} {E : EN} {M M1 : Mem} {a : Nat} {e' : va_E} (hV : mV M1 = mV M ++ [a]) (hb : ∀ b, b ∈ mV M → cellE D E M1 b = cellE D E M b) (ha : cellE D E M1 a = e') : wsL D E M ++ [(adr E a, e')] = wsL D E M1 := by
  unfold wsL
  rw [hV, List.map_append, ← ha]
  congr 1
  exact List.map_congr_left fun b h => by rw [hb b h]
theorem up2_ne {α : Type} {f : Nat → Nat → α} {a k b : Nat} {v : α} (h : b ≠ a) : up2 f a k v b = f b := by
  funext j; unfold up2; rw [if_neg (fun q => h q.1)]
theorem up2_eq {α : Type} {f : Nat → Nat → α} {a k j : Nat} {v : α} : up2 f a k v a j = if j = k then v else f a j := by
  unfold up2
  by_cases h : j = k
  · rw [if_pos ⟨rfl, h⟩, if_pos h]
  · rw [if_neg (fun q => h q.2), if_neg h]
theorem range_set {α : Type} {n k : Nat} {f : Nat → α} {v : α} (hk : k < n) : ((List.range n).map f).set k v = (List.range n).map (fun j => if j = k then v else f j) := by
  apply List.ext_getElem?
  intro i
  rw [List.getElem?_set]
  simp only [List.getElem?_map, List.length_map, List.length_range]
  by_cases hi : k = i
  · subst hi
    simp [hk]
  · rw [if_neg hi]
    cases h : (List.range n)[i]? with
    | none => rfl
    | some j =>
      have e := (List.getElem?_eq_some_iff.mp h)
      obtain ⟨hl, e⟩ := e
      simp at e
      simp [← e, show ¬ i = k from fun q => hi q.symm]
section FRULES
variable {β : Type} {sR : Nat → Nat → Nat} {Γ : GM} {fin : β → Option Value × Mem} {f : Option β} {pc : Nat} {ls st : List Value} {M : Mem}
/-- a field is read: what lies there, known as an int or as a reference -/
theorem go_getV {t k idx a : Nat} {v : Value} (hF : FLk Γ.1.cls idx t k) (ha : a % 32 = t) (hd : decode Γ.2.1 pc = .ok (.getfield idx, 3))
    (hv : cl M → stI sR M → a ∈ mV M → lvV M v ∧ ∀ E, fvE E M a k = cV E v) (kk : Go sR Γ fin f (pc + 3) ls (v :: st) M) : Go sR Γ fin f pc ls (.ref a :: st) M := by
  obtain ⟨f1, f2, f3, f4, f5⟩ := hF
  subst ha
  intro x hx hp
  have ham : a ∈ mV M := lvM.own (hp.2.2 (.ref a) (List.mem_append_right _ List.mem_cons_self)) f1 (by omega)
  obtain ⟨hv1, hv2⟩ := hv hp.1 hp.2.1 ham
  obtain ⟨k1, k2⟩ := kk x hx (hp.sub fun w hw => by
    rcases List.mem_append.mp hw with h | h
    · exact Or.inl (List.mem_append_left _ h)
    · rcases List.mem_cons.mp h with h | h
      · exact Or.inr (h ▸ hv1)
      · exact Or.inl (List.mem_append_right _ (List.mem_cons_of_mem _ h)))
  refine ⟨k1, fun D E M0 A p l e R s m args below meth c Q H locs cells slots la hF hV => ?_⟩
  obtain ⟨g1, g2, g3, g4, g5, g6, g7, g8⟩ := id hF
  obtain ⟨v1, v2, v3, v4, v5, v6, v7⟩ := id hV
  obtain ⟨q, -, hq⟩ := wsL_at (D := D) (E := E) ham
  rw [cellE_obj rfl f2] at hq
  have hn := clT_n f1 f2
  have k3 := k2 D E M0 A p l e R s m args below meth c Q H locs cells slots la hF hV
  show W p l e R s m args below meth c H locs cells slots Q (F0 m pc la (cV E (.ref a) :: st.map (cV E)))
  rw [cV_ref f1 (by omega)]
  refine va_get (D := D.1) (cl := vwCl) (tys := tysD D) (C := (clT (a % 32)).1) (T := (clT (a % 32)).2.1) (N := (clT (a % 32)).2.2) (ref := (clT (a % 32)).1) (v := cV E v) g1 g2 g6 (clT_in f1 f2) g4 g7.1 v2 q hq (clT_get f1 f2) k (by rw [hn]; exact f3) (g6 _ f5) (fun z h => by rw [f4] at h; exact h) ?_ hd k3
  rw [← hv2 E]
  simp [f3]
theorem go_getI {t k idx a : Nat} (hF : FLk Γ.1.cls idx t k) (hr : refF t k = false) (ha : a % 32 = t) (hd : decode Γ.2.1 pc = .ok (.getfield idx, 3)) (kk : Go sR Γ fin f (pc + 3) ls (.int (mI M a k) :: st) M) : Go sR Γ fin f pc ls (.ref a :: st) M :=
  go_getV hF ha hd (v := .int (mI M a k)) (fun _ _ _ => ⟨trivial, fun E => by unfold fvE; rw [ha, hr]; rfl⟩) kk
theorem go_getR {t k idx a : Nat} (hF : FLk Γ.1.cls idx t k) (hr : refF t k = true) (ha : a % 32 = t) (hd : decode Γ.2.1 pc = .ok (.getfield idx, 3)) (kk : Go sR Γ fin f (pc + 3) ls (.ref (mR M a k) :: st) M) : Go sR Γ fin f pc ls (.ref a :: st) M :=
  go_getV hF ha hd (v := .ref (mR M a k)) (fun h _ hm => ⟨(h a hm).2.2.2 k, fun E => by unfold fvE; rw [ha, hr]; rfl⟩) kk
/-- a field that always holds the same -/
theorem go_getS {t k idx a : Nat} (b : Nat) (hF : FLk Γ.1.cls idx t k) (hr : refF t k = true) (ha : a % 32 = t) (hs : sR a k = b) (hb : b ≠ 0) (hd : decode Γ.2.1 pc = .ok (.getfield idx, 3)) (kk : Go sR Γ fin f (pc + 3) ls (.ref b :: st) M) : Go sR Γ fin f pc ls (.ref a :: st) M :=
  go_getV hF ha hd (v := .ref b) (fun h h2 hm => by
    have e : mR M a k = b := by rw [h2 a hm k (by rw [hs]; exact hb), hs]
    exact ⟨e ▸ (h a hm).2.2.2 k, fun E => by unfold fvE; rw [ha, hr, if_pos rfl, e]; rfl⟩) kk
/-- one cell is written -/
theorem go_wr {a pc' : Nat} {st' : List Value} {M1 : Mem} (h1 : 1 ≤ a % 32) (h17 : a % 32 ≤ 17) (hin : .ref a ∈ ls ++ st) (hsub : ∀ v, v ∈ st' → v ∈ st) (hV1 : mV M1 = mV M ∧ mZ M1 = mZ M ∧ mW M1 = mW M)
    (hI : ∀ b, b ≠ a → mI M1 b = mI M b) (hL : ∀ b, b ≠ a → mL M1 b = mL M b) (hR : ∀ b, b ≠ a → mR M1 b = mR M b) (hc : pOK sR M (ls ++ st) → cl M1 ∧ stI sR M1)
    (hw : ∀ {D : DN} {E : EN} {M0 : Mem} {A : Nat → Prop} {z : Option Value × Mem} {p : Program} {l : Launch} {e : Env} {R : Room} {s : State} {m : MethodId} {args : Array Value} {below : List Frame} {meth : Method} {c : Code} {Q : State → Prop} {H : Heap} {locs : List Loc} {cells slots : Nat} {la : Array Slot},
      CxF Γ D E M0 A z p l e R s m args below meth c Q → la.size = Γ.2.2.1 → va_P D.1 vwCl (wsL D E M) H → pOK sR M (ls ++ st) → a ∈ mV M →
      (∀ (H1 : Heap) (L : List Loc), (∀ q ∈ L, q.base = adr E a) → va_at D.1 vwCl (adr E a, cellE D E M1 a) H1 → H1.size = H.size → (∀ q, q ≠ adr E a → H1[q]? = H[q]?) → W p l e R s m args below meth c H1 (locs ++ L) cells slots Q (F0 m pc' la (st'.map (cV E)))) →
      W p l e R s m args below meth c H locs cells slots Q (F0 m pc la (st.map (cV E))))
    (kk : Go sR Γ fin f pc' ls st' M1) : Go sR Γ fin f pc ls st M := by
  intro x hx hp
  have ham : a ∈ mV M := lvM.own (hp.2.2 (.ref a) hin) h1 h17
  have hmono : ∀ b, b ∈ mV M → b ∈ mV M1 := fun b h => by rw [hV1.1]; exact h
  obtain ⟨hc1, hc2⟩ := hc hp
  obtain ⟨k1, k2⟩ := kk x hx ⟨hc1, hc2, fun w hw => lvV.mono hmono (hp.2.2 w (by
    rcases List.mem_append.mp hw with h | h
    · exact List.mem_append_left _ h
    · exact List.mem_append_right _ (hsub w h)))⟩
  refine ⟨⟨(show ext M M1 from ⟨by rw [hV1.2.1]; exact Nat.le_refl _, by rw [hV1.2.2]; exact Nat.le_refl _, hmono⟩).trans k1.1, k1.2⟩, fun D E M0 A p l e R s m args below meth c Q H locs cells slots la hF hV => ?_⟩
  obtain ⟨v1, v2, v3, v4, v5, v6, v7⟩ := id hV
  obtain ⟨q, hq0, hq⟩ := wsL_at (D := D) (E := E) ham
  have hset : (wsL D E M).set q (adr E a, cellE D E M1 a) = wsL D E M1 := wsL_set v3 hV1.1 hq0 (fun b hb => cellE_congr (hI b hb) (hL b hb) (hR b hb)) rfl
  refine hw hF v5.1 v2 hp ham fun H1 L hLb hat hz ho => ?_
  refine k2 D E M0 A p l e R s m args below meth c Q H1 (locs ++ L) cells slots la hF ⟨by rw [hz, hV1.2.1]; exact v1, ?_, ?_, ⟨Nat.le_trans v4.1 (Nat.le_of_eq hz.symm), fun r r1 r2 => ?_, fun r hr => ?_⟩, v5, by rw [hV1.2.1]; exact v6, by rw [hV1.2.2]; exact v7⟩
  · rw [← hset]; exact v2.set v3 hq hat ho
  · rw [← hset]; exact v3.set hq
  · rw [ho r (fun e => r2 (by rw [e]; exact v3.2 q _ hq))]; exact v4.2.1 r r1 r2
  · rcases List.mem_append.mp hr with h | h
    · exact v4.2.2 r h
    · rw [hLb r h]; exact v3.2 q _ hq
theorem list_loc {a j : Nat} : ∀ q ∈ [(⟨a, j⟩ : Loc)], q.base = a := fun q h => by rw [List.mem_singleton.mp h]
/-- a field is written -/
theorem go_putV {t k idx a : Nat} {v : Value} {M1 : Mem} (hF : FLk Γ.1.cls idx t k) (hfin : ((clT t).2.1 k).2.2.2 = false ∨ (((clT t).2.1 k).2.2.2 = true ∧ Γ.1.name = "<init>" ∧ (clT t).1 = Γ.1.cls)) (ha : a % 32 = t) (hd : decode Γ.2.1 pc = .ok (.putfield idx, 3))
    (hn : ∀ E, narrow (tyT t k) (cV E v) = cV E v ∧ fits (tyT t k) (cV E v) = true) (hV1 : mV M1 = mV M ∧ mZ M1 = mZ M ∧ mW M1 = mW M) (hI : ∀ b, b ≠ a → mI M1 b = mI M b) (hL : ∀ b, b ≠ a → mL M1 b = mL M b) (hR : ∀ b, b ≠ a → mR M1 b = mR M b)
    (hf : ∀ E j, fvE E M1 a j = if j = k then cV E v else fvE E M a j) (hc : pOK sR M (ls ++ (v :: .ref a :: st)) → cl M1 ∧ stI sR M1)
    (kk : Go sR Γ fin f (pc + 3) ls st M1) : Go sR Γ fin f pc ls (v :: .ref a :: st) M := by
  obtain ⟨f1, f2, f3, f4, f5⟩ := hF
  subst ha
  refine go_wr (a := a) f1 (by omega) (by simp) mm2 hV1 hI hL hR hc (fun {D E M0 A z p l e R s m args below meth c Q H locs cells slots la} hF hla hP hpo ham K => ?_) kk
  obtain ⟨g1, g2, g3, g4, g5, g6, g7, g8⟩ := id hF
  obtain ⟨q, hq0, hq⟩ := wsL_at (D := D) (E := E) ham
  rw [cellE_obj rfl f2] at hq
  have hN := clT_n f1 f2
  have hts := g6
  have hin := clT_in f1 f2
  have hk : k < (clT (a % 32)).2.2 := by rw [hN]; exact f3
  show W p l e R s m args below meth c H locs cells slots Q (F0 m pc la (cV E v :: cV E (.ref a) :: st.map (cV E)))
  rw [cV_ref f1 (by omega)]
  have hap := va_apart (own := Γ.1.cls) hts hin (tyT (a % 32)) (by rw [hN]; exact clT_ty f1 f2) (by rw [hN]; exact clT_nm f1 f2) g7.1 (clT_get f1 f2)
  obtain ⟨r, h1, cell, q1, q2, q3, q4⟩ := hP q _ hq
  have hr : r = clT (a % 32) := Option.some.inj (h1.symm.trans (clT_get f1 f2))
  subst hr
  obtain ⟨hS, hfc, kC, hkC, hkind⟩ := g7.1.1 _ _ (clT_get f1 f2)
  obtain ⟨cf, kf, fi, fl, hi, hsl⟩ := hS k hk
  have hlay := hts _ (hin _ (u_in_lay hk))
  have hst := (u_facts hfc hkC (u_lays hts hin hk) hi).1
  have hi2 : s.fieldFound? (clT (a % 32)).1 ((clT (a % 32)).2.1 k).2.1 ((clT (a % 32)).2.1 k).2.2.1 = some (cf, kf, fi, fl) := by rw [← f4]; exact hi
  have hty := clT_ty f1 f2 k f3
  have fin1 : ∀ H1 : Heap, H1[adr E a]? = some (cell.setSlot fl.slot (cV E v)) → va_at D.1 vwCl (adr E a, cellE D E M1 a) H1 := by
    intro H1 e1
    rw [cellE_obj rfl f2]
    refine ⟨_, clT_get f1 f2, ?_⟩
    rw [hsl] at e1
    refine t_OB.to (V := updV (vp_V ((List.range (nF (a % 32))).map (fvE E M a))) k (cV E v)) ⟨_, e1, q2, q3, t_set q4 hap hk (cV E v)⟩ (fun j hj => ?_)
    rw [hN] at hj
    have e2 : vp_V ((List.range (nF (a % 32))).map (fvE E M1 a)) j = fvE E M1 a j := by simp [vp_V, hj]
    have e3 : vp_V ((List.range (nF (a % 32))).map (fvE E M a)) j = fvE E M a j := by simp [vp_V, hj]
    show _ = vp_V ((List.range (nF (a % 32))).map (fvE E M1 a)) j
    rw [e2, hf E j]
    show (if j = k then cV E v else vp_V ((List.range (nF (a % 32))).map (fvE E M a)) j) = _
    rw [e3]
  have hlt : fl.slot < cell.slots.size := by rw [hsl]; exact k2_hasslot (q4 k hk)
  rcases hfin with hfin | ⟨hfin, hini, hcl⟩
  · unfold u_lay at hlay
    rw [if_neg (by rw [hfin]; decide)] at hlay
    have h6 := u_store hfc hkC hkind hlay hi hty (hn E).1 (hn E).2
    exact W.putK g1 g2 (f := fl) ⟨g4, hts _ f5, ⟨_, _, _, hi2⟩, hst⟩ (by rw [q2]; exact h6) q1 q3 hlt rfl rfl hd fun H1 e1 e2 e3 => K H1 _ list_loc (fin1 H1 e1) e2 e3
  · unfold u_lay at hlay
    rw [if_pos hfin] at hlay
    have hcf : m.cls = cf := by
      obtain ⟨_, _, c', _, _, _, -, -, hf', -, -, -, hown2, -⟩ := Cond.laysFinal_spec hlay
      have e1 : c' = cf := by have := hi.symm.trans hf'; simp at this; exact this.1.symm
      rw [f4, hcl] at hown2
      rw [← e1]; exact Option.some.inj (g4.symm.trans hown2)
    have h6 := u_fits hfc hkC hkind (Or.inr hlay) hi hty (hn E).1 (hn E).2
    exact W.putFinK g1 g2 g4 (hts _ f5) hi2 hst hcf (by rw [g5]; exact hini) (by rw [q2]; exact h6) q1 q3 hlt rfl rfl hd fun H1 e1 e2 e3 => K H1 _ list_loc (fin1 H1 e1) e2 e3
theorem go_putI {t k idx a : Nat} {v : Int32} {g : Mem → Option β} (hF : FLk Γ.1.cls idx t k) (hr : refF t k = false) (hfin : ((clT t).2.1 k).2.2.2 = false ∨ (((clT t).2.1 k).2.2.2 = true ∧ Γ.1.name = "<init>" ∧ (clT t).1 = Γ.1.cls)) (hn : narrow (tyT t k) (.int v) = .int v ∧ fits (tyT t k) (.int v) = true) (ha : a % 32 = t) (hd : decode Γ.2.1 pc = .ok (.putfield idx, 3))
    (kk : ∀ M1, Go sR Γ fin (g M1) (pc + 3) ls st M1) : Go sR Γ fin (lt (setI M a k v) g) pc ls (.int v :: .ref a :: st) M := by
  refine go_putV (M1 := setI M a k v) hF hfin ha hd (fun E => hn) ⟨rfl, rfl, rfl⟩ (fun b hb => up2_ne hb) (fun b hb => rfl) (fun b hb => rfl) (fun E j => ?_) (fun hp => ⟨hp.1, hp.2.1⟩) (kk _)
  show (if refF (a % 32) j = true then va_rf (oA E (mR M a j)) else .int (up2 (mI M) a k v a j)) = _
  rw [up2_eq, ha]
  by_cases hj : j = k
  · subst hj; rw [hr, if_pos rfl, if_pos rfl]; rfl
  · rw [if_neg hj, if_neg hj]; unfold fvE; rw [ha]
theorem go_putR {t k idx a : Nat} {v : Nat} {g : Mem → Option β} (hF : FLk Γ.1.cls idx t k) (hr : refF t k = true) (hfin : ((clT t).2.1 k).2.2.2 = false ∨ (((clT t).2.1 k).2.2.2 = true ∧ Γ.1.name = "<init>" ∧ (clT t).1 = Γ.1.cls)) (ha : a % 32 = t) (hs : sR a k = 0) (hd : decode Γ.2.1 pc = .ok (.putfield idx, 3))
    (kk : ∀ M1, Go sR Γ fin (g M1) (pc + 3) ls st M1) : Go sR Γ fin (lt (setR M a k v) g) pc ls (.ref v :: .ref a :: st) M := by
  refine go_putV (M1 := setR M a k v) hF hfin ha hd (fun E => ?_) ⟨rfl, rfl, rfl⟩ (fun b hb => rfl) (fun b hb => rfl) (fun b hb => up2_ne hb) (fun E j => ?_) (fun hp => ⟨cl_setR hp.1 a k v (hp.2.2 (.ref v) (by simp)), stI_setR hp.2.1 a k v hs⟩) (kk _)
  · show narrow _ (va_rf (oA E v)) = va_rf (oA E v) ∧ fits _ (va_rf (oA E v)) = true
    unfold refF at hr
    generalize tyT t k = ty at hr
    cases oA E v <;> cases ty <;> first | exact ⟨rfl, rfl⟩ | cases hr
  · show (if refF (a % 32) j = true then va_rf (oA E (up2 (mR M) a k v a j)) else .int (mI M a j)) = _
    rw [up2_eq, ha]
    by_cases hj : j = k
    · subst hj; rw [hr, if_pos rfl, if_pos rfl, if_pos rfl]; rfl
    · rw [if_neg hj, if_neg hj]; unfold fvE; rw [ha]
end FRULES
