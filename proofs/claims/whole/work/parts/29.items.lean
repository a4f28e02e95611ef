/-! items of tapes -/
theorem mL_setL (C : Mem) (a k : Nat) (v : Int64) (b j : Nat) : mL (setL C a k v) b j = if b = a ∧ j = k then v else mL C b j := rfl
theorem Rel.longs {hs : Nat → List Cls} {C M C' M' : Mem} (h : Rel hs C M) (hI : mI C' = mI C) (hR : mR C' = mR C) (hZ : mZ C' = mZ C) (gI : mI M' = mI M) (gZ : mZ M' = mZ M) (hL : RTl C' M') : Rel hs C' M' := by
  have eC : ∀ p, rdI C' p = rdI C p := fun p => by unfold rdI; rw [hI]
  have eM : ∀ p, rdI M' p = rdI M p := fun p => by unfold rdI; rw [gI]
  obtain ⟨a1, a2, a3, a4, a5, a6⟩ := h
  exact ⟨a1.gen (fun i _ => eC _) (fun i _ => eM _), a2.fr (fun a _ k => by rw [hI]) (fun a _ k => by rw [hR]) (eC _) (fun a _ k => by rw [gI]), a3.fr (fun k _ _ => eC _), a4.fr (fun p _ => eC p) (fun j _ => ⟨by rw [gI], by rw [gI]⟩) (eC _) (eC _) (eC _), hL, by rw [hZ, gZ, a6]⟩
theorem Rel.long {hs : Nat → List Cls} {C M : Mem} (h : Rel hs C M) {t i : Nat} (_ : t < 6) (hi' : i < 60) (v : Int64) : Rel hs (setL C (10878984 + 262144 * t + 132996) i v) (setL M 17575180 (60 * t + i) v) := by
  refine h.longs rfl rfl rfl rfl rfl fun u k hu hk => ?_
  rw [mL_setL, mL_setL]
  by_cases e : u = t ∧ k = i
  · rw [if_pos (by omega), if_pos (by omega)]
  · rw [if_neg (by omega), if_neg (by omega)]; exact h.2.2.2.2.1 u k hu hk
theorem nar_eq {C M : Mem} {t : Nat} {s : Int32} (h : mI C (10878984 + 262144 * t) 0 = s) (v : Int64) : f_Tp_narrowed (10878984 + 262144 * t) v C = f_M_narrow s v M := by
  unfold f_Tp_narrowed f_M_narrow; rw [h]
theorem sim_item {hs : Nat → List Cls} {C M : Mem} (h : Rel hs C M) (p1 p2 : Int32) (p3 : Int64) : Sim C M (f_D_item p1 p2 p3 C) (f_M_item p1 p2 p3) := by
  rcases tape_at C M p1 with ⟨t, ht, et, e0, hr, eC, eM⟩ | ⟨eC, eM⟩
  · obtain ⟨s, n, a1, a2, a3, a4, b1, b2, b3, b4⟩ := tape_of h ht
    by_cases hs1 : s = -1
    · exact sim_no (-11) h (by simp only [f_D_item, eC, bd_some, if_neg (tnz t), gd_pos (tkd t), a1, if_pos hs1]) (by simp only [f_M_item, eM, if_neg i10, gd_pos hr, et, a2, if_neg (show ¬ 0 ≤ s by grind)])
    · have hs2 : 0 ≤ s := by grind
      by_cases hp : 0 ≤ p2 ∧ p2 ≤ n - 1
      · have hp' : 0 ≤ p2 ∧ p2 ≤ 59 := ⟨hp.1, by grind⟩
        have hr2 := inR_le (n := 60) hp' (by decide)
        obtain ⟨i, hi', ei⟩ := oN_of hp' (n := 60) (by decide)
        have hr3 := oN_in (i := 60 * t + i) (n := 360) (by omega) (by omega)
        refine sim_of h (a := 1) ?_ ?_ ?_ (h.long ht hi' (f_M_narrow s p3 M))
        · simp only [f_D_item, f_Tp_hasPlace, eC, bd_some, if_neg (tnz t), gd_pos (tkd t), a1, if_neg hs1, a3, wi1 hp, if_neg i10, gd_pos hr2, lt, nar_eq (M := M) a1]
          rw [ei, oN_ix (by omega)]
        · rfl
        · simp only [f_M_item, eM, if_neg i10, gd_pos hr, et, a2, if_pos hs2, a4, mi1 hp, lt]
          rw [e0, ei, ix60, gd_pos hr3, oN_ix (by omega)]
      · exact sim_no (-13) h (by simp only [f_D_item, f_Tp_hasPlace, eC, bd_some, if_neg (tnz t), gd_pos (tkd t), a1, if_neg hs1, a3, wi0 hp, if_true]) (by simp only [f_M_item, eM, if_neg i10, gd_pos hr, et, a2, if_pos hs2, a4, mi0 hp, if_true])
  · exact sim_no (-1) h (by simp only [f_D_item, eC, bd_some, if_true]) (by simp only [f_M_item, eM, if_true])
