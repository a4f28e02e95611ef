/-! HEADS AND CLAUSES -/
def Lt : List Int32 := [115, 119, 101, 108, 108, 100, 114, 97, 119, 115, 105, 110, 107, 100, 114, 97, 117, 103, 104, 116]
def hLt (M : Mem) : Prop := ∀ i, i < 20 → mI M 14811787 i = Lt.getD i 0
theorem hLt.fz {P : Nat → Nat → Prop} {M M' : Mem} (h : hLt M) (hF : Fz P M M') (hP : ∀ k, ¬ P 14811787 k) : hLt M' := fun i hi' => ((hF.1 _ _ (hP i)).1).trans (h i hi')
theorem mtP_lt (sk : Nat × Nat) (k : Nat) : ¬ mtP sk 14811787 k := by unfold mtP; omega
theorem word_l2 {T : Nat → Int32} {n sB : Nat} {f : Nat × Nat} (ht : txt T n) {ws : List Int32} {fr many : Nat} (hlen : ws.length = many + 1) (hm : fr + many ≤ 20) (hws : ∀ j, j < many → Lt.getD (fr + j) 0 = ws.getD j 0) (h32 : ws.getD many 0 = 32) (hpos : ∀ c, c ∈ ws → 0 ≤ c) : ∀ (k fuel j a d : Nat) (M : Mem) (W out : List Int32), k < fuel → j + k = many → MX T n sB M a W d out → hLt M → ∃ M', f_M_takesWord_l2 fuel (Int32.ofNat fr) (Int32.ofNat many) (Int32.ofNat j) M = some (if lc T n (ws.drop j) a = (ws.drop j).length then 1 else 0, M') ∧ MX T n sB M' (a + lc T n (ws.drop j) a) W d out ∧ Fz (mtP f) M M'
  | k, 0, _, _, _, _, _, _, h, _, _, _ => by omega
  | 0, fuel + 1, j, a, d, M, W, out, _, hj, h, hL => by
    have e : j = many := by omega
    subst e
    have hdr : ws.drop j = [32] := by
      rw [drop_c (by omega) 0, h32, List.drop_of_length_le (by omega)]
    rw [hdr]
    have c : Int32.ofNat j ≤ Int32.ofNat j := (oN_le (by omega) (by omega)).mpr (Nat.le_refl _)
    obtain ⟨M1, t1, t2, t3⟩ := takes_m (f := f) h ht (c := 32) (by decide)
    by_cases q : nx T n a = 32
    · rw [if_pos q] at t1 t2
      refine ⟨M1, ?_, ?_, t3⟩
      · simp only [f_M_takesWord_l2, if_pos c, t1, bdg, ap2g, lc, if_pos q, List.length_cons, List.length_nil]
        rw [gd_pos (Or.inr trivial)]; rfl
      · simp only [lc, if_pos q]; exact t2
    · rw [if_neg q] at t1 t2
      refine ⟨M1, ?_, ?_, t3⟩
      · simp only [f_M_takesWord_l2, if_pos c, t1, bdg, ap2g, lc, if_neg q, List.length_cons, List.length_nil]
        rw [gd_pos (Or.inl trivial)]; rfl
      · simp only [lc, if_neg q]; exact t2
  | k + 1, fuel + 1, j, a, d, M, W, out, _, hj, h, hL => by
    have c : ¬ Int32.ofNat many ≤ Int32.ofNat j := fun z => by have := (oN_le (by omega) (by omega)).mp z; omega
    have hjl : j < ws.length := by omega
    have sm : Int32.ofNat fr + Int32.ofNat j = Int32.ofNat (fr + j) := (Int32.ofNat_add fr j).symm
    have hr : inR (Int32.ofNat (fr + j)) 20 := oN_in (by omega) (by omega)
    have hx : (Int32.ofNat (fr + j)).toNatClampNeg = fr + j := oN_ix (by omega)
    have hl : mI M 14811787 (fr + j) = ws.getD j 0 := (hL _ (by omega)).trans (hws j (by omega))
    obtain ⟨M1, t1, t2, t3⟩ := takes_m (f := f) h ht (c := ws.getD j 0) (hpos _ (getD_mem hjl 0))
    rw [drop_c hjl 0]
    by_cases q : nx T n a = ws.getD j 0
    · rw [if_pos q] at t1 t2
      obtain ⟨M2, r1, r2, r3⟩ := word_l2 (sB := sB) (f := f) ht hlen hm hws h32 hpos k fuel (j + 1) (a + 1) d M1 W out (by omega) (by omega) t2 (hL.fz t3 (mtP_lt f))
      refine ⟨M2, ?_, ?_, t3.trans r3⟩
      · simp only [f_M_takesWord_l2, if_neg c, sm, gd_pos hr, hx, hl, t1, bdg, ap2g, if_neg i10, lte, oN_s, lc, if_pos q, List.length_cons]
        rw [r1]
        by_cases z : lc T n (ws.drop (j + 1)) (a + 1) = (ws.drop (j + 1)).length
        · rw [if_pos z, if_pos (by omega)]
        · rw [if_neg z, if_neg (by omega)]
      · simp only [lc, if_pos q]
        rw [show a + (lc T n (ws.drop (j + 1)) (a + 1) + 1) = a + 1 + lc T n (ws.drop (j + 1)) (a + 1) by omega]
        exact r2
    · rw [if_neg q] at t1 t2
      refine ⟨M1, ?_, ?_, t3⟩
      · simp only [f_M_takesWord_l2, if_neg c, sm, gd_pos hr, hx, hl, t1, bdg, ap2g, if_true, lc, if_neg q, List.length_cons]
        rw [if_neg (by omega)]
      · simp only [lc, if_neg q]; exact t2
def fmW (w : Nat) : Nat × Nat := ([(0, 5), (5, 4), (9, 4), (13, 7)] : List (Nat × Nat)).getD w (0, 0)
def okF (w : Nat) : Bool := ((wl w).length == (fmW w).2 + 1) && decide ((fmW w).1 + (fmW w).2 ≤ 20) && (List.range (fmW w).2).all (fun j => Lt.getD ((fmW w).1 + j) 0 == (wl w).getD j 0) && ((wl w).getD (fmW w).2 0 == 32) && (wl w).all (fun c => decide (0 ≤ c))
theorem okF_is : (List.range 4).all okF = true := by decide +kernel
theorem tword_m {T : Nat → Int32} {n sB a d w : Nat} {f : Nat × Nat} {M : Mem} {W out : List Int32} (hw : w < 4) (h : MX T n sB M a W d out) (ht : txt T n) (hL : hLt M) : ∃ M', f_M_takesWord (Int32.ofNat (fmW w).1) (Int32.ofNat (fmW w).2) M = some (if lc T n (wl w) a = (wl w).length then 1 else 0, M') ∧ MX T n sB M' (a + lc T n (wl w) a) W d out ∧ Fz (mtP f) M M' := by
  have := List.all_eq_true.mp okF_is w (List.mem_range.mpr hw)
  simp only [okF, Bool.and_eq_true, beq_iff_eq, decide_eq_true_eq] at this
  obtain ⟨⟨⟨⟨a1, a2⟩, a3⟩, a4⟩, a5⟩ := this
  exact word_l2 ht a1 a2 (fun j hj => beq_iff_eq.mp (List.all_eq_true.mp a3 j (List.mem_range.mpr hj))) a4 (fun c hc => of_decide_eq_true (List.all_eq_true.mp a5 c hc)) (fmW w).2 200 0 a d M W out (by omega) (by omega) h hL
/-- a clause's cells in the model -/
def mtK (sB kk a k : Nat) : Prop := mtP (sB, kk) a k ∨ ((a = 14026635 ∨ a = 14157707 ∨ a = 14288779) ∧ k = kk)
theorem looks_m {T : Nat → Int32} {n sB a d : Nat} {M : Mem} {W out : List Int32} (h : MX T n sB M a W d out) (ht : txt T n) : f_M_second M = some (nx T n (a + 1)) ∧ f_M_third M = some (nx T n (a + 2)) ∧ f_M_fourth M = some (nx T n (a + 3)) := by
  obtain ⟨x1, x2, x3, x4, -⟩ := h
  have hn := ht.1
  have key : ∀ i : Nat, i < 4 → (if Int32.ofNat n ≤ Int32.ofNat (a + i) then some (-1) else gd (inR (Int32.ofNat (a + i)) 100) (some (mI M 13765771 (Int32.ofNat (a + i)).toNatClampNeg))) = some (nx T n (a + i)) := fun i hi' => by
    unfold nx
    by_cases q : a + i < n
    · have hle : ¬ Int32.ofNat n ≤ Int32.ofNat (a + i) := fun z => by have := (oN_le (by omega) (by omega)).mp z; omega
      rw [if_neg hle, if_pos q, gd_pos (oN_in (by omega) (by omega)), oN_ix (by omega), x2 _ q]
    · have hle : Int32.ofNat n ≤ Int32.ofNat (a + i) := (oN_le (by omega) (by omega)).mpr (by omega)
      rw [if_pos hle, if_neg q]
  have s1 : Int32.ofNat a + 1 = Int32.ofNat (a + 1) := oN_s a
  have s2 : Int32.ofNat a + 2 = Int32.ofNat (a + 2) := (Int32.ofNat_add a 2).symm
  have s3 : Int32.ofNat a + 3 = Int32.ofNat (a + 3) := (Int32.ofNat_add a 3).symm
  refine ⟨?_, ?_, ?_⟩
  · unfold f_M_second; rw [x1, x3, s1]; exact key 1 (by decide)
  · unfold f_M_third; rw [x1, x3, s2]; exact key 2 (by decide)
  · unfold f_M_fourth; rw [x1, x3, s3]; exact key 3 (by decide)
theorem mtP_K {sB kk : Nat} : ∀ a k, mtP (sB, kk) a k → mtK sB kk a k := fun _ _ q => Or.inl q
theorem mtK_lt (sB kk k : Nat) : ¬ mtK sB kk 14811787 k := by
  intro z
  rcases z with z | z
  · exact mtP_lt _ _ z
  · omega
theorem head_m {T : Nat → Int32} {n sB a d kk : Nat} {M : Mem} {W out : List Int32} (hk : kk < 60) (h : MX T n sB M a W d out) (ht : txt T n) (hL : hLt M) : ∃ M', f_M_takesHead (Int32.ofNat kk) M = some (if lc T n (wl (woM T n a)) a = (wl (woM T n a)).length then 1 else 0, M') ∧ MX T n sB M' (a + lc T n (wl (woM T n a)) a) W d out ∧ Fz (mtK sB kk) M M' ∧ mI M' 14026635 kk = Int32.ofNat (woM T n a) := by
  obtain ⟨u2, u3, u4⟩ := looks_m h ht
  have nm := next_m h ht
  have hr : inR (Int32.ofNat kk) 60 := oN_in (by omega) hk
  have hx : (Int32.ofNat kk).toNatClampNeg = kk := oN_ix (by omega)
  have key : ∀ w : Nat, w < 4 → ∃ M', f_M_takesWord (Int32.ofNat (fmW w).1) (Int32.ofNat (fmW w).2) (setI M 14026635 kk (Int32.ofNat w)) = some (if lc T n (wl w) a = (wl w).length then 1 else 0, M') ∧ MX T n sB M' (a + lc T n (wl w) a) W d out ∧ Fz (mtK sB kk) M M' ∧ mI M' 14026635 kk = Int32.ofNat w := fun w hw => by
    have h2 := h.to (x := 14026635) (Or.inr (Or.inr (Or.inr (Or.inl rfl)))) kk (Int32.ofNat w)
    have f2 : Fz (mtK sB kk) M (setI M 14026635 kk (Int32.ofNat w)) := Fz.rf.set (Or.inr ⟨Or.inl rfl, rfl⟩) _
    obtain ⟨M', t1, t2, t3⟩ := tword_m (f := (sB, kk)) hw h2 ht (hL.fz f2 (mtK_lt sB kk))
    exact ⟨M', t1, t2, f2.trans (t3.mono mtP_K), ((t3.1 14026635 kk (by unfold mtP; omega)).1).trans mSe⟩
  have b01 : ∀ c : Prop, [Decidable c] → ((if c then (1 : Int32) else 0) = 0 ∨ (if c then (1 : Int32) else 0) = 1) := fun c _ => by
    by_cases q : c
    · rw [if_pos q]; exact Or.inr rfl
    · rw [if_neg q]; exact Or.inl rfl
  unfold woM
  by_cases s : nx T n a = 115
  · by_cases i : nx T n (a + 1) = 105
    · rw [if_pos s, if_pos i]
      obtain ⟨M', t1, t2, t3, t4⟩ := key 2 (by decide)
      refine ⟨M', ?_, t2, t3, t4⟩
      have t1' : f_M_takesWord 9 4 (setI M 14026635 kk 2) = some (if lc T n (wl 2) a = (wl 2).length then 1 else 0, M') := t1
      simp only [f_M_takesHead, u2, u4, nm, bdg, if_pos s, if_pos i, f_M_takesHead_b35, gd_pos hr, hx, lte]
      rw [t1', b2g, gd_pos (b01 _)]
    · rw [if_pos s, if_neg i]
      obtain ⟨M', t1, t2, t3, t4⟩ := key 0 (by decide)
      refine ⟨M', ?_, t2, t3, t4⟩
      have t1' : f_M_takesWord 0 5 (setI M 14026635 kk 0) = some (if lc T n (wl 0) a = (wl 0).length then 1 else 0, M') := t1
      simp only [f_M_takesHead, u2, u4, nm, bdg, if_pos s, if_neg i, f_M_takesHead_b35, gd_pos hr, hx, lte]
      rw [t1', b2g, gd_pos (b01 _)]
  · rw [if_neg s]
    have d1 : ∃ M', f_M_takesHead_b83 (Int32.ofNat kk) (Int32.ofNat kk) M = some (if lc T n (wl 1) a = (wl 1).length then 1 else 0, M') ∧ MX T n sB M' (a + lc T n (wl 1) a) W d out ∧ Fz (mtK sB kk) M M' ∧ mI M' 14026635 kk = Int32.ofNat 1 := by
      obtain ⟨M', t1, t2, t3, t4⟩ := key 1 (by decide)
      refine ⟨M', ?_, t2, t3, t4⟩
      have t1' : f_M_takesWord 5 4 (setI M 14026635 kk 1) = some (if lc T n (wl 1) a = (wl 1).length then 1 else 0, M') := t1
      have n3 : ¬ mI (setI M 14026635 kk 1) 14026635 kk = 3 := by rw [mSe]; decide
      simp only [f_M_takesHead_b83, f_M_takesHead_b84, gd_pos hr, hx, lte, if_neg n3]
      rw [t1', b2g, gd_pos (b01 _)]
    obtain ⟨M1, g1, g2, g3, g4⟩ := d1
    by_cases u : nx T n (a + 3) = 117
    · by_cases v : nx T n (a + 2) = 97
      · rw [if_pos (show nx T n (a + 3) = 117 ∧ nx T n (a + 2) = 97 from ⟨u, v⟩)]
        obtain ⟨M', t1, t2, t3, t4⟩ := key 3 (by decide)
        refine ⟨M', ?_, t2, t3, t4⟩
        have t1' : f_M_takesWord 13 7 (setI M 14026635 kk 3) = some (if lc T n (wl 3) a = (wl 3).length then 1 else 0, M') := t1
        have n3 : mI (setI M 14026635 kk 3) 14026635 kk = 3 := mSe
        simp only [f_M_takesHead, u2, u4, nm, bdg, if_neg s, if_pos u, u3, if_pos v, f_M_takesHead_b84, gd_pos hr, hx, lte, if_pos n3]
        rw [t1', b2g, gd_pos (b01 _)]
      · rw [if_neg (show ¬ (nx T n (a + 3) = 117 ∧ nx T n (a + 2) = 97) from fun z => v z.2)]
        refine ⟨M1, ?_, g2, g3, g4⟩
        simp only [f_M_takesHead, u2, u4, nm, bdg, if_neg s, if_pos u, u3, if_neg v]
        exact g1
    · rw [if_neg (show ¬ (nx T n (a + 3) = 117 ∧ nx T n (a + 2) = 97) from fun z => u z.1)]
      refine ⟨M1, ?_, g2, g3, g4⟩
      simp only [f_M_takesHead, u2, u4, nm, bdg, if_neg s, if_neg u]
      exact g1
