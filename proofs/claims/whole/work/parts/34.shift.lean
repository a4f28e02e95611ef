/-! shift -/
theorem dI_le {a b : Int32} : a ≤ b ↔ a.toInt ≤ b.toInt := Int32.le_iff_toInt_le
theorem i64_add (a b : Int32) : (a.toInt64 + b.toInt64).toInt = a.toInt + b.toInt := by
  have h1 := Int32.le_toInt a
  have h2 := Int32.toInt_lt a
  have h3 := Int32.le_toInt b
  have h4 := Int32.toInt_lt b
  rw [Int64.toInt_add, Int32.toInt_toInt64, Int32.toInt_toInt64]
  exact Int.bmod_eq_of_le (by omega) (by omega)
theorem cmp_pos (x y : Int64) : 0 < lg_cmp x y ↔ y < x := by
  have := lg_cmp_le x y
  constructor
  · intro h
    exact Int64.not_le.mp fun q => absurd (this.mpr q) (Int32.not_le.mpr h)
  · intro h
    exact Int32.not_le.mp fun q => absurd (this.mp q) (Int64.not_le.mpr h)
theorem hasPl {C : Mem} {t : Nat} {n : Int32} (e : mI C t 1 = n) (hn : 0 ≤ n ∧ n ≤ 60) (p q : Int32) : f_Tp_hasPlaces t p q C = if 0 ≤ p ∧ 0 ≤ q ∧ p ≤ n - q then 1 else 0 := by
  unfold f_Tp_hasPlaces
  rw [e]
  by_cases h1 : p < 0
  · rw [if_pos h1, if_neg (by grind)]
  · rw [if_neg h1]
    by_cases h2 : q < 0
    · rw [if_pos h2, if_neg (by grind)]
    · rw [if_neg h2]
      have h1' : 0 ≤ p := by grind
      have h2' : 0 ≤ q := by grind
      have k : 0 < lg_cmp (p.toInt64 + q.toInt64) n.toInt64 ↔ n.toInt < p.toInt + q.toInt := by
        rw [cmp_pos, Int64.lt_iff_toInt_lt, i64_add, Int32.toInt_toInt64]
      have e0 : (0 : Int32).toInt = 0 := rfl
      have e60 : (60 : Int32).toInt = 60 := rfl
      have a1 := dI_le.mp h1'
      have a2 := dI_le.mp h2'
      have a3 := dI_le.mp hn.1
      have a4 := dI_le.mp hn.2
      have h4 := Int32.toInt_lt q
      have es : (n - q).toInt = n.toInt - q.toInt := by
        rw [Int32.toInt_sub]; exact Int.bmod_eq_of_le (by omega) (by omega)
      by_cases h3 : 0 < lg_cmp (p.toInt64 + q.toInt64) n.toInt64
      · rw [if_pos h3, if_neg]
        intro ⟨_, _, x⟩
        have := dI_le.mp x
        have := k.mp h3
        omega
      · rw [if_neg h3, if_pos]
        refine ⟨h1', h2', dI_le.mpr ?_⟩
        have := mt k.mpr h3
        omega
theorem ix60b {t i k : Nat} : 60 * Int32.ofNat t + Int32.ofNat i + Int32.ofNat k = Int32.ofNat (60 * t + i + k) := by
  rw [ix60, ← Int32.ofNat_add]
/-- the model's copying: aside, and from there -/
theorem sh_141 {o j n : Nat} (ho : o < 6) (hn : j + n ≤ 60) : ∀ (k fuel i : Nat) (M : Mem), k < fuel → i + k = n → ∃ M', f_M_shift_l141 fuel (Int32.ofNat o) (Int32.ofNat j) (Int32.ofNat n) (Int32.ofNat i) M = some (Int32.ofNat n, M') ∧ mI M' = mI M ∧ mZ M' = mZ M ∧ ∀ u, mL M' 17575180 u = if 60 * o + j + i ≤ u ∧ u < 60 * o + j + n then mL M 17696652 (u - (60 * o + j)) else mL M 17575180 u
  | k, 0, _, _, h, _ => by omega
  | 0, f + 1, i, M, _, h => by
    refine ⟨M, ?_, rfl, rfl, fun u => by rw [if_neg (by omega)]⟩
    simp only [f_M_shift_l141]
    rw [if_pos ((oN_le (by omega) (by omega)).mpr (by omega))]
  | k + 1, f + 1, i, M, h1, h => by
    obtain ⟨M', a1, a2, a3, a4⟩ := sh_141 ho hn k f (i + 1) (setL M 17575180 (60 * o + j + i) (mL M 17696652 i)) (by omega) (by omega)
    refine ⟨M', ?_, a2, a3, fun u => ?_⟩
    · simp only [f_M_shift_l141]
      rw [if_neg (fun q => by have := (oN_le (by omega) (by omega)).mp q; omega), gd_pos (oN_in (by omega) (by omega)), ix60b, gd_pos (oN_in (by omega) (by omega)), oN_ix (by omega), oN_ix (by omega), lte, lte, oN_s]
      exact a1
    · rw [a4 u, mL_setL, mL_setL]
      by_cases e : u = 60 * o + j + i
      · rw [if_neg (by omega), if_pos ⟨rfl, e⟩, if_pos (by omega), e]
        congr 1; omega
      · by_cases e2 : 60 * o + j + i ≤ u ∧ u < 60 * o + j + n
        · rw [if_pos (by omega), if_pos e2, if_neg (by omega)]
        · rw [if_neg (by omega), if_neg e2, if_neg (by omega)]
theorem sh_104 {t i o j n : Nat} (ht : t < 6) (ho : o < 6) (hn : i + n ≤ 60) (hm : j + n ≤ 60) : ∀ (k fuel c : Nat) (M : Mem), k < fuel → c + k = n → (∀ u, u < c → mL M 17696652 u = mL M 17575180 (60 * t + i + u)) → ∃ M', f_M_shift_l104 fuel (Int32.ofNat t) (Int32.ofNat i) (Int32.ofNat o) (Int32.ofNat j) (Int32.ofNat n) (Int32.ofNat c) M = some (Int32.ofNat n, M') ∧ mI M' = mI M ∧ mZ M' = mZ M ∧ ∀ u, mL M' 17575180 u = if 60 * o + j ≤ u ∧ u < 60 * o + j + n then mL M 17575180 (60 * t + i + (u - (60 * o + j))) else mL M 17575180 u
  | k, 0, _, _, h, _, _ => by omega
  | 0, f + 1, c, M, _, h, hc => by
    obtain ⟨M', a1, a2, a3, a4⟩ := sh_141 ho hm n 200 0 M (by omega) (by omega)
    refine ⟨M', ?_, a2, a3, fun u => ?_⟩
    · simp only [f_M_shift_l104]
      rw [if_pos ((oN_le (by omega) (by omega)).mpr (by omega))]
      exact a1
    · rw [a4 u]
      by_cases e : 60 * o + j + 0 ≤ u ∧ u < 60 * o + j + n
      · rw [if_pos e, if_pos (by omega), hc _ (by omega)]
      · rw [if_neg e, if_neg (by omega)]
  | k + 1, f + 1, c, M, h1, h, hc => by
    obtain ⟨M', a1, a2, a3, a4⟩ := sh_104 ht ho hn hm k f (c + 1) (setL M 17696652 c (mL M 17575180 (60 * t + i + c))) (by omega) (by omega) (fun u hu => by
      rw [mL_setL, mL_setL, if_neg (show ¬ ((17575180 : Nat) = 17696652 ∧ _) by omega)]
      by_cases e : u = c
      · rw [if_pos ⟨rfl, e⟩, e]
      · rw [if_neg (by omega)]; exact hc u (by omega))
    refine ⟨M', ?_, a2, a3, fun u => ?_⟩
    · simp only [f_M_shift_l104]
      rw [if_neg (fun q => by have := (oN_le (by omega) (by omega)).mp q; omega), ix60b, gd_pos (oN_in (by omega) (by omega)), gd_pos (oN_in (by omega) (by omega)), oN_ix (by omega), oN_ix (by omega), lte, lte, oN_s]
      exact a1
    · rw [a4 u, mL_setL, mL_setL, if_neg (show ¬ ((17575180 : Nat) = 17696652 ∧ _) by omega), if_neg (show ¬ ((17575180 : Nat) = 17696652 ∧ _) by omega)]
theorem mL_cpyL (C : Mem) (a sp b dp n c j : Nat) : mL (cpyL C a sp b dp n) c j = if c = b ∧ dp ≤ j ∧ j < dp + n then mL C a (sp + (j - dp)) else mL C c j := rfl
theorem shift_c {C : Mem} {t o i j n : Nat} (ht : t < 6) (ho : o < 6) (hi' : i + n ≤ 60) (hj : j + n ≤ 60) : ∃ C', gd (cpOK (Int32.ofNat i) (Int32.ofNat j) (Int32.ofNat n) 60 60) (lt (cpyL C (10878984 + 262144 * t + 132996) (Int32.ofNat i).toNatClampNeg (10878984 + 262144 * o + 132996) (Int32.ofNat j).toNatClampNeg (Int32.ofNat n).toNatClampNeg) fun M5 => some (Int32.ofNat n, M5)) = some (Int32.ofNat n, C') ∧ mI C' = mI C ∧ mR C' = mR C ∧ mZ C' = mZ C ∧ ∀ u k, u < 6 → k < 60 → mL C' (10878984 + 262144 * u + 132996) k = if u = o ∧ j ≤ k ∧ k < j + n then mL C (10878984 + 262144 * t + 132996) (i + (k - j)) else mL C (10878984 + 262144 * u + 132996) k := by
  refine ⟨cpyL C (10878984 + 262144 * t + 132996) i (10878984 + 262144 * o + 132996) j n, ?_, rfl, rfl, rfl, fun u k hu hk => ?_⟩
  · rw [gd_pos, lte, oN_ix (by omega), oN_ix (by omega), oN_ix (by omega)]
    show _ ∧ _ ∧ _ ∧ _ ∧ _
    rw [oN_int (by omega), oN_int (by omega), oN_int (by omega)]; omega
  · rw [mL_cpyL]
    by_cases e : u = o ∧ j ≤ k ∧ k < j + n
    · rw [if_pos (by omega), if_pos e]
    · rw [if_neg (by omega), if_neg e]
theorem sim_shift {hs : Nat → List Cls} {C M : Mem} (h : Rel hs C M) (p1 p2 p3 p4 p5 : Int32) : Sim C M (f_D_shift p1 p2 p3 p4 p5 C) (f_M_shift p1 p2 p3 p4 p5) := by
  rcases tape_at C M p1 with ⟨t, ht, et, e0, hr, eC, eM⟩ | ⟨eC, eM⟩
  · rcases tape_at C M p3 with ⟨o, ho, eo, o0, hro, oC, oM⟩ | ⟨oC, oM⟩
    · obtain ⟨s, n, a1, a2, a3, a4, b1, b2, b3, b4⟩ := tape_of h ht
      obtain ⟨s', n', a1', a2', a3', a4', b1', b2', b3', b4'⟩ := tape_of h ho
      have k1 := tkd t
      have k2 := tkd o
      have z1 := tnz t
      have z2 := tnz o
      by_cases hs1 : s = -1
      · exact sim_no (-11) h (by unfold f_D_shift; rw [eC, bds, oC, bds, if_neg z1, if_neg z2, gd_pos k1, a1, if_pos hs1]) (by unfold f_M_shift; rw [eM, oM, if_neg i10, if_neg i10, gd_pos hr, et, a2, if_pos (by grind)])
      · have n1 : ¬ s < 0 := by grind
        by_cases hs2 : s' = -1
        · exact sim_no (-11) h (by unfold f_D_shift; rw [eC, bds, oC, bds, if_neg z1, if_neg z2, gd_pos k1, a1, if_neg hs1, gd_pos k2, a1', if_pos hs2]) (by unfold f_M_shift; rw [eM, oM, if_neg i10, if_neg i10, gd_pos hr, et, a2, if_neg n1, gd_pos hro, eo, a2', if_neg (by grind)])
        · have n2 : 0 ≤ s' := by grind
          by_cases hss : s = s'
          · have hD : f_D_shift p1 p2 p3 p4 p5 C = if f_Tp_hasPlaces (10878984 + 262144 * t) p2 p5 C = 0 then some ((-13), C) else if f_Tp_hasPlaces (10878984 + 262144 * o) p4 p5 C = 0 then some ((-13), C) else gd (cpOK p2 p4 p5 (60) (60)) (lt (cpyL C (10878984 + 262144 * t + 132996) p2.toNatClampNeg (10878984 + 262144 * o + 132996) p4.toNatClampNeg p5.toNatClampNeg) fun M5 => some (p5, M5)) := by
              unfold f_D_shift; rw [eC, bds, oC, bds, if_neg z1, if_neg z2, gd_pos k1, a1, if_neg hs1, gd_pos k2, a1', if_neg hs2, if_pos hss]
            have hM : f_M_shift p1 p2 p3 p4 p5 M = if p5 < 0 then some ((-13), M) else if p2 < 0 then some ((-13), M) else if p4 < 0 then some ((-13), M) else if (n - p5) < p2 then some ((-13), M) else if p4 ≤ (n' - p5) then f_M_shift_l104 200 p1 p2 p3 p4 p5 0 M else some ((-13), M) := by
              unfold f_M_shift; rw [eM, oM, if_neg i10, if_neg i10, gd_pos hr, et, a2, if_neg n1, gd_pos hro, eo, a2', if_pos n2, gd_pos hr, gd_pos hro, if_pos hss, gd_pos hr, gd_pos hro, a4, a4']
            rw [hasPl a3 ⟨b3, b4⟩, hasPl a3' ⟨b3', b4'⟩] at hD
            by_cases c1 : 0 ≤ p2 ∧ 0 ≤ p5 ∧ p2 ≤ n - p5
            · by_cases c2 : 0 ≤ p4 ∧ 0 ≤ p5 ∧ p4 ≤ n' - p5
              · rw [if_pos c1, if_pos c2, if_neg i10, if_neg i10] at hD
                rw [if_neg (by grind), if_neg (by grind), if_neg (by grind), if_neg (by grind), if_pos c2.2.2] at hM
                have e0' : (0 : Int32).toInt = 0 := rfl
                have e60 : (60 : Int32).toInt = 60 := rfl
                have q2 := dI_le.mp c1.1
                have q5 := dI_le.mp c1.2.1
                have q4 := dI_le.mp c2.1
                have qn := dI_le.mp b3
                have qn2 := dI_le.mp b4
                have qm := dI_le.mp b3'
                have qm2 := dI_le.mp b4'
                have u5 := Int32.toInt_lt p5
                have s1 : (n - p5).toInt = n.toInt - p5.toInt := by
                  rw [Int32.toInt_sub]; exact Int.bmod_eq_of_le (by omega) (by omega)
                have s2 : (n' - p5).toInt = n'.toInt - p5.toInt := by
                  rw [Int32.toInt_sub]; exact Int.bmod_eq_of_le (by omega) (by omega)
                have l1 := dI_le.mp c1.2.2
                have l2 := dI_le.mp c2.2.2
                rw [s1] at l1; rw [s2] at l2
                have f2 := ofN_ix c1.1
                have f4 := ofN_ix c2.1
                have f5 := ofN_ix c1.2.1
                have g2 : p2.toNatClampNeg = p2.toInt.toNat := rfl
                have g4 : p4.toNatClampNeg = p4.toInt.toNat := rfl
                have g5 : p5.toNatClampNeg = p5.toInt.toNat := rfl
                generalize hi2 : p2.toNatClampNeg = i at *
                generalize hj2 : p4.toNatClampNeg = j at *
                generalize hk2 : p5.toNatClampNeg = k at *
                have w1 : i + k ≤ 60 := by omega
                have w2 : j + k ≤ 60 := by omega
                obtain ⟨C', x1, x2, x3, x4, x5⟩ := shift_c (C := C) ht ho w1 w2
                obtain ⟨M', y1, y2, y3, y4⟩ := sh_104 ht ho w1 w2 k 200 0 M (by omega) (by omega) (fun u hu => by omega)
                rw [f2, f4, f5, hi2, hj2, hk2] at x1
                rw [f2, f4, f5, ← e0, ← o0] at y1
                refine sim_of h (a := p5) (hD.trans x1) x4 (hM.trans y1) (h.longs x2 x3 x4 y2 y3 fun u c hu hc => ?_)
                have r := h.2.2.2.2.1
                rw [x5 u c hu hc, y4]
                by_cases e : u = o ∧ j ≤ c ∧ c < j + k
                · rw [if_pos e, if_pos (by omega), r t _ ht (by omega)]
                  congr 1; omega
                · rw [if_neg e, if_neg (by omega), r u c hu hc]
              · rw [if_pos c1, if_neg c2, if_neg i10, if_pos rfl] at hD
                refine sim_no (-13) h hD ?_
                rw [hM]
                by_cases d1 : p5 < 0
                · rw [if_pos d1]
                · rw [if_neg d1]
                  by_cases d2 : p2 < 0
                  · rw [if_pos d2]
                  · rw [if_neg d2]
                    by_cases d3 : p4 < 0
                    · rw [if_pos d3]
                    · rw [if_neg d3]
                      by_cases d4 : n - p5 < p2
                      · rw [if_pos d4]
                      · rw [if_neg d4, if_neg (by grind)]
            · rw [if_neg c1, if_pos rfl] at hD
              refine sim_no (-13) h hD ?_
              rw [hM]
              by_cases d1 : p5 < 0
              · rw [if_pos d1]
              · rw [if_neg d1]
                by_cases d2 : p2 < 0
                · rw [if_pos d2]
                · rw [if_neg d2]
                  by_cases d3 : p4 < 0
                  · rw [if_pos d3]
                  · rw [if_neg d3, if_pos (by grind)]
          · exact sim_no (-12) h (by unfold f_D_shift; rw [eC, bds, oC, bds, if_neg z1, if_neg z2, gd_pos k1, a1, if_neg hs1, gd_pos k2, a1', if_neg hs2, if_neg hss]) (by unfold f_M_shift; rw [eM, oM, if_neg i10, if_neg i10, gd_pos hr, et, a2, if_neg n1, gd_pos hro, eo, a2', if_pos n2, gd_pos hr, gd_pos hro, if_neg hss])
    · exact sim_no (-1) h (by unfold f_D_shift; rw [eC, bds, oC, bds, if_neg (tnz t), if_pos rfl]) (by unfold f_M_shift; rw [eM, oM, if_neg i10, if_pos rfl])
  · obtain ⟨x, hx⟩ : ∃ x, f_D_tapeAt p3 C = some x := by
      rcases tape_at C M p3 with ⟨o, ho, eo, o0, hro, oC, oM⟩ | ⟨oC, oM⟩
      · exact ⟨_, oC⟩
      · exact ⟨_, oC⟩
    exact sim_no (-1) h (by unfold f_D_shift; rw [eC, bds, hx, bds, if_pos rfl]) (by unfold f_M_shift; rw [eM, if_pos rfl])
