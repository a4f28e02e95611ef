/-! judge, month -/
theorem oN_int' {i : Nat} (h : i < 2147483648) : (Int32.ofNat i).toInt = i := oN_int h
theorem hasP {C : Mem} {t : Nat} {n : Int32} (e : mI C t 1 = n) (p : Int32) : f_Tp_hasPlace t p C = if 0 ≤ p ∧ p ≤ n - 1 then 1 else 0 := by
  unfold f_Tp_hasPlace
  rw [e]
  by_cases h : 0 ≤ p ∧ p ≤ n - 1
  · rw [wi1 h, if_pos h]
  · rw [wi0 h, if_neg h]
theorem ar1 {p n x : Int32} (hn : 0 ≤ n ∧ n ≤ 60) (hx : 0 ≤ x ∧ x ≤ 5) (hp : 0 ≤ p ∧ p ≤ n - 1 - x) : p ≤ 59 ∧ p ≤ n - 1 ∧ (0 ≤ p + x ∧ p + x ≤ n - 1) ∧ p + x ≤ 59 ∧ ¬ p < 0 ∧ p ≤ n - x - 1 ∧ ¬ n = 0 := by
  refine ⟨by grind, by grind, ⟨by grind, by grind⟩, by grind, by grind, by grind, by grind⟩
theorem ar2 {p n x : Int32} (hn : 0 ≤ n ∧ n ≤ 60) (hx : 0 ≤ x ∧ x ≤ 5) (hp : ¬ (0 ≤ p ∧ p ≤ n - 1 - x)) (a1 : 0 ≤ p ∧ p ≤ n - 1) : ¬ (0 ≤ p + x ∧ p + x ≤ n - 1) := by grind
theorem ar3 {p n x : Int32} (hn : 0 ≤ n ∧ n ≤ 60) (hx : 0 ≤ x ∧ x ≤ 5) (hp : ¬ (0 ≤ p ∧ p ≤ n - 1 - x)) (a1 : ¬ p < 0) : ¬ p ≤ n - x - 1 := by grind
theorem ar4 {n : Int32} (h : -1 ≤ n) (q : n < 0) : n = -1 := by grind
theorem jud_l {C' M : Mem} {hid j m b t : Nat} {cs : List Cls} {S : Nat → Int32} {srt n p2 : Int32} (ht : t < 6) (hj : j < 4) (hC : CoT C' 7602179 hid cs S) (hS : MoS M j S) (ho : okS m S) (hw : wfH cs) (hH : MHb M cs b) (c1 : mI C' (10878984 + 262144 * t) 1 = n) (m0 : mI M 17301707 t = srt) (m1 : mI M 17432779 t = n) (hs : -1 ≤ srt) (hn : 0 ≤ n ∧ n ≤ 60) (hz : srt = -1 → n = 0) (hL : ∀ k, k < 60 → mL C' (10878984 + 262144 * t + 132996) k = mL M 17575180 (60 * t + k)) : ∀ (k fuel i : Nat) (M1 : Mem), k < fuel → i + k = 6 → Fr pilP M M1 → ∃ a M2, f_D_judge_l57 fuel p2 (10878984 + 262144 * t) (Int32.ofNat i) C' = some (a, C') ∧ f_M_judge_l43 fuel (Int32.ofNat t) p2 (Int32.ofNat j) (Int32.ofNat i) M1 = some (a, M2) ∧ Fr pilP M M2
  | k, 0, _, _, h, _, _ => by omega
  | 0, fuel + 1, i, M1, _, hi', hF => by
    refine ⟨-5, M1, ?_, ?_, hF⟩
    · simp only [f_D_judge_l57]
      rw [if_pos ((le6 (by omega)).mpr (by omega))]
    · simp only [f_M_judge_l43]
      rw [if_pos ((le6 (by omega)).mpr (by omega))]
  | k + 1, fuel + 1, i, M1, _, hi', hF => by
    have h6 : i < 6 := by omega
    have e0 : mI M1 17301707 t = srt := (hF.1 _ _ (by unfold pilP; omega)).trans m0
    have e1 : mI M1 17432779 t = n := (hF.1 _ _ (by unfold pilP; omega)).trans m1
    have hr : inR (Int32.ofNat t) 6 := oN_in (by omega) ht
    have hx : (Int32.ofNat t).toNatClampNeg = t := oN_ix (by omega)
    have bi : 0 ≤ Int32.ofNat i ∧ Int32.ofNat i ≤ 5 := ⟨(oN_le (m := 0) (by omega) (by omega)).mpr (by omega), (oN_le (i := 5) (by omega) (by omega)).mpr (by omega)⟩
    have d1 : ∀ x, (if (6 : Int32) ≤ Int32.ofNat i then some ((-5 : Int32), C') else x) = x := fun x => if_neg (fun q => by have := (le6 (by omega)).mp q; omega)
    by_cases hp : 0 ≤ p2 ∧ p2 ≤ n - 1 - Int32.ofNat i
    · obtain ⟨w1, w2, w3, w4, w5, w6, w7⟩ := ar1 hn bi hp
      have hp0 : 0 ≤ p2 ∧ p2 ≤ 59 := ⟨hp.1, w1⟩
      obtain ⟨q, hq, rfl⟩ := oN_of hp0 (n := 60) (by decide)
      have a1 : 0 ≤ Int32.ofNat q ∧ Int32.ofNat q ≤ n - 1 := ⟨hp.1, w2⟩
      have sm : Int32.ofNat q + Int32.ofNat i = Int32.ofNat (q + i) := (Int32.ofNat_add q i).symm
      have a2 : 0 ≤ Int32.ofNat (q + i) ∧ Int32.ofNat (q + i) ≤ n - 1 := by rw [← sm]; exact w3
      have hqi : q + i < 60 := by
        have : Int32.ofNat (q + i) ≤ 59 := by rw [← sm]; exact w4
        exact Nat.lt_succ_of_le ((oN_le (i := 59) (by omega) (by omega)).mp this)
      obtain ⟨M2, g1, g2⟩ := gap_m hj h6 (hS.pil hF) ho hw (hH.pil hF)
      have e2 : mL M1 17575180 = mL M 17575180 := by rw [hF.2.2.1]
      by_cases z : lg_cmp (mL M 17575180 (60 * t + (q + i))) (gapS cs S i).toInt64 = 0
      · obtain ⟨a, M3, r1, r2, r3⟩ := jud_l (p2 := Int32.ofNat q) ht hj hC hS ho hw hH c1 m0 m1 hs hn hz hL k fuel (i + 1) M2 (by omega) (by omega) (hF.trans g2)
        refine ⟨a, M3, ?_, ?_, r3⟩
        · simp only [f_D_judge_l57]
          rw [d1, gd_pos (tkd t), hasP c1, if_pos a1, if_neg i10, hasP c1, sm, if_pos a2, if_neg i10, gd_pos (oN_in (by omega) hqi), gap_c hC h6, bdg, oN_ix (by omega), hL _ hqi, if_pos z, lte, oN_s]
          exact r1
        · simp only [f_M_judge_l43]
          rw [if_neg (fun q => by have := (le6 (by omega)).mp q; omega), gd_pos hr, hx, e0, if_neg (fun w => w7 (hz (ar4 hs w))), if_neg w5, gd_pos hr, e1, if_pos w6, ix60b, gd_pos (oN_in (by omega) (by omega)), g1, b2g, oN_ix (by omega), e2, Nat.add_assoc, if_pos z, lte, oN_s]
          exact r2
      · refine ⟨Int32.ofNat i, M2, ?_, ?_, hF.trans g2⟩
        · simp only [f_D_judge_l57]
          rw [d1, gd_pos (tkd t), hasP c1, if_pos a1, if_neg i10, hasP c1, sm, if_pos a2, if_neg i10, gd_pos (oN_in (by omega) hqi), gap_c hC h6, bdg, oN_ix (by omega), hL _ hqi, if_neg z]
        · simp only [f_M_judge_l43]
          rw [if_neg (fun q => by have := (le6 (by omega)).mp q; omega), gd_pos hr, hx, e0, if_neg (fun w => w7 (hz (ar4 hs w))), if_neg w5, gd_pos hr, e1, if_pos w6, ix60b, gd_pos (oN_in (by omega) (by omega)), g1, b2g, oN_ix (by omega), e2, Nat.add_assoc, if_neg z]
    · refine ⟨100 + Int32.ofNat i, M1, ?_, ?_, hF⟩
      · simp only [f_D_judge_l57]
        rw [d1, gd_pos (tkd t), hasP c1]
        by_cases a1 : 0 ≤ p2 ∧ p2 ≤ n - 1
        · rw [if_pos a1, if_neg i10, hasP c1, if_neg (ar2 hn bi hp a1), if_pos rfl]
        · rw [if_neg a1, if_pos rfl]
      · simp only [f_M_judge_l43]
        rw [if_neg (fun q => by have := (le6 (by omega)).mp q; omega), gd_pos hr, hx, e0]
        by_cases z : srt < 0
        · rw [if_pos z]
        · rw [if_neg z]
          by_cases y : p2 < 0
          · rw [if_pos y]
          · rw [if_neg y, gd_pos hr, e1, if_neg (ar3 hn bi hp y)]
theorem sim_judge {hs : Nat → List Cls} {C M : Mem} (h : Rel hs C M) (p1 p2 p3 : Int32) : Sim C M (f_D_judge p1 p2 p3 C) (f_M_judge p1 p2 p3) := by
  rcases tape_at C M p1 with ⟨t, ht, et, e1, hr1, tC, tM⟩ | ⟨tC, tM⟩
  · rcases door_at h p3 with ⟨j, hj, ej, e0, hr, hlt, eC, eM⟩ | ⟨eC, eM⟩
    · obtain ⟨hid, n, m, b, cs, hE⟩ := enter h
      have hjn := door_n h hE hj (by rw [← e0]; exact hlt)
      obtain ⟨h1, h2, h3, h4, h5, -⟩ := hE
      obtain ⟨hS, ho⟩ : MoS M j (stC C (786436 + 655360 * j)) ∧ okS m (stC C (786436 + 655360 * j)) := h5.2.2.2.2 j hjn
      obtain ⟨C', n1, n2, n3, -⟩ := now_c h1 h2 h3 (dlo hj)
      obtain ⟨srt, nn, t1, t2, t3, t4, t5, t6, t7, t8⟩ := tape_of h ht
      have t9 : srt = -1 → nn = 0 := fun q => by
        obtain ⟨x1, x2, x3, x4, x5, x6, -⟩ := ce_tape ht
        have := h.2.2.1.2.2 t ht
        rw [x1, x6] at this
        exact t3.symm.trans (this (t1.trans q))
      have c1 : mI C' (10878984 + 262144 * t) 1 = nn := (n3.1 _ _ (by unfold kC; omega)).trans t3
      have hL : ∀ k, k < 60 → mL C' (10878984 + 262144 * t + 132996) k = mL M 17575180 (60 * t + k) := fun k hk => by
        rw [n3.2.2.1]; exact h.2.2.2.2.1 t k ht hk
      obtain ⟨a, M2, r1, r2, r3⟩ := jud_l (p2 := p2) ht hj n2 hS ho h3 h4 c1 t2 t4 t5 ⟨t7, t8⟩ t9 hL 6 200 0 M (by omega) (by omega) Fr.rf
      have kC1 : f_D_judge_b47 p2 (10878984 + 262144 * t) (786436 + 655360 * j) C = some (a, C') := by
        unfold f_D_judge_b47
        rw [gd_pos (dkd j), n1, b2g]; exact r1
      have kM1 : f_M_judge_b40 p1 p2 p3 M = some (a, M2) := by
        unfold f_M_judge_b40
        rw [e1, e0]; exact r2
      have uC : f_D_judge p1 p2 p3 C = if srt = -1 then f_D_judge_b47 p2 (10878984 + 262144 * t) (786436 + 655360 * j) C else if srt = 1 then f_D_judge_b47 p2 (10878984 + 262144 * t) (786436 + 655360 * j) C else some (-12, C) := by
        unfold f_D_judge
        rw [tC, bdg, eC, bdg, if_neg (tnz t), if_neg (dnz j), gd_pos (tkd t), t1]
      have uM : f_M_judge p1 p2 p3 M = if srt < 0 then f_M_judge_b40 p1 p2 p3 M else if srt = 1 then f_M_judge_b40 p1 p2 p3 M else some (-12, M) := by
        unfold f_M_judge
        rw [tM, if_neg i10, eM, if_neg i10, gd_pos hr1, gd_pos hr1, et, t2]
      by_cases z : srt = -1
      · refine sim_ask h (a := a) (uC.trans ?_) n3 (uM.trans ?_) (r3.mono pil_jM).fi
        · rw [if_pos z]; exact kC1
        · rw [if_pos (by rw [z]; decide)]; exact kM1
      have z' : ¬ srt < 0 := fun q => z (ar4 t5 q)
      by_cases y : srt = 1
      · refine sim_ask h (a := a) (uC.trans ?_) n3 (uM.trans ?_) (r3.mono pil_jM).fi
        · rw [if_neg z, if_pos y]; exact kC1
        · rw [if_neg z', if_pos y]; exact kM1
      · refine sim_no (-12) h (uC.trans ?_) (uM.trans ?_)
        · rw [if_neg z, if_neg y]
        · rw [if_neg z', if_neg y]
    · refine sim_no (-1) h ?_ ?_
      · unfold f_D_judge
        rw [tC, bdg, eC, bdg, if_neg (tnz t), if_pos rfl]
      · unfold f_M_judge
        rw [tM, if_neg i10, eM, if_pos rfl]
  · have hd : ∃ r, f_D_doorAt p3 C = some r := by
      rcases door_at h p3 with ⟨j, -, -, -, -, -, eC, -⟩ | ⟨eC, -⟩
      · exact ⟨_, eC⟩
      · exact ⟨_, eC⟩
    obtain ⟨r, hd⟩ := hd
    refine sim_no (-1) h ?_ ?_
    · unfold f_D_judge
      rw [tC, bdg, hd, bdg, if_pos rfl]
    · unfold f_M_judge
      rw [tM, if_pos rfl]
