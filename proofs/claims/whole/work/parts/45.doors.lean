/-! THE MODEL'S DOORS -/
def MoS (M : Mem) (j : Nat) (S : Nat → Int32) : Prop := (mI M 12714123 j = S 1 ∧ mI M 12845195 j = S 2 ∧ mI M 13369483 j = S 3 ∧ mI M 13500555 j = S 4 ∧ mI M 12976267 j = S 5 ∧ mI M 13107339 j = S 6 ∧ mI M 13238411 j = S 7 + 2 * S 8) ∧ (∀ s, s < 6 → mI M 13632267 (6 * j + s) = S (9 + s)) ∧ mI M 12451850 2 = S 15 ∧ mI M 12451850 3 = S 16 ∧ S 0 = Int32.ofNat j
theorem MoS.fr {P : Nat → Nat → Prop} {M M' : Mem} {j : Nat} {S : Nat → Int32} (h : MoS M j S) (hF : Fr P M M') (hP : ∀ a k, (12714123 ≤ a ∧ a ≤ 13632267) ∨ (a = 12451850 ∧ k < 33) → ¬ P a k) : MoS M' j S := by
  obtain ⟨⟨a1, a2, a3, a4, a5, a6, a7⟩, b, c1, c2, c3⟩ := h
  have e : ∀ a k, (12714123 ≤ a ∧ a ≤ 13632267) ∨ (a = 12451850 ∧ k < 33) → mI M' a k = mI M a k := fun a k q => hF.1 a k (hP a k q)
  refine ⟨⟨?_, ?_, ?_, ?_, ?_, ?_, ?_⟩, fun s hs => ?_, ?_, ?_, c3⟩
  · rw [e _ _ (Or.inl (by decide))]; exact a1
  · rw [e _ _ (Or.inl (by decide))]; exact a2
  · rw [e _ _ (Or.inl (by decide))]; exact a3
  · rw [e _ _ (Or.inl (by decide))]; exact a4
  · rw [e _ _ (Or.inl (by decide))]; exact a5
  · rw [e _ _ (Or.inl (by decide))]; exact a6
  · rw [e _ _ (Or.inl (by decide))]; exact a7
  · rw [e _ _ (Or.inl (by decide))]; exact b s hs
  · rw [e _ _ (Or.inr (by decide))]; exact c1
  · rw [e _ _ (Or.inr (by decide))]; exact c2
theorem pil_no {a k : Nat} (h : (12714123 ≤ a ∧ a ≤ 13632267) ∨ (a = 12451850 ∧ k < 33)) : ¬ pilP a k := by unfold pilP; omega
theorem MoS.pil {M M' : Mem} {j : Nat} {S : Nat → Int32} (h : MoS M j S) (hF : Fr pilP M M') : MoS M' j S := h.fr hF fun _ _ q => pil_no q
theorem fct_m {M : Mem} {j m : Nat} {S : Nat → Int32} (h : MoS M j S) (ho : okS m S) : fcM M j = fctS S := by
  obtain ⟨⟨a1, a2, a3, a4, a5, a6, a7⟩, b, c1, c2, c3⟩ := h
  obtain ⟨-, -, -, -, -, -, h7, h8, -⟩ := ho
  funext l
  unfold fcM fctS dmpS
  rw [a1, a3, a5, a6, a7, c2, c3]
  have e : (S 7 + 2 * S 8 - (S 7 + 2 * S 8) / 2 * 2) + (S 7 + 2 * S 8) / 2 = S 7 + S 8 := by
    rcases h7 with q | q <;> rcases h8 with z | z <;> rw [q, z] <;> decide
  rw [e]
theorem swell_m {M : Mem} {j m b : Nat} {S : Nat → Int32} {cs : List Cls} (hj : j < 4) (h : MoS M j S) (ho : okS m S) (hw : wfH cs) (hH : MHb M cs b) : ∃ M2, f_M_swellOf (Int32.ofNat j) M = some (swlS cs S, M2) ∧ Fr pilP M M2 := by
  have hx := swx_ok ho hw
  have hr : inR (Int32.ofNat j) 4 := oN_in (by omega) hj
  have hi' : (Int32.ofNat j).toNatClampNeg = j := oN_ix (by omega)
  have fin : ∀ (x : Int32) (M2 : Mem), x = (if swS cs = 0 then 1 else sumS 0 (fctS S) cs) → Fr pilP M M2 → ∃ M3, f_M_swellOf_b17 (Int32.ofNat j) x M2 = some (swlS cs S, M3) ∧ Fr pilP M M3 := fun x M2 hxe hF => by
    obtain ⟨⟨a1, a2, a3, a4, a5, a6, a7⟩, -⟩ := h.pil hF
    refine ⟨M2, ?_, hF⟩
    unfold f_M_swellOf_b17
    simp only [gd_pos hr, hi', lte]
    rw [a1, a2, a5, a6, hxe]
    show (if S 1 = 1 then some (swxS cs S + S 2, M2) else if S 1 = 4 then some ((swxS cs S + S 2) / 2, M2) else if S 1 = 5 then if 2 ≤ swxS cs S then some (swxS cs S - 2, M2) else some (0, M2) else some (swxS cs S, M2)) = _
    unfold swlS mxI
    by_cases e1 : S 1 = 1
    · rw [if_pos e1, if_pos e1]
    rw [if_neg e1, if_neg e1]
    by_cases e4 : S 1 = 4
    · rw [if_pos e4, if_pos e4]
    rw [if_neg e4, if_neg e4]
    by_cases e5 : S 1 = 5
    · rw [if_pos e5, if_pos e5]
      generalize swxS cs S = y at *
      by_cases z : 2 ≤ y
      · rw [if_pos z]
        by_cases w : 0 < y - 2
        · rw [if_pos w]
        · rw [if_neg w, show y - 2 = 0 by grind]
      · rw [if_neg z, if_neg (by grind)]
    · rw [if_neg e5, if_neg e5]
  unfold f_M_swellOf
  rw [hasSwell_m hw hH, bdg]
  by_cases z : swS cs = 0
  · rw [if_pos z]; exact fin 1 M (by rw [if_pos z]) Fr.rf
  · rw [if_neg z]
    obtain ⟨M2, s1, s2⟩ := sumOf_m hj (w := 0) (by decide) hw hH
    rw [s1, b2g, fct_m h ho]
    exact fin _ M2 (by rw [if_neg z]) s2
theorem bend_m {M : Mem} {j m : Nat} {S : Nat → Int32} (hj : j < 4) (h : MoS M j S) (ho : okS m S) : f_M_bendOf (Int32.ofNat j) M = some (bndS S) := by
  have hr : inR (Int32.ofNat j) 4 := oN_in (by omega) hj
  have hi' : (Int32.ofNat j).toNatClampNeg = j := oN_ix (by omega)
  obtain ⟨⟨a1, a2, a3, a4, a5, a6, a7⟩, -⟩ := h
  obtain ⟨-, -, -, -, h5, h6, -⟩ := ho
  unfold f_M_bendOf f_M_bendOf_b44 bndS
  simp only [gd_pos hr, hi']
  rw [a1, a5, a6]
  have key : abI (S 5 - S 6) = if S 5 ≤ S 6 then S 6 - S 5 else S 5 - S 6 := by
    unfold abI
    by_cases q : S 5 ≤ S 6
    · rw [if_pos q]
      by_cases z : 0 ≤ S 5 - S 6
      · rw [if_pos z]; grind
      · rw [if_neg z]; grind
    · rw [if_neg q, if_pos (by grind)]
  rw [key]
  by_cases q : S 5 ≤ S 6
  · rw [if_pos q, if_pos q]
    by_cases e2 : S 1 = 2
    · rw [if_pos e2, if_pos e2, Int32.mul_comm]
    · rw [if_neg e2, if_neg e2]
      by_cases e5 : S 1 = 5
      · rw [if_pos e5, if_pos e5, Int32.mul_comm]
      · rw [if_neg e5, if_neg e5]
  · rw [if_neg q, if_neg q]
    by_cases e2 : S 1 = 2
    · rw [if_pos e2, if_pos e2, Int32.mul_comm]
    · rw [if_neg e2, if_neg e2]
      by_cases e5 : S 1 = 5
      · rw [if_pos e5, if_pos e5, Int32.mul_comm]
      · rw [if_neg e5, if_neg e5]
theorem hang_m {M : Mem} {j m : Nat} {S : Nat → Int32} (hj : j < 4) (h : MoS M j S) (ho : okS m S) : f_M_hangOf (Int32.ofNat j) M = some (hngS S) := by
  have hr : inR (Int32.ofNat j) 4 := oN_in (by omega) hj
  have hi' : (Int32.ofNat j).toNatClampNeg = j := oN_ix (by omega)
  obtain ⟨⟨a1, a2, a3, a4, a5, a6, a7⟩, b, c1, c2, c3⟩ := h
  obtain ⟨-, -, h3, h4, -⟩ := ho
  unfold f_M_hangOf f_M_hangOf_b32 hngS
  simp only [gd_pos hr, hi']
  rw [a1, a2, a3, a4, c1]
  have key : mxI 0 (S 3 - S 4) = if S 3 ≤ S 4 then 0 else S 3 - S 4 := by
    unfold mxI
    by_cases q : S 3 ≤ S 4
    · rw [if_pos q, if_neg (by grind)]
    · rw [if_neg q, if_pos (by grind)]
  rw [key]
  by_cases q : S 3 ≤ S 4
  · rw [if_pos q, if_pos q]
    by_cases e2 : S 1 = 3
    · rw [if_pos e2, if_pos e2]
    · rw [if_neg e2, if_neg e2]
      by_cases e5 : S 1 = 6
      · rw [if_pos e5, if_pos e5]
      · rw [if_neg e5, if_neg e5]
  · rw [if_neg q, if_neg q]
    by_cases e2 : S 1 = 3
    · rw [if_pos e2, if_pos e2]
    · rw [if_neg e2, if_neg e2]
      by_cases e5 : S 1 = 6
      · rw [if_pos e5, if_pos e5]
      · rw [if_neg e5, if_neg e5]
theorem gapBy_m {M : Mem} {j s : Nat} {S : Nat → Int32} (hj : j < 4) (hs : s < 6) (h : MoS M j S) (x y z w : Int32) : f_M_gapBy (Int32.ofNat j) (Int32.ofNat s) x y z w M = some (S (9 + s) - tkuS (Int32.ofNat s) x y w z (S 4)) := by
  have hr : inR (Int32.ofNat j) 4 := oN_in (by omega) hj
  have hi' : (Int32.ofNat j).toNatClampNeg = j := oN_ix (by omega)
  obtain ⟨⟨a1, a2, a3, a4, a5, a6, a7⟩, b, c1, c2, c3⟩ := h
  unfold f_M_gapBy tkuS f_D_takenUp
  rw [ix6 hj hs, gd_pos (oN_in (by omega) (by omega)), oN_ix (by omega), b s hs, lte]
  simp only [gd_pos hr, hi', a4]
  generalize S (9 + s) = c
  rcases (show s = 0 ∨ s = 1 ∨ s = 2 ∨ s = 3 ∨ s = 4 ∨ s = 5 by omega) with q | q | q | q | q | q <;> subst q
  · simp only [if_pos (show Int32.ofNat 0 = 0 by decide)]
  · simp only [if_neg (show ¬ Int32.ofNat 1 = 0 by decide), if_pos (show Int32.ofNat 1 = 1 by decide)]; congr 1; grind
  · simp only [if_neg (show ¬ Int32.ofNat 2 = 0 by decide), if_neg (show ¬ Int32.ofNat 2 = 1 by decide), if_pos (show Int32.ofNat 2 = 2 by decide)]; congr 1; grind
  · simp only [if_neg (show ¬ Int32.ofNat 3 = 0 by decide), if_neg (show ¬ Int32.ofNat 3 = 1 by decide), if_neg (show ¬ Int32.ofNat 3 = 2 by decide), if_pos (show Int32.ofNat 3 = 3 by decide)]; congr 1; grind
  · simp only [if_neg (show ¬ Int32.ofNat 4 = 0 by decide), if_neg (show ¬ Int32.ofNat 4 = 1 by decide), if_neg (show ¬ Int32.ofNat 4 = 2 by decide), if_neg (show ¬ Int32.ofNat 4 = 3 by decide), if_pos (show Int32.ofNat 4 = 4 by decide)]
  · simp only [if_neg (show ¬ Int32.ofNat 5 = 0 by decide), if_neg (show ¬ Int32.ofNat 5 = 1 by decide), if_neg (show ¬ Int32.ofNat 5 = 2 by decide), if_neg (show ¬ Int32.ofNat 5 = 3 by decide), if_neg (show ¬ Int32.ofNat 5 = 4 by decide)]
theorem gap_m {M : Mem} {j s m b : Nat} {S : Nat → Int32} {cs : List Cls} (hj : j < 4) (hs : s < 6) (h : MoS M j S) (ho : okS m S) (hw : wfH cs) (hH : MHb M cs b) : ∃ M2, f_M_gap (Int32.ofNat j) (Int32.ofNat s) M = some (gapS cs S s, M2) ∧ Fr pilP M M2 := by
  obtain ⟨M2, s1, s2⟩ := swell_m hj h ho hw hH
  have h2 := h.pil s2
  refine ⟨M2, ?_, s2⟩
  unfold f_M_gap
  rw [s1, b2g, hang_m hj h2 ho, bdg, bend_m hj h2 ho, bdg, h2.2.2.1, gapBy_m hj hs h2, bdg]; rfl
theorem rubs_l4 {M : Mem} {j m b : Nat} {S : Nat → Int32} {cs : List Cls} (hj : j < 4) (h : MoS M j S) (ho : okS m S) (hw : wfH cs) (hH : MHb M cs b) : ∀ (k fuel i : Nat) (v : Int32) (M1 : Mem), k < fuel → i + k = 6 → Fr pilP M M1 → ∃ M2, f_M_rubs_l4 fuel (Int32.ofNat j) v (Int32.ofNat i) M1 = some (orS (rubP cs S) k i v, M2) ∧ Fr pilP M M2
  | k, 0, _, _, _, h, _, _ => by omega
  | 0, fuel + 1, i, v, M1, _, hi', hF => by
    refine ⟨M1, ?_, hF⟩
    simp only [f_M_rubs_l4]
    rw [if_pos ((le6 (by omega)).mpr (by omega))]; rfl
  | k + 1, fuel + 1, i, v, M1, _, hi', hF => by
    obtain ⟨M2, g1, g2⟩ := gap_m hj (s := i) (by omega) (h.pil hF) ho hw (hH.pil hF)
    have ih := fun v => rubs_l4 hj h ho hw hH k fuel (i + 1) v M2 (by omega) (by omega) (hF.trans g2)
    simp only [f_M_rubs_l4]
    rw [if_neg (fun q => by have := (le6 (by omega)).mp q; omega), g1, b2g]
    simp only [lte, oN_s, orS]
    by_cases q : gapS cs S i < 0
    · rw [if_neg (by grind), if_pos (show rubP cs S i = true from decide_eq_true q)]; exact ih _
    · rw [if_pos (by grind), if_neg (show ¬ rubP cs S i = true from fun z => q (of_decide_eq_true z))]; exact ih _
theorem rubs_m {M : Mem} {j m b : Nat} {S : Nat → Int32} {cs : List Cls} (hj : j < 4) (h : MoS M j S) (ho : okS m S) (hw : wfH cs) (hH : MHb M cs b) : ∃ M2, f_M_rubs (Int32.ofNat j) M = some (rubS cs S, M2) ∧ Fr pilP M M2 := rubs_l4 hj h ho hw hH 6 200 0 0 M (by omega) (by omega) Fr.rf
theorem dras_l4 {M : Mem} {j m b : Nat} {S : Nat → Int32} {cs : List Cls} (hj : j < 4) (h : MoS M j S) (ho : okS m S) (hw : wfH cs) (hH : MHb M cs b) : ∀ (k fuel i : Nat) (v : Int32) (M1 : Mem), k < fuel → i + k = 6 → Fr pilP M M1 → ∃ M2, f_M_draughts_l4 fuel (Int32.ofNat j) v (Int32.ofNat i) M1 = some (orS (draP cs S) k i v, M2) ∧ Fr pilP M M2
  | k, 0, _, _, _, h, _, _ => by omega
  | 0, fuel + 1, i, v, M1, _, hi', hF => by
    refine ⟨M1, ?_, hF⟩
    simp only [f_M_draughts_l4]
    rw [if_pos ((le6 (by omega)).mpr (by omega))]; rfl
  | k + 1, fuel + 1, i, v, M1, _, hi', hF => by
    obtain ⟨M2, g1, g2⟩ := gap_m hj (s := i) (by omega) (h.pil hF) ho hw (hH.pil hF)
    have ih := fun v => dras_l4 hj h ho hw hH k fuel (i + 1) v M2 (by omega) (by omega) (hF.trans g2)
    simp only [f_M_draughts_l4]
    rw [if_neg (fun q => by have := (le6 (by omega)).mp q; omega), g1, b2g, lastOf_m hw (hH.pil (hF.trans g2)), bdg]
    simp only [lte, oN_s, orS]
    by_cases q : lastS 3 9 cs < gapS cs S i
    · rw [if_neg (by grind), if_pos (show draP cs S i = true from decide_eq_true q)]; exact ih _
    · rw [if_pos (by grind), if_neg (show ¬ draP cs S i = true from fun z => q (of_decide_eq_true z))]; exact ih _
theorem draughts_m {M : Mem} {j m b : Nat} {S : Nat → Int32} {cs : List Cls} (hj : j < 4) (h : MoS M j S) (ho : okS m S) (hw : wfH cs) (hH : MHb M cs b) : ∃ M2, f_M_draughts (Int32.ofNat j) M = some (draS cs S, M2) ∧ Fr pilP M M2 := dras_l4 hj h ho hw hH 6 200 0 0 M (by omega) (by omega) Fr.rf
