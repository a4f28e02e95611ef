/-! house: what was there before a text is read doesn't matter -/
def hat (C : Mem) : Mem := setI C 6684679 6 0
theorem setI_sw (M : Mem) (a : Nat) {k l : Nat} (h : k ≠ l) (v w : Int32) : setI (setI M a k v) a l w = setI (setI M a l w) a k v := by
  unfold setI mI mV mZ mW mL mR up2
  congr 4
  funext b j
  by_cases q : b = a
  · subst q
    by_cases x : j = k
    · subst x
      simp [h]
    · by_cases y : j = l
      · subst y
        simp [x]
      · simp [x, y]
  · simp [q]
theorem setI_set (M : Mem) (a k : Nat) (v w : Int32) : setI (setI M a k v) a k w = setI M a k w := by
  unfold setI mI mV mZ mW mL mR up2
  congr 4
  funext b j
  by_cases q : b = a ∧ j = k
  · rw [if_pos q, if_pos q]
  · rw [if_neg q, if_neg q]
    exact if_neg q
theorem hat_at (C : Mem) (v : Int32) : setI (hat C) 6684679 2 v = hat (setI C 6684679 2 v) := setI_sw C 6684679 (by decide) 0 v
theorem hat0 (C : Mem) : mI (hat C) 6684679 0 = mI C 6684679 0 := mSk (by decide)
theorem hat2 (C : Mem) : mI (hat C) 6684679 2 = mI C 6684679 2 := mSk (by decide)
theorem hats (C : Mem) (k : Nat) : mI (hat C) 6818955 k = mI C 6818955 k := mS (by decide)
theorem like_hat (p : Nat) (C : Mem) : ∀ (fuel : Nat) (j : Int32), f_Tx_alikeWith_l2 p (hat C) fuel j = f_Tx_alikeWith_l2 p C fuel j
  | 0, _ => rfl
  | fuel + 1, j => by
    have e1 : f_St_length p (hat C) = f_St_length p C := rfl
    have e2 : ∀ x, f_St_charAt p x (hat C) = f_St_charAt p x C := fun x => (chM p x _).trans (chM p x _).symm
    simp only [f_Tx_alikeWith_l2, hat0, hat2, hats, e1, e2, lte, like_hat p C fuel]
def hmap (z : Option (Int32 × Mem)) : Option (Int32 × Mem) := z.map fun z => (z.1, hat z.2)
theorem word_hat (C : Mem) : ∀ (fuel : Nat) (v w : Int32), f_Tx_takenWord_l4 fuel v w (hat C) = hmap (f_Tx_takenWord_l4 fuel v w C)
  | 0, _, _ => rfl
  | fuel + 1, v, w => by
    have e1 : ∀ p, f_Tx_alikeWith p (hat C) = f_Tx_alikeWith p C := fun p => like_hat p C 200 0
    have e2 : ∀ p, f_St_length p (hat C) = f_St_length p C := fun _ => rfl
    have e3 : f_Tx_wordOf w (hat C) = f_Tx_wordOf w C := rfl
    simp only [f_Tx_takenWord_l4, hat2, e1, e2, e3, lte, hat_at, word_hat C fuel]
    by_cases q : (4 : Int32) ≤ w
    · rw [if_pos q, if_pos q]; rfl
    · rw [if_neg q, if_neg q]
      unfold gd
      split
      · cases f_Tx_alikeWith (f_Tx_wordOf w C) C with
        | none => rfl
        | some r =>
          simp only [bdg]
          split <;> rfl
      · rfl
theorem num_hat : ∀ (fuel : Nat) (v w : Int32) (C : Mem), f_Tx_takenNumber_l4 fuel v w (hat C) = hmap (f_Tx_takenNumber_l4 fuel v w C)
  | 0, _, _, _ => rfl
  | fuel + 1, v, w, C => by
    simp only [f_Tx_takenNumber_l4, hat0, hat2, hats, lte, hat_at, num_hat fuel]
    by_cases q : (2 : Int32) ≤ w
    · rw [if_pos q, if_pos q]; rfl
    · rw [if_neg q, if_neg q]
      by_cases z : mI C 6684679 0 ≤ mI C 6684679 2
      · rw [if_pos z, if_pos z]; rfl
      · rw [if_neg z, if_neg z]
        unfold gd
        split
        · split
          · rfl
          · split
            · rfl
            · rfl
        · rfl
theorem b36_hat (K : Int32 → Mem → Option (Int32 × Mem)) (i : Int32) (C : Mem) : f_Tx_parse_b36 K i C = f_Tx_parse_b36 K i (hat C) ∨ ∃ x C2, f_Tx_parse_b36 K i C = some (x, C2) ∧ f_Tx_parse_b36 K i (hat C) = some (x, hat C2) := by
  have wh : f_Tx_takenWord (hat C) = hmap (f_Tx_takenWord C) := word_hat C 200 0 0
  have nh : ∀ X, f_Tx_takenNumber (hat X) = hmap (f_Tx_takenNumber X) := fun X => num_hat 200 (-1) 0 X
  have hh : ∀ X, setI (hat X) 6684679 6 0 = setI X 6684679 6 0 := fun X => setI_set X 6684679 6 0 0
  have b53 : ∀ (w v : Int32) (X : Mem), f_Tx_parse_b53 K i w v X = f_Tx_parse_b53 K i w v (hat X) ∨ ∃ x C2, f_Tx_parse_b53 K i w v X = some (x, C2) ∧ f_Tx_parse_b53 K i w v (hat X) = some (x, hat C2) := fun w v X => by
    unfold f_Tx_parse_b53
    by_cases q : 0 ≤ v
    · rw [if_pos q, if_pos q, lte, lte, hh]; exact Or.inl rfl
    · rw [if_neg q, if_neg q, hat2]
      exact Or.inr ⟨_, X, rfl, rfl⟩
  unfold f_Tx_parse_b36
  rw [wh]
  cases f_Tx_takenWord C with
  | none => exact Or.inl rfl
  | some z =>
    obtain ⟨w, C1⟩ := z
    simp only [hmap, Option.map_some, bdg, ap2g]
    by_cases q : 0 ≤ w
    · rw [if_pos q, if_pos q, nh]
      cases f_Tx_takenNumber C1 with
      | none => exact Or.inl rfl
      | some y =>
        obtain ⟨v, C2⟩ := y
        simp only [hmap, Option.map_some, bdg, ap2g]
        exact b53 w v C2
    · rw [if_neg q, if_neg q]
      exact b53 w (-1) C1
/-! THE RELATION BEHIND A HOUSE -/
def hcP (z0 f a k : Nat) : Prop := ctN z0 a k ∨ (a = 6684679 ∧ k = 0) ∨ (a = 131077 ∧ k = 5) ∨ (a = 9 ∧ k = 6) ∨ (a = 7471311 ∧ k = f)
def hmP (f a k : Nat) : Prop := gtP f a k ∨ (a = 12451850 ∧ (k = 12 ∨ k = 13 ∨ k = 14))
theorem ce_hc {i : Nat} (hi' : i < nC) (h1 : i ≠ 63) (h2 : i ≠ 179) (h3 : i ≠ 180) {z0 f : Nat} (hz : 95 ≤ z0) : ¬ hcP z0 f (ce i).1 (ce i).2 := by
  have := allC (p := fun i => decide (i = 63 ∨ i = 179 ∨ i = 180) || (decide ((ce i).1 / 131072 < 95) && !((ce i).1 == 6684679) && !((ce i).1 == 7081099) && !((ce i).1 == 6947152) && !((ce i).1 == 7471311) && !((ce i).1 == 131077 && (ce i).2 == 5) && !((ce i).1 == 9 && (ce i).2 == 6))) (by decide +kernel) hi'
  simp only [Bool.or_eq_true, Bool.and_eq_true, Bool.not_eq_true', beq_eq_false_iff_ne, decide_eq_true_eq, Bool.and_eq_false_iff] at this
  unfold hcP ctN ctP
  omega
theorem me_hm {i : Nat} (hi' : i < nC) (h1 : i ≠ 63) (h2 : i ≠ 179) (h3 : i ≠ 180) {f : Nat} : ¬ hmP f (me i).1 (me i).2 := by
  have := allC (p := fun i => decide (i = 63 ∨ i = 179 ∨ i = 180) || (!((me i).1 == 14568203) && !((me i).1 == 14683307) && !((me i).1 == 14026635) && !((me i).1 == 14157707) && !((me i).1 == 14288779) && !((me i).1 == 14419851) && !((me i).1 == 13893835) && (!((me i).1 == 12451850) || (decide ((me i).2 < 12) || decide (27 < (me i).2))))) (by decide +kernel) hi'
  simp only [Bool.or_eq_true, Bool.and_eq_true, Bool.not_eq_true', beq_eq_false_iff_ne, decide_eq_true_eq] at this
  unfold hmP gtP
  omega
theorem rel_house {hs hs' : Nat → List Cls} {C M C' M' : Mem} {z0 f : Nat} (hz : 95 ≤ z0) (h : Rel hs C M) (hC : Fz (hcP z0 f) C C') (hM : Fz (hmP f) M M') (h180 : rdI C' (ce 180) = 0 ∧ rdI M' (me 180) = 0) {u c : Int32} (h63 : rdI C' (ce 63) = u ∧ rdI M' (me 63) = u) (h179 : rdI C' (ce 179) = c ∧ rdI M' (me 179) = c) (hu : -1 ≤ u ∧ u ≤ 5) (hc : 0 ≤ c ∧ c ≤ 6) (huc : u < c) (hcc : rdI C (ce 179) ≤ c) (hR : RHs hs' C' M') (hzz : mZ C' = mZ M') : Rel hs' C' M' := by
  obtain ⟨a1, a2, a3, a4, a5, a6⟩ := h
  have nC' : ∀ i, i < nC → i ≠ 63 → i ≠ 179 → i ≠ 180 → rdI C' (ce i) = rdI C (ce i) := fun i hi' x y z => (hC.1 _ _ (ce_hc hi' x y z hz)).1
  have nM' : ∀ i, i < nC → i ≠ 63 → i ≠ 179 → i ≠ 180 → rdI M' (me i) = rdI M (me i) := fun i hi' x y z => (hM.1 _ _ (me_hm hi' x y z)).1
  have e178 := nC' 178 (by decide) (by decide) (by decide) (by decide)
  refine ⟨fun i hi' hm => ?_, hR, ?_, ?_, fun t k ht hk => ?_, hzz⟩
  · rw [e178] at hm
    by_cases x : i = 63
    · subst x
      rw [h63.1, h63.2]; exact ⟨rfl, hu.1, hu.2⟩
    by_cases y : i = 179
    · subst y
      rw [h179.1, h179.2]; exact ⟨rfl, hc.1, hc.2⟩
    by_cases z : i = 180
    · subst z
      rw [h180.1, h180.2]; exact ⟨rfl, by decide, by decide⟩
    · rw [nC' i hi' x y z, nM' i hi' x y z]
      exact a1 i hi' hm
  · obtain ⟨b1, b2, b3⟩ := a3
    refine ⟨by rw [h63.1, h179.1]; exact huc, fun q => ?_, fun t ht => ?_⟩
    · rw [e178] at q
      rw [nC' 152 (by decide) (by decide) (by decide) (by decide), h179.1]
      exact Int32.lt_of_lt_of_le (b2 q) hcc
    · rw [nC' (302 + t) (by unfold nC; omega) (by omega) (by omega) (by omega), nC' (308 + t) (by unfold nC; omega) (by omega) (by omega) (by omega)]
      exact b3 t ht
  · refine a4.fr (fun p hp => (hC.1 _ _ ?_).1) (fun j _ => ⟨(hM.1 _ _ (by unfold hmP gtP; omega)).1, (hM.1 _ _ (by unfold hmP gtP; omega)).1⟩) (nC' _ (by decide) (by decide) (by decide) (by decide)) (nC' _ (by decide) (by decide) (by decide) (by decide)) e178
    obtain ⟨j, hj, q⟩ := hp
    unfold hcP ctN ctP
    rcases q with e | e | e | e | e | e <;> (subst e; simp only; omega)
  · rw [(hC.1 (10878984 + 262144 * t + 132996) k (by unfold hcP ctN ctP; omega)).2.2, (hM.1 17575180 (60 * t + k) (by unfold hmP gtP; omega)).2.2]
    exact a5 t k ht hk
/-- houses that stood before -/
theorem HRep.old {C C' : Mem} {hid f z0 : Nat} {cs : List Cls} (h : HRep C hid cs) (hF : Fz (hcP z0 f) C C') (h1 : hid / 131072 < z0) (h2 : cs.length = 0 ∨ mR C hid 0 / 131072 < z0) (h3 : ∀ c, c < cs.length → mR C (mR C hid 0) c / 131072 < z0 ∧ mR C (mR C (mR C hid 0) c) 2 / 131072 < z0) : HRep C' hid cs := by
  obtain ⟨g1, g2, g3, g4, g5, g6, g7, g8, g9⟩ := h
  have nn : ∀ a k, hReg a → a / 131072 < z0 → a % 32 ≠ 15 → mI C' a k = mI C a k ∧ mR C' a k = mR C a k := fun a k ha hp h15 => by
    have := hF.1 a k (by unfold hReg at ha; unfold hcP ctN ctP; omega)
    exact ⟨this.1, this.2.1⟩
  have n0 := fun k => nn hid k g2 h1 (by omega)
  refine ⟨g1, g2, (n0 1).1.trans g3, (n0 2).1.trans g4, (n0 3).1.trans g5, by rw [(n0 0).2]; exact g6, by rw [(n0 0).2]; exact g7, by rw [(n0 0).2]; exact g8, fun c hc => ?_⟩
  have h2' : mR C hid 0 / 131072 < z0 := h2.elim (fun z => by omega) id
  obtain ⟨k1, k2⟩ := h3 c hc
  obtain ⟨x1, x2, x3, x4, x5, x6, x7, x8⟩ := g9 c hc
  rw [(n0 0).2, (nn _ c g7 h2' (by omega)).2]
  have m := fun k => nn _ k x2 k1 (by omega)
  refine ⟨x1, x2, (m 0).1.trans x3, (m 1).1.trans x4, by rw [(m 2).2]; exact x5, by rw [(m 2).2]; exact x6, by rw [(m 2).2]; exact x7, fun k hk => ?_⟩
  rw [(m 2).2, (nn _ k x6 k2 (by omega)).1]
  exact x8 k hk
theorem live_at {C : Mem} (hcl : cl C) {a : Nat} (h1 : 1 ≤ a % 32) (h2 : a % 32 ≤ 17) (h : lvM C a) : a ∈ mV C ∧ a / 131072 < mZ C := by
  have := h.own h1 h2
  exact ⟨this, (hcl a this).2.2.1⟩
theorem places {C : Mem} (hcl : cl C) {hid : Nat} {cs : List Cls} (h : HRep C hid cs) (hv : lvM C hid) : hid / 131072 < mZ C ∧ mR C hid 0 / 131072 < mZ C ∧ ∀ c, c < cs.length → mR C (mR C hid 0) c / 131072 < mZ C ∧ mR C (mR C (mR C hid 0) c) 2 / 131072 < mZ C := by
  obtain ⟨g1, g2, g3, g4, g5, g6, g7, g8, g9⟩ := h
  obtain ⟨v1, p1⟩ := live_at hcl (by omega) (by omega) hv
  obtain ⟨v2, p2⟩ := live_at hcl (by omega) (by omega) ((hcl _ v1).2.2.2 0)
  refine ⟨p1, p2, fun c hc => ?_⟩
  obtain ⟨x1, x2, x3, x4, x5, x6, x7, x8⟩ := g9 c hc
  obtain ⟨v3, p3⟩ := live_at hcl (by omega) (by omega) ((hcl _ v2).2.2.2 c)
  obtain ⟨v4, p4⟩ := live_at hcl (by omega) (by omega) ((hcl _ v3).2.2.2 2)
  exact ⟨p3, p4⟩
theorem MRep.old {M M' : Mem} {g f : Nat} {cs : List Cls} (h : MRep M g cs) (hF : Fz (hmP f) M M') (hgf : g < f) (h10 : cs.length ≤ 10) : MRep M' g cs := by
  obtain ⟨h1, h2⟩ := h
  have nn : ∀ a t, ¬ hmP f a t → mI M' a t = mI M a t := fun a t z => (hF.1 a t z).1
  refine ⟨(nn _ _ (by unfold hmP gtP; omega)).trans h1, fun c hc => ?_⟩
  obtain ⟨a1, a2, a3⟩ := h2 c hc
  refine ⟨(nn _ _ (by unfold hmP gtP; omega)).trans a1, (nn _ _ (by unfold hmP gtP; omega)).trans a2, fun w => ?_⟩
  obtain ⟨a, b1, b2, b3, b4⟩ := a3 w
  exact ⟨a, (nn _ _ (by unfold hmP gtP; omega)).trans b1, (nn _ _ (by unfold hmP gtP; omega)).trans b2, b3, fun k hk => (nn _ _ (by unfold hmP gtP; omega)).trans (b4 k hk)⟩
