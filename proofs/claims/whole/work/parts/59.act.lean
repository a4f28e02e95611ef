/-! act: the model's side, and both -/
theorem dsw_m {k v : Int32} {j n : Nat} {M : Mem} (h : acM k v j n M) (hn : n < 950) (x : Int32) : Ans (f_M_doorSwells (Int32.ofNat j) x M) (acM k v j) bgM (x + Int32.ofNat j) [10] n M := by
  obtain ⟨a1, a2⟩ := body_m h (by omega) 10
  exact ⟨by simp only [f_M_doorSwells, a1, bdg]; rfl, a2⟩
theorem swa_m {k v : Int32} {j n : Nat} {M : Mem} (hj : j < 4) (hk : 0 ≤ k ∧ k ≤ 6) (h : acM k v j n M) (hn : n < 900) (x : Int32) : Ans (f_M_swellsAct (Int32.ofNat j) x M) (acM k v j) bgM (swV k v (Int32.ofNat j) x) (swB k) n M := by
  have hr : inR (Int32.ofNat j) 4 := oN_in (by omega) hj
  have hx : (Int32.ofNat j).toNatClampNeg = j := oN_ix (by omega)
  have e1 := h.2.1
  obtain ⟨d1, d2⟩ := dsw_m h (by omega) x
  obtain ⟨b30, c30⟩ := body_m h (by omega) 30
  obtain ⟨b50, c50⟩ := body_m h (by omega) 50
  obtain ⟨b71, c71⟩ := body_m h (by omega) 71
  rcases kind7 hk with r | r | r | r | r | r | r <;> subst r
  · exact ⟨by simp only [f_M_swellsAct, gd_pos hr, hx, e1]; exact (congrArg (fun z => b2 z _) d1).trans rfl, d2⟩
  · exact ⟨by simp only [f_M_swellsAct, gd_pos hr, hx, e1]; exact (congrArg (fun z => b2 z _) d1).trans rfl, d2⟩
  · obtain ⟨g1, g2⟩ := dsw_m c30 (by omega) (x * 3)
    exact ⟨by simp only [f_M_swellsAct, f_M_swellsAct_b40, gd_pos hr, hx, e1, b30, bdg]; exact (congrArg (fun z => b2 z _) g1).trans rfl, g2⟩
  · exact ⟨by simp only [f_M_swellsAct, gd_pos hr, hx, e1]; exact (congrArg (fun z => b2 z _) d1).trans rfl, d2⟩
  · obtain ⟨g1, g2⟩ := dsw_m c50 (by omega) x
    exact ⟨by simp only [f_M_swellsAct, gd_pos hr, hx, e1, b50, bdg]; exact (congrArg (fun z => b2 z _) g1).trans rfl, g2⟩
  · obtain ⟨g1, g2⟩ := dsw_m c30 (by omega) (x * 3)
    exact ⟨by simp only [f_M_swellsAct, f_M_swellsAct_b40, gd_pos hr, hx, e1, b30, bdg]; exact (congrArg (fun z => b2 z _) g1).trans rfl, g2⟩
  · obtain ⟨g1, g2⟩ := dsw_m c71 (by omega) x
    have e2 := g2.2.2
    refine ⟨?_, g2⟩
    simp only [f_M_swellsAct, gd_pos hr, hx, e1, b71, bdg]
    refine (congrArg (fun z => b2 z _) g1).trans ?_
    simp only [b2g, gd_pos hr, e2]
    rfl
theorem Ans.cons {f : Option (Int32 × Mem)} {A : Nat → Mem → Prop} {g : Int32 → Mem → Mem} {x b : Int32} {bs : List Int32} {n : Nat} {C : Mem} (e : f = some (x, bgs g bs (g b C))) (h : A (n + 1 + bs.length) (bgs g bs (g b C))) : Ans f A g x (b :: bs) n C := by
  refine ⟨?_, ?_⟩
  · rw [bgs_c]; exact e
  · rw [bgs_c, List.length_cons, show n + (bs.length + 1) = n + 1 + bs.length by omega]; exact h
theorem dhg_m {k v : Int32} {j n : Nat} {M : Mem} (hj : j < 4) (hk : 0 ≤ k ∧ k ≤ 6) (h : acM k v j n M) (hn : n < 800) (x : Int32) : Ans (f_M_doorHangs (Int32.ofNat j) x M) (acM k v j) bgM (swV k v (Int32.ofNat j) x - v) (11 :: swB k) n M := by
  have hr : inR (Int32.ofNat j) 4 := oN_in (by omega) hj
  have hx : (Int32.ofNat j).toNatClampNeg = j := oN_ix (by omega)
  obtain ⟨b1, b2'⟩ := body_m h (by omega) 11
  obtain ⟨g1, g2⟩ := swa_m hj hk b2' (by omega) x
  refine Ans.cons ?_ g2
  simp only [f_M_doorHangs, b1, bdg, g1, ap2g, gd_pos hr, hx, g2.2.2]
theorem shg_m {k v : Int32} {j n : Nat} {M : Mem} (hj : j < 4) (hk : 0 ≤ k ∧ k ≤ 6) (h : acM k v j n M) (hn : n < 790) (x : Int32) : Ans (f_M_swollenHangs (Int32.ofNat j) x M) (acM k v j) bgM ((swV k v (Int32.ofNat j) x - v) ^^^ 6) (20 :: 11 :: swB k) n M := by
  obtain ⟨b1, b2'⟩ := body_m h (by omega) 20
  obtain ⟨g1, g2⟩ := dhg_m hj hk b2' (by omega) x
  refine Ans.cons ?_ g2
  simp only [f_M_swollenHangs, b1, bdg, g1, ap2g]
theorem hga_m {k v : Int32} {j n : Nat} {M : Mem} (hj : j < 4) (hk : 0 ≤ k ∧ k ≤ 6) (h : acM k v j n M) (hn : n < 700) (x : Int32) : Ans (f_M_hangsAct (Int32.ofNat j) x M) (acM k v j) bgM (hgV k v (Int32.ofNat j) x) (hgB k) n M := by
  have hr : inR (Int32.ofNat j) 4 := oN_in (by omega) hj
  have hx : (Int32.ofNat j).toNatClampNeg = j := oN_ix (by omega)
  have e1 := h.2.1
  obtain ⟨d1, d2⟩ := dhg_m hj hk h (by omega) x
  have dd : ∀ q : Int32, mI M 12714123 j = q → ¬ q = 1 → ¬ q = 4 → ¬ q = 6 → f_M_hangsAct (Int32.ofNat j) x M = f_M_doorHangs (Int32.ofNat j) x M := fun q hq n1 n4 n6 => by
    simp only [f_M_hangsAct, gd_pos hr, hx, hq, if_neg n1, if_neg n4, if_neg n6, d1, bdg, ap2g]
  rcases kind7 hk with r | r | r | r | r | r | r <;> subst r
  · rw [hgB_0, hgV_0]; exact ⟨(dd _ e1 (by decide) (by decide) (by decide)).trans d1, d2⟩
  · rw [hgB_1, hgV_1]
    obtain ⟨g1, g2⟩ := shg_m hj hk h (by omega) x
    exact ⟨by simp only [f_M_hangsAct, gd_pos hr, hx, e1, if_true, g1, bdg, ap2g], g2⟩
  · rw [hgB_2, hgV_2]; exact ⟨(dd _ e1 (by decide) (by decide) (by decide)).trans d1, d2⟩
  · rw [hgB_3, hgV_3]; exact ⟨(dd _ e1 (by decide) (by decide) (by decide)).trans d1, d2⟩
  · rw [hgB_4, hgV_4]
    obtain ⟨b1, b2'⟩ := body_m h (by omega) 51
    obtain ⟨g1, g2⟩ := shg_m hj hk b2' (by omega) (x + 1)
    refine Ans.cons ?_ g2
    have n1 : ¬ (4 : Int32) = 1 := by decide
    simp only [f_M_hangsAct, gd_pos hr, hx, e1, if_neg n1, if_true, b1, g1, bdg, ap2g]
  · rw [hgB_5, hgV_5]; exact ⟨(dd _ e1 (by decide) (by decide) (by decide)).trans d1, d2⟩
  · rw [hgB_6, hgV_6]
    obtain ⟨b1, b2'⟩ := body_m h (by omega) 70
    have hl := swB_len 6
    obtain ⟨g1, g2⟩ := dhg_m hj hk b2' (by omega) x
    obtain ⟨c1, c2⟩ := dsw_m g2 (by simp only [List.length_cons]; omega) 2
    have q : bgs bgM (70 :: 11 :: (swB 6 ++ [10])) M = bgs bgM [10] (bgs bgM (11 :: swB 6) (bgM 70 M)) := (bgs_app bgM (70 :: 11 :: swB 6) [10] M).trans rfl
    rw [← q] at c2
    refine Ans.of ?_ ?_ c2
    · have n1 : ¬ (6 : Int32) = 1 := by decide
      have n4 : ¬ (6 : Int32) = 4 := by decide
      simp only [f_M_hangsAct, gd_pos hr, hx, e1, if_neg n1, if_neg n4, if_true, b1, g1, c1, bdg, ap2g]
      rw [q]
    · simp only [List.length_cons, List.length_append, List.length_nil]; omega
theorem dtl_m {k v : Int32} {j n : Nat} {M : Mem} (hj : j < 4) (hk : 0 ≤ k ∧ k ≤ 6) (h : acM k v j n M) (hn : n < 600) (x : Int32) : Ans (f_M_doorTells (Int32.ofNat j) x M) (acM k v j) bgM (hgV k v (Int32.ofNat j) x * 2) (12 :: hgB k) n M := by
  obtain ⟨b1, b2'⟩ := body_m h (by omega) 12
  obtain ⟨g1, g2⟩ := hga_m hj hk b2' (by omega) x
  refine Ans.cons ?_ g2
  simp only [f_M_doorTells, b1, bdg, g1, ap2g]
theorem tl36_m {k v : Int32} {j n : Nat} {M : Mem} (hj : j < 4) (hk : 0 ≤ k ∧ k ≤ 6) (h : acM k v j n M) (hn : n < 500) (x : Int32) : Ans (f_M_tellsAct_b36 (Int32.ofNat j) x M) (acM k v j) bgM (hgV k v (Int32.ofNat j) x * 2 + hgV k v (Int32.ofNat j) 1) (40 :: 12 :: (hgB k ++ hgB k)) n M := by
  obtain ⟨b1, b2'⟩ := body_m h (by omega) 40
  have hl := hgB_len k
  obtain ⟨g1, g2⟩ := dtl_m hj hk b2' (by omega) x
  obtain ⟨c1, c2⟩ := hga_m hj hk g2 (by rw [List.length_cons]; omega) 1
  have q : bgs bgM (40 :: 12 :: (hgB k ++ hgB k)) M = bgs bgM (hgB k) (bgs bgM (12 :: hgB k) (bgM 40 M)) := (bgs_app bgM (40 :: 12 :: hgB k) (hgB k) M).trans rfl
  rw [← q] at c2
  refine Ans.of ?_ ?_ c2
  · simp only [f_M_tellsAct_b36, b1, bdg, g1, ap2g, c1]
    rw [q]
  · simp only [List.length_cons, List.length_append]; omega
theorem tla_m {k v : Int32} {j n : Nat} {M : Mem} (hj : j < 4) (hk : 0 ≤ k ∧ k ≤ 6) (h : acM k v j n M) (hn : n < 400) (x : Int32) : Ans (f_M_tellsAct (Int32.ofNat j) x M) (acM k v j) bgM (tlV k v (Int32.ofNat j) x) (tlB k) n M := by
  have hr : inR (Int32.ofNat j) 4 := oN_in (by omega) hj
  have hx : (Int32.ofNat j).toNatClampNeg = j := oN_ix (by omega)
  have e1 := h.2.1
  by_cases q : k = 3 ∨ k = 6
  · obtain ⟨q1, q2⟩ := tlB_b q v (Int32.ofNat j) x
    rw [q1, q2]
    obtain ⟨g1, g2⟩ := tl36_m hj hk h (by omega) x
    refine ⟨?_, g2⟩
    rw [← g1]
    rcases q with q | q
    · simp only [f_M_tellsAct, gd_pos hr, hx, e1, if_pos q]
    · have n3 : ¬ k = 3 := by rw [q]; decide
      have n5 : ¬ k = 5 := by rw [q]; decide
      simp only [f_M_tellsAct, gd_pos hr, hx, e1, if_neg n3, if_neg n5, if_pos q]
  · have n3 : ¬ k = 3 := fun e => q (Or.inl e)
    have n6 : ¬ k = 6 := fun e => q (Or.inr e)
    by_cases n5 : k = 5
    · subst n5
      obtain ⟨q1, q2⟩ := tlB_5 v (Int32.ofNat j) x
      rw [q1, q2]
      obtain ⟨b1, b2'⟩ := body_m h (by omega) 60
      obtain ⟨g1, g2⟩ := dtl_m hj hk b2' (by omega) (x - Int32.ofNat j)
      refine Ans.cons ?_ g2
      simp only [f_M_tellsAct, gd_pos hr, hx, e1, if_neg n3, if_true, b1, g1, bdg, ap2g]
    · obtain ⟨q1, q2⟩ := tlB_a q n5 v (Int32.ofNat j) x
      rw [q1, q2]
      obtain ⟨g1, g2⟩ := dtl_m hj hk h (by omega) x
      exact ⟨by simp only [f_M_tellsAct, gd_pos hr, hx, e1, if_neg n3, if_neg n5, if_neg n6, g1, bdg, ap2g], g2⟩
/-! both -/
theorem rel_bg {hs : Nat → List Cls} {C M : Mem} (h : Rel hs C M) {n : Nat} (hn : n < 1000) (hc : mI C 10485761 1 = Int32.ofNat n) {b : Int32} (hb : 0 ≤ b ∧ b ≤ 100) : Rel hs (bgC b C) (bgM b M) ∧ mI (bgC b C) 10485761 1 = Int32.ofNat (n + 1) := by
  have hm : mI M 12451850 57 = Int32.ofNat n := (h.eq (i := 281) (by decide) (by unfold inImg; omega)).symm.trans hc
  have lo281 : 0 ≤ Int32.ofNat (n + 1) := (oN_le (m := 0) (by omega) (by omega)).mpr (by omega)
  have hi281 : Int32.ofNat (n + 1) ≤ 100000 := (oN_le (i := 100000) (by omega) (by omega)).mpr (by omega)
  unfold bgC bgM
  rw [hc, hm, oN_s]
  by_cases q : (20 : Int32) ≤ Int32.ofNat n
  · rw [if_pos q, if_pos q]
    exact ⟨h.set (i := 281) (by decide) (by decide) lo281 hi281, mSe⟩
  · rw [if_neg q, if_neg q]
    have hn : n < 20 := Nat.not_le.mp fun z => q ((oN_le (m := 20) (by omega) (by omega)).mpr z)
    obtain ⟨e1, e2, e3, e4, e5⟩ := ce_body hn
    have s1 := h.set e3 (by omega) (v := b) (by rw [e4]; exact hb.1) (by rw [e5]; exact hb.2)
    rw [e1, e2] at s1
    rw [oN_ix (by omega)]
    exact ⟨s1.set (i := 281) (by decide) (by decide) lo281 hi281, mSe⟩
theorem rel_bgs {hs : Nat → List Cls} : ∀ (bs : List Int32) {C M : Mem} (_ : Rel hs C M) {n : Nat} (_ : n + bs.length < 1000) (_ : mI C 10485761 1 = Int32.ofNat n) (_ : ∀ b, b ∈ bs → 0 ≤ b ∧ b ≤ 100), Rel hs (bgs bgC bs C) (bgs bgM bs M)
  | [], _, _, h, _, _, _, _ => h
  | b :: bs, C, M, h, n, hn, hc, hb => by
    rw [List.length_cons] at hn
    obtain ⟨h1, h2⟩ := rel_bg h (n := n) (by omega) hc (hb b List.mem_cons_self)
    exact rel_bgs bs h1 (n := n + 1) (by omega) h2 (fun c hc => hb c (List.mem_cons_of_mem _ hc))
def okB (bs : List Int32) : Bool := bs.all fun b => decide (0 ≤ b ∧ b ≤ 100)
theorem okB_of {bs : List Int32} (h : okB bs = true) : ∀ b, b ∈ bs → 0 ≤ b ∧ b ≤ 100 := fun b hb => of_decide_eq_true (List.all_eq_true.mp h b hb)
theorem bodies_ok {k : Int32} (hk : 0 ≤ k ∧ k ≤ 6) : okB (swB k) = true ∧ okB (hgB k) = true ∧ okB (tlB k) = true ∧ (swB k).length < 50 ∧ (hgB k).length < 50 ∧ (tlB k).length < 50 := by
  rcases kind7 hk with r | r | r | r | r | r | r <;> subst r <;> decide +kernel
theorem jk_act {k : Nat} (hk : k = 2 ∨ k = 3 ∨ k = 4) : jkC (10485761, k) := by
  refine ⟨fun i hi' e => ?_, by unfold hReg; simp, fun ⟨j, hj, h⟩ => ?_⟩
  · have := allC (p := fun i => !((ce i).1 == 10485761) || ((ce i).2 == 1)) (by decide +kernel) hi'
    rw [e] at this
    rcases hk with q | q | q <;> subst q <;> simp at this
  · rcases h with e | e | e | e | e | e <;> (injection e with e1 e2; omega)
theorem sim_act {hs : Nat → List Cls} {C M : Mem} (h : Rel hs C M) (p1 p2 p3 : Int32) : Sim C M (f_D_act p1 p2 p3 C) (f_M_act p1 p2 p3) := by
  have r0 := h.set (i := 281) (by decide) (by decide) (v := 0) (by decide) (by decide)
  have e281 : wrI C (ce 281) 0 = setI C 10485761 1 0 := rfl
  have m281 : wrI M (me 281) 0 = setI M 12451850 57 0 := rfl
  rw [e281, m281] at r0
  have uC : f_D_act p1 p2 p3 C = bd (f_D_doorAt p1 (setI C 10485761 1 0)) fun r2 => if r2 = 0 then some (0, setI C 10485761 1 0) else gd (r2 % 131072 = 4) (b2 (f_Acts_perform r2 p2 p3 (setI C 10485761 1 0)) fun r5 M4 => some (r5, M4)) := by
    simp only [f_D_act, f_Acts_forget, lte, bdg]
  have uM : f_M_act p1 p2 p3 M = if (f_M_isDoor p1 (setI M 12451850 57 0)) = 0 then some (0, setI M 12451850 57 0) else if (f_M_in p2 0 2 (setI M 12451850 57 0)) = 0 then some (0, setI M 12451850 57 0) else if p2 = 0 then b2 (f_M_swellsAct p1 p3 (setI M 12451850 57 0)) fun r7 M6 => some (r7, M6) else if p2 = 1 then b2 (f_M_hangsAct p1 p3 (setI M 12451850 57 0)) fun r5 M4 => some (r5, M4) else b2 (f_M_tellsAct p1 p3 (setI M 12451850 57 0)) fun r3 M2 => some (r3, M2) := by
    simp only [f_M_act, lte]
  have c0 : mI (setI C 10485761 1 0) 10485761 1 = Int32.ofNat 0 := mSe
  have m0 : mI (setI M 12451850 57 0) 12451850 57 = Int32.ofNat 0 := mSe
  have z0 : mZ (setI C 10485761 1 0) = mZ C := rfl
  generalize setI C 10485761 1 0 = C1 at *
  generalize setI M 12451850 57 0 = M1 at *
  rcases door_at r0 p1 with ⟨j, hj, ej, e0, hr, hlt, eC, eM⟩ | ⟨eC, eM⟩
  · obtain ⟨hid, n, m, b, cs, hE⟩ := enter r0
    have hjn := door_n r0 hE hj (by rw [← e0]; exact hlt)
    obtain ⟨hS, ho⟩ : MoS M1 j (stC C1 (786436 + 655360 * j)) ∧ okS m (stC C1 (786436 + 655360 * j)) := hE.2.2.2.2.1.2.2.2.2 j hjn
    obtain ⟨⟨s0, s1, s2, s3, s4⟩, -⟩ := stC_do C1 (786436 + 655360 * j)
    have hk := ho.1
    have sN : stC C1 (786436 + 655360 * j) 0 = Int32.ofNat j := hS.2.2.2.2
    obtain ⟨⟨m1, m2, -⟩, -⟩ := id hS
    have z := dnz j
    have kd := dkd j
    have dne : 786436 + 655360 * j ≠ 10485761 := by omega
    generalize hS1 : stC C1 (786436 + 655360 * j) 1 = k at *
    generalize hS2 : stC C1 (786436 + 655360 * j) 2 = v at *
    generalize 786436 + 655360 * j = d at *
    have r1 := ((r0.jC (jk_act (Or.inl rfl)) k).jC (jk_act (Or.inr (Or.inl rfl))) v).jC (jk_act (Or.inr (Or.inr rfl))) (Int32.ofNat j)
    have pf : f_Acts_perform d p2 p3 C1 = (lt (setI (setI (setI C1 10485761 2 k) 10485761 3 v) 10485761 4 (Int32.ofNat j)) fun M3 => if p2 = 0 then b2 (f_rec_swells 12 0 k p3 0 M3) fun r5 M4 => some (r5, M4) else if p2 = 1 then b2 (f_rec_hangs 12 0 k p3 0 M3) fun r7 M6 => some (r7, M6) else if p2 = 2 then b2 (f_rec_tells 12 0 k p3 0 M3) fun r9 M8 => some (r9, M8) else some (0, M3)) := by
      have w2 : ∀ X : Mem, ∀ i u, mI (setI X 10485761 i u) d = mI X d := fun X i u => by
        funext q; exact mS dne
      have w3 : mI (setI (setI (setI C1 10485761 2 k) 10485761 3 v) 10485761 4 (Int32.ofNat j)) 10485761 2 = k := (mSk (by decide)).trans ((mSk (by decide)).trans mSe)
      simp only [f_Acts_perform, lte, w2, s1, s2, s0, sN, w3]
    have hAC : acC k v (Int32.ofNat j) 0 (setI (setI (setI C1 10485761 2 k) 10485761 3 v) 10485761 4 (Int32.ofNat j)) := ⟨(mSk (by decide)).trans ((mSk (by decide)).trans ((mSk (by decide)).trans c0)), (mSk (by decide)).trans ((mSk (by decide)).trans mSe), (mSk (by decide)).trans mSe, mSe⟩
    have hAM : acM k v j 0 M1 := ⟨m0, m1, m2⟩
    have zz : mZ (setI (setI (setI C1 10485761 2 k) 10485761 3 v) 10485761 4 (Int32.ofNat j)) = mZ C := z0
    have r1' : Rel hs (setI (setI (setI C1 10485761 2 k) 10485761 3 v) 10485761 4 (Int32.ofNat j)) M1 := r1
    generalize setI (setI (setI C1 10485761 2 k) 10485761 3 v) 10485761 4 (Int32.ofNat j) = C2 at *
    have c2 := hAC.1
    have vC : f_D_act p1 p2 p3 C = b2 (f_Acts_perform d p2 p3 C1) fun r5 M4 => some (r5, M4) := by
      rw [uC, eC, bdg, if_neg z, gd_pos kd]
    obtain ⟨o1, o2, o3, l1, l2, l3⟩ := bodies_ok hk
    have zb : ∀ (bs : List Int32) (X : Mem), mZ (bgs bgC bs X) = mZ X := fun bs => by
      induction bs with
      | nil => intro X; rfl
      | cons b bs ih =>
        intro X
        have : mZ (bgC b X) = mZ X := by unfold bgC; split <;> rfl
        exact (ih _).trans this
    have fin : ∀ (a : Int32) (bs : List Int32), okB bs = true → bs.length < 50 → f_Acts_perform d p2 p3 C1 = some (a, bgs bgC bs C2) → f_M_act p1 p2 p3 M = some (a, bgs bgM bs M1) → Sim C M (f_D_act p1 p2 p3 C) (f_M_act p1 p2 p3) := fun a bs hb hl x y =>
      sim_of h (by rw [vC, x, b2g]) ((zb bs C2).trans zz) y (rel_bgs bs r1' (n := 0) (by omega) c2 (okB_of hb))
    by_cases q0 : p2 = 0
    · obtain ⟨x1, x2⟩ := sw_c hAC hk (by omega) 0 (by omega) p3
      obtain ⟨y1, y2⟩ := swa_m hj hk hAM (by omega) p3
      have x1' : f_rec_swells 12 0 k p3 0 C2 = some (swV k v (Int32.ofNat j) p3, bgs bgC (swB k) C2) := x1
      refine fin (swV k v (Int32.ofNat j) p3) (swB k) o1 l1 ?_ ?_
      · rw [pf, lte, if_pos q0, x1', b2g]
      · have hp : 0 ≤ p2 ∧ p2 ≤ 2 := by rw [q0]; decide
        rw [uM, eM, if_neg i10, mi1 hp, if_neg i10, if_pos q0, e0, y1, b2g]
    by_cases q1 : p2 = 1
    · obtain ⟨x1, x2⟩ := hg_c hAC hk (by omega) 0 (by omega) p3
      obtain ⟨y1, y2⟩ := hga_m hj hk hAM (by omega) p3
      have x1' : f_rec_hangs 12 0 k p3 0 C2 = some (hgV k v (Int32.ofNat j) p3, bgs bgC (hgB k) C2) := x1
      refine fin (hgV k v (Int32.ofNat j) p3) (hgB k) o2 l2 ?_ ?_
      · rw [pf, lte, if_neg q0, if_pos q1, x1', b2g]
      · have hp : 0 ≤ p2 ∧ p2 ≤ 2 := by rw [q1]; decide
        rw [uM, eM, if_neg i10, mi1 hp, if_neg i10, if_neg q0, if_pos q1, e0, y1, b2g]
    by_cases q2 : p2 = 2
    · obtain ⟨x1, x2⟩ := tl_c hAC hk (by omega) 0 (by omega) p3
      obtain ⟨y1, y2⟩ := tla_m hj hk hAM (by omega) p3
      have x1' : f_rec_tells 12 0 k p3 0 C2 = some (tlV k v (Int32.ofNat j) p3, bgs bgC (tlB k) C2) := x1
      refine fin (tlV k v (Int32.ofNat j) p3) (tlB k) o3 l3 ?_ ?_
      · rw [pf, lte, if_neg q0, if_neg q1, if_pos q2, x1', b2g]
      · have hp : 0 ≤ p2 ∧ p2 ≤ 2 := by rw [q2]; decide
        rw [uM, eM, if_neg i10, mi1 hp, if_neg i10, if_neg q0, if_neg q1, e0, y1, b2g]
    · have hp : ¬ (0 ≤ p2 ∧ p2 ≤ 2) := fun w => by
        rcases (show p2 = 0 ∨ p2 = 1 ∨ p2 = 2 by grind) with e | e | e
        · exact q0 e
        · exact q1 e
        · exact q2 e
      refine fin 0 [] rfl (by decide) ?_ ?_
      · rw [pf, lte, if_neg q0, if_neg q1, if_neg q2]; rfl
      · rw [uM, eM, if_neg i10, mi0 hp, if_pos rfl]; rfl
  · refine sim_of h (a := 0) (C' := C1) (M' := M1) ?_ z0 ?_ r0
    · rw [uC, eC, bdg, if_pos rfl]
    · rw [uM, eM, if_pos rfl]
