/-! why, judge -/
theorem swl_ok {m : Nat} {S : Nat → Int32} {cs : List Cls} (h : okS m S) (hw : wfH cs) : 0 ≤ swlS cs S ∧ swlS cs S ≤ 6000 := by
  have hx := swx_ok h hw
  have h2 := h.2.1
  unfold swlS mxI
  generalize swxS cs S = x at *
  generalize S 2 = v at *
  split
  · grind
  · split
    · have b := bnd (l := 0) (h := 5009) (a := x + v) (by exact ⟨by grind, by grind⟩) (by decide) (by decide)
      have d := ti_div (a := x + v) (k := 2) (by decide) b.1
      have t2 : (2 : Int32).toInt = 2 := by decide
      rw [t2] at d
      exact bnd' (l := 0) (h := 6000) (by omega) (by decide) (by decide)
    · split
      · split <;> grind
      · grind
theorem abs_ok {u w : Int32} (h5 : 0 ≤ u ∧ u ≤ 99) (h6 : 0 ≤ w ∧ w ≤ 99) : 0 ≤ abI (u - w) ∧ abI (u - w) ≤ 99 := by
  have a1 := bnd (l := 0) (h := 99) h5 (by decide) (by decide)
  have a2 := bnd (l := 0) (h := 99) h6 (by decide) (by decide)
  have e := ti_sub (a := u) (b := w) (by omega) (by omega)
  have t0 : (0 : Int32).toInt = 0 := by decide
  have e2 := ti_sub (a := 0) (b := u - w) (by omega) (by omega)
  refine bnd' (l := 0) (h := 99) ?_ (by decide) (by decide)
  unfold abI
  by_cases q : 0 ≤ u - w
  · rw [if_pos q]
    have := Int32.le_iff_toInt_le.mp q
    omega
  · rw [if_neg q]
    have : ¬ (0 : Int32).toInt ≤ (u - w).toInt := fun z => q (Int32.le_iff_toInt_le.mpr z)
    omega
theorem mx_ok {u w : Int32} (h5 : 0 ≤ u ∧ u ≤ 20) (h6 : 0 ≤ w ∧ w ≤ 9) : 0 ≤ mxI 0 (u - w) ∧ mxI 0 (u - w) ≤ 20 := by
  unfold mxI
  split <;> grind
theorem bnd_ok {m : Nat} {S : Nat → Int32} (h : okS m S) : 0 ≤ bndS S ∧ bndS S ≤ 100 := by
  have h5 := h.2.2.2.2.1
  have h6 := h.2.2.2.2.2.1
  have hb := abs_ok h5 h6
  have b := bnd (l := 0) (h := 99) hb (by decide) (by decide)
  have d := ti_div (a := abI (S 5 - S 6)) (k := 10) (by decide) b.1
  have t10 : (10 : Int32).toInt = 10 := by decide
  rw [t10] at d
  have q : 0 ≤ abI (S 5 - S 6) / 10 ∧ abI (S 5 - S 6) / 10 ≤ 9 := bnd' (l := 0) (h := 9) (by omega) (by decide) (by decide)
  unfold bndS
  generalize abI (S 5 - S 6) / 10 = y at *
  split
  · grind
  · split <;> grind
theorem hng_ok {m : Nat} {S : Nat → Int32} (h : okS m S) : 0 ≤ hngS S ∧ hngS S ≤ 100 := by
  have h2 := h.2.1
  have h3 := h.2.2.1
  have h4 := h.2.2.2.1
  have h15 := h.2.2.2.2.2.2.2.2.2.1
  have b := bnd (l := 0) (h := 20) h15 (by decide) (by decide)
  have d := ti_div (a := S 15) (k := 2) (by decide) b.1
  have t2 : (2 : Int32).toInt = 2 := by decide
  rw [t2] at d
  have q : 0 ≤ S 15 / 2 ∧ S 15 / 2 ≤ 10 := bnd' (l := 0) (h := 10) (by omega) (by decide) (by decide)
  unfold hngS
  generalize S 15 / 2 = y at *
  have hm := mx_ok h3 h4
  generalize mxI 0 (S 3 - S 4) = x at *
  generalize S 2 = v at *
  split
  · grind
  · split <;> grind
theorem tku_ok {s : Nat} (hs : s < 6) {x y w z p : Int32} (hx : 0 ≤ x ∧ x ≤ 6000) (hy : 0 ≤ y ∧ y ≤ 100) (hw : 0 ≤ w ∧ w ≤ 100) (hz : 0 ≤ z ∧ z ≤ 20) (hp : 0 ≤ p ∧ p ≤ 9) : -20000 ≤ tkuS (Int32.ofNat s) x y w z p ∧ tkuS (Int32.ofNat s) x y w z p ≤ 20000 := by
  unfold tkuS f_D_takenUp
  split
  · grind
  · split
    · grind
    · split
      · grind
      · split
        · grind
        · split <;> grind
theorem sub_neg {a b : Int32} (ha : 0 ≤ a ∧ a ≤ 99) (hb : -20000 ≤ b ∧ b ≤ 20000) : a - b < 0 ↔ a < b := by grind
theorem tku_m (a b c d e f : Int32) (M : Mem) : f_D_takenUp a b c d e f M = tkuS a b c d e f := rfl
theorem sim_why {hs : Nat → List Cls} {C M : Mem} (h : Rel hs C M) (p1 p2 : Int32) : Sim C M (f_D_why p1 p2 C) (f_M_why p1 p2) := by
  rcases door_at h p1 with ⟨j, hj, ej, e0, hr, hlt, eC, eM⟩ | ⟨eC, eM⟩
  · by_cases hp : 0 ≤ p2 ∧ p2 ≤ 5
    · obtain ⟨hid, n, m, b, cs, hE⟩ := enter h
      have hjn := door_n h hE hj (by rw [← e0]; exact hlt)
      obtain ⟨h1, h2, h3, h4, h5, -⟩ := hE
      obtain ⟨hS, ho⟩ : MoS M j (stC C (786436 + 655360 * j)) ∧ okS m (stC C (786436 + 655360 * j)) := h5.2.2.2.2 j hjn
      obtain ⟨C', n1, n2, n3, -⟩ := now_c h1 h2 h3 (dlo hj)
      have z := dnz j
      have kd := dkd j
      have hN : ∀ k, mI C' (786436 + 655360 * j) k = mI C (786436 + 655360 * j) k := fun k => n3.1 _ _ (by unfold kC; omega)
      have hN9 : ∀ k, mI C' (786436 + 655360 * j + 393415) k = mI C (786436 + 655360 * j + 393415) k := fun k => n3.1 _ _ (by unfold kC; omega)
      obtain ⟨⟨s0, s1, s2, s3, s4⟩, -, -, s9⟩ := stC_do C (786436 + 655360 * j)
      rw [← hN] at s4
      generalize hd : 786436 + 655360 * j = d at *
      generalize stC C d = S at *
      obtain ⟨s, hs6, es⟩ := oN_of hp (n := 6) (by decide)
      subst e0
      subst es
      have hrs : inR (Int32.ofNat s) 6 := oN_in (by omega) hs6
      obtain ⟨M1, g1, g2⟩ := gap_m hj hs6 hS ho h3 h4
      have hS1 := hS.pil g2
      have h41 := h4.pil g2
      by_cases hg : gapS cs S s < 0
      · obtain ⟨M2, w1, w2⟩ := swell_m hj hS1 ho h3 h41
        have hS2 := hS1.pil w2
        have x1 := swl_ok ho h3
        have x2 := hng_ok ho
        have x3 := bnd_ok ho
        have x4 := ho.2.2.2.2.2.2.2.2.2.1
        have x5 := ho.2.2.2.1
        have x9 := ho.2.2.2.2.2.2.2.2.1 s hs6
        have q1 := sub_neg x9 (tku_ok hs6 (x := 0) (by decide) x2 x3 x4 x5)
        have q2 := sub_neg x9 (tku_ok hs6 (y := 0) x1 (by decide) x3 x4 x5)
        have q3 := sub_neg x9 (tku_ok hs6 (z := 0) x1 x2 x3 (by decide) x5)
        have q4 := sub_neg x9 (tku_ok hs6 (w := 0) x1 x2 (by decide) x4 x5)
        have uC : f_D_why (Int32.ofNat j) (Int32.ofNat s) C = (if S (9 + s) < tkuS (Int32.ofNat s) 0 (hngS S) (bndS S) (S 15) (S 4) then f_D_why_b85 (Int32.ofNat s) d 7602179 (S (9 + s)) 0 0 C' else f_D_why_b85 (Int32.ofNat s) d 7602179 (S (9 + s)) 1 0 C') := by
          unfold f_D_why
          rw [eC, bdg, if_neg z, spot_c hs6, if_neg i10, gd_pos kd, n1, b2g, gd_pos k3, gap_c n2 hs6, bdg, if_pos hg, gd_pos hrs, oN_ix (by omega), lte, hN9, s9 s hs6, n2.1.2.1, n2.2.2.1, n2.2.2.2, s4, tku_m]
        have u85 : ∀ x, f_D_why_b85 (Int32.ofNat s) d 7602179 (S (9 + s)) x 0 C' = (if S (9 + s) < tkuS (Int32.ofNat s) (swlS cs S) 0 (bndS S) (S 15) (S 4) then f_D_why_b124 (Int32.ofNat s) d 7602179 (S (9 + s)) 0 (0 + x) C' else f_D_why_b124 (Int32.ofNat s) d 7602179 (S (9 + s)) 2 (0 + x) C') := fun x => by
          unfold f_D_why_b85
          rw [lte, gd_pos k3, gd_pos kd, n2.1.2.1, n2.2.1, n2.2.2.1, s4, tku_m]
        have u124 : ∀ x y, f_D_why_b124 (Int32.ofNat s) d 7602179 (S (9 + s)) x y C' = (if S (9 + s) < tkuS (Int32.ofNat s) (swlS cs S) (hngS S) (bndS S) 0 (S 4) then f_D_why_b163 (Int32.ofNat s) d 7602179 (S (9 + s)) 0 (y + x) C' else f_D_why_b163 (Int32.ofNat s) d 7602179 (S (9 + s)) 4 (y + x) C') := fun x y => by
          unfold f_D_why_b124
          rw [lte, gd_pos k3, gd_pos kd, n2.2.1, n2.2.2.1, n2.2.2.2, s4, tku_m]
        have u163 : ∀ x y, f_D_why_b163 (Int32.ofNat s) d 7602179 (S (9 + s)) x y C' = (if S (9 + s) < tkuS (Int32.ofNat s) (swlS cs S) (hngS S) 0 (S 15) (S 4) then some ((y + x) + 0, C') else some ((y + x) + 8, C')) := fun x y => by
          unfold f_D_why_b163
          rw [lte, gd_pos k3, gd_pos kd, n2.1.2.1, n2.2.1, n2.2.2.2, s4, tku_m, lte, lte]
        have v0 : f_M_why (Int32.ofNat j) (Int32.ofNat s) M = (if S (9 + s) - tkuS (Int32.ofNat s) 0 (hngS S) (bndS S) (S 15) (S 4) < 0 then f_M_why_b73 (Int32.ofNat j) (Int32.ofNat s) (swlS cs S) (hngS S) (bndS S) 0 M2 else f_M_why_b73 (Int32.ofNat j) (Int32.ofNat s) (swlS cs S) (hngS S) (bndS S) 1 M2) := by
          unfold f_M_why
          have : f_M_isSpot (Int32.ofNat s) M = 1 := spot_c hs6 M
          rw [eM, if_neg i10, this, if_neg i10, g1, b2g, if_pos hg, w1, b2g, hang_m hj hS2 ho, bdg, bend_m hj hS2 ho, bdg, hS2.2.2.1, gapBy_m hj hs6 hS2, bdg]
        have v73 : ∀ x, f_M_why_b73 (Int32.ofNat j) (Int32.ofNat s) (swlS cs S) (hngS S) (bndS S) x M2 = (if S (9 + s) - tkuS (Int32.ofNat s) (swlS cs S) 0 (bndS S) (S 15) (S 4) < 0 then f_M_why_b99 (Int32.ofNat j) (Int32.ofNat s) (swlS cs S) (hngS S) (bndS S) 0 x M2 else f_M_why_b99 (Int32.ofNat j) (Int32.ofNat s) (swlS cs S) (hngS S) (bndS S) 2 x M2) := fun x => by
          unfold f_M_why_b73
          rw [hS2.2.2.1, gapBy_m hj hs6 hS2, bdg]
        have v99 : ∀ x y, f_M_why_b99 (Int32.ofNat j) (Int32.ofNat s) (swlS cs S) (hngS S) (bndS S) x y M2 = (if S (9 + s) - tkuS (Int32.ofNat s) (swlS cs S) (hngS S) (bndS S) 0 (S 4) < 0 then f_M_why_b124 (Int32.ofNat j) (Int32.ofNat s) (swlS cs S) (hngS S) 0 (y + x) M2 else f_M_why_b124 (Int32.ofNat j) (Int32.ofNat s) (swlS cs S) (hngS S) 4 (y + x) M2) := fun x y => by
          unfold f_M_why_b99
          rw [lte, gapBy_m hj hs6 hS2, bdg]
        have v124 : ∀ x y, f_M_why_b124 (Int32.ofNat j) (Int32.ofNat s) (swlS cs S) (hngS S) x y M2 = (if S (9 + s) - tkuS (Int32.ofNat s) (swlS cs S) (hngS S) 0 (S 15) (S 4) < 0 then some ((y + x) + 0, M2) else some ((y + x) + 8, M2)) := fun x y => by
          unfold f_M_why_b124
          rw [lte, hS2.2.2.1, gapBy_m hj hs6 hS2, bdg]
        have fin : ∃ a, f_D_why (Int32.ofNat j) (Int32.ofNat s) C = some (a, C') ∧ f_M_why (Int32.ofNat j) (Int32.ofNat s) M = some (a, M2) := by
          rw [uC, v0]
          by_cases c1 : S (9 + s) < tkuS (Int32.ofNat s) 0 (hngS S) (bndS S) (S 15) (S 4)
          all_goals by_cases c2 : S (9 + s) < tkuS (Int32.ofNat s) (swlS cs S) 0 (bndS S) (S 15) (S 4)
          all_goals by_cases c3 : S (9 + s) < tkuS (Int32.ofNat s) (swlS cs S) (hngS S) (bndS S) 0 (S 4)
          all_goals by_cases c4 : S (9 + s) < tkuS (Int32.ofNat s) (swlS cs S) (hngS S) 0 (S 15) (S 4)
          all_goals
            simp only [u85, u124, u163, v73, v99, v124, q1, q2, q3, q4, c1, c2, c3, c4, if_true, if_false]
            exact ⟨_, rfl, rfl⟩
        obtain ⟨a, f1, f2⟩ := fin
        exact sim_ask h f1 n3 f2 ((g2.trans w2).mono pil_jM).fi
      · refine sim_ask h (a := -3) (C' := C') (M' := M1) ?_ n3 ?_ (g2.mono pil_jM).fi
        · unfold f_D_why
          rw [eC, bdg, if_neg z, spot_c hs6, if_neg i10, gd_pos kd, n1, b2g, gd_pos k3, gap_c n2 hs6, bdg, if_neg hg]
        · unfold f_M_why
          have : f_M_isSpot (Int32.ofNat s) M = 1 := spot_c hs6 M
          rw [eM, if_neg i10, this, if_neg i10, g1, b2g, if_neg hg]
    · refine sim_no (-1) h ?_ ?_
      · unfold f_D_why f_D_isSpot
        rw [eC, bdg, if_neg (dnz j), wi0 hp, if_pos rfl]
      · unfold f_M_why f_M_isSpot
        rw [eM, if_neg i10, mi0 hp, if_pos rfl]
  · exact sim_no (-1) h (by unfold f_D_why; rw [eC, bdg, if_pos rfl]) (by unfold f_M_why; rw [eM, if_pos rfl])
