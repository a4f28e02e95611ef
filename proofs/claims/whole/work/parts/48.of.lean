/-! CALLS THAT ONLY ASK -/
def kC (a _ : Nat) : Prop := 7602179 ≤ a ∧ a < 10354892
theorem ce_kC {i : Nat} (hi' : i < nC) (k : Nat) : ¬ kC (ce i).1 k := by
  have := allC (p := fun i => decide ((ce i).1 < 7602179) || decide (10354892 ≤ (ce i).1)) (by decide +kernel) hi'
  simp only [Bool.or_eq_true, decide_eq_true_eq] at this
  unfold kC; omega
theorem me_jM {i : Nat} (hi' : i < nC) : ¬ jM (me i).1 (me i).2 := by
  have := allC (p := fun i => !((me i).1 == 14945421) && !((me i).1 == 15073419) && !((me i).1 == 15204491) && !((me i).1 == 15335563) && (!((me i).1 == 12451850) || decide ((me i).2 < 33) || decide (36 < (me i).2))) (by decide +kernel) hi'
  simp only [Bool.and_eq_true, Bool.or_eq_true, Bool.not_eq_true', beq_eq_false_iff_ne, decide_eq_true_eq] at this
  unfold jM; omega
theorem pn_kC {p : Nat × Nat} (h : pnC p) : ¬ kC p.1 p.2 := by
  obtain ⟨j, hj, h⟩ := h
  unfold kC
  rcases h with e | e | e | e | e | e <;> (subst e; simp only; omega)
theorem rel_ask {hs : Nat → List Cls} {C M C' M' : Mem} (h : Rel hs C M) (hC : Fr kC C C') (hM : Fi jM M M') : Rel hs C' M' := by
  obtain ⟨a1, a2, a3, a4, a5, a6⟩ := h
  have nC' : ∀ i, i < nC → rdI C' (ce i) = rdI C (ce i) := fun i hi' => hC.1 _ _ (ce_kC hi' _)
  have nM' : ∀ i, i < nC → rdI M' (me i) = rdI M (me i) := fun i hi' => hM.1 _ _ (me_jM hi')
  have nR : ∀ a, hReg a → ∀ k, ¬ kC a k := fun a ha k => by unfold hReg at ha; unfold kC; omega
  refine ⟨a1.gen nC' nM', a2.fr (fun a ha k => hC.1 a k (nR a ha k)) (fun a ha k => hC.2.1 a k (nR a ha k)) (nC' _ (by decide)) (fun a ha k => hM.1 a k (by unfold mReg at ha; unfold jM; omega)), a3.fr (fun k hk _ => nC' k hk), a4.fr (fun p hp => hC.1 _ _ (pn_kC hp)) (fun j _ => ⟨hM.1 _ _ (by unfold jM; omega), hM.1 _ _ (by unfold jM; omega)⟩) (nC' _ (by decide)) (nC' _ (by decide)) (nC' _ (by decide)), ?_, by rw [hC.2.2.2, hM.2.2, a6]⟩
  intro t k ht hk
  rw [hC.2.2.1, hM.2.1]; exact a5 t k ht hk
theorem sim_ask {hs : Nat → List Cls} {C M C' M' : Mem} {a : Int32} {x : Option (Int32 × Mem)} {y : Mem → Option (Int32 × Mem)} (h : Rel hs C M) (hx : x = some (a, C')) (hC : Fr kC C C') (hy : y M = some (a, M')) (hM : Fi jM M M') : Sim C M x y := sim_of h hx hC.2.2.2 hy (rel_ask h hC hM)
theorem coP1 : ∀ a k, coP 7602179 a k → kC a k := fun a k h => by unfold coP at h; unfold kC; omega
theorem coP2 : ∀ a k, coP 9043971 a k → kC a k := fun a k h => by unfold coP at h; unfold kC; omega
theorem coB1 : ∀ a k, coB 7602179 a k → kC a k := fun a k h => by unfold coB at h; unfold kC; omega
theorem coA1 : ∀ a k, coA 7602179 a k → kC a k := fun a k h => by unfold coA at h; unfold kC; omega
theorem coA2 : ∀ a k, coA 9043971 a k → kC a k := fun a k h => by unfold coA at h; unfold kC; omega
theorem now_c {C : Mem} {id : Nat} {cs : List Cls} (h1 : f_D_holdingHouse C = some id) (h2 : HRep C id cs) (h3 : wfH cs) {d : Nat} (hd : d + 600000 ≤ 7602179) : ∃ C', f_D_courseNow d C = some (7602179, C') ∧ CoT C' 7602179 id cs (stC C d) ∧ Fr kC C C' ∧ ∀ q, q < 12 → mI C' 8651147 q = mI C 262539 q := by
  obtain ⟨C', a1, a2, a3, a4⟩ := begin_c (t := 7602179) (d := d) (Or.inl rfl) hd h2 h3
  refine ⟨C', ?_, a2, a3.mono coA1, a4⟩
  unfold f_D_courseNow
  rw [h1, bdg, gd_pos h2.1, a1, bdg]
theorem dlo {j : Nat} (h : j < 4) : 786436 + 655360 * j + 600000 ≤ 7602179 := by omega
theorem k3 : (7602179 : Nat) % 131072 = 3 := by decide
theorem door_n {hs : Nat → List Cls} {C M : Mem} {id n m b : Nat} {cs : List Cls} (_ : Rel hs C M) (hE : En C M id n m b cs) {j : Nat} (hj : j < 4) (h : Int32.ofNat j < rdI C (ce 60)) : j < n := by
  have := hE.2.2.2.2.1.2.1
  rw [hE.2.2.2.2.2.1] at h
  exact (oN_lt (by omega) (by omega)).mp h
theorem sim_of_ {hs : Nat → List Cls} {C M : Mem} (h : Rel hs C M) (p1 p2 : Int32) : Sim C M (f_D_of p1 p2 C) (f_M_of p1 p2) := by
  rcases door_at h p1 with ⟨j, hj, ej, e0, hr, hlt, eC, eM⟩ | ⟨eC, eM⟩
  · obtain ⟨hid, n, m, b, cs, hE⟩ := enter h
    have hjn := door_n h hE hj (by rw [← e0]; exact hlt)
    obtain ⟨h1, h2, h3, h4, h5, -⟩ := hE
    obtain ⟨hS, ho⟩ : MoS M j (stC C (786436 + 655360 * j)) ∧ okS m (stC C (786436 + 655360 * j)) := h5.2.2.2.2 j hjn
    obtain ⟨C', n1, n2, n3, -⟩ := now_c h1 h2 h3 (dlo hj)
    have z := dnz j
    have kd := dkd j
    obtain ⟨⟨s0, s1, s2, s3, s4⟩, ⟨s5, s6⟩, ⟨s7, s8⟩, s9⟩ := stC_do C (786436 + 655360 * j)
    obtain ⟨⟨m1, m2, m3, m4, m5, m6, m7⟩, m9, -⟩ := id hS
    generalize hd : 786436 + 655360 * j = d at *
    subst e0
    by_cases ha : 20 ≤ p2 ∧ p2 ≤ 25
    · obtain ⟨s, hs6, es⟩ := oN_of (p := p2 - 20) (k := 5) ⟨by grind, by grind⟩ (n := 6) (by decide)
      have hrs : inR (p2 - 20) 6 := by rw [es]; exact oN_in (by omega) hs6
      have e6 : 6 * Int32.ofNat j + p2 - 20 = Int32.ofNat (6 * j + s) := by
        have q : 6 * Int32.ofNat j + p2 - 20 = 6 * Int32.ofNat j + (p2 - 20) := by grind
        rw [q, es]; exact ix6 hj hs6
      refine sim_no (stC C d (9 + s)) h ?_ ?_
      · unfold f_D_of
        rw [eC, bdg, if_neg z, wi1 ha, if_neg i10, gd_pos kd, gd_pos hrs, es, oN_ix (by omega), s9 s hs6]
      · unfold f_M_of
        rw [eM, if_neg i10, mi1 ha, if_neg i10, e6, gd_pos (oN_in (by omega) (by omega)), oN_ix (by omega), m9 s hs6]
    by_cases hb : 30 ≤ p2 ∧ p2 ≤ 35
    · obtain ⟨s, hs6, es⟩ := oN_of (p := p2 - 30) (k := 5) ⟨by grind, by grind⟩ (n := 6) (by decide)
      obtain ⟨M2, g1, g2⟩ := gap_m hj hs6 hS ho h3 h4
      refine sim_ask h (a := gapS cs (stC C d) s) (C' := C') (M' := M2) ?_ n3 ?_ (g2.mono pil_jM).fi
      · unfold f_D_of
        rw [eC, bdg, if_neg z, wi0 ha, if_pos rfl, wi1 hb, if_neg i10, gd_pos kd, n1, b2g, gd_pos k3, es, gap_c n2 hs6, bdg]
      · unfold f_M_of
        rw [eM, if_neg i10, mi0 ha, if_pos rfl, mi1 hb, if_neg i10, es, g1, b2g]
    have uC : f_D_of (Int32.ofNat j) p2 C = if p2 = 0 then gd (d % 131072 = 4) (some (mI C d 1, C)) else if p2 = 1 then gd (d % 131072 = 4) (some (mI C d 2, C)) else if p2 = 2 then gd (d % 131072 = 4) (some (mI C (d + 131143) 0, C)) else if p2 = 3 then gd (d % 131072 = 4) (some (mI C (d + 131143) 1, C)) else if p2 = 4 then gd (d % 131072 = 4) (some ((mI C (d + 262215) 0) + (2 * (mI C (d + 262215) 1)), C)) else if p2 = 5 then gd (d % 131072 = 4) (some (mI C d 3, C)) else if p2 = 6 then gd (d % 131072 = 4) (some (mI C d 4, C)) else if p2 = 7 then gd (d % 131072 = 4) (b2 (f_D_courseNow d C) fun r11 M10 => gd (r11 % 131072 = 3) (some (mI M10 r11 5, M10))) else if p2 = 8 then gd (d % 131072 = 4) (b2 (f_D_courseNow d C) fun r15 M14 => gd (r15 % 131072 = 3) (some (mI M14 r15 6, M14))) else if p2 = 9 then gd (d % 131072 = 4) (b2 (f_D_courseNow d C) fun r19 M18 => gd (r19 % 131072 = 3) (some (mI M18 r19 7, M18))) else if p2 = 10 then gd (d % 131072 = 4) (b2 (f_D_courseNow d C) fun r23 M22 => gd (r23 % 131072 = 3) (bd (f_Co_rubbing r23 M22) fun r25 => some (r25, M22))) else if p2 = 11 then gd (d % 131072 = 4) (b2 (f_D_courseNow d C) fun r28 M27 => gd (r28 % 131072 = 3) (bd (f_Co_draughty r28 M27) fun r30 => some (r30, M27))) else some ((-10001), C) := by
      unfold f_D_of
      rw [eC, bdg, if_neg z, wi0 ha, if_pos rfl, wi0 hb, if_pos rfl]
    have uM : f_M_of (Int32.ofNat j) p2 M = if p2 = 0 then some (mI M 12714123 j, M) else if p2 = 1 then some (mI M 12845195 j, M) else if p2 = 2 then some (mI M 12976267 j, M) else if p2 = 3 then some (mI M 13107339 j, M) else if p2 = 4 then some (mI M 13238411 j, M) else if p2 = 5 then some (mI M 13369483 j, M) else if p2 = 6 then some (mI M 13500555 j, M) else if p2 = 7 then b2 (f_M_swellOf (Int32.ofNat j) M) fun r2 M1 => some (r2, M1) else if p2 = 8 then bd (f_M_bendOf (Int32.ofNat j) M) fun r3 => some (r3, M) else if p2 = 9 then bd (f_M_hangOf (Int32.ofNat j) M) fun r4 => some (r4, M) else if p2 = 10 then b2 (f_M_rubs (Int32.ofNat j) M) fun r6 M5 => some (r6, M5) else if p2 = 11 then b2 (f_M_draughts (Int32.ofNat j) M) fun r8 M7 => some (r8, M7) else some ((-10001), M) := by
      unfold f_M_of
      rw [eM, if_neg i10, mi0 ha, if_pos rfl, mi0 hb, if_pos rfl]
      simp only [gd_pos hr, ej]
    by_cases e0 : p2 = 0
    · subst e0
      refine sim_no (stC C d 1) h (uC.trans ?_) (uM.trans ?_)
      · rw [if_pos rfl, gd_pos kd, s1]
      · rw [if_pos rfl, m1]
    by_cases e1 : p2 = 1
    · subst e1
      refine sim_no (stC C d 2) h (uC.trans ?_) (uM.trans ?_)
      · rw [if_neg (by decide), if_pos rfl, gd_pos kd, s2]
      · rw [if_neg (by decide), if_pos rfl, m2]
    by_cases e2 : p2 = 2
    · subst e2
      refine sim_no (stC C d 5) h (uC.trans ?_) (uM.trans ?_)
      · rw [if_neg (by decide), if_neg (by decide), if_pos rfl, gd_pos kd, s5]
      · rw [if_neg (by decide), if_neg (by decide), if_pos rfl, m5]
    by_cases e3 : p2 = 3
    · subst e3
      refine sim_no (stC C d 6) h (uC.trans ?_) (uM.trans ?_)
      · rw [if_neg (by decide), if_neg (by decide), if_neg (by decide), if_pos rfl, gd_pos kd, s6]
      · rw [if_neg (by decide), if_neg (by decide), if_neg (by decide), if_pos rfl, m6]
    by_cases e4 : p2 = 4
    · subst e4
      refine sim_no (stC C d 7 + 2 * stC C d 8) h (uC.trans ?_) (uM.trans ?_)
      · rw [if_neg (by decide), if_neg (by decide), if_neg (by decide), if_neg (by decide), if_pos rfl, gd_pos kd, s7, s8]
      · rw [if_neg (by decide), if_neg (by decide), if_neg (by decide), if_neg (by decide), if_pos rfl, m7]
    by_cases e5 : p2 = 5
    · subst e5
      refine sim_no (stC C d 3) h (uC.trans ?_) (uM.trans ?_)
      · rw [if_neg (by decide), if_neg (by decide), if_neg (by decide), if_neg (by decide), if_neg (by decide), if_pos rfl, gd_pos kd, s3]
      · rw [if_neg (by decide), if_neg (by decide), if_neg (by decide), if_neg (by decide), if_neg (by decide), if_pos rfl, m3]
    by_cases e6 : p2 = 6
    · subst e6
      refine sim_no (stC C d 4) h (uC.trans ?_) (uM.trans ?_)
      · rw [if_neg (by decide), if_neg (by decide), if_neg (by decide), if_neg (by decide), if_neg (by decide), if_neg (by decide), if_pos rfl, gd_pos kd, s4]
      · rw [if_neg (by decide), if_neg (by decide), if_neg (by decide), if_neg (by decide), if_neg (by decide), if_neg (by decide), if_pos rfl, m4]
    by_cases e7 : p2 = 7
    · subst e7
      obtain ⟨M2, g1, g2⟩ := swell_m hj hS ho h3 h4
      refine sim_ask h (uC.trans ?_) n3 (uM.trans ?_) (g2.mono pil_jM).fi (a := swlS cs (stC C d))
      · rw [if_neg (by decide), if_neg (by decide), if_neg (by decide), if_neg (by decide), if_neg (by decide), if_neg (by decide), if_neg (by decide), if_pos rfl, gd_pos kd, n1, b2g, gd_pos k3, n2.2.1]
      · rw [if_neg (by decide), if_neg (by decide), if_neg (by decide), if_neg (by decide), if_neg (by decide), if_neg (by decide), if_neg (by decide), if_pos rfl, g1, b2g]
    by_cases e8 : p2 = 8
    · subst e8
      refine sim_ask h (uC.trans ?_) n3 (uM.trans ?_) Fi.rf (a := bndS (stC C d))
      · rw [if_neg (by decide), if_neg (by decide), if_neg (by decide), if_neg (by decide), if_neg (by decide), if_neg (by decide), if_neg (by decide), if_neg (by decide), if_pos rfl, gd_pos kd, n1, b2g, gd_pos k3, n2.2.2.1]
      · rw [if_neg (by decide), if_neg (by decide), if_neg (by decide), if_neg (by decide), if_neg (by decide), if_neg (by decide), if_neg (by decide), if_neg (by decide), if_pos rfl, bend_m hj hS ho, bdg]
    by_cases e9 : p2 = 9
    · subst e9
      refine sim_ask h (uC.trans ?_) n3 (uM.trans ?_) Fi.rf (a := hngS (stC C d))
      · rw [if_neg (by decide), if_neg (by decide), if_neg (by decide), if_neg (by decide), if_neg (by decide), if_neg (by decide), if_neg (by decide), if_neg (by decide), if_neg (by decide), if_pos rfl, gd_pos kd, n1, b2g, gd_pos k3, n2.2.2.2]
      · rw [if_neg (by decide), if_neg (by decide), if_neg (by decide), if_neg (by decide), if_neg (by decide), if_neg (by decide), if_neg (by decide), if_neg (by decide), if_neg (by decide), if_pos rfl, hang_m hj hS ho, bdg]
    by_cases e10 : p2 = 10
    · subst e10
      obtain ⟨M2, g1, g2⟩ := rubs_m hj hS ho h3 h4
      refine sim_ask h (uC.trans ?_) n3 (uM.trans ?_) (g2.mono pil_jM).fi (a := rubS cs (stC C d))
      · rw [if_neg (by decide), if_neg (by decide), if_neg (by decide), if_neg (by decide), if_neg (by decide), if_neg (by decide), if_neg (by decide), if_neg (by decide), if_neg (by decide), if_neg (by decide), if_pos rfl, gd_pos kd, n1, b2g, gd_pos k3, rubbing_c n2, bdg]
      · rw [if_neg (by decide), if_neg (by decide), if_neg (by decide), if_neg (by decide), if_neg (by decide), if_neg (by decide), if_neg (by decide), if_neg (by decide), if_neg (by decide), if_neg (by decide), if_pos rfl, g1, b2g]
    by_cases e11 : p2 = 11
    · subst e11
      obtain ⟨M2, g1, g2⟩ := draughts_m hj hS ho h3 h4
      refine sim_ask h (uC.trans ?_) n3 (uM.trans ?_) (g2.mono pil_jM).fi (a := draS cs (stC C d))
      · rw [if_neg (by decide), if_neg (by decide), if_neg (by decide), if_neg (by decide), if_neg (by decide), if_neg (by decide), if_neg (by decide), if_neg (by decide), if_neg (by decide), if_neg (by decide), if_neg (by decide), if_pos rfl, gd_pos kd, n1, b2g, gd_pos k3, draughty_c n2, bdg]
      · rw [if_neg (by decide), if_neg (by decide), if_neg (by decide), if_neg (by decide), if_neg (by decide), if_neg (by decide), if_neg (by decide), if_neg (by decide), if_neg (by decide), if_neg (by decide), if_neg (by decide), if_pos rfl, g1, b2g]
    refine sim_no (-10001) h (uC.trans ?_) (uM.trans ?_)
    · rw [if_neg e0, if_neg e1, if_neg e2, if_neg e3, if_neg e4, if_neg e5, if_neg e6, if_neg e7, if_neg e8, if_neg e9, if_neg e10, if_neg e11]
    · rw [if_neg e0, if_neg e1, if_neg e2, if_neg e3, if_neg e4, if_neg e5, if_neg e6, if_neg e7, if_neg e8, if_neg e9, if_neg e10, if_neg e11]
  · exact sim_no (-10001) h (by unfold f_D_of; rw [eC, bdg, if_pos rfl]) (by unfold f_M_of; rw [eM, if_pos rfl])
