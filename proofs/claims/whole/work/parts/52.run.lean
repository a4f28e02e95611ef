/-! BITS OF WHAT RUBS -/
def or6 (a b c d e f : Bool) : Int32 := orS (fun i => match i with | 0 => a | 1 => b | 2 => c | 3 => d | 4 => e | _ => f) 6 0 0
def fr6 (a b c d e f : Bool) : Int32 := frS (fun i => match i with | 0 => a | 1 => b | 2 => c | 3 => d | 4 => e | _ => f) 6 0
theorem or6_is (p : Nat → Bool) : orS p 6 0 0 = or6 (p 0) (p 1) (p 2) (p 3) (p 4) (p 5) := rfl
theorem fr6_is (p : Nat → Bool) : frS p 6 0 = fr6 (p 0) (p 1) (p 2) (p 3) (p 4) (p 5) := rfl
theorem or_fr6 : ∀ a b c d e f : Bool, (or6 a b c d e f = 0 ↔ fr6 a b c d e f = -5) := by decide +kernel
theorem or_fr (p : Nat → Bool) : orS p 6 0 0 = 0 ↔ frS p 6 0 = -5 := by rw [or6_is, fr6_is]; exact or_fr6 _ _ _ _ _ _
theorem bits6 : ∀ a b c d e f : Bool, (((or6 a b c d e f >>> (Int32.ofNat 0 &&& 31)) &&& 1 = 0 ↔ a = false) ∧ ((or6 a b c d e f >>> (Int32.ofNat 1 &&& 31)) &&& 1 = 0 ↔ b = false) ∧ ((or6 a b c d e f >>> (Int32.ofNat 2 &&& 31)) &&& 1 = 0 ↔ c = false) ∧ ((or6 a b c d e f >>> (Int32.ofNat 3 &&& 31)) &&& 1 = 0 ↔ d = false) ∧ ((or6 a b c d e f >>> (Int32.ofNat 4 &&& 31)) &&& 1 = 0 ↔ e = false) ∧ ((or6 a b c d e f >>> (Int32.ofNat 5 &&& 31)) &&& 1 = 0 ↔ f = false)) := by decide +kernel
theorem bitp (p : Nat → Bool) {s : Nat} (hs : s < 6) : (orS p 6 0 0 >>> (Int32.ofNat s &&& 31)) &&& 1 = 0 ↔ p s = false := by
  rw [or6_is]
  obtain ⟨h0, h1, h2, h3, h4, h5⟩ := bits6 (p 0) (p 1) (p 2) (p 3) (p 4) (p 5)
  rcases (show s = 0 ∨ s = 1 ∨ s = 2 ∨ s = 3 ∨ s = 4 ∨ s = 5 by omega) with q | q | q | q | q | q <;> subst q
  · exact h0
  · exact h1
  · exact h2
  · exact h3
  · exact h4
  · exact h5
theorem first_l73 (p : Nat → Bool) (v2 v3 : Int32) (M : Mem) : ∀ (k fuel i : Nat), k < fuel → i + k = 6 → ¬ frS p k i = -5 → f_M_first_l73 fuel v2 v3 (orS p 6 0 0) (Int32.ofNat i) M = if v2 = 0 then some (v3, M) else some (frS p k i, M)
  | k, 0, _, h, _, _ => by omega
  | 0, fuel + 1, i, _, _, h => absurd rfl h
  | k + 1, fuel + 1, i, _, hi', h => by
    have hb := bitp p (s := i) (by omega)
    simp only [f_M_first_l73]
    simp only [frS] at h ⊢
    by_cases q : p i = true
    · rw [if_neg (fun e => by rw [hb.mp e] at q; cases q), if_pos q]
    · rw [if_neg q] at h
      rw [if_pos (hb.mpr (Bool.eq_false_iff.mpr q)), lte, oN_s, if_neg q]
      exact first_l73 p v2 v3 M k fuel (i + 1) (by omega) (by omega) h
/-! run, first -/
theorem gdT {α : Type} {x : Option α} {i : Decidable True} : @gd α True i x = x := if_pos trivial

theorem Gn.start {C M : Mem} {hid n m b : Nat} {cs : List Cls} (hE : En C M hid n m b cs) : ∃ M1, f_M_keep M = some M1 ∧ Gn M M1 n m b cs (mI C 262539) (fun j => stC C (786436 + 655360 * j)) := by
  obtain ⟨h1, h2, h3, h4, h5, h6, h7, h8, h9, h10, h11⟩ := hE
  obtain ⟨M1, k1, k2, k3⟩ := keep_m M
  exact ⟨M1, k1, h5.fr k3 (fun a k q => by unfold kpP; omega), k2, (k3.mono fun a k q => Or.inr (kp_jM a k q)).fi, h4.fr (fun a ha k => k3.1 a k (by unfold mReg at ha; unfold kpP; omega)) (k3.1 12451850 13 (by unfold kpP; omega)), fun k hk => (k3.1 _ _ (by unfold kpP; omega)).trans (h9 k hk)⟩
theorem Gn.door {M0 M1 : Mem} {n m b j : Nat} {cs : List Cls} {A : Nat → Int32} {SS : Nat → Nat → Int32} (h : Gn M0 M1 n m b cs A SS) (hj : j < n) : MoS M1 j (SS j) ∧ okS m (SS j) := h.1.2.2.2.2 j hj
theorem run_l45 {M0 : Mem} {n b j nn : Nat} {cs : List Cls} {A : Nat → Int32} {v3 : Int32} (hw : wfH cs) (hA : airA A) (hnn : nn ≤ 100) : ∀ (k fuel i m : Nat) (SS : Nat → Nat → Int32) (M1 : Mem), k < fuel → i + k = nn → m + k < 100000 → Gn M0 M1 n m b cs A SS → ∃ M2 f, f_M_run_l45 fuel (Int32.ofNat j) (Int32.ofNat nn) v3 (Int32.ofNat i) M1 = f_M_run_l45 (f + 1) (Int32.ofNat j) (Int32.ofNat nn) v3 (Int32.ofNat nn) M2 ∧ Gn M0 M2 n (m + k) b cs A (fun j => itS cs A k m (SS j))
  | k, 0, _, _, _, _, h, _, _, _ => by omega
  | 0, fuel + 1, i, m, SS, M1, _, hi', _, h => by
    have e : i = nn := by omega
    subst e
    exact ⟨M1, fuel, rfl, h⟩
  | k + 1, fuel + 1, i, m, SS, M1, _, hi', hm, h => by
    obtain ⟨M2, g1, g2⟩ := h.go (by omega) hw hA
    obtain ⟨M3, f, r1, r2⟩ := run_l45 (j := j) (v3 := v3) hw hA hnn k fuel (i + 1) (m + 1) _ M2 (by omega) (by omega) (by omega) g2
    refine ⟨M3, f, ?_, by rw [show m + (k + 1) = m + 1 + k by omega]; exact r2⟩
    rw [← r1]
    have hc : ¬ Int32.ofNat nn ≤ Int32.ofNat i := fun q => by have := (oN_le (by omega) (by omega)).mp q; omega
    simp only [f_M_run_l45, if_neg hc, g1, bdg, lte, oN_s]
theorem sim_run {hs : Nat → List Cls} {C M : Mem} (h : Rel hs C M) (p1 p2 p3 : Int32) : Sim C M (f_D_run p1 p2 p3 C) (f_M_run p1 p2 p3) := by
  rcases door_at h p1 with ⟨j, hj, ej, e0, hr, hlt, eC, eM⟩ | ⟨eC, eM⟩
  · by_cases h8 : 0 ≤ p3 ∧ p3 ≤ 8
    · by_cases h60 : 0 ≤ p2 ∧ p2 ≤ 60
      · obtain ⟨hid, n, m, b, cs, hE⟩ := enter h
        have hjn := door_n h hE hj (by rw [← e0]; exact hlt)
        obtain ⟨M1, k1, k2⟩ := Gn.start hE
        obtain ⟨h1, h2, h3, h4, h5, -, hm9, hA, -⟩ := hE
        obtain ⟨hS, ho⟩ : MoS M j (stC C (786436 + 655360 * j)) ∧ okS m (stC C (786436 + 655360 * j)) := h5.2.2.2.2 j hjn
        obtain ⟨C1, n1, n2, n3, n4⟩ := now_c h1 h2 h3 (dlo hj)
        obtain ⟨nn, hn61, en⟩ := oN_of h60 (n := 61) (by decide)
        obtain ⟨C2, c1, c2, c3⟩ := goOn_c (t := 7602179) (n := nn) (Or.inl rfl) h3 hA (by omega) (by omega) n2.1 ho n4
        obtain ⟨M2, f, r1, r2⟩ := run_l45 (j := j) (nn := nn) (v3 := p3) h3 hA (by omega) nn 200 0 m _ M1 (by omega) (by omega) (by omega) k2
        have fC : Fr kC C C2 := n3.trans (c3.mono coP1)
        obtain ⟨hS2, ho2⟩ := r2.door hjn
        have z := dnz j
        have kd := dkd j
        generalize 786436 + 655360 * j = d at *
        have uC : f_D_run p1 p2 p3 C = (if p3 = 6 then some (mI C2 8126539 0, C2) else if p3 = 7 then some (mI C2 8126539 1, C2) else if p3 = 8 then some (mI C2 7995396 3, C2) else bd (f_Co_gap 7602179 p3 C2) fun r7 => some (r7, C2)) := by
          simp only [f_D_run, eC, bdg, if_neg z, wi1 h8, wi1 h60, if_neg i10, gd_pos kd, n1, ap2g, gdT]
          rw [en, c1, bdg]
        have uM : f_M_run p1 p2 p3 M = f_M_run_l45 (f + 1) (Int32.ofNat j) (Int32.ofNat nn) p3 (Int32.ofNat nn) M2 := by
          rw [← r1]
          simp only [f_M_run, eM, if_neg i10, mi1 h8, mi1 h60, k1, bdg]
          rw [e0, en]; rfl
        have hle : Int32.ofNat nn ≤ Int32.ofNat nn := (oN_le (by omega) (by omega)).mpr (Nat.le_refl _)
        have hrj : inR (Int32.ofNat j) 4 := oN_in (by omega) hj
        have hxj : (Int32.ofNat j).toNatClampNeg = j := oN_ix (by omega)
        obtain ⟨⟨⟨x0, x1, x2, x3, x4⟩, ⟨x5, x6⟩, -, -⟩, -⟩ := c2.1
        obtain ⟨⟨m1, m2, m3, m4, m5, m6, m7⟩, -⟩ := id hS2
        by_cases e6 : 6 ≤ p3
        · obtain ⟨M3, b1, b2', b3⟩ := r2.back
          rcases (show p3 = 6 ∨ p3 = 7 ∨ p3 = 8 by grind) with e | e | e
          · refine sim_ask h (uC.trans ?_) fC (uM.trans ?_) b3 (a := itS cs (mI C 262539) nn m (stC C d) 5)
            · rw [if_pos e, show mI C2 8126539 0 = _ from x5]
            · simp only [f_M_run_l45, if_pos hle, if_pos e6, if_pos e, gd_pos hrj, hxj, lte, b1, bdg, m5]
          · have n6 : ¬ p3 = 6 := by rw [e]; decide
            refine sim_ask h (uC.trans ?_) fC (uM.trans ?_) b3 (a := itS cs (mI C 262539) nn m (stC C d) 6)
            · rw [if_neg n6, if_pos e, show mI C2 8126539 1 = _ from x6]
            · simp only [f_M_run_l45, if_pos hle, if_pos e6, if_neg n6, if_pos e, gd_pos hrj, hxj, lte, b1, bdg, m6]
          · have n6 : ¬ p3 = 6 := by rw [e]; decide
            have n7 : ¬ p3 = 7 := by rw [e]; decide
            refine sim_ask h (uC.trans ?_) fC (uM.trans ?_) b3 (a := itS cs (mI C 262539) nn m (stC C d) 3)
            · rw [if_neg n6, if_neg n7, if_pos e, show mI C2 7995396 3 = _ from x3]
            · simp only [f_M_run_l45, if_pos hle, if_pos e6, if_neg n6, if_neg n7, gd_pos hrj, hxj, lte, b1, bdg, m3]
        · obtain ⟨s, hs6, es⟩ := oN_of (p := p3) (k := 5) ⟨h8.1, by grind⟩ (n := 6) (by decide)
          obtain ⟨M3, g1, g2⟩ := gap_m hj hs6 hS2 ho2 h3 r2.2.2.2.1
          obtain ⟨M4, b1, b2', b3⟩ := (r2.pil g2).back
          have n6 : ¬ p3 = 6 := fun e => e6 (by rw [e]; decide)
          have n7 : ¬ p3 = 7 := fun e => e6 (by rw [e]; decide)
          have n8 : ¬ p3 = 8 := fun e => e6 (by rw [e]; decide)
          refine sim_ask h (uC.trans ?_) fC (uM.trans ?_) b3 (a := gapS cs (itS cs (mI C 262539) nn m (stC C d)) s)
          · rw [if_neg n6, if_neg n7, if_neg n8, es, gap_c c2 hs6, bdg]
          · rw [es] at e6 ⊢
            simp only [f_M_run_l45, if_pos hle, if_neg e6, g1, bdg, ap2g, b1]
      · refine sim_no (-10002) h ?_ ?_
        · simp only [f_D_run, eC, bdg, if_neg (dnz j), wi1 h8, wi0 h60, if_neg i10, if_true]
        · simp only [f_M_run, eM, mi1 h8, mi0 h60, if_neg i10, if_true]
    · refine sim_no (-10001) h ?_ ?_
      · simp only [f_D_run, eC, bdg, if_neg (dnz j), wi0 h8, if_true]
      · simp only [f_M_run, eM, mi0 h8, if_neg i10, if_true]
  · exact sim_no (-10001) h (by simp only [f_D_run, eC, bdg, if_true]) (by simp only [f_M_run, eM, if_true])
theorem first_all {M0 : Mem} {n b j hid : Nat} {cs : List Cls} {A : Nat → Int32} {v2 : Int32} (hj : j < n) (hj4 : j < 4) (hw : wfH cs) (hA : airA A) : ∀ (k f1 f2 i m : Nat) (SS : Nat → Nat → Int32) (C1 M1 : Mem), k < f1 → k < f2 → i + k = 61 → m + k < 50000 → CoT C1 7602179 hid cs (SS j) → (∀ q, q < 12 → mI C1 8651147 q = A q) → Gn M0 M1 n m b cs A SS → ∃ a C' M', f_D_first_l30 f1 v2 (Int32.ofNat i) C1 = some (a, C') ∧ f_M_first_l26 f2 (Int32.ofNat j) v2 (Int32.ofNat i) M1 = some (a, M') ∧ Fr kC C1 C' ∧ Fi jM M0 M'
  | k, 0, _, _, _, _, _, _, h, _, _, _, _, _, _ => by omega
  | k, _, 0, _, _, _, _, _, _, h, _, _, _, _, _ => by omega
  | 0, f1 + 1, f2 + 1, i, m, SS, C1, M1, _, _, hi', hm, hC, hG, hM => by
    have e : i = 61 := by omega
    subst e
    obtain ⟨hS, ho⟩ := hM.door hj
    obtain ⟨M2, g1, g2⟩ := rubs_m hj4 hS ho hw hM.2.2.2.1
    obtain ⟨M3, b1, b2', b3⟩ := (hM.pil g2).back
    refine ⟨-5, C1, M3, ?_, ?_, Fr.rf, b3⟩
    · simp only [f_D_first_l30]
      exact if_pos (by decide)
    · have c : (61 : Int32) ≤ Int32.ofNat 61 := by decide
      have c2 : Int32.ofNat 61 = 61 := by decide
      simp only [f_M_first_l26, if_pos c, f_M_first_b50, g1, bdg, ap2g, b1, if_pos c2]
  | k + 1, f1 + 1, f2 + 1, i, m, SS, C1, M1, _, _, hi', hm, hC, hG, hM => by
    obtain ⟨hS, ho⟩ := hM.door hj
    obtain ⟨M2, g1, g2⟩ := rubs_m hj4 hS ho hw hM.2.2.2.1
    have hM2 := hM.pil g2
    have c60 : ¬ (60 : Int32) < Int32.ofNat i := fun q => by have := (oN_lt (m := 60) (i := i) (by omega) (by omega)).mp q; omega
    have c61 : ¬ (61 : Int32) ≤ Int32.ofNat i := fun q => by have := (oN_le (m := 61) (i := i) (by omega) (by omega)).mp q; omega
    by_cases q : frS (rubP cs (SS j)) 6 0 = -5
    · have q0 : rubS cs (SS j) = 0 := (or_fr _).mpr q
      obtain ⟨C2, c1, c2, c3⟩ := goOn_c (t := 7602179) (n := 1) (Or.inl rfl) hw hA (by omega) (by omega) hC.1 ho hG
      obtain ⟨M3, r1, r2⟩ := hM2.go (by omega) hw hA
      obtain ⟨a, C', M', x1, x2, x3, x4⟩ := first_all (v2 := v2) hj hj4 hw hA k f1 f2 (i + 1) (m + 1) _ C2 M3 (by omega) (by omega) (by omega) (by omega) c2 (fun q hq => (c3.1 _ _ (by unfold coP; omega)).trans (hG q hq)) r2
      have c1' : f_Co_goOn 7602179 1 C1 = some C2 := c1
      refine ⟨a, C', M', ?_, ?_, (c3.mono coP1).trans x3, x4⟩
      · simp only [f_D_first_l30, if_neg c60, first_c hC, bdg, if_pos q, c1', lte, oN_s]
        exact x1
      · simp only [f_M_first_l26, if_neg c61, g1, bdg, ap2g, if_pos q0, r1, lte, oN_s]
        exact x2
    · have q0 : ¬ rubS cs (SS j) = 0 := fun e => q ((or_fr _).mp e)
      obtain ⟨M3, g3, g4⟩ := rubs_m hj4 (hS.pil g2) ho hw hM2.2.2.2.1
      obtain ⟨M4, b1, b2', b3⟩ := (hM2.pil g4).back
      have c3 : ¬ Int32.ofNat i = 61 := fun e => c61 (by rw [e]; decide)
      have l73 := first_l73 (rubP cs (SS j)) v2 (Int32.ofNat i) M4 6 200 0 (by omega) (by omega) q
      have l73' : f_M_first_l73 200 v2 (Int32.ofNat i) (rubS cs (SS j)) 0 M4 = if v2 = 0 then some (Int32.ofNat i, M4) else some (frS (rubP cs (SS j)) 6 0, M4) := l73
      refine ⟨if v2 = 0 then Int32.ofNat i else frS (rubP cs (SS j)) 6 0, C1, M4, ?_, ?_, Fr.rf, b3⟩
      · simp only [f_D_first_l30, if_neg c60, first_c hC, bdg, if_neg q]
        by_cases v : v2 = 0
        · rw [if_pos v, if_pos v]
        · rw [if_neg v, if_neg v]
      · simp only [f_M_first_l26, if_neg c61, g1, bdg, ap2g, if_neg q0, f_M_first_b50, g3, b1, if_neg c3, l73']
        by_cases v : v2 = 0
        · rw [if_pos v, if_pos v]
        · rw [if_neg v, if_neg v]
theorem sim_first {hs : Nat → List Cls} {C M : Mem} (h : Rel hs C M) (p1 p2 : Int32) : Sim C M (f_D_first p1 p2 C) (f_M_first p1 p2) := by
  rcases door_at h p1 with ⟨j, hj, ej, e0, hr, hlt, eC, eM⟩ | ⟨eC, eM⟩
  · by_cases h1' : 0 ≤ p2 ∧ p2 ≤ 1
    · obtain ⟨hid, n, m, b, cs, hE⟩ := enter h
      have hjn := door_n h hE hj (by rw [← e0]; exact hlt)
      obtain ⟨M1, k1, k2⟩ := Gn.start hE
      obtain ⟨h1, h2, h3, h4, h5, -, hm9, hA, -⟩ := hE
      obtain ⟨C1, n1, n2, n3, n4⟩ := now_c h1 h2 h3 (dlo hj)
      obtain ⟨a, C', M', x1, x2, x3, x4⟩ := first_all (v2 := p2) hjn hj h3 hA 61 200 200 0 m _ C1 M1 (by omega) (by omega) (by omega) (by omega) n2 n4 k2
      have z := dnz j
      have kd := dkd j
      generalize 786436 + 655360 * j = d at *
      refine sim_ask h (a := a) (C' := C') (M' := M') ?_ (n3.trans x3) ?_ x4
      · simp only [f_D_first, eC, bdg, if_neg z, wi1 h1', if_neg i10, gd_pos kd, n1, ap2g]
        exact x1
      · simp only [f_M_first, eM, if_neg i10, mi1 h1', k1, bdg]
        rw [e0]; exact x2
    · refine sim_no (-1) h ?_ ?_
      · simp only [f_D_first, eC, bdg, if_neg (dnz j), wi0 h1', if_true]
      · simp only [f_M_first, eM, mi0 h1', if_neg i10, if_true]
  · exact sim_no (-1) h (by simp only [f_D_first, eC, bdg, if_true]) (by simp only [f_M_first, eM, if_true])
