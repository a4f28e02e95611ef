/-! worst, off -/
theorem min_m (l r : Int32) : (if l ≤ r then l else r) = mnI l r := by
  unfold mnI
  by_cases q : l ≤ r
  · rw [if_pos q, if_neg (Int32.not_lt.mpr q)]
  · rw [if_neg q, if_pos (Int32.not_le.mp q)]
theorem max_m (g r : Int32) : (if r ≤ g then g else r) = mxI g r := by
  unfold mxI
  by_cases q : r ≤ g
  · rw [if_pos q, if_neg (Int32.not_lt.mpr q)]
  · rw [if_neg q, if_pos (Int32.not_le.mp q)]
theorem lay_l25 {M0 : Mem} {n b j s nn : Nat} {cs : List Cls} {A : Nat → Int32} (hj : j < n) (hj4 : j < 4) (hs : s < 6) (hw : wfH cs) (hA : airA A) (hnn : nn ≤ 100) : ∀ (k fuel i m : Nat) (SS : Nat → Nat → Int32) (M1 : Mem) (l g : Int32), k < fuel → i + k = nn → m + k < 50000 → Gn M0 M1 n m b cs A SS → mI M1 12451850 35 = l → mI M1 12451850 36 = g → ∃ M', f_M_layGaps_l25 fuel (Int32.ofNat j) (Int32.ofNat s) (Int32.ofNat nn) (Int32.ofNat i) M1 = some M' ∧ Fi jM M0 M' ∧ mI M' 12451850 35 = (lgS cs A s k m (SS j) l g).1 ∧ mI M' 12451850 36 = (lgS cs A s k m (SS j) l g).2
  | k, 0, _, _, _, _, _, _, h, _, _, _, _, _ => by omega
  | 0, fuel + 1, i, m, SS, M1, l, g, _, hi', hm, hM, h35, h36 => by
    obtain ⟨M3, b1, b2', b3⟩ := hM.back
    have nk : ∀ k, 35 ≤ k → mI M3 12451850 k = mI M1 12451850 k := fun k hk => by
      obtain ⟨M4, y1, y2, y3, y4, y5⟩ := back_l2 (M := M1) 4 200 0 M1 (by omega) (by omega) Fr.rf (fun q hq => by omega)
      have e : M4 = M3 := Option.some.inj (y1.symm.trans b1)
      rw [← e]
      exact y5.1 _ _ (by unfold pbP; omega)
    refine ⟨M3, ?_, b3, (nk 35 (by omega)).trans h35, (nk 36 (by omega)).trans h36⟩
    have c : Int32.ofNat nn ≤ Int32.ofNat i := (oN_le (by omega) (by omega)).mpr (by omega)
    simp only [f_M_layGaps_l25, if_pos c, b1, bdg]
  | k + 1, fuel + 1, i, m, SS, M1, l, g, _, hi', hm, hM, h35, h36 => by
    have c : ¬ Int32.ofNat nn ≤ Int32.ofNat i := fun q => by have := (oN_le (by omega) (by omega)).mp q; omega
    obtain ⟨M2, r1, r2⟩ := hM.go (by omega) hw hA
    have nk : ∀ k, 35 ≤ k → mI M2 12451850 k = mI M1 12451850 k := fun k hk => by
      obtain ⟨M4, y1, y2, y3, y4⟩ := goMonth_m (a := A (m % 12)) hM.1 (by omega) hw hM.2.2.2.1 (hA _ (Nat.mod_lt _ (by decide)))
      have h12 : m % 12 < 12 := Nat.mod_lt _ (by decide)
      have e : M4 = M2 := by
        unfold f_M_goOn at r1
        rw [hM.1.2.2.1, oN_mod (by omega), gd_pos (oN_in (by omega) h12), oN_ix (by omega), hM.2.2.2.2 _ h12, y1, bdg] at r1
        exact Option.some.inj r1
      rw [← e]
      exact y3.1 _ _ (by unfold goP; omega)
    obtain ⟨hS, ho⟩ := r2.door hj
    obtain ⟨M3, g1, g2⟩ := gap_m hj4 hs hS ho hw r2.2.2.2.1
    have r3 := r2.pil g2
    have n35 : mI M3 12451850 35 = l := (g2.1 _ _ (by unfold pilP; omega)).trans ((nk 35 (by omega)).trans h35)
    have n36 : mI M3 12451850 36 = g := (g2.1 _ _ (by unfold pilP; omega)).trans ((nk 36 (by omega)).trans h36)
    generalize hr : gapS cs (monS cs A m (SS j)) s = r at g1
    have f4 : Fr jG M3 (setI (setI M3 12451850 35 (mnI l r)) 12451850 36 (mxI g r)) := (Fr.rf.set (by unfold jG; omega) _).set (by unfold jG; omega) _
    obtain ⟨M', x1, x2, x3, x4⟩ := lay_l25 hj hj4 hs hw hA hnn k fuel (i + 1) (m + 1) _ _ (mnI l r) (mxI g r) (by omega) (by omega) (by omega) (r3.fr f4) ((mSk (by decide)).trans mSe) mSe
    refine ⟨M', ?_, x2, ?_, ?_⟩
    · rw [← x1]
      have k36 : ∀ v, mI (setI M3 12451850 35 v) 12451850 36 = g := fun v => (mSk (by decide)).trans n36
      have st : f_M_layGaps_b62 (f_M_layGaps_l25 fuel) (Int32.ofNat j) (Int32.ofNat s) (Int32.ofNat nn) (Int32.ofNat i) r (mnI l r) M3 = f_M_layGaps_l25 fuel (Int32.ofNat j) (Int32.ofNat s) (Int32.ofNat nn) (Int32.ofNat (i + 1)) (setI (setI M3 12451850 35 (mnI l r)) 12451850 36 (mxI g r)) := by
        simp only [f_M_layGaps_b62, lte, k36, oN_s]
        rw [← max_m g r]
        by_cases q : r ≤ g
        · rw [if_pos q, if_pos q]
        · rw [if_neg q, if_neg q]
      simp only [f_M_layGaps_l25, if_neg c, r1, bdg, g1, ap2g, n35]
      rw [← st, ← min_m l r]
      by_cases q : l ≤ r
      · rw [if_pos q, if_pos q]
      · rw [if_neg q, if_neg q]
    · rw [x3, ← hr]; rfl
    · rw [x4, ← hr]; rfl
theorem lay_m {M : Mem} {n m b j s nn : Nat} {cs : List Cls} {A : Nat → Int32} {SS : Nat → Nat → Int32} (hj : j < n) (hj4 : j < 4) (hs : s < 6) (hw : wfH cs) (hA : airA A) (hnn : nn ≤ 100) (hm : m < 40000) (hM : MoA M n m SS) (hH : MHb M cs b) (hG : ∀ k, k < 12 → mI M 12583307 k = A k) : ∃ M', f_M_layGaps (Int32.ofNat j) (Int32.ofNat s) (Int32.ofNat nn) M = some M' ∧ Fi jM M M' ∧ mI M' 12451850 35 = leS cs A s nn m (SS j) ∧ mI M' 12451850 36 = grS cs A s nn m (SS j) := by
  obtain ⟨M1, k1, k2, k3⟩ := keep_m M
  have g0 : Gn M M1 n m b cs A SS := ⟨hM.fr k3 (fun a k q => by unfold kpP; omega), k2, (k3.mono fun a k q => Or.inr (kp_jM a k q)).fi, hH.fr (fun a ha k => k3.1 a k (by unfold mReg at ha; unfold kpP; omega)) (k3.1 12451850 13 (by unfold kpP; omega)), fun k hk => (k3.1 _ _ (by unfold kpP; omega)).trans (hG k hk)⟩
  obtain ⟨hS, ho⟩ := g0.door hj
  obtain ⟨M2, g1, g2⟩ := gap_m hj4 hs hS ho hw g0.2.2.2.1
  have f3 : Fr jG M2 (setI (setI M2 12451850 35 (gapS cs (SS j) s)) 12451850 36 (gapS cs (SS j) s)) := (Fr.rf.set (by unfold jG; omega) _).set (by unfold jG; omega) _
  obtain ⟨M', x1, x2, x3, x4⟩ := lay_l25 (nn := nn) hj hj4 hs hw hA hnn nn 200 0 m SS _ (gapS cs (SS j) s) (gapS cs (SS j) s) (by omega) (by omega) (by omega) ((g0.pil g2).fr f3) ((mSk (by decide)).trans mSe) mSe
  refine ⟨M', ?_, x2, x3, x4⟩
  have e : mI (setI M2 12451850 35 (gapS cs (SS j) s)) 12451850 35 = gapS cs (SS j) s := mSe
  simp only [f_M_layGaps, k1, bdg, g1, ap2g, lte, e]
  exact x1
theorem sim_worst {hs : Nat → List Cls} {C M : Mem} (h : Rel hs C M) (p1 p2 p3 p4 : Int32) : Sim C M (f_D_worst p1 p2 p3 p4 C) (f_M_worst p1 p2 p3 p4) := by
  rcases door_at h p1 with ⟨j, hj, ej, e0, hr, hlt, eC, eM⟩ | ⟨eC, eM⟩
  · by_cases h5' : 0 ≤ p2 ∧ p2 ≤ 5
    · obtain ⟨s, hs6, es⟩ := oN_of h5' (n := 6) (by decide)
      have sC : f_D_isSpot p2 C = 1 := by rw [es]; exact spot_c hs6 C
      have sM : f_M_isSpot p2 M = 1 := by rw [es]; exact spot_c hs6 M
      by_cases h1' : 0 ≤ p4 ∧ p4 ≤ 1
      · by_cases h60 : 0 ≤ p3 ∧ p3 ≤ 60
        · obtain ⟨hid, n, m, b, cs, hE⟩ := enter h
          have hjn := door_n h hE hj (by rw [← e0]; exact hlt)
          obtain ⟨h1, h2, h3, h4, h5, -, hm9, hA, hG, -⟩ := hE
          obtain ⟨hS, ho⟩ : MoS M j (stC C (786436 + 655360 * j)) ∧ okS m (stC C (786436 + 655360 * j)) := h5.2.2.2.2 j hjn
          obtain ⟨C1, n1, n2, n3, n4⟩ := now_c h1 h2 h3 (dlo hj)
          obtain ⟨nn, hn61, en⟩ := oN_of h60 (n := 61) (by decide)
          obtain ⟨C2, c1, c2, c3, c4⟩ := through_c (t := 7602179) (n := nn) (Or.inl rfl) h3 hA (by omega) (by omega) n2 ho n4
          obtain ⟨M2, x1, x2, x3, x4⟩ := lay_m (nn := nn) hjn hj hs6 h3 hA (by omega) (by omega) h5 h4 hG
          obtain ⟨c5, c6⟩ := c3 s hs6
          have fC : Fr kC C C2 := n3.trans (c4.mono coB1)
          have z := dnz j
          have kd := dkd j
          have hrs : inR p2 6 := by rw [es]; exact oN_in (by omega) hs6
          have hxs : p2.toNatClampNeg = s := by rw [es]; exact oN_ix (by omega)
          have c5' : mI C2 8782027 s = leS cs (mI C 262539) s nn m (stC C (786436 + 655360 * j)) := c5
          have c6' : mI C2 8913099 s = grS cs (mI C 262539) s nn m (stC C (786436 + 655360 * j)) := c6
          generalize 786436 + 655360 * j = d at *
          have uC : f_D_worst p1 p2 p3 p4 C = if p4 = 0 then some (leS cs (mI C 262539) s nn m (stC C d), C2) else some (grS cs (mI C 262539) s nn m (stC C d), C2) := by
            simp only [f_D_worst, eC, bdg, if_neg z, sC, wi1 h1', wi1 h60, if_neg i10, gd_pos kd, n1, ap2g, gdT]
            rw [en, c1, bdg]
            simp only [gd_pos hrs, hxs, c5', c6']
          have uM : f_M_worst p1 p2 p3 p4 M = if p4 = 0 then some (leS cs (mI C 262539) s nn m (stC C d), M2) else some (grS cs (mI C 262539) s nn m (stC C d), M2) := by
            simp only [f_M_worst, eM, if_neg i10, sM, mi1 h1', mi1 h60]
            rw [e0, es, en, x1, bdg, x3, x4]
          by_cases q : p4 = 0
          · exact sim_ask h (uC.trans (if_pos q)) fC (uM.trans (if_pos q)) x2
          · exact sim_ask h (uC.trans (if_neg q)) fC (uM.trans (if_neg q)) x2
        · refine sim_no (-10002) h ?_ ?_
          · simp only [f_D_worst, eC, bdg, if_neg (dnz j), sC, wi1 h1', wi0 h60, if_neg i10, if_true]
          · simp only [f_M_worst, eM, sM, mi1 h1', mi0 h60, if_neg i10, if_true]
      · refine sim_no (-10001) h ?_ ?_
        · simp only [f_D_worst, eC, bdg, if_neg (dnz j), sC, wi0 h1', if_neg i10, if_true]
        · simp only [f_M_worst, eM, sM, mi0 h1', if_neg i10, if_true]
    · have sC : f_D_isSpot p2 C = 0 := wi0 h5' C
      have sM : f_M_isSpot p2 M = 0 := wi0 h5' M
      refine sim_no (-10001) h ?_ ?_
      · simp only [f_D_worst, eC, bdg, if_neg (dnz j), sC, if_true]
      · simp only [f_M_worst, eM, sM, if_neg i10, if_true]
  · exact sim_no (-10001) h (by simp only [f_D_worst, eC, bdg, if_true]) (by simp only [f_M_worst, eM, if_true])
/-! bounds of gaps gone through -/
theorem gap_ok {m s : Nat} {S : Nat → Int32} {cs : List Cls} (h : okS m S) (hw : wfH cs) (hs : s < 6) : -30000 ≤ gapS cs S s ∧ gapS cs S s ≤ 30000 := by
  have x9 := h.2.2.2.2.2.2.2.2.1 s hs
  have t := tku_ok hs (swl_ok h hw) (hng_ok h) (bnd_ok h) h.2.2.2.2.2.2.2.2.2.1 h.2.2.2.1
  unfold gapS
  generalize S (9 + s) = x at *
  generalize tkuS (Int32.ofNat s) (swlS cs S) (hngS S) (bndS S) (S 15) (S 4) = y at *
  grind
theorem mn_ok {l r : Int32} (hl : -30000 ≤ l ∧ l ≤ 30000) (hr : -30000 ≤ r ∧ r ≤ 30000) : -30000 ≤ mnI l r ∧ mnI l r ≤ 30000 := by
  unfold mnI; split
  · exact hr
  · exact hl
theorem mxx_ok {l r : Int32} (hl : -30000 ≤ l ∧ l ≤ 30000) (hr : -30000 ≤ r ∧ r ≤ 30000) : -30000 ≤ mxI l r ∧ mxI l r ≤ 30000 := by
  unfold mxI; split
  · exact hr
  · exact hl
theorem lg_ok {cs : List Cls} {A : Nat → Int32} {s : Nat} (hw : wfH cs) (hA : airA A) (hs : s < 6) : ∀ (k m : Nat) (S : Nat → Int32) (l g : Int32), okS m S → (-30000 ≤ l ∧ l ≤ 30000) → (-30000 ≤ g ∧ g ≤ 30000) → (-30000 ≤ (lgS cs A s k m S l g).1 ∧ (lgS cs A s k m S l g).1 ≤ 30000) ∧ (-30000 ≤ (lgS cs A s k m S l g).2 ∧ (lgS cs A s k m S l g).2 ≤ 30000)
  | 0, _, _, _, _, _, hl, hg => ⟨hl, hg⟩
  | k + 1, m, S, l, g, h, hl, hg => by
    have h2 := mon_ok hw hA h
    have hgp := gap_ok h2 hw hs
    exact lg_ok hw hA hs k (m + 1) _ _ _ h2 (mn_ok hl hgp) (mxx_ok hg hgp)
theorem le_ok {cs : List Cls} {A : Nat → Int32} {s n m : Nat} {S : Nat → Int32} (hw : wfH cs) (hA : airA A) (hs : s < 6) (h : okS m S) : -30000 ≤ leS cs A s n m S ∧ leS cs A s n m S ≤ 30000 := (lg_ok hw hA hs n m S _ _ h (gap_ok h hw hs) (gap_ok h hw hs)).1
def miS (cs : List Cls) (A : Nat → Int32) (s m : Nat) (S : Nat → Int32) : Int32 := mxI 0 (-(leS cs A s 12 m S))
theorem mis_m {l : Int32} (h : -30000 ≤ l ∧ l ≤ 30000) : (if 0 ≤ l then 0 else -l) = mxI 0 (-l) := by
  unfold mxI
  by_cases q : 0 ≤ l
  · rw [if_pos q, if_neg (by grind)]
  · rw [if_neg q, if_pos (by grind)]
theorem offOf_m {M : Mem} {n m b j s : Nat} {cs : List Cls} {A : Nat → Int32} {SS : Nat → Nat → Int32} (hj : j < n) (hj4 : j < 4) (hs : s < 6) (hw : wfH cs) (hA : airA A) (hm : m < 40000) (hM : MoA M n m SS) (hH : MHb M cs b) (hG : ∀ k, k < 12 → mI M 12583307 k = A k) : ∃ M', f_M_offOf (Int32.ofNat j) (Int32.ofNat s) M = some (miS cs A s m (SS j), M') ∧ Fi jM M M' ∧ mI M' 12451850 36 = grS cs A s 12 m (SS j) := by
  obtain ⟨M', x1, x2, x3, x4⟩ := lay_m (nn := 12) hj hj4 hs hw hA (by omega) hm hM hH hG
  have x1' : f_M_layGaps (Int32.ofNat j) (Int32.ofNat s) 12 M = some M' := x1
  refine ⟨M', ?_, x2, x4⟩
  have e := mis_m (le_ok (n := 12) hw hA hs (hM.2.2.2.2 j hj).2)
  simp only [f_M_offOf, x1', bdg, x3]
  unfold miS
  rw [← e]
  by_cases q : 0 ≤ leS cs A s 12 m (SS j)
  · rw [if_pos q, if_pos q]
  · rw [if_neg q, if_neg q]
theorem missing_c {C : Mem} {cs : List Cls} {A : Nat → Int32} {s m : Nat} {S : Nat → Int32} (hs : s < 6) (hL : mI C (7602179 + 1179848) s = leS cs A s 12 m S) : f_Co_missing 7602179 (Int32.ofNat s) C = some (miS cs A s m S) := by
  have hr : inR (Int32.ofNat s) 6 := oN_in (by omega) hs
  have hx : (Int32.ofNat s).toNatClampNeg = s := oN_ix (by omega)
  unfold f_Co_missing
  rw [gd_pos hr, hx, hL]; rfl
/-- whether all fits -/
def ftS (p : Nat → Bool) : Nat → Nat → Int32
  | 0, _ => 1
  | k + 1, i => if p i then ftS p k (i + 1) else 0
def fiP (cs : List Cls) (A : Nat → Int32) (m : Nat) (S : Nat → Int32) (s : Nat) : Bool := decide (grS cs A s 12 m S + miS cs A s m S ≤ lastS 3 9 cs)
theorem fits_l2 {C : Mem} {hid m : Nat} {cs : List Cls} {A : Nat → Int32} {S : Nat → Int32} (hR : mR C 7602179 0 = hid) (hH : HRep C hid cs) (hL : ∀ s, s < 6 → mI C (7602179 + 1179848) s = leS cs A s 12 m S ∧ mI C (7602179 + 1310920) s = grS cs A s 12 m S) : ∀ (k fuel i : Nat), k < fuel → i + k = 6 → f_Co_fitsWhenCut_l2 7602179 C fuel (Int32.ofNat i) = some (ftS (fiP cs A m S) k i)
  | k, 0, _, h, _ => by omega
  | 0, fuel + 1, i, _, hi' => by
    have c : (6 : Int32) ≤ Int32.ofNat i := (le6 (by omega)).mpr (by omega)
    simp only [f_Co_fitsWhenCut_l2, if_pos c]; rfl
  | k + 1, fuel + 1, i, _, hi' => by
    have c : ¬ (6 : Int32) ≤ Int32.ofNat i := fun q => by have := (le6 (by omega)).mp q; omega
    have h6 : i < 6 := by omega
    have hr : inR (Int32.ofNat i) 6 := oN_in (by omega) h6
    have hx : (Int32.ofNat i).toNatClampNeg = i := oN_ix (by omega)
    have ih := fits_l2 hR hH hL k fuel (i + 1) (by omega) (by omega)
    obtain ⟨l1, l2⟩ := hL i h6
    have l2' : mI C (7602179 + 1310920) i = grS cs A i 12 m S := l2
    simp only [f_Co_fitsWhenCut_l2, if_neg c, gd_pos hr, missing_c h6 l1, bdg, hR, gd_pos hH.1, hH.2.2.2.2.1, hx, lte, oN_s]
    rw [l2']
    simp only [ftS]
    by_cases q : grS cs A i 12 m S + miS cs A i m S ≤ lastS 3 9 cs
    · rw [if_pos q, if_pos (show fiP cs A m S i = true from decide_eq_true q)]; exact ih
    · rw [if_neg q, if_neg (show ¬ fiP cs A m S i = true from fun z => q (of_decide_eq_true z))]
theorem off_l45 {M : Mem} {n m b j : Nat} {cs : List Cls} {A : Nat → Int32} {SS : Nat → Nat → Int32} (hj : j < n) (hj4 : j < 4) (hw : wfH cs) (hA : airA A) (hm : m < 40000) (hM : MoA M n m SS) (hH : MHb M cs b) (hG : ∀ k, k < 12 → mI M 12583307 k = A k) : ∀ (k fuel i : Nat) (M1 : Mem), k < fuel → i + k = 6 → Fi jM M M1 → ∃ M', f_M_off_l45 fuel (Int32.ofNat j) (lastS 3 9 cs) (Int32.ofNat i) M1 = some (ftS (fiP cs A m (SS j)) k i, M') ∧ Fi jM M M'
  | k, 0, _, _, h, _, _ => by omega
  | 0, fuel + 1, i, M1, _, hi', hF => by
    have c : (6 : Int32) ≤ Int32.ofNat i := (le6 (by omega)).mpr (by omega)
    refine ⟨M1, ?_, hF⟩
    simp only [f_M_off_l45, if_pos c]; rfl
  | k + 1, fuel + 1, i, M1, _, hi', hF => by
    have c : ¬ (6 : Int32) ≤ Int32.ofNat i := fun q => by have := (le6 (by omega)).mp q; omega
    have h6 : i < 6 := by omega
    obtain ⟨M2, x1, x2, x3⟩ := offOf_m hj hj4 h6 hw hA hm (hM.fi hF) (hH.fi hF) (fun k hk => (hF.1 _ _ (by unfold jM; omega)).trans (hG k hk))
    obtain ⟨M3, r1, r2⟩ := off_l45 hj hj4 hw hA hm hM hH hG k fuel (i + 1) M2 (by omega) (by omega) (hF.trans x2)
    by_cases q : grS cs A i 12 m (SS j) + miS cs A i m (SS j) ≤ lastS 3 9 cs
    · refine ⟨M3, ?_, r2⟩
      simp only [f_M_off_l45, if_neg c, x1, bdg, ap2g, x3, if_pos q, lte, oN_s, ftS]
      rw [if_pos (show fiP cs A m (SS j) i = true from decide_eq_true q)]; exact r1
    · refine ⟨M2, ?_, hF.trans x2⟩
      simp only [f_M_off_l45, if_neg c, x1, bdg, ap2g, x3, if_neg q, ftS]
      rw [if_neg (show ¬ fiP cs A m (SS j) i = true from fun z => q (of_decide_eq_true z))]
theorem ft01 (p : Nat → Bool) : ∀ k i, ftS p k i = 0 ∨ ftS p k i = 1
  | 0, _ => Or.inr rfl
  | k + 1, i => by
    simp only [ftS]
    by_cases q : p i = true
    · rw [if_pos q]; exact ft01 p k (i + 1)
    · rw [if_neg q]; exact Or.inl rfl
theorem sim_off {hs : Nat → List Cls} {C M : Mem} (h : Rel hs C M) (p1 p2 : Int32) : Sim C M (f_D_off p1 p2 C) (f_M_off p1 p2) := by
  rcases door_at h p1 with ⟨j, hj, ej, e0, hr, hlt, eC, eM⟩ | ⟨eC, eM⟩
  · by_cases h5' : -1 ≤ p2 ∧ p2 ≤ 5
    · obtain ⟨hid, n, m, b, cs, hE⟩ := enter h
      have hjn := door_n h hE hj (by rw [← e0]; exact hlt)
      obtain ⟨h1, h2, h3, h4, h5, -, hm9, hA, hG, -⟩ := hE
      obtain ⟨hS, ho⟩ : MoS M j (stC C (786436 + 655360 * j)) ∧ okS m (stC C (786436 + 655360 * j)) := h5.2.2.2.2 j hjn
      obtain ⟨C1, n1, n2, n3, n4⟩ := now_c h1 h2 h3 (dlo hj)
      obtain ⟨C2, c1, c2, c3, c4⟩ := through_c (t := 7602179) (n := 12) (Or.inl rfl) h3 hA (by omega) (by omega) n2 ho n4
      have c1' : f_Co_goThrough 7602179 12 C1 = some C2 := c1
      have fC : Fr kC C C2 := n3.trans (c4.mono coB1)
      have z := dnz j
      have kd := dkd j
      have uC : f_D_off p1 p2 C = (if p2 = (-1) then bd (f_Co_fitsWhenCut 7602179 C2) fun r8 => if r8 = 0 then some (0, C2) else some (1, C2) else bd (f_Co_missing 7602179 p2 C2) fun r7 => some (r7, C2)) := by
        generalize 786436 + 655360 * j = d at *
        simp only [f_D_off, eC, bdg, if_neg z, wi1 h5', if_neg i10, gd_pos kd, n1, ap2g, gdT, c1']
      by_cases q : p2 = -1
      · obtain ⟨M', x1, x2⟩ := off_l45 hjn hj h3 hA (by omega) h5 h4 hG 6 200 0 M (by omega) (by omega) Fi.rf
        have f1 := fits_l2 (A := mI C 262539) (m := m) c2.2.2.2.1 c2.2.2.2.2 c3 6 200 0 (by omega) (by omega)
        have f1' : f_Co_fitsWhenCut 7602179 C2 = some (ftS (fiP cs (mI C 262539) m (stC C (786436 + 655360 * j))) 6 0) := f1
        refine sim_ask h (uC.trans ?_) fC ?_ x2 (a := ftS (fiP cs (mI C 262539) m (stC C (786436 + 655360 * j))) 6 0)
        · rw [if_pos q, f1', bdg]
          rcases ft01 (fiP cs (mI C 262539) m (stC C (786436 + 655360 * j))) 6 0 with y | y
          · rw [y, if_pos rfl]
          · rw [y, if_neg i10]
        · have n1' : p2 < 0 := by rw [q]; decide
          simp only [f_M_off, eM, if_neg i10, if_pos q, f_M_off_b23, if_pos n1', lastOf_m h3 h4, bdg]
          rw [e0]; exact x1
      · have h5'' : 0 ≤ p2 ∧ p2 ≤ 5 := ⟨by grind, h5'.2⟩
        obtain ⟨s, hs6, es⟩ := oN_of h5'' (n := 6) (by decide)
        obtain ⟨M', x1, x2, x3⟩ := offOf_m hjn hj hs6 h3 hA (by omega) h5 h4 hG
        have sM : f_M_isSpot p2 M = 1 := by rw [es]; exact spot_c hs6 M
        have n0 : ¬ p2 < 0 := Int32.not_lt.mpr h5''.1
        refine sim_ask h (uC.trans ?_) fC ?_ x2 (a := miS cs (mI C 262539) s m (stC C (786436 + 655360 * j)))
        · rw [if_neg q, es, missing_c hs6 (c3 s hs6).1, bdg]
        · simp only [f_M_off, eM, if_neg i10, if_neg q, sM, f_M_off_b23, if_neg n0]
          rw [e0, es, x1, b2g]
    · have q : ¬ p2 = -1 := fun e => h5' (by rw [e]; decide)
      have q2 : ¬ (0 ≤ p2 ∧ p2 ≤ 5) := fun e => h5' ⟨by have := e.1; grind, e.2⟩
      have sM : f_M_isSpot p2 M = 0 := wi0 q2 M
      refine sim_no (-1) h ?_ ?_
      · simp only [f_D_off, eC, bdg, if_neg (dnz j), wi0 h5', if_true]
      · simp only [f_M_off, eM, if_neg i10, if_neg q, sM, if_true]
  · exact sim_no (-1) h (by simp only [f_D_off, eC, bdg, if_true]) (by simp only [f_M_off, eM, if_true])
