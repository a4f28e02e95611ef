/-! THE MODEL'S MONTH -/
theorem MoS.cg {M : Mem} {j : Nat} {S T : Nat → Int32} (h : MoS M j S) (e : ∀ i, i < 17 → S i = T i) : MoS M j T := by
  obtain ⟨⟨a1, a2, a3, a4, a5, a6, a7⟩, b, c1, c2, c3⟩ := h
  refine ⟨⟨a1.trans (e _ (by decide)), a2.trans (e _ (by decide)), a3.trans (e _ (by decide)), a4.trans (e _ (by decide)), a5.trans (e _ (by decide)), a6.trans (e _ (by decide)), ?_⟩, fun s hs => (b s hs).trans (e _ (by omega)), c1.trans (e _ (by decide)), c2.trans (e _ (by decide)), (e 0 (by decide)).symm.trans c3⟩
  rw [a7, e 7 (by decide), e 8 (by decide)]
def upS (S : Nat → Int32) (i : Nat) (v : Int32) : Nat → Int32 := fun k => if k = i then v else S k
theorem MoS.w0 {M : Mem} {j : Nat} {S : Nat → Int32} (h : MoS M j S) (v : Int32) : MoS (setI M 12976267 j v) j (upS S 5 v) := by
  obtain ⟨⟨a1, a2, a3, a4, a5, a6, a7⟩, b, c1, c2, c3⟩ := h
  refine ⟨⟨(mS (by decide)).trans a1, (mS (by decide)).trans a2, (mS (by decide)).trans a3, (mS (by decide)).trans a4, mSe, (mS (by decide)).trans a6, (mS (by decide)).trans a7⟩, fun s hs => ?_, (mS (by decide)).trans c1, (mS (by decide)).trans c2, c3⟩
  rw [mS (by decide)]
  unfold upS
  rw [if_neg (by omega)]; exact b s hs
theorem MoS.w1 {M : Mem} {j : Nat} {S : Nat → Int32} (h : MoS M j S) (v : Int32) : MoS (setI M 13107339 j v) j (upS S 6 v) := by
  obtain ⟨⟨a1, a2, a3, a4, a5, a6, a7⟩, b, c1, c2, c3⟩ := h
  refine ⟨⟨(mS (by decide)).trans a1, (mS (by decide)).trans a2, (mS (by decide)).trans a3, (mS (by decide)).trans a4, (mS (by decide)).trans a5, mSe, (mS (by decide)).trans a7⟩, fun s hs => ?_, (mS (by decide)).trans c1, (mS (by decide)).trans c2, c3⟩
  rw [mS (by decide)]
  unfold upS
  rw [if_neg (by omega)]; exact b s hs
theorem MoS.sg {M : Mem} {j : Nat} {S : Nat → Int32} (h : MoS M j S) (v : Int32) : MoS (setI M 13369483 j v) j (upS S 3 v) := by
  obtain ⟨⟨a1, a2, a3, a4, a5, a6, a7⟩, b, c1, c2, c3⟩ := h
  refine ⟨⟨(mS (by decide)).trans a1, (mS (by decide)).trans a2, mSe, (mS (by decide)).trans a4, (mS (by decide)).trans a5, (mS (by decide)).trans a6, (mS (by decide)).trans a7⟩, fun s hs => ?_, (mS (by decide)).trans c1, (mS (by decide)).trans c2, c3⟩
  rw [mS (by decide)]
  unfold upS
  rw [if_neg (by omega)]; exact b s hs
/-- a door other than j keeps what it has -/
theorem MoS.ot {M : Mem} {i j : Nat} (hij : i ≠ j) {S : Nat → Int32} (h : MoS M i S) {a : Nat} (ha : a = 12976267 ∨ a = 13107339 ∨ a = 13369483) (v : Int32) : MoS (setI M a j v) i S := by
  obtain ⟨⟨a1, a2, a3, a4, a5, a6, a7⟩, b, c1, c2, c3⟩ := h
  have e : ∀ x, mI (setI M a j v) x i = mI M x i := fun x => mSk hij
  refine ⟨⟨(e _).trans a1, (e _).trans a2, (e _).trans a3, (e _).trans a4, (e _).trans a5, (e _).trans a6, (e _).trans a7⟩, fun s hs => (mS (by omega)).trans (b s hs), (mS (by omega)).trans c1, (mS (by omega)).trans c2, c3⟩
/-- what a door's month changes -/
def dmP (j a k : Nat) : Prop := ((a = 12976267 ∨ a = 13107339 ∨ a = 13369483) ∧ k = j) ∨ a = 14945421
theorem dm0 {j : Nat} : dmP j 12976267 j := Or.inl ⟨Or.inl rfl, rfl⟩
theorem dm1 {j : Nat} : dmP j 13107339 j := Or.inl ⟨Or.inr (Or.inl rfl), rfl⟩
theorem dm2 {j : Nat} : dmP j 13369483 j := Or.inl ⟨Or.inr (Or.inr rfl), rfl⟩
theorem near_m (w a p : Int32) (M : Mem) : f_M_nearer w a p M = watS a w p := rfl
theorem mn20 (x : Int32) : (if x ≤ 20 then x else 20) = mnI 20 x := by
  unfold mnI
  by_cases q : x ≤ 20
  · rw [if_pos q]
    by_cases z : x < 20
    · rw [if_pos z]
    · rw [if_neg z]; grind
  · rw [if_neg q, if_neg (by grind)]
theorem MHb.dm {M M' : Mem} {j : Nat} (h : Fr (dmP j) M M') {cs : List Cls} {b : Nat} (k : MHb M cs b) : MHb M' cs b :=
  k.fr (fun a ha k => h.1 a k (by unfold mReg at ha; unfold dmP; omega)) (h.1 12451850 13 (by unfold dmP; omega))
theorem door_month {M : Mem} {j m b fuel : Nat} {S : Nat → Int32} {cs : List Cls} {a n : Int32} (hj : j < 4) (hn : mI M 12451850 1 = n) (hjn : Int32.ofNat j < n) (h : MoS M j S) (ho : okS m S) (hw : wfH cs) (hH : MHb M cs b) (ha : 0 ≤ a ∧ a ≤ 99) : ∃ M2, f_M_goMonth_l2 (fuel + 1) a (Int32.ofNat j) M = f_M_goMonth_l2 fuel a (Int32.ofNat (j + 1)) M2 ∧ MoS M2 j (upS (takS a S) 3 (mnI 20 (S 3 + sumS 1 (fctS (takS a S)) cs))) ∧ Fr (dmP j) M M2 ∧ (∀ i T, i ≠ j → MoS M i T → MoS M2 i T) ∧ ∃ M8, Fr pilP (setI (setI M 12976267 j (watS a (S 5) (S 7))) 13107339 j (watS a (S 6) (S 8))) M8 ∧ M2 = setI M8 13369483 j (mnI 20 (S 3 + sumS 1 (fctS (takS a S)) cs)) := by
  have hr : inR (Int32.ofNat j) 4 := oN_in (by omega) hj
  have hi' : (Int32.ofNat j).toNatClampNeg = j := oN_ix (by omega)
  have h7 := ho.2.2.2.2.2.2.1
  have h8 := ho.2.2.2.2.2.2.2.1
  have ot : okS m (takS a S) := ⟨ho.1, ho.2.1, ho.2.2.1, ho.2.2.2.1, wat_ok ha ho.2.2.2.2.1, wat_ok ha ho.2.2.2.2.2.1, h7, h8, fun s hs => by
    have e : takS a S (9 + s) = S (9 + s) := by unfold takS; rw [if_neg (by omega), if_neg (by omega)]
    rw [e]; exact ho.2.2.2.2.2.2.2.2.1 s hs, ho.2.2.2.2.2.2.2.2.2⟩
  have m1 := h.w0 (watS a (S 5) (S 7))
  have m2 : MoS (setI (setI M 12976267 j (watS a (S 5) (S 7))) 13107339 j (watS a (S 6) (S 8))) j (takS a S) := (m1.w1 (watS a (S 6) (S 8))).cg fun i hi2 => by
    unfold upS takS
    by_cases q : i = 6
    · subst q; rfl
    · rw [if_neg q]
      by_cases z : i = 5
      · subst z; rfl
      · rw [if_neg z, if_neg z, if_neg q]
  have f2 : Fr (dmP j) M (setI (setI M 12976267 j (watS a (S 5) (S 7))) 13107339 j (watS a (S 6) (S 8))) := (Fr.rf.set dm0 _).set dm1 _
  generalize hM7 : setI (setI M 12976267 j (watS a (S 5) (S 7))) 13107339 j (watS a (S 6) (S 8)) = M7 at m2 f2
  obtain ⟨M8, s1, s2⟩ := sumOf_m hj (w := 1) (by decide) hw (hH.dm f2)
  rw [fct_m m2 ot] at s1
  have f3 : Fr (dmP j) M M8 := f2.trans (s2.mono fun a k q => Or.inr q)
  refine ⟨setI M8 13369483 j (mnI 20 (S 3 + sumS 1 (fctS (takS a S)) cs)), ?_, (m2.pil s2).sg _, f3.set dm2 _, fun i T hij hT => ?_, M8, s2, rfl⟩
  · obtain ⟨⟨a1, a2, a3, a4, a5, a6, a7⟩, b, c1, c2, c3⟩ := id h
    obtain ⟨⟨d1, d2, d3, d4, d5, d6, d7⟩, -⟩ := id m2
    obtain ⟨⟨e1, e2, e3, e4, e5, e6, e7⟩, -⟩ := id m1
    have step72 : ∀ p, p = S 8 → f_M_goMonth_b72 (f_M_goMonth_l2 fuel) a (Int32.ofNat j) p a (S 6) (Int32.ofNat j) (setI M 12976267 j (watS a (S 5) (S 7))) = f_M_goMonth_l2 fuel a (Int32.ofNat (j + 1)) (setI M8 13369483 j (mnI 20 (S 3 + sumS 1 (fctS (takS a S)) cs))) := fun p hp => by
      unfold f_M_goMonth_b72
      simp only [gd_pos hr, hi', lte, near_m, hp]
      rw [hM7, s1, b2g, show mI M7 13369483 j = S 3 from d3]
      show (if S 3 + sumS 1 (fctS (takS a S)) cs ≤ 20 then _ else _) = _
      rw [← mn20]
      by_cases q : S 3 + sumS 1 (fctS (takS a S)) cs ≤ 20
      · rw [if_pos q, if_pos q, oN_s]
      · rw [if_neg q, if_neg q, oN_s]
    have step40 : ∀ p, p = S 7 → f_M_goMonth_b40 (f_M_goMonth_l2 fuel) a (Int32.ofNat j) p a (S 5) (Int32.ofNat j) M = f_M_goMonth_l2 fuel a (Int32.ofNat (j + 1)) (setI M8 13369483 j (mnI 20 (S 3 + sumS 1 (fctS (takS a S)) cs))) := fun p hp => by
      unfold f_M_goMonth_b40
      simp only [gd_pos hr, hi', lte, near_m, hp]
      rw [e6, e7]
      show (if S 7 + 2 * S 8 ≤ 1 then f_M_goMonth_b72 (f_M_goMonth_l2 fuel) a (Int32.ofNat j) 0 a (S 6) (Int32.ofNat j) _ else f_M_goMonth_b72 (f_M_goMonth_l2 fuel) a (Int32.ofNat j) 1 a (S 6) (Int32.ofNat j) _) = _
      rcases h8 with q | q
      · rw [if_pos (by rcases h7 with z | z <;> rw [z, q] <;> decide)]; exact step72 0 q.symm
      · rw [if_neg (by rcases h7 with z | z <;> rw [z, q] <;> decide)]; exact step72 1 q.symm
    simp only [f_M_goMonth_l2]
    rw [hn, if_neg (by grind)]
    simp only [gd_pos hr, hi']
    rw [a7, a5]
    rcases h7 with q | q
    · rw [if_neg (by rcases h8 with z | z <;> rw [z, q] <;> decide)]; exact step40 0 q.symm
    · rw [if_pos (by rcases h8 with z | z <;> rw [z, q] <;> decide)]; exact step40 1 q.symm
  · have t7 : MoS M7 i T := by rw [← hM7]; exact (hT.ot hij (Or.inl rfl) _).ot hij (Or.inr (Or.inl rfl)) _
    exact (t7.pil s2).ot hij (Or.inr (Or.inr rfl)) _
/-- what a month changes -/
def goP (a k : Nat) : Prop := ((a = 12976267 ∨ a = 13107339 ∨ a = 13369483) ∧ k < 4) ∨ a = 14945421 ∨ (a = 12451850 ∧ (k = 2 ∨ k = 3))
theorem dm_go {j : Nat} (hj : j < 4) : ∀ a k, dmP j a k → goP a k := fun a k h => by unfold dmP at h; unfold goP; omega
/-- all doors of the model -/
def MoA (M : Mem) (n m : Nat) (SS : Nat → Nat → Int32) : Prop := mI M 12451850 1 = Int32.ofNat n ∧ n ≤ 4 ∧ mI M 12451850 3 = Int32.ofNat m ∧ (0 ≤ mI M 12451850 2 ∧ mI M 12451850 2 ≤ 20) ∧ ∀ j, j < n → MoS M j (SS j) ∧ okS m (SS j)
theorem MHb.go {M M' : Mem} (h : Fr goP M M') {cs : List Cls} {b : Nat} (k : MHb M cs b) : MHb M' cs b :=
  k.fr (fun a ha k => h.1 a k (by unfold mReg at ha; unfold goP; omega)) (h.1 12451850 13 (by unfold goP; omega))
theorem pas9 (cs : List Cls) (a : Int32) (S : Nat → Int32) {s : Nat} (hs : s < 6) : pasS cs a S (9 + s) = S (9 + s) := by
  unfold pasS takS
  rw [if_neg (by omega), if_neg (by omega), if_neg (by omega), if_neg (by omega), if_neg (by omega)]
theorem up9 (a : Int32) (S : Nat → Int32) (v : Int32) {s : Nat} (hs : s < 6) : upS (takS a S) 3 v (9 + s) = S (9 + s) := by
  unfold upS takS
  rw [if_neg (by omega), if_neg (by omega), if_neg (by omega)]
theorem month_l2 {n m b : Nat} {cs : List Cls} {a : Int32} {SS : Nat → Nat → Int32} (hn4 : n ≤ 4) (hm : m < 100000) (hw : wfH cs) (ha : 0 ≤ a ∧ a ≤ 99) (ho : ∀ j, j < n → okS m (SS j)) {l0 : Int32} (hl0 : 0 ≤ l0 ∧ l0 ≤ 20) : ∀ (k fuel i : Nat) (M : Mem), k < fuel → i + k = n → MHb M cs b → mI M 12451850 1 = Int32.ofNat n → mI M 12451850 3 = Int32.ofNat m → mI M 12451850 2 = l0 → (∀ j, j < n → MoS M j (if j < i then upS (takS a (SS j)) 3 (mnI 20 (SS j 3 + sumS 1 (fctS (takS a (SS j))) cs)) else SS j)) → ∃ M2, f_M_goMonth_l2 fuel a (Int32.ofNat i) M = some M2 ∧ MoA M2 n (m + 1) (fun j => pasS cs a (SS j)) ∧ Fr goP M M2 ∧ mI M2 12451850 2 = f_D_sunk l0 (Int32.ofNat (m + 1)) (lastS 2 0 cs) (zM 0)
  | k, 0, _, _, h, _, _, _, _, _, _ => by omega
  | 0, fuel + 1, i, M, _, hi', hH, hc, hnow, hle, hS => by
    have hl := lastS_wf (w := 2) (n := 0) hw (by decide)
    have h1 : mI (setI M 12451850 3 (Int32.ofNat (m + 1))) 12451850 3 = Int32.ofNat (m + 1) := mSe
    have h2 : mI (setI M 12451850 3 (Int32.ofNat (m + 1))) 12451850 2 = l0 := (mSk (by decide)).trans hle
    have f1 : Fr goP M (setI M 12451850 3 (Int32.ofNat (m + 1))) := Fr.rf.set (Or.inr (Or.inr ⟨rfl, Or.inr rfl⟩)) _
    have hH1 := hH.go f1
    have key : ∀ x : Int32, x = f_D_sunk l0 (Int32.ofNat (m + 1)) (lastS 2 0 cs) (zM 0) → 0 ≤ x ∧ x ≤ 20 → ∀ M2, mI M2 12451850 3 = Int32.ofNat (m + 1) → mI M2 12451850 2 = x → Fr goP M M2 → (∀ a k, a ≠ 12451850 → mI M2 a k = mI M a k) → mI M2 12451850 1 = mI M 12451850 1 → MoA M2 n (m + 1) (fun j => pasS cs a (SS j)) ∧ Fr goP M M2 ∧ mI M2 12451850 2 = f_D_sunk l0 (Int32.ofNat (m + 1)) (lastS 2 0 cs) (zM 0) := fun x hx hx2 M2 g1 g2 g3 g4 g5 => by
      refine ⟨⟨g5.trans hc, hn4, g1, by rw [g2]; exact hx2, fun j hj => ⟨?_, pas_ok (ho j hj) hw ha⟩⟩, g3, g2.trans hx⟩
      have hj' := hS j hj
      rw [if_pos (by omega)] at hj'
      obtain ⟨⟨a1, a2, a3, a4, a5, a6, a7⟩, b, c1, c2, c3⟩ := hj'
      have w15 : SS j 15 = l0 := c1.symm.trans hle
      have w16 : SS j 16 = Int32.ofNat m := (ho j hj).2.2.2.2.2.2.2.2.2.2
      refine ⟨⟨(g4 _ _ (by decide)).trans a1, (g4 _ _ (by decide)).trans a2, (g4 _ _ (by decide)).trans a3, (g4 _ _ (by decide)).trans a4, (g4 _ _ (by decide)).trans a5, (g4 _ _ (by decide)).trans a6, (g4 _ _ (by decide)).trans a7⟩, fun s hs => ?_, ?_, ?_, c3⟩
      · rw [g4 _ _ (by decide), b s hs]
        exact (up9 a _ _ hs).trans (pas9 cs a _ hs).symm
      · rw [g2, hx]
        show _ = f_D_sunk (SS j 15) (SS j 16 + 1) (lastS 2 0 cs) (zM 0)
        rw [w15, w16, oN_s]
      · rw [g1]
        show _ = SS j 16 + 1
        rw [w16, oN_s]
    simp only [f_M_goMonth_l2]
    rw [hc, if_pos ((oN_le (by omega) (by omega)).mpr (by omega)), lte, hnow, oN_s, h1, oN_mod (by omega)]
    by_cases q : (m + 1) % 12 = 0
    · have hs : f_D_sunk l0 (Int32.ofNat (m + 1)) (lastS 2 0 cs) (zM 0) = mnI 20 (l0 + lastS 2 0 cs) := by
        unfold f_D_sunk; rw [oN_mod (by omega), q, if_pos (by decide)]
      rw [q, if_pos (by decide), lastOf_m hw hH1, bdg, lte, h2]
      have hb : ∀ v, (v = mnI 20 (l0 + lastS 2 0 cs)) → ∃ M2, some (setI (setI M 12451850 3 (Int32.ofNat (m + 1))) 12451850 2 v) = some M2 ∧ MoA M2 n (m + 1) (fun j => pasS cs a (SS j)) ∧ Fr goP M M2 ∧ mI M2 12451850 2 = f_D_sunk l0 (Int32.ofNat (m + 1)) (lastS 2 0 cs) (zM 0) := fun v hv => by
        refine ⟨_, rfl, key v (hv.trans hs.symm) ?_ _ ((mSk (by decide)).trans mSe) mSe (f1.set (Or.inr (Or.inr ⟨rfl, Or.inl rfl⟩)) _) (fun x y z => (mS z).trans (mS z)) ((mSk (by decide)).trans (mSk (by decide)))⟩
        rw [hv]
        generalize lastS 2 0 cs = y at *
        unfold mnI
        split <;> grind
      by_cases z : l0 + lastS 2 0 cs ≤ 20
      · rw [if_pos z, lte]; exact hb _ (by rw [← mn20, if_pos z])
      · rw [if_neg z, lte]; exact hb _ (by rw [← mn20, if_neg z])
    · have hs : f_D_sunk l0 (Int32.ofNat (m + 1)) (lastS 2 0 cs) (zM 0) = l0 := by
        unfold f_D_sunk
        rw [oN_mod (by omega), if_neg]
        intro e
        have := oN_ix (i := (m + 1) % 12) (by omega)
        rw [e] at this
        exact q this.symm
      rw [if_neg (fun e => by have := (oN_le (m := (m + 1) % 12) (i := 0) (by omega) (by omega)).mp e; omega)]
      exact ⟨_, rfl, key l0 hs.symm hl0 _ h1 h2 f1 (fun x y z => mS z) (mSk (by decide))⟩
  | k + 1, fuel + 1, i, M, _, hi', hH, hc, hnow, hle, hS => by
    have hin : i < n := by omega
    have hSi := hS i hin
    rw [if_neg (by omega)] at hSi
    obtain ⟨M2, d1, d2, d3, d4, -⟩ := door_month (fuel := fuel) (by omega) hc ((oN_lt (by omega) (by omega)).mpr hin) hSi (ho i hin) hw hH ha
    have ne : ∀ k, mI M2 12451850 k = mI M 12451850 k := fun k => d3.1 _ _ (by unfold dmP; omega)
    obtain ⟨M3, g1, g2, g3, g4⟩ := month_l2 hn4 hm hw ha ho hl0 k fuel (i + 1) M2 (by omega) (by omega) (hH.dm d3) ((ne _).trans hc) ((ne _).trans hnow) ((ne _).trans hle) (fun j hj => by
      by_cases e : j = i
      · subst e; rw [if_pos (by omega)]; exact d2
      · have := d4 j _ e (hS j hj)
        by_cases q : j < i
        · rw [if_pos q] at this; rw [if_pos (by omega)]; exact this
        · rw [if_neg q] at this; rw [if_neg (by omega)]; exact this)
    exact ⟨M3, d1.trans g1, g2, (d3.mono (dm_go (by omega))).trans g3, g4⟩
theorem goMonth_m {M : Mem} {n m b : Nat} {cs : List Cls} {a : Int32} {SS : Nat → Nat → Int32} (h : MoA M n m SS) (hm : m < 100000) (hw : wfH cs) (hH : MHb M cs b) (ha : 0 ≤ a ∧ a ≤ 99) : ∃ M2, f_M_goMonth a M = some M2 ∧ MoA M2 n (m + 1) (fun j => pasS cs a (SS j)) ∧ Fr goP M M2 ∧ mI M2 12451850 2 = f_D_sunk (mI M 12451850 2) (Int32.ofNat (m + 1)) (lastS 2 0 cs) (zM 0) :=
  month_l2 h.2.1 hm hw ha (fun j hj => (h.2.2.2.2 j hj).2) h.2.2.2.1 n 200 0 M (by have := h.2.1; omega) (by omega) hH h.1 h.2.2.1 rfl (fun j hj => by rw [if_neg (by omega)]; exact (h.2.2.2.2 j hj).1)
