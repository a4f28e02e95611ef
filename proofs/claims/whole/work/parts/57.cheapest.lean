/-! the model's cost; cheapest -/
theorem MoS.pk {M : Mem} {j : Nat} {S : Nat → Int32} (h : MoS M j S) (v : Int32) : MoS (setI M 13500555 j v) j (upS S 4 v) := by
  obtain ⟨⟨a1, a2, a3, a4, a5, a6, a7⟩, b, c1, c2, c3⟩ := h
  refine ⟨⟨(mS (by decide)).trans a1, (mS (by decide)).trans a2, (mS (by decide)).trans a3, mSe, (mS (by decide)).trans a5, (mS (by decide)).trans a6, (mS (by decide)).trans a7⟩, fun s hs => ?_, (mS (by decide)).trans c1, (mS (by decide)).trans c2, c3⟩
  rw [mS (by decide), up_n (by omega)]; exact b s hs
theorem MoS.pt {M : Mem} {j : Nat} {S : Nat → Int32} (h : MoS M j S) : MoS (setI M 13238411 j 3) j (upS (upS S 7 1) 8 1) := by
  obtain ⟨⟨a1, a2, a3, a4, a5, a6, a7⟩, b, c1, c2, c3⟩ := h
  refine ⟨⟨(mS (by decide)).trans a1, (mS (by decide)).trans a2, (mS (by decide)).trans a3, (mS (by decide)).trans a4, (mS (by decide)).trans a5, (mS (by decide)).trans a6, mSe⟩, fun s hs => ?_, (mS (by decide)).trans c1, (mS (by decide)).trans c2, c3⟩
  rw [mS (by decide), up_n (by omega), up_n (by omega)]; exact b s hs
theorem MoS.ot2 {M : Mem} {i j : Nat} (hij : i ≠ j) {S : Nat → Int32} (h : MoS M i S) {a : Nat} (ha : 12714123 ≤ a ∧ a < 13632267) (v : Int32) : MoS (setI M a j v) i S := by
  obtain ⟨⟨a1, a2, a3, a4, a5, a6, a7⟩, b, c1, c2, c3⟩ := h
  have e : ∀ x, mI (setI M a j v) x i = mI M x i := fun x => mSk hij
  refine ⟨⟨(e _).trans a1, (e _).trans a2, (e _).trans a3, (e _).trans a4, (e _).trans a5, (e _).trans a6, (e _).trans a7⟩, fun s hs => (mS (by omega)).trans (b s hs), (mS (by omega)).trans c1, (mS (by omega)).trans c2, c3⟩
def chS (SS : Nat → Nat → Int32) (j : Nat) (S : Nat → Int32) : Nat → Nat → Int32 := fun i => if i = j then S else SS i
theorem ch_e {SS : Nat → Nat → Int32} {j : Nat} {S : Nat → Int32} : chS SS j S j = S := if_pos rfl
theorem MoA.ch {M M' : Mem} {n m j : Nat} {SS : Nat → Nat → Int32} (h : MoA M n m SS) {S : Nat → Int32} (hS : MoS M' j S) (ho : okS m S) (hF : ∀ k, mI M' 12451850 k = mI M 12451850 k) (hO : ∀ i T, i ≠ j → MoS M i T → MoS M' i T) : MoA M' n m (chS SS j S) := by
  obtain ⟨a, b, c, d, e⟩ := h
  refine ⟨(hF _).trans a, b, (hF _).trans c, by rw [hF]; exact d, fun i hi' => ?_⟩
  unfold chS
  by_cases q : i = j
  · subst q; rw [if_pos rfl]; exact ⟨hS, ho⟩
  · rw [if_neg q]; exact ⟨hO i _ q (e i hi').1, (e i hi').2⟩
theorem chS_ch (SS : Nat → Nat → Int32) (j : Nat) (S T : Nat → Int32) : chS (chS SS j S) j T = chS SS j T := by
  funext i
  unfold chS
  by_cases q : i = j
  · rw [if_pos q, if_pos q]
  · rw [if_neg q, if_neg q, if_neg q]
/-- what a set of mends changes in the model's door j -/
def cxP (j a k : Nat) : Prop := (a = 13500555 ∨ a = 13369483 ∨ a = 13238411) ∧ k = j
theorem mend_m {M : Mem} {n m b j v : Nat} {cs : List Cls} {SS : Nat → Nat → Int32} (hv : v < 16) (hj : j < n) (hj4 : j < 4) (hM : MoA M n m SS) (hH : MHb M cs b) : ∃ M2, f_M_costOf (Int32.ofNat j) (Int32.ofNat v) M = f_M_costOf_b86 (Int32.ofNat j) (Int32.ofNat v) (mI M 13500555 j) (mI M 13369483 j) (mI M 13238411 j) M2 ∧ MoA M2 n m (chS SS j (A8 v (A4 v (A2 v (SS j))))) ∧ MHb M2 cs b ∧ Fi (cxP j) M M2 := by
  obtain ⟨s2, s4, s8, -⟩ := sets hv
  obtain ⟨hS, ho⟩ := hM.2.2.2.2 j hj
  have hr : inR (Int32.ofNat j) 4 := oN_in (by omega) hj4
  have hx : (Int32.ofNat j).toNatClampNeg = j := oN_ix (by omega)
  have hb : ∀ {M1 M2 : Mem}, Fi (cxP j) M1 M2 → MHb M1 cs b → MHb M2 cs b := fun hF k => k.fr (fun a ha k => hF.1 a k (by unfold mReg at ha; unfold cxP; omega)) (hF.1 12451850 13 (by unfold cxP; omega))
  have e4 : mI M 13500555 j = SS j 4 := hS.1.2.2.2.1
  have st2 : ∃ M2, f_M_costOf (Int32.ofNat j) (Int32.ofNat v) M = f_M_costOf_b59 (Int32.ofNat j) (Int32.ofNat v) (mI M 13500555 j) (mI M 13369483 j) (mI M 13238411 j) M2 ∧ MoA M2 n m (chS SS j (A2 v (SS j))) ∧ Fi (cxP j) M M2 := by
    by_cases q : Int32.ofNat v &&& 2 = 0
    · refine ⟨M, ?_, ?_, Fi.rf⟩
      · simp only [f_M_costOf, gd_pos hr, hx, lte, if_pos (s2.mpr q)]
      · unfold A2
        rw [if_pos q]
        exact hM.ch hS ho (fun _ => rfl) (fun _ _ _ h => h)
    · refine ⟨setI M 13500555 j (mnI 9 (SS j 4 + 2)), ?_, ?_, Fi.rf.set ⟨Or.inl rfl, rfl⟩ _⟩
      · simp only [f_M_costOf, gd_pos hr, hx, lte, if_neg (fun z => q (s2.mp z)), f_M_costOf_b58, e4]
        have h4 := ho.2.2.2.1
        by_cases z : SS j 4 ≤ 7
        · rw [if_pos z]
          have : mnI 9 (SS j 4 + 2) = SS j 4 + 2 := by unfold mnI; split <;> grind
          rw [this]
        · rw [if_neg z]
          have : mnI 9 (SS j 4 + 2) = 9 := by unfold mnI; split <;> grind
          rw [this]
      · unfold A2
        rw [if_neg q]
        exact hM.ch (hS.pk _) (ho.up4 (pk_ok ho.2.2.2.1)) (fun _ => mS (by decide)) (fun i T hij h => h.ot2 hij (by decide) _)
  obtain ⟨M2, u1, u2, u3⟩ := st2
  obtain ⟨hS2, ho2⟩ := u2.2.2.2.2 j hj
  rw [ch_e] at hS2 ho2
  have st4 : ∃ M3, f_M_costOf_b59 (Int32.ofNat j) (Int32.ofNat v) (mI M 13500555 j) (mI M 13369483 j) (mI M 13238411 j) M2 = f_M_costOf_b72 (Int32.ofNat j) (Int32.ofNat v) (mI M 13500555 j) (mI M 13369483 j) (mI M 13238411 j) M3 ∧ MoA M3 n m (chS SS j (A4 v (A2 v (SS j)))) ∧ Fi (cxP j) M M3 := by
    by_cases q : Int32.ofNat v &&& 4 = 0
    · refine ⟨M2, ?_, ?_, u3⟩
      · simp only [f_M_costOf_b59, if_pos (s4.mpr q)]
      · unfold A4
        rw [if_pos q]; exact u2
    · refine ⟨setI M2 13369483 j 0, ?_, ?_, u3.set ⟨Or.inr (Or.inl rfl), rfl⟩ _⟩
      · simp only [f_M_costOf_b59, gd_pos hr, hx, lte, if_neg (fun z => q (s4.mp z))]
      · unfold A4
        rw [if_neg q, ← chS_ch SS j (A2 v (SS j))]
        exact u2.ch (hS2.sg _) (ho2.up3 (by decide)) (fun _ => mS (by decide)) (fun i T hij h => h.ot2 hij (by decide) _)
  obtain ⟨M3, v1, v2, v3⟩ := st4
  obtain ⟨hS3, ho3⟩ := v2.2.2.2.2 j hj
  rw [ch_e] at hS3 ho3
  have st8 : ∃ M4, f_M_costOf_b72 (Int32.ofNat j) (Int32.ofNat v) (mI M 13500555 j) (mI M 13369483 j) (mI M 13238411 j) M3 = f_M_costOf_b86 (Int32.ofNat j) (Int32.ofNat v) (mI M 13500555 j) (mI M 13369483 j) (mI M 13238411 j) M4 ∧ MoA M4 n m (chS SS j (A8 v (A4 v (A2 v (SS j))))) ∧ Fi (cxP j) M M4 := by
    by_cases q : Int32.ofNat v &&& 8 = 0
    · refine ⟨M3, ?_, ?_, v3⟩
      · simp only [f_M_costOf_b72, if_pos (s8.mpr q)]
      · unfold A8
        rw [if_pos q]; exact v2
    · refine ⟨setI M3 13238411 j 3, ?_, ?_, v3.set ⟨Or.inr (Or.inr rfl), rfl⟩ _⟩
      · simp only [f_M_costOf_b72, gd_pos hr, hx, lte, if_neg (fun z => q (s8.mp z))]
      · unfold A8
        rw [if_neg q, ← chS_ch SS j (A4 v (A2 v (SS j)))]
        exact v2.ch hS3.pt ho3.up8 (fun _ => mS (by decide)) (fun i T hij h => h.ot2 hij (by decide) _)
  obtain ⟨M4, w1, w2, w3⟩ := st8
  exact ⟨M4, by rw [u1, v1, w1], w2, hb w3 hH, w3⟩
theorem cost_l92 {M : Mem} {n m b j : Nat} {cs : List Cls} {A : Nat → Int32} {SS : Nat → Nat → Int32} {p2 x1 x2 x3 : Int32} (hj : j < n) (hj4 : j < 4) (hw : wfH cs) (hA : airA A) (hm : m < 40000) (hM : MoA M n m SS) (hH : MHb M cs b) (hG : ∀ k, k < 12 → mI M 12583307 k = A k) : ∀ (k fuel i : Nat) (c : Int32) (M1 : Mem), k < fuel → i + k = 6 → Fi jM M M1 → ∃ M' f, f_M_costOf_l92 fuel (Int32.ofNat j) p2 x1 x2 x3 c (Int32.ofNat i) M1 = f_M_costOf_l92 (f + 1) (Int32.ofNat j) p2 x1 x2 x3 (ctS (mxP cs A m (SS j)) k i c) 6 M' ∧ Fi jM M M'
  | k, 0, _, _, _, h, _, _ => by omega
  | 0, fuel + 1, i, c, M1, _, hi', hF => by
    have e : i = 6 := by omega
    subst e
    exact ⟨M1, fuel, rfl, hF⟩
  | k + 1, fuel + 1, i, c, M1, _, hi', hF => by
    have c6 : ¬ (6 : Int32) ≤ Int32.ofNat i := fun q => by have := (le6 (by omega)).mp q; omega
    obtain ⟨M2, y1, y2, y3⟩ := offOf_m hj hj4 (show i < 6 by omega) hw hA hm (hM.fi hF) (hH.fi hF) (fun k hk => (hF.1 _ _ (by unfold jM; omega)).trans (hG k hk))
    obtain ⟨M3, f, r1, r2⟩ := cost_l92 (p2 := p2) (x1 := x1) (x2 := x2) (x3 := x3) hj hj4 hw hA hm hM hH hG k fuel (i + 1) (if mxP cs A m (SS j) i then c + 1 else c + 0) M2 (by omega) (by omega) (hF.trans y2)
    refine ⟨M3, f, ?_, r2⟩
    simp only [ctS]
    rw [← r1]
    simp only [f_M_costOf_l92, if_neg c6, y1, bdg, ap2g, lte, oN_s]
    by_cases q : miS cs A i m (SS j) ≤ 0
    · rw [if_pos q, if_neg (show ¬ mxP cs A m (SS j) i = true from fun z => Int32.not_lt.mpr q (of_decide_eq_true z))]
    · rw [if_neg q, if_pos (show mxP cs A m (SS j) i = true from decide_eq_true (Int32.not_le.mp q))]
theorem cost_m {M : Mem} {n m b j v : Nat} {cs : List Cls} {A : Nat → Int32} {SS : Nat → Nat → Int32} (hv : v < 16) (hj : j < n) (hj4 : j < 4) (hw : wfH cs) (hA : airA A) (hm : m < 40000) (hM : MoA M n m SS) (hH : MHb M cs b) (hG : ∀ k, k < 12 → mI M 12583307 k = A k) : ∃ M', f_M_costOf (Int32.ofNat j) (Int32.ofNat v) M = some (if v % 2 = 0 then (if cosS cs A m v (SS j) ≤ 0 then cst v else -1) else cst v + 3 * cosS cs A m v (SS j), M') ∧ Fi jM M M' := by
  obtain ⟨s2, s4, s8, s1, -⟩ := sets hv
  have hr : inR (Int32.ofNat j) 4 := oN_in (by omega) hj4
  have hx : (Int32.ofNat j).toNatClampNeg = j := oN_ix (by omega)
  obtain ⟨M2, u1, u2, u3, u4⟩ := mend_m hv hj hj4 hM hH
  obtain ⟨M3, f, r1, r2⟩ := cost_l92 (p2 := Int32.ofNat v) (x1 := mI M 13500555 j) (x2 := mI M 13369483 j) (x3 := mI M 13238411 j) hj hj4 hw hA hm u2 u3 (fun k hk => (u4.1 _ _ (by unfold cxP; omega)).trans (hG k hk)) 6 200 0 0 M2 (by omega) (by omega) Fi.rf
  rw [ch_e] at r1
  have F3 : Fi (fun a k => cxP j a k ∨ jM a k) M M3 := (u4.mono (fun _ _ q => Or.inl q)).trans (r2.mono (fun _ _ q => Or.inr q))
  have F8 : Fi jM M (setI (setI (setI M3 13500555 j (mI M 13500555 j)) 13369483 j (mI M 13369483 j)) 13238411 j (mI M 13238411 j)) := by
    refine ⟨fun a k hk => ?_, F3.2.1, F3.2.2⟩
    by_cases q1 : a = 13238411 ∧ k = j
    · rw [q1.1, q1.2]; exact mSe
    rw [show mI (setI (setI (setI M3 13500555 j (mI M 13500555 j)) 13369483 j (mI M 13369483 j)) 13238411 j (mI M 13238411 j)) a k = _ from if_neg q1]
    by_cases q2 : a = 13369483 ∧ k = j
    · rw [q2.1, q2.2]; exact mSe
    rw [show mI (setI (setI M3 13500555 j (mI M 13500555 j)) 13369483 j (mI M 13369483 j)) a k = _ from if_neg q2]
    by_cases q3 : a = 13500555 ∧ k = j
    · rw [q3.1, q3.2]; exact mSe
    rw [show mI (setI M3 13500555 j (mI M 13500555 j)) a k = _ from if_neg q3]
    exact F3.1 a k fun z => z.elim (fun z => by
      rcases z with ⟨z | z | z, w⟩
      · exact q3 ⟨z, w⟩
      · exact q2 ⟨z, w⟩
      · exact q1 ⟨z, w⟩) hk
  generalize hM8 : setI (setI (setI M3 13500555 j (mI M 13500555 j)) 13369483 j (mI M 13369483 j)) 13238411 j (mI M 13238411 j) = M8 at F8
  refine ⟨M8, ?_, F8⟩
  have hc : ctS (mxP cs A m (A8 v (A4 v (A2 v (SS j))))) 6 0 0 = cosS cs A m v (SS j) := rfl
  have l92 : f_M_costOf (Int32.ofNat j) (Int32.ofNat v) M = f_M_costOf_l92 (f + 1) (Int32.ofNat j) (Int32.ofNat v) (mI M 13500555 j) (mI M 13369483 j) (mI M 13238411 j) (cosS cs A m v (SS j)) 6 M3 := by
    rw [u1, ← hc, ← r1]; rfl
  rw [l92]
  have c66 : (6 : Int32) ≤ 6 := by decide
  simp only [f_M_costOf_l92, if_pos c66, gd_pos hr, hx, lte, hM8]
  have g183 : ∀ a b : Int32, f_M_costOf_b183 (Int32.ofNat v) (cosS cs A m v (SS j)) a b M8 = some (if v % 2 = 0 then (if cosS cs A m v (SS j) ≤ 0 then b + a else -1) else (b + a) + 3 * cosS cs A m v (SS j), M8) := fun a b => by
    simp only [f_M_costOf_b183, lte]
    by_cases q : v % 2 = 0
    · rw [if_pos q, if_pos (s1.mpr q)]
      by_cases z : cosS cs A m v (SS j) ≤ 0
      · rw [if_pos z, if_pos z]
      · rw [if_neg z, if_neg z]
    · rw [if_neg q, if_neg (fun e => q (s1.mp e))]
  have g170 : ∀ a b : Int32, f_M_costOf_b170 (Int32.ofNat v) (cosS cs A m v (SS j)) a b M8 = f_M_costOf_b183 (Int32.ofNat v) (cosS cs A m v (SS j)) (if Int32.ofNat v &&& 8 = 0 then 0 else 5) (b + a) M8 := fun a b => by
    simp only [f_M_costOf_b170]
    by_cases q : Int32.ofNat v &&& 8 = 0
    · rw [if_pos (s8.mpr q), if_pos q]
    · rw [if_neg (fun z => q (s8.mp z)), if_neg q]
  have g159 : ∀ a : Int32, f_M_costOf_b159 (Int32.ofNat v) (cosS cs A m v (SS j)) a M8 = f_M_costOf_b170 (Int32.ofNat v) (cosS cs A m v (SS j)) (if Int32.ofNat v &&& 4 = 0 then 0 else 2) a M8 := fun a => by
    simp only [f_M_costOf_b159]
    by_cases q : Int32.ofNat v &&& 4 = 0
    · rw [if_pos (s4.mpr q), if_pos q]
    · rw [if_neg (fun z => q (s4.mp z)), if_neg q]
  have g2 : (if Int32.ofNat v &&& 2 ≤ 0 then f_M_costOf_b159 (Int32.ofNat v) (cosS cs A m v (SS j)) 0 M8 else f_M_costOf_b159 (Int32.ofNat v) (cosS cs A m v (SS j)) 1 M8) = f_M_costOf_b159 (Int32.ofNat v) (cosS cs A m v (SS j)) (if Int32.ofNat v &&& 2 = 0 then 0 else 1) M8 := by
    by_cases q : Int32.ofNat v &&& 2 = 0
    · rw [if_pos (s2.mpr q), if_pos q]
    · rw [if_neg (fun z => q (s2.mp z)), if_neg q]
  rw [g2, g159, g170, g183]; rfl
/-- the best found on both sides -/
def bst (i : Nat) (bs bc fo le : Int32) : Prop := (i ≤ 1 ∧ bc = -5 ∧ fo = -1) ∨ (bs = fo ∧ bc = le ∧ 0 ≤ fo ∧ 0 ≤ le)
theorem cost_num {c r : Int32} (hc : 0 ≤ c ∧ c ≤ 8) (hr : 0 ≤ r ∧ r ≤ 6) : 0 ≤ c + 3 * r ∧ ¬ c + 3 * r = -5 ∧ ¬ c + 3 * r < 0 := ⟨by grind, by grind, by grind⟩
theorem cheap_all {C M : Mem} {hid n m b j d : Nat} {cs : List Cls} {SS : Nat → Nat → Int32} {v2 : Int32} (hd : d + 600000 ≤ 7602179) (kd : d % 131072 = 4) (hj : j < n) (hj4 : j < 4) (hm : m ≤ 9999) (hw : wfH cs) (hA : airA (mI C 262539)) (h1 : f_D_holdingHouse C = some hid) (h2 : HRep C hid cs) (hS : SS j = stC C d) (hM : MoA M n m SS) (hH : MHb M cs b) (hG : ∀ k, k < 12 → mI M 12583307 k = mI C 262539 k) : ∀ (k f1 f2 i : Nat) (bs bc fo le : Int32) (C1 M1 : Mem), k < f1 → k < f2 → i + k = 16 → bst i bs bc fo le → Fr kC C C1 → Fi jM M M1 → ∃ a C' M', f_D_cheapest_l31 f1 v2 d bs bc (Int32.ofNat i) C1 = some (a, C') ∧ f_M_cheapest_l28 f2 (Int32.ofNat j) v2 fo le (Int32.ofNat i) M1 = some (a, M') ∧ Fr kC C C' ∧ Fi jM M M'
  | k, 0, _, _, _, _, _, _, _, _, h, _, _, _, _, _ => by omega
  | k, _, 0, _, _, _, _, _, _, _, _, h, _, _, _, _ => by omega
  | 0, f1 + 1, f2 + 1, i, bs, bc, fo, le, C1, M1, _, _, hi', hB, hF, hJ => by
    have c16 : (16 : Int32) ≤ Int32.ofNat i := (oN_le (m := 16) (by omega) (by omega)).mpr (by omega)
    rcases hB with ⟨z, -⟩ | ⟨rfl, rfl, -, -⟩
    · omega
    · by_cases q : v2 = 0
      · exact ⟨bs, C1, M1, by simp only [f_D_cheapest_l31, if_pos c16, if_pos q], by simp only [f_M_cheapest_l28, if_pos c16, if_pos q], hF, hJ⟩
      · exact ⟨bc, C1, M1, by simp only [f_D_cheapest_l31, if_pos c16, if_neg q], by simp only [f_M_cheapest_l28, if_pos c16, if_neg q], hF, hJ⟩
  | k + 1, f1 + 1, f2 + 1, i, bs, bc, fo, le, C1, M1, _, _, hi', hB, hF, hJ => by
    have i16 : i < 16 := by omega
    have c16 : ¬ (16 : Int32) ≤ Int32.ofNat i := fun q => by have := (oN_le (m := 16) (by omega) (by omega)).mp q; omega
    have ho : okS m (stC C d) := by rw [← hS]; exact (hM.2.2.2.2 j hj).2
    obtain ⟨C2, x1, x2⟩ := cost_c hF i16 hm h1 h2 hw hd ho hA
    obtain ⟨M2, y1, y2⟩ := cost_m i16 hj hj4 hw hA (by omega) (hM.fi hJ) (hH.fi hJ) (fun k hk => (hJ.1 _ _ (by unfold jM; omega)).trans (hG k hk))
    rw [hS] at y1
    obtain ⟨-, -, -, -, -, hc⟩ := sets i16
    have hr : 0 ≤ cosS cs (mI C 262539) m i (stC C d) ∧ cosS cs (mI C 262539) m i (stC C d) ≤ 6 := ct_ok _ 6 0 0 0 (by omega) (by decide) (by decide)
    have hn := cost_num hc hr
    have go := fun bs bc fo le h => cheap_all (v2 := v2) hd kd hj hj4 hm hw hA h1 h2 hS hM hH hG k f1 f2 (i + 1) bs bc fo le C2 M2 (by omega) (by omega) (by omega) h x2 (hJ.trans y2)
    have i0 : 0 ≤ Int32.ofNat i := (oN_le (m := 0) (by omega) (by omega)).mpr (by omega)
    generalize cosS cs (mI C 262539) m i (stC C d) = r at *
    generalize cst i = c at *
    -- a set that leaves it rubbing
    by_cases ev : i % 2 = 0 ∧ ¬ r = 0
    · have e1 : (if i % 2 = 0 then if r = 0 then c else -5 else c + 3 * r) = -5 := by rw [if_pos ev.1, if_neg ev.2]
      have e2 : (if i % 2 = 0 then if r ≤ 0 then c else -1 else c + 3 * r) = -1 := by
        rw [if_pos ev.1, if_neg (fun z => ev.2 (by have := hr.1; grind))]
      rw [e1] at x1
      rw [e2] at y1
      have hB2 : bst (i + 1) bs bc fo le := by
        rcases hB with ⟨z, z2, z3⟩ | z
        · exact Or.inl ⟨by omega, z2, z3⟩
        · exact Or.inr z
      obtain ⟨a, C', M', g1, g2, g3, g4⟩ := go bs bc fo le hB2
      refine ⟨a, C', M', ?_, ?_, g3, g4⟩
      · simp only [f_D_cheapest_l31, if_neg c16, gd_pos kd, x1, bdg, ap2g, if_true, lte, oN_s]
        exact g1
      · have n1 : (-1 : Int32) < 0 := by decide
        simp only [f_M_cheapest_l28, if_neg c16, y1, bdg, ap2g, if_pos n1, lte, oN_s]
        exact g2
    · -- its cost
      obtain ⟨w, e1, e2, w0, w5⟩ : ∃ w, (if i % 2 = 0 then if r = 0 then c else -5 else c + 3 * r) = w ∧ (if i % 2 = 0 then if r ≤ 0 then c else -1 else c + 3 * r) = w ∧ 0 ≤ w ∧ ¬ w = -5 := by
        by_cases q : i % 2 = 0
        · have r0 : r = 0 := Classical.byContradiction fun z => ev ⟨q, z⟩
          exact ⟨c, by rw [if_pos q, if_pos r0], by rw [if_pos q, if_pos (by rw [r0]; decide)], hc.1, by have := hc.1; grind⟩
        · exact ⟨c + 3 * r, if_neg q, if_neg q, hn.1, hn.2.1⟩
      rw [e1] at x1
      rw [e2] at y1
      have w0' : ¬ w < 0 := Int32.not_lt.mpr w0
      rcases hB with ⟨z1, z2, z3⟩ | ⟨z1, z2, z3, z4⟩
      · obtain ⟨a, C', M', g1, g2, g3, g4⟩ := go (Int32.ofNat i) w (Int32.ofNat i) w (Or.inr ⟨rfl, rfl, i0, w0⟩)
        refine ⟨a, C', M', ?_, ?_, g3, g4⟩
        · simp only [f_D_cheapest_l31, if_neg c16, gd_pos kd, x1, bdg, ap2g, if_neg w5, if_pos z2, lte, oN_s]
          exact g1
        · have n1 : fo < 0 := by rw [z3]; decide
          simp only [f_M_cheapest_l28, if_neg c16, y1, bdg, ap2g, if_neg w0', if_pos n1, lte, oN_s]
          exact g2
      · have b5 : ¬ bc = -5 := by rw [z2]; intro e; rw [e] at z4; exact absurd z4 (by decide)
        have f0 : ¬ fo < 0 := Int32.not_lt.mpr z3
        by_cases y : le ≤ w
        · obtain ⟨a, C', M', g1, g2, g3, g4⟩ := go bs bc fo le (Or.inr ⟨z1, z2, z3, z4⟩)
          have y' : bc ≤ w := by rw [z2]; exact y
          refine ⟨a, C', M', ?_, ?_, g3, g4⟩
          · simp only [f_D_cheapest_l31, if_neg c16, gd_pos kd, x1, bdg, ap2g, if_neg w5, if_neg b5, if_pos y', lte, oN_s]
            exact g1
          · simp only [f_M_cheapest_l28, if_neg c16, y1, bdg, ap2g, if_neg w0', if_neg f0, if_neg (Int32.not_lt.mpr y), lte, oN_s]
            exact g2
        · obtain ⟨a, C', M', g1, g2, g3, g4⟩ := go (Int32.ofNat i) w (Int32.ofNat i) w (Or.inr ⟨rfl, rfl, i0, w0⟩)
          have y' : ¬ bc ≤ w := by rw [z2]; exact y
          refine ⟨a, C', M', ?_, ?_, g3, g4⟩
          · simp only [f_D_cheapest_l31, if_neg c16, gd_pos kd, x1, bdg, ap2g, if_neg w5, if_neg b5, if_neg y', lte, oN_s]
            exact g1
          · simp only [f_M_cheapest_l28, if_neg c16, y1, bdg, ap2g, if_neg w0', if_neg f0, if_pos (Int32.not_le.mp y), lte, oN_s]
            exact g2
theorem sim_cheapest {hs : Nat → List Cls} {C M : Mem} (h : Rel hs C M) (p1 p2 : Int32) : Sim C M (f_D_cheapest p1 p2 C) (f_M_cheapest p1 p2) := by
  rcases door_at h p1 with ⟨j, hj, ej, e0, hr, hlt, eC, eM⟩ | ⟨eC, eM⟩
  · by_cases h9 : 0 ≤ p2 ∧ p2 ≤ 1
    · obtain ⟨hid, n, m, b, cs, hE⟩ := enter h
      have hjn := door_n h hE hj (by rw [← e0]; exact hlt)
      obtain ⟨h1, h2, h3, h4, h5, -, hm9, hA, hG, -⟩ := hE
      obtain ⟨a, C', M', x1, x2, x3, x4⟩ := cheap_all (v2 := p2) (dlo hj) (dkd j) hjn hj hm9 h3 hA h1 h2 rfl h5 h4 hG 16 200 200 0 0 (-5) (-1) 0 C M (by omega) (by omega) (by omega) (Or.inl ⟨by omega, rfl, rfl⟩) Fr.rf Fi.rf
      have z := dnz j
      generalize 786436 + 655360 * j = d at *
      refine sim_ask h (a := a) (C' := C') (M' := M') ?_ x3 ?_ x4
      · simp only [f_D_cheapest, eC, bdg, if_neg z, wi1 h9, if_neg i10]
        exact x1
      · simp only [f_M_cheapest, eM, if_neg i10, mi1 h9]
        rw [e0]; exact x2
    · refine sim_no (-1) h ?_ ?_
      · simp only [f_D_cheapest, eC, bdg, if_neg (dnz j), wi0 h9, if_true]
      · simp only [f_M_cheapest, eM, mi0 h9, if_neg i10, if_true]
  · exact sim_no (-1) h (by simp only [f_D_cheapest, eC, bdg, if_true]) (by simp only [f_M_cheapest, eM, if_true])
