/-! cheapest -/
def A2 (v : Nat) (S : Nat → Int32) : Nat → Int32 := if Int32.ofNat v &&& 2 = 0 then S else upS S 4 (mnI 9 (S 4 + 2))
def A4 (v : Nat) (S : Nat → Int32) : Nat → Int32 := if Int32.ofNat v &&& 4 = 0 then S else upS S 3 0
def A8 (v : Nat) (S : Nat → Int32) : Nat → Int32 := if Int32.ofNat v &&& 8 = 0 then S else upS (upS S 7 1) 8 1
def cst (v : Nat) : Int32 := ((if Int32.ofNat v &&& 2 = 0 then 0 else 1) + (if Int32.ofNat v &&& 4 = 0 then 0 else 2)) + (if Int32.ofNat v &&& 8 = 0 then 0 else 5)
theorem sets {v : Nat} (h : v < 16) : (Int32.ofNat v &&& 2 ≤ 0 ↔ Int32.ofNat v &&& 2 = 0) ∧ (Int32.ofNat v &&& 4 ≤ 0 ↔ Int32.ofNat v &&& 4 = 0) ∧ (Int32.ofNat v &&& 8 ≤ 0 ↔ Int32.ofNat v &&& 8 = 0) ∧ (Int32.ofNat v - Int32.ofNat v / 2 * 2 = 0 ↔ v % 2 = 0) ∧ (Int32.ofNat v &&& 1 = 0 ↔ v % 2 = 0) ∧ 0 ≤ cst v ∧ cst v ≤ 8 := by
  have : (List.range 16).all (fun v => decide ((Int32.ofNat v &&& 2 ≤ 0 ↔ Int32.ofNat v &&& 2 = 0) ∧ (Int32.ofNat v &&& 4 ≤ 0 ↔ Int32.ofNat v &&& 4 = 0) ∧ (Int32.ofNat v &&& 8 ≤ 0 ↔ Int32.ofNat v &&& 8 = 0) ∧ (Int32.ofNat v - Int32.ofNat v / 2 * 2 = 0 ↔ v % 2 = 0) ∧ (Int32.ofNat v &&& 1 = 0 ↔ v % 2 = 0) ∧ 0 ≤ cst v ∧ cst v ≤ 8)) = true := by decide +kernel
  exact of_decide_eq_true (List.all_eq_true.mp this v (List.mem_range.mpr h))
theorem up_n {S : Nat → Int32} {i k : Nat} {v : Int32} (h : k ≠ i) : upS S i v k = S k := if_neg h
theorem up_e {S : Nat → Int32} {i : Nat} {v : Int32} : upS S i v i = v := if_pos rfl
theorem okS.up4 {m : Nat} {S : Nat → Int32} (h : okS m S) {v : Int32} (hv : 0 ≤ v ∧ v ≤ 9) : okS m (upS S 4 v) := by
  obtain ⟨h1, h2, h3, h4, h5, h6, h7, h8, h9, h10, h11⟩ := h
  exact ⟨h1, h2, h3, hv, h5, h6, h7, h8, fun s hs => by rw [up_n (by omega)]; exact h9 s hs, h10, h11⟩
theorem okS.up3 {m : Nat} {S : Nat → Int32} (h : okS m S) {v : Int32} (hv : 0 ≤ v ∧ v ≤ 20) : okS m (upS S 3 v) := by
  obtain ⟨h1, h2, h3, h4, h5, h6, h7, h8, h9, h10, h11⟩ := h
  exact ⟨h1, h2, hv, h4, h5, h6, h7, h8, fun s hs => by rw [up_n (by omega)]; exact h9 s hs, h10, h11⟩
theorem okS.up8 {m : Nat} {S : Nat → Int32} (h : okS m S) : okS m (upS (upS S 7 1) 8 1) := by
  obtain ⟨h1, h2, h3, h4, h5, h6, h7, h8, h9, h10, h11⟩ := h
  exact ⟨h1, h2, h3, h4, h5, h6, Or.inr rfl, Or.inr rfl, fun s hs => by rw [up_n (by omega), up_n (by omega)]; exact h9 s hs, h10, h11⟩
theorem pk_ok {x : Int32} (h : 0 ≤ x ∧ x ≤ 9) : 0 ≤ mnI 9 (x + 2) ∧ mnI 9 (x + 2) ≤ 9 := by
  unfold mnI; split <;> grind
theorem A2_ok {m v : Nat} {S : Nat → Int32} (h : okS m S) : okS m (A2 v S) := by
  unfold A2; split
  · exact h
  · exact h.up4 (pk_ok h.2.2.2.1)
theorem A4_ok {m v : Nat} {S : Nat → Int32} (h : okS m S) : okS m (A4 v S) := by
  unfold A4; split
  · exact h
  · exact h.up3 (by decide)
theorem A8_ok {m v : Nat} {S : Nat → Int32} (h : okS m S) : okS m (A8 v S) := by
  unfold A8; split
  · exact h
  · exact h.up8
/-! the class's copy is mended -/
theorem DoS.f4 {C : Mem} {d : Nat} {S : Nat → Int32} (h : DoS C d S) {k : Nat} (hk : k = 3 ∨ k = 4) (v : Int32) : DoS (setI C d k v) d (upS S k v) := by
  obtain ⟨⟨a0, a1, a2, a3, a4⟩, ⟨b0, b1⟩, ⟨c0, c1⟩, e⟩ := h
  refine ⟨⟨?_, ?_, ?_, ?_, ?_⟩, ⟨?_, ?_⟩, ⟨?_, ?_⟩, fun s hs => ?_⟩
  · rw [mSk (by omega), up_n (by omega)]; exact a0
  · rw [mSk (by omega), up_n (by omega)]; exact a1
  · rw [mSk (by omega), up_n (by omega)]; exact a2
  · rcases hk with q | q <;> subst q
    · rw [mSe, up_e]
    · rw [mSk (by omega), up_n (by omega)]; exact a3
  · rcases hk with q | q <;> subst q
    · rw [mSk (by omega), up_n (by omega)]; exact a4
    · rw [mSe, up_e]
  · rw [mS (by omega), up_n (by omega)]; exact b0
  · rw [mS (by omega), up_n (by omega)]; exact b1
  · rw [mS (by omega), up_n (by omega)]; exact c0
  · rw [mS (by omega), up_n (by omega)]; exact c1
  · rw [mS (by omega), up_n (by omega)]; exact e s hs
theorem DoS.pt {C : Mem} {d : Nat} {S : Nat → Int32} (h : DoS C d S) {k : Nat} (hk : k < 2) (v : Int32) : DoS (setI C (d + 262215) k v) d (upS S (7 + k) v) := by
  obtain ⟨⟨a0, a1, a2, a3, a4⟩, ⟨b0, b1⟩, ⟨c0, c1⟩, e⟩ := h
  refine ⟨⟨?_, ?_, ?_, ?_, ?_⟩, ⟨?_, ?_⟩, ⟨?_, ?_⟩, fun s hs => ?_⟩
  · rw [mS (by omega), up_n (by omega)]; exact a0
  · rw [mS (by omega), up_n (by omega)]; exact a1
  · rw [mS (by omega), up_n (by omega)]; exact a2
  · rw [mS (by omega), up_n (by omega)]; exact a3
  · rw [mS (by omega), up_n (by omega)]; exact a4
  · rw [mS (by omega), up_n (by omega)]; exact b0
  · rw [mS (by omega), up_n (by omega)]; exact b1
  · by_cases q : k = 0
    · subst q; rw [mSe, up_e]
    · rw [mSk (by omega), up_n (by omega)]; exact c0
  · by_cases q : k = 1
    · subst q; rw [mSe, up_e]
    · rw [mSk (by omega), up_n (by omega)]; exact c1
  · rw [mS (by omega), up_n (by omega)]; exact e s hs
theorem CoS.f4 {C : Mem} {H : Nat} {cs : List Cls} {S : Nat → Int32} (h : CoS C 7602179 H cs S) {k : Nat} (hk : k = 3 ∨ k = 4) (v : Int32) : CoS (setI C 7995396 k v) 7602179 H cs (upS S k v) ∧ Fr kC C (setI C 7995396 k v) := by
  obtain ⟨h1, h2, h3, h4, h5⟩ := h
  have f : Fr kC C (setI C 7995396 k v) := Fr.rf.set (by unfold kC; omega) _
  refine ⟨⟨h1.f4 hk v, ?_, ?_, h4, hRep_k f h5⟩, f⟩
  · rw [mS (by decide), up_n (by omega)]; exact h2
  · rw [mS (by decide), up_n (by omega)]; exact h3
theorem CoS.pt {C : Mem} {H : Nat} {cs : List Cls} {S : Nat → Int32} (h : CoS C 7602179 H cs S) {k : Nat} (hk : k < 2) (v : Int32) : CoS (setI C 8257611 k v) 7602179 H cs (upS S (7 + k) v) ∧ Fr kC C (setI C 8257611 k v) := by
  obtain ⟨h1, h2, h3, h4, h5⟩ := h
  have f : Fr kC C (setI C 8257611 k v) := Fr.rf.set (by unfold kC; omega) _
  refine ⟨⟨h1.pt hk v, ?_, ?_, h4, hRep_k f h5⟩, f⟩
  · rw [mS (by decide), up_n (by omega)]; exact h2
  · rw [mS (by decide), up_n (by omega)]; exact h3
def ctS (p : Nat → Bool) : Nat → Nat → Int32 → Int32
  | 0, _, c => c
  | k + 1, i, c => ctS p k (i + 1) (if p i then c + 1 else c + 0)
def mxP (cs : List Cls) (A : Nat → Int32) (m : Nat) (S : Nat → Int32) (s : Nat) : Bool := decide (0 < miS cs A s m S)
theorem ct_ok (p : Nat → Bool) : ∀ (k i : Nat) (c : Int32) (n : Nat), n + k ≤ 6 → 0 ≤ c → c ≤ Int32.ofNat n → 0 ≤ ctS p k i c ∧ ctS p k i c ≤ 6
  | 0, _, c, n, h, h0, h1 => ⟨h0, Int32.le_trans h1 ((oN_le (i := 6) (by omega) (by omega)).mpr (by omega))⟩
  | k + 1, i, c, n, h, h0, h1 => by
    simp only [ctS]
    have h6 : Int32.ofNat n ≤ 6 := (oN_le (i := 6) (by omega) (by omega)).mpr (by omega)
    by_cases q : p i = true
    · rw [if_pos q]
      refine ct_ok p k (i + 1) _ (n + 1) (by omega) (by grind) ?_
      rw [← oN_s]; grind
    · rw [if_neg q]
      refine ct_ok p k (i + 1) _ n (by omega) (by grind) (by grind)
theorem mis_l4 {C : Mem} {m : Nat} {cs : List Cls} {A : Nat → Int32} {S : Nat → Int32} (hL : ∀ s, s < 6 → mI C (7602179 + 1179848) s = leS cs A s 12 m S ∧ mI C (7602179 + 1310920) s = grS cs A s 12 m S) : ∀ (k fuel i : Nat) (c : Int32), k < fuel → i + k = 6 → f_Co_missingSpots_l4 7602179 C fuel c (Int32.ofNat i) = some (ctS (mxP cs A m S) k i c)
  | k, 0, _, _, h, _ => by omega
  | 0, fuel + 1, i, c, _, hi' => by
    have c6 : (6 : Int32) ≤ Int32.ofNat i := (le6 (by omega)).mpr (by omega)
    simp only [f_Co_missingSpots_l4, if_pos c6]; rfl
  | k + 1, fuel + 1, i, c, _, hi' => by
    have c6 : ¬ (6 : Int32) ≤ Int32.ofNat i := fun q => by have := (le6 (by omega)).mp q; omega
    have ih := fun c => mis_l4 hL k fuel (i + 1) c (by omega) (by omega)
    simp only [f_Co_missingSpots_l4, if_neg c6, missing_c (show i < 6 by omega) (hL i (by omega)).1, bdg, lte, oN_s, ctS]
    by_cases q : miS cs A i m S ≤ 0
    · rw [if_pos q, if_neg (show ¬ mxP cs A m S i = true from fun z => Int32.not_lt.mpr q (of_decide_eq_true z))]; exact ih _
    · rw [if_neg q, if_pos (show mxP cs A m S i = true from decide_eq_true (Int32.not_le.mp q))]; exact ih _
def cosS (cs : List Cls) (A : Nat → Int32) (m v : Nat) (S : Nat → Int32) : Int32 := ctS (mxP cs A m (A8 v (A4 v (A2 v S)))) 6 0 0
theorem cost_c {C C1 : Mem} (hF : Fr kC C C1) {hid m v d : Nat} {cs : List Cls} (hv : v < 16) (hm : m ≤ 9999) (h1 : f_D_holdingHouse C = some hid) (h2 : HRep C hid cs) (h3 : wfH cs) (hd : d + 600000 ≤ 7602179) (ho : okS m (stC C d)) (hA : airA (mI C 262539)) : ∃ C', f_D_costOf d (Int32.ofNat v) C1 = some (if v % 2 = 0 then (if cosS cs (mI C 262539) m v (stC C d) = 0 then cst v else -5) else cst v + 3 * cosS cs (mI C 262539) m v (stC C d), C') ∧ Fr kC C C' := by
  obtain ⟨-, -, -, -, s1, -, -⟩ := sets hv
  obtain ⟨C2, b1, b2', b3, b4⟩ := begin_c (t := 7602179) (d := d) (Or.inl rfl) hd (hRep_k hF h2) h3
  rw [stC_fr hF hd] at b2'
  have G2 : ∀ q, q < 12 → mI C2 8651147 q = mI C 262539 q := fun q hq => (b4 q hq).trans (hF.1 _ _ (by unfold kC; omega))
  have F2 := hF.trans (b3.mono coA1)
  generalize hS : stC C d = S at *
  -- packed
  have st2 : ∃ C3, f_D_costOf d (Int32.ofNat v) C1 = f_D_costOf_b42 d (Int32.ofNat v) 7995396 (if Int32.ofNat v &&& 2 = 0 then 0 else 1) C3 ∧ CoS C3 7602179 hid cs (A2 v S) ∧ Fr kC C C3 ∧ ∀ q, mI C3 8651147 q = mI C2 8651147 q := by
    by_cases q : Int32.ofNat v &&& 2 = 0
    · refine ⟨C2, ?_, ?_, F2, fun _ => rfl⟩
      · simp only [f_D_costOf, (hold_k hF).trans h1, bdg, gd_pos h2.1, b1, if_pos q]
      · unfold A2; rw [if_pos q]; exact b2'.1
    · obtain ⟨x1, x2⟩ := b2'.1.f4 (Or.inr rfl) (mnI 9 (S 4 + 2))
      refine ⟨_, ?_, by unfold A2; rw [if_neg q]; exact x1, F2.trans x2, fun _ => mS (by decide)⟩
      have e4 : mI C2 7995396 4 = S 4 := b2'.1.1.1.2.2.2.2
      simp only [f_D_costOf, (hold_k hF).trans h1, bdg, gd_pos h2.1, b1, if_neg q, f_Dr_packMore, lte, e4, ap2g]
      rfl
  obtain ⟨C3, u3, u4, F3, G3⟩ := st2
  have st4 : ∃ C4, f_D_costOf_b42 d (Int32.ofNat v) 7995396 (if Int32.ofNat v &&& 2 = 0 then 0 else 1) C3 = f_D_costOf_b56 d (Int32.ofNat v) 7995396 ((if Int32.ofNat v &&& 2 = 0 then 0 else 1) + (if Int32.ofNat v &&& 4 = 0 then 0 else 2)) C4 ∧ CoS C4 7602179 hid cs (A4 v (A2 v S)) ∧ Fr kC C C4 ∧ ∀ q, mI C4 8651147 q = mI C3 8651147 q := by
    by_cases q : Int32.ofNat v &&& 4 = 0
    · refine ⟨C3, ?_, by unfold A4; rw [if_pos q]; exact u4, F3, fun _ => rfl⟩
      simp only [f_D_costOf_b42, if_pos q, Int32.add_zero]
    · obtain ⟨x1, x2⟩ := u4.f4 (Or.inl rfl) 0
      refine ⟨_, ?_, by unfold A4; rw [if_neg q]; exact x1, F3.trans x2, fun _ => mS (by decide)⟩
      simp only [f_D_costOf_b42, if_neg q, gdT, f_Dr_driveScrews, lte, bdg, ap2g]
  obtain ⟨C4, u5, u6, F4, G4⟩ := st4
  have st8 : ∃ C5, f_D_costOf_b56 d (Int32.ofNat v) 7995396 ((if Int32.ofNat v &&& 2 = 0 then 0 else 1) + (if Int32.ofNat v &&& 4 = 0 then 0 else 2)) C4 = f_D_costOf_b78 d (Int32.ofNat v) (cst v) C5 ∧ CoS C5 7602179 hid cs (A8 v (A4 v (A2 v S))) ∧ Fr kC C C5 ∧ ∀ q, mI C5 8651147 q = mI C4 8651147 q := by
    by_cases q : Int32.ofNat v &&& 8 = 0
    · refine ⟨C4, ?_, by unfold A8; rw [if_pos q]; exact u6, F4, fun _ => rfl⟩
      simp only [f_D_costOf_b56, cst, if_pos q, Int32.add_zero]
    · obtain ⟨x1, x2⟩ := u6.pt (k := 0) (by decide) 1
      obtain ⟨y1, y2⟩ := x1.pt (k := 1) (by decide) 1
      refine ⟨_, ?_, by unfold A8; rw [if_neg q]; exact y1, (F4.trans x2).trans y2, fun _ => (mS (by decide)).trans (mS (by decide))⟩
      have r0 : inR (0 : Int32) 2 := by decide
      have r1 : inR (1 : Int32) 2 := by decide
      have t1 : (1 : Int32).toNatClampNeg = 1 := by decide
      simp only [f_D_costOf_b56, if_neg q, gdT, f_Dr_paintSide, gd_pos r0, gd_pos r1, lte, bdg, ap2g, k0, t1, cst]
  obtain ⟨C5, u7, u8, F5, G5⟩ := st8
  have ho8 : okS m (A8 v (A4 v (A2 v S))) := A8_ok (A4_ok (A2_ok ho))
  obtain ⟨C6, v1, v2, v3⟩ := settle_c (t := 7602179) (Or.inl rfl) u8 h3
  have F6 := F5.trans (v3.mono coP1)
  obtain ⟨C7, w1, w2, w3, w4⟩ := through_c (t := 7602179) (n := 12) (Or.inl rfl) h3 hA (by omega) (by omega) v2 ho8 (fun q hq => (v3.1 _ _ (by unfold coP; omega)).trans ((G5 q).trans ((G4 q).trans ((G3 q).trans (G2 q hq)))))
  have w1' : f_Co_goThrough 7602179 12 C6 = some C7 := w1
  have mm : f_Co_missingSpots 7602179 C7 = some (cosS cs (mI C 262539) m v S) := mis_l4 w3 6 200 0 0 (by omega) (by omega)
  refine ⟨C7, ?_, F6.trans (w4.mono coB1)⟩
  rw [u3, u5, u7]
  simp only [f_D_costOf_b78, v1, w1', mm, bdg]
  by_cases q : v % 2 = 0
  · rw [if_pos q, if_pos (s1.mpr q)]
    by_cases z : cosS cs (mI C 262539) m v S = 0
    · rw [if_pos z, if_pos z]
    · rw [if_neg z, if_neg z]
  · rw [if_neg q, if_neg (fun e => q (s1.mp e))]
