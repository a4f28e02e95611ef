/-! act -/
def swB (k : Int32) : List Int32 := if k = 2 ∨ k = 5 then [30, 10] else if k = 4 then [50, 10] else if k = 6 then [71, 10] else [10]
def swV (k v i x : Int32) : Int32 := if k = 2 ∨ k = 5 then x * 3 + i else if k = 4 then -(x + i) else if k = 6 then (x + i) ^^^ v else x + i
def hgB (k : Int32) : List Int32 := if k = 1 then 20 :: 11 :: swB k else if k = 4 then 51 :: 20 :: 11 :: swB k else if k = 6 then 70 :: 11 :: (swB k ++ [10]) else 11 :: swB k
def hgV (k v i x : Int32) : Int32 := if k = 1 then (swV k v i x - v) ^^^ 6 else if k = 4 then (swV k v i (x + 1) - v) ^^^ 6 else if k = 6 then (swV k v i x - v) + (2 + i) else swV k v i x - v
def tlB (k : Int32) : List Int32 := if k = 3 ∨ k = 6 then 40 :: 12 :: (hgB k ++ hgB k) else if k = 5 then 60 :: 12 :: hgB k else 12 :: hgB k
def tlV (k v i x : Int32) : Int32 := if k = 3 ∨ k = 6 then hgV k v i x * 2 + hgV k v i 1 else if k = 5 then hgV k v i (x - i) * 2 else hgV k v i x * 2
def bgC (b : Int32) (C : Mem) : Mem := if 20 ≤ mI C 10485761 1 then setI C 10485761 1 (mI C 10485761 1 + 1) else setI (setI C 10617483 (mI C 10485761 1).toNatClampNeg b) 10485761 1 (mI C 10485761 1 + 1)
def bgM (b : Int32) (M : Mem) : Mem := if 20 ≤ mI M 12451850 57 then setI M 12451850 57 (mI M 12451850 57 + 1) else setI (setI M 17171083 (mI M 12451850 57).toNatClampNeg b) 12451850 57 (mI M 12451850 57 + 1)
def bgs (g : Int32 → Mem → Mem) : List Int32 → Mem → Mem
  | [], C => C
  | b :: bs, C => bgs g bs (g b C)
theorem bgs_app (g : Int32 → Mem → Mem) : ∀ (a b : List Int32) (C : Mem), bgs g (a ++ b) C = bgs g b (bgs g a C)
  | [], _, _ => rfl
  | _ :: a, b, C => bgs_app g a b _
def acC (k v i : Int32) (n : Nat) (C : Mem) : Prop := mI C 10485761 1 = Int32.ofNat n ∧ mI C 10485761 2 = k ∧ mI C 10485761 3 = v ∧ mI C 10485761 4 = i
def acM (k v : Int32) (j n : Nat) (M : Mem) : Prop := mI M 12451850 57 = Int32.ofNat n ∧ mI M 12714123 j = k ∧ mI M 12845195 j = v
theorem mSk {M : Mem} {a k b l : Nat} {v : Int32} (h : l ≠ k) : mI (setI M a k v) b l = mI M b l := if_neg fun q => h q.2
theorem mSe {M : Mem} {a k : Nat} {v : Int32} : mI (setI M a k v) a k = v := if_pos ⟨rfl, rfl⟩
theorem began_c {k v i : Int32} {n : Nat} {C : Mem} (h : acC k v i n C) (hn : n < 1000) (b : Int32) : f_Acts_began b C = some (bgC b C) ∧ acC k v i (n + 1) (bgC b C) := by
  obtain ⟨h1, h2, h3, h4⟩ := h
  unfold f_Acts_began bgC
  by_cases c : (20 : Int32) ≤ mI C 10485761 1
  · rw [if_pos c, if_pos c]
    refine ⟨lte _ _, ?_, ?_, ?_, ?_⟩
    · rw [mSe, h1, oN_s]
    · rw [mSk (by decide)]; exact h2
    · rw [mSk (by decide)]; exact h3
    · rw [mSk (by decide)]; exact h4
  · rw [if_neg c, if_neg c]
    have hn : n < 20 := by
      rw [h1] at c
      exact Nat.not_le.mp fun q => c ((oN_le (m := 20) (by omega) (by omega)).mpr q)
    refine ⟨?_, ?_, ?_, ?_, ?_⟩
    · rw [gd_pos (by rw [h1]; exact oN_in (by omega) hn), lte, lte, mS (by decide)]
    · rw [mSe, h1, oN_s]
    · rw [mSk (by decide), mS (by decide)]; exact h2
    · rw [mSk (by decide), mS (by decide)]; exact h3
    · rw [mSk (by decide), mS (by decide)]; exact h4
theorem body_m {k v : Int32} {j n : Nat} {M : Mem} (h : acM k v j n M) (hn : n < 1000) (b : Int32) : f_M_body b M = some (bgM b M) ∧ acM k v j (n + 1) (bgM b M) := by
  obtain ⟨h1, h2, h3⟩ := h
  unfold f_M_body bgM
  by_cases c : (20 : Int32) ≤ mI M 12451850 57
  · rw [if_pos c, if_pos c]
    refine ⟨lte _ _, ?_, ?_, ?_⟩
    · rw [mSe, h1, oN_s]
    · rw [mS (by decide)]; exact h2
    · rw [mS (by decide)]; exact h3
  · rw [if_neg c, if_neg c]
    have hn : n < 20 := by
      rw [h1] at c
      exact Nat.not_le.mp fun q => c ((oN_le (m := 20) (by omega) (by omega)).mpr q)
    refine ⟨?_, ?_, ?_, ?_⟩
    · rw [gd_pos (by rw [h1]; exact oN_in (by omega) hn), lte, lte, mS (by decide)]
    · rw [mSe, h1, oN_s]
    · rw [mS (by decide), mS (by decide)]; exact h2
    · rw [mS (by decide), mS (by decide)]; exact h3
theorem rs_eq (n s : Nat) (a b c : Int32) (M : Mem) : f_rec_swells (n + 1) s a b c M = f_Acts_swells (f_rec_swells n) a b c M := Eq.trans rfl rfl
theorem rh_eq (n s : Nat) (a b c : Int32) (M : Mem) : f_rec_hangs (n + 1) s a b c M = f_Acts_hangs (f_rec_hangs n) a b c M := Eq.trans rfl rfl
theorem rt_eq (n s : Nat) (a b c : Int32) (M : Mem) : f_rec_tells (n + 1) s a b c M = f_Acts_tells (f_rec_tells n) a b c M := Eq.trans rfl rfl
theorem b2s {α β : Type} (r : α) (M : Mem) (g : α → Mem → Option β) : b2 (some (r, M)) g = g r M := Eq.trans rfl rfl
theorem ab1 (M : Mem) : f_Acts_above 1 M = some 0 := rfl
theorem ab2 (M : Mem) : f_Acts_above 2 M = some 0 := rfl
theorem ab3 (M : Mem) : f_Acts_above 3 M = some 0 := rfl
theorem ab4 (M : Mem) : f_Acts_above 4 M = some 1 := rfl
theorem ab5 (M : Mem) : f_Acts_above 5 M = some 2 := rfl
theorem ab6 (M : Mem) : f_Acts_above 6 M = some 3 := rfl
theorem le40 {e : Nat} (h : e ≤ 30) : Int32.ofNat e ≤ 40 := (oN_le (m := e) (i := 40) (by omega) (by omega)).mpr (by omega)
/-- the answer's value and the bodies that began -/
def Ans (f : Option (Int32 × Mem)) (A : Nat → Mem → Prop) (g : Int32 → Mem → Mem) (x : Int32) (bs : List Int32) (n : Nat) (C : Mem) : Prop := f = some (x, bgs g bs C) ∧ A (n + bs.length) (bgs g bs C)
theorem sw_0 {k v i : Int32} {n : Nat} {C : Mem} (h : acC k v i n C) (hn : n < 950) (m e : Nat) (he : e ≤ 30) (x : Int32) : Ans (f_rec_swells (m + 1) 0 0 x (Int32.ofNat e) C) (acC k v i) bgC (x + i) [10] n C := by
  obtain ⟨a1, a2⟩ := began_c h (by omega) 10
  refine ⟨?_, a2⟩
  rw [rs_eq]; unfold f_Acts_swells
  rw [if_pos (le40 he), if_pos rfl, a1, bds, a2.2.2.2]; rfl
theorem sw_1 {k v i : Int32} {n : Nat} {C : Mem} (h : acC k v i n C) (hn : n < 950) (m e : Nat) (he : e ≤ 29) (x : Int32) : Ans (f_rec_swells (m + 2) 0 1 x (Int32.ofNat e) C) (acC k v i) bgC (x + i) [10] n C := by
  obtain ⟨a1, a2⟩ := sw_0 h hn m (e + 1) (by omega) x
  refine ⟨?_, a2⟩
  rw [rs_eq]; unfold f_Acts_swells f_Acts_swells_b131
  rw [if_pos (le40 (by omega)), if_neg (by decide), if_neg (by decide), if_neg (by decide), if_neg (by decide), ab1, bds, oN_s, a1, b2s]
theorem sw_3 {k v i : Int32} {n : Nat} {C : Mem} (h : acC k v i n C) (hn : n < 950) (m e : Nat) (he : e ≤ 29) (x : Int32) : Ans (f_rec_swells (m + 2) 0 3 x (Int32.ofNat e) C) (acC k v i) bgC (x + i) [10] n C := by
  obtain ⟨a1, a2⟩ := sw_0 h hn m (e + 1) (by omega) x
  refine ⟨?_, a2⟩
  rw [rs_eq]; unfold f_Acts_swells f_Acts_swells_b131
  rw [if_pos (le40 (by omega)), if_neg (by decide), if_neg (by decide), if_neg (by decide), if_neg (by decide), ab3, bds, oN_s, a1, b2s]
theorem sw_2 {k v i : Int32} {n : Nat} {C : Mem} (h : acC k v i n C) (hn : n < 940) (m e : Nat) (he : e ≤ 29) (x : Int32) : Ans (f_rec_swells (m + 2) 0 2 x (Int32.ofNat e) C) (acC k v i) bgC (x * 3 + i) [30, 10] n C := by
  obtain ⟨b1, b2⟩ := began_c h (by omega) 30
  obtain ⟨a1, a2⟩ := sw_0 b2 (by omega) m (e + 1) (by omega) (x * 3)
  refine ⟨?_, a2⟩
  rw [rs_eq]; unfold f_Acts_swells
  rw [if_pos (le40 (by omega)), if_neg (by decide), if_pos rfl, b1, bds, ab2, bds, oN_s, a1, b2s]; rfl
theorem sw_5 {k v i : Int32} {n : Nat} {C : Mem} (h : acC k v i n C) (hn : n < 940) (m e : Nat) (he : e ≤ 28) (x : Int32) : Ans (f_rec_swells (m + 3) 0 5 x (Int32.ofNat e) C) (acC k v i) bgC (x * 3 + i) [30, 10] n C := by
  obtain ⟨a1, a2⟩ := sw_2 h hn m (e + 1) (by omega) x
  refine ⟨?_, a2⟩
  rw [rs_eq]; unfold f_Acts_swells f_Acts_swells_b131
  rw [if_pos (le40 (by omega)), if_neg (by decide), if_neg (by decide), if_neg (by decide), if_neg (by decide), ab5, bds, oN_s, a1, b2s]
theorem sw_4 {k v i : Int32} {n : Nat} {C : Mem} (h : acC k v i n C) (hn : n < 940) (m e : Nat) (he : e ≤ 28) (x : Int32) : Ans (f_rec_swells (m + 3) 0 4 x (Int32.ofNat e) C) (acC k v i) bgC (-(x + i)) [50, 10] n C := by
  obtain ⟨b1, b2⟩ := began_c h (by omega) 50
  obtain ⟨a1, a2⟩ := sw_1 b2 (by omega) m (e + 1) (by omega) x
  refine ⟨?_, a2⟩
  rw [rs_eq]; unfold f_Acts_swells
  rw [if_pos (le40 (by omega)), if_neg (by decide), if_neg (by decide), if_pos rfl, b1, bds, ab4, bds, oN_s, a1, b2s]; rfl
theorem sw_6 {k v i : Int32} {n : Nat} {C : Mem} (h : acC k v i n C) (hn : n < 940) (m e : Nat) (he : e ≤ 28) (x : Int32) : Ans (f_rec_swells (m + 3) 0 6 x (Int32.ofNat e) C) (acC k v i) bgC ((x + i) ^^^ v) [71, 10] n C := by
  obtain ⟨b1, b2⟩ := began_c h (by omega) 71
  obtain ⟨a1, a2⟩ := sw_3 b2 (by omega) m (e + 1) (by omega) x
  refine ⟨?_, a2⟩
  rw [rs_eq]; unfold f_Acts_swells
  rw [if_pos (le40 (by omega)), if_neg (by decide), if_neg (by decide), if_neg (by decide), if_pos rfl, b1, bds, ab6, bds, oN_s, a1, b2s, a2.2.2.1]; rfl
theorem kind7 {k : Int32} (h : 0 ≤ k ∧ k ≤ 6) : k = 0 ∨ k = 1 ∨ k = 2 ∨ k = 3 ∨ k = 4 ∨ k = 5 ∨ k = 6 := by grind
theorem sw_c {k v i : Int32} {n : Nat} {C : Mem} (h : acC k v i n C) (hk : 0 ≤ k ∧ k ≤ 6) (hn : n < 900) (e : Nat) (he : e ≤ 28) (x : Int32) : Ans (f_rec_swells 12 0 k x (Int32.ofNat e) C) (acC k v i) bgC (swV k v i x) (swB k) n C := by
  rcases kind7 hk with r | r | r | r | r | r | r <;> subst r
  · exact sw_0 h (by omega) 11 e (by omega) x
  · exact sw_1 h (by omega) 10 e (by omega) x
  · exact sw_2 h (by omega) 10 e (by omega) x
  · exact sw_3 h (by omega) 10 e (by omega) x
  · exact sw_4 h (by omega) 9 e (by omega) x
  · exact sw_5 h (by omega) 9 e (by omega) x
  · exact sw_6 h (by omega) 9 e (by omega) x
theorem swB_len (k : Int32) : (swB k).length ≤ 2 := by
  unfold swB
  split
  · decide
  · split
    · decide
    · split <;> decide
theorem hg_0 {k v i : Int32} {n : Nat} {C : Mem} (h : acC k v i n C) (hk : 0 ≤ k ∧ k ≤ 6) (hn : n < 800) (m e : Nat) (he : e ≤ 20) (x : Int32) : Ans (f_rec_hangs (m + 1) 0 0 x (Int32.ofNat e) C) (acC k v i) bgC (swV k v i x - v) (11 :: swB k) n C := by
  obtain ⟨b1, b2⟩ := began_c h (by omega) 11
  obtain ⟨a1, a2⟩ := sw_c b2 hk (by omega) (e + 1) (by omega) x
  refine ⟨?_, by rw [List.length_cons, show n + ((swB k).length + 1) = n + 1 + (swB k).length by omega]; exact a2⟩
  rw [rh_eq]; unfold f_Acts_hangs
  rw [if_pos (le40 (by omega)), if_pos rfl, b1, bds, oN_s, b2.2.1, a1, b2s, a2.2.2.1]; rfl
theorem hg_d {k v i : Int32} {n : Nat} {C : Mem} (h : acC k v i n C) (hk : 0 ≤ k ∧ k ≤ 6) (hn : n < 800) (m e : Nat) (he : e ≤ 19) (x q : Int32) (hq : q = 2 ∨ q = 3) : Ans (f_rec_hangs (m + 2) 0 q x (Int32.ofNat e) C) (acC k v i) bgC (swV k v i x - v) (11 :: swB k) n C := by
  obtain ⟨a1, a2⟩ := hg_0 h hk hn m (e + 1) (by omega) x
  refine ⟨?_, a2⟩
  rw [rh_eq]; unfold f_Acts_hangs f_Acts_hangs_b153
  rcases hq with r | r <;> subst r
  · rw [if_pos (le40 (by omega)), if_neg (by decide), if_neg (by decide), if_neg (by decide), if_neg (by decide), ab2, bds, oN_s, a1, b2s]
  · rw [if_pos (le40 (by omega)), if_neg (by decide), if_neg (by decide), if_neg (by decide), if_neg (by decide), ab3, bds, oN_s, a1, b2s]
theorem hg_1 {k v i : Int32} {n : Nat} {C : Mem} (h : acC k v i n C) (hk : 0 ≤ k ∧ k ≤ 6) (hn : n < 790) (m e : Nat) (he : e ≤ 19) (x : Int32) : Ans (f_rec_hangs (m + 2) 0 1 x (Int32.ofNat e) C) (acC k v i) bgC ((swV k v i x - v) ^^^ 6) (20 :: 11 :: swB k) n C := by
  obtain ⟨b1, b2⟩ := began_c h (by omega) 20
  have hl := swB_len k
  obtain ⟨a1, a2⟩ := hg_0 b2 hk (by omega) m (e + 1) (by omega) x
  refine ⟨?_, by rw [List.length_cons, show ∀ z, n + (z + 1) = n + 1 + z by omega]; exact a2⟩
  rw [rh_eq]; unfold f_Acts_hangs
  rw [if_pos (le40 (by omega)), if_neg (by decide), if_pos rfl, b1, bds, ab1, bds, oN_s, a1, b2s]; rfl
theorem Ans.of {f : Option (Int32 × Mem)} {A : Nat → Mem → Prop} {g : Int32 → Mem → Mem} {x : Int32} {bs : List Int32} {n m : Nat} {C : Mem} (e : f = some (x, bgs g bs C)) (hm : m = n + bs.length) (h : A m (bgs g bs C)) : Ans f A g x bs n C := ⟨e, hm ▸ h⟩
theorem hgB_0 : hgB 0 = 11 :: swB 0 := by unfold hgB; rw [if_neg (by decide), if_neg (by decide), if_neg (by decide)]
theorem hgB_1 : hgB 1 = 20 :: 11 :: swB 1 := by unfold hgB; rw [if_pos rfl]
theorem hgB_2 : hgB 2 = 11 :: swB 2 := by unfold hgB; rw [if_neg (by decide), if_neg (by decide), if_neg (by decide)]
theorem hgB_3 : hgB 3 = 11 :: swB 3 := by unfold hgB; rw [if_neg (by decide), if_neg (by decide), if_neg (by decide)]
theorem hgB_4 : hgB 4 = 51 :: 20 :: 11 :: swB 4 := by unfold hgB; rw [if_neg (by decide), if_pos rfl]
theorem hgB_5 : hgB 5 = 11 :: swB 5 := by unfold hgB; rw [if_neg (by decide), if_neg (by decide), if_neg (by decide)]
theorem hgB_6 : hgB 6 = 70 :: 11 :: (swB 6 ++ [10]) := by unfold hgB; rw [if_neg (by decide), if_neg (by decide), if_pos rfl]
theorem hgV_0 (v i x : Int32) : hgV 0 v i x = swV 0 v i x - v := by unfold hgV; rw [if_neg (by decide), if_neg (by decide), if_neg (by decide)]
theorem hgV_1 (v i x : Int32) : hgV 1 v i x = (swV 1 v i x - v) ^^^ 6 := by unfold hgV; rw [if_pos rfl]
theorem hgV_2 (v i x : Int32) : hgV 2 v i x = swV 2 v i x - v := by unfold hgV; rw [if_neg (by decide), if_neg (by decide), if_neg (by decide)]
theorem hgV_3 (v i x : Int32) : hgV 3 v i x = swV 3 v i x - v := by unfold hgV; rw [if_neg (by decide), if_neg (by decide), if_neg (by decide)]
theorem hgV_4 (v i x : Int32) : hgV 4 v i x = (swV 4 v i (x + 1) - v) ^^^ 6 := by unfold hgV; rw [if_neg (by decide), if_pos rfl]
theorem hgV_5 (v i x : Int32) : hgV 5 v i x = swV 5 v i x - v := by unfold hgV; rw [if_neg (by decide), if_neg (by decide), if_neg (by decide)]
theorem hgV_6 (v i x : Int32) : hgV 6 v i x = (swV 6 v i x - v) + (2 + i) := by unfold hgV; rw [if_neg (by decide), if_neg (by decide), if_pos rfl]
theorem bgs_c (g : Int32 → Mem → Mem) (b : Int32) (bs : List Int32) (C : Mem) : bgs g (b :: bs) C = bgs g bs (g b C) := rfl
theorem hg_4 {k v i : Int32} {n : Nat} {C : Mem} (h : acC k v i n C) (hk : 0 ≤ k ∧ k ≤ 6) (hn : n < 700) (m e : Nat) (he : e ≤ 17) (x : Int32) : Ans (f_rec_hangs (m + 3) 0 4 x (Int32.ofNat e) C) (acC k v i) bgC ((swV k v i (x + 1) - v) ^^^ 6) (51 :: 20 :: 11 :: swB k) n C := by
  obtain ⟨b1, b2⟩ := began_c h (by omega) 51
  obtain ⟨a1, a2⟩ := hg_1 b2 hk (by omega) m (e + 1) (by omega) (x + 1)
  refine Ans.of ?_ ?_ a2
  · rw [rh_eq]; unfold f_Acts_hangs
    rw [if_pos (le40 (by omega)), if_neg (by decide), if_neg (by decide), if_pos rfl, b1, bds, ab4, bds, oN_s, a1, b2s, bgs_c _ 51]
  · simp only [List.length_cons]; omega
theorem hg_5 {k v i : Int32} {n : Nat} {C : Mem} (h : acC k v i n C) (hk : 0 ≤ k ∧ k ≤ 6) (hn : n < 700) (m e : Nat) (he : e ≤ 17) (x : Int32) : Ans (f_rec_hangs (m + 3) 0 5 x (Int32.ofNat e) C) (acC k v i) bgC (swV k v i x - v) (11 :: swB k) n C := by
  obtain ⟨a1, a2⟩ := hg_d h hk (by omega) m (e + 1) (by omega) x 2 (Or.inl rfl)
  refine ⟨?_, a2⟩
  rw [rh_eq]; unfold f_Acts_hangs f_Acts_hangs_b153
  rw [if_pos (le40 (by omega)), if_neg (by decide), if_neg (by decide), if_neg (by decide), if_neg (by decide), ab5, bds, oN_s, a1, b2s]
theorem hg_6 {k v i : Int32} {n : Nat} {C : Mem} (h : acC k v i n C) (hk : 0 ≤ k ∧ k ≤ 6) (hn : n < 700) (m e : Nat) (he : e ≤ 17) (x : Int32) : Ans (f_rec_hangs (m + 3) 0 6 x (Int32.ofNat e) C) (acC k v i) bgC ((swV k v i x - v) + (2 + i)) (70 :: 11 :: (swB k ++ [10])) n C := by
  obtain ⟨b1, b2⟩ := began_c h (by omega) 70
  have hl := swB_len k
  obtain ⟨a1, a2⟩ := hg_d b2 hk (by omega) m (e + 1) (by omega) x 3 (Or.inr rfl)
  obtain ⟨c1, c2⟩ := sw_3 a2 (by simp only [List.length_cons]; omega) 10 (e + 1) (by omega) 2
  have q : bgs bgC (70 :: 11 :: (swB k ++ [10])) C = bgs bgC [10] (bgs bgC (11 :: swB k) (bgC 70 C)) :=
    (bgs_app bgC (70 :: 11 :: swB k) [10] C).trans rfl
  rw [← q] at c2
  refine Ans.of ?_ ?_ c2
  · rw [rh_eq]; unfold f_Acts_hangs
    rw [if_pos (le40 (by omega)), if_neg (by decide), if_neg (by decide), if_neg (by decide), if_pos rfl, b1, bds, ab6, bds, oN_s, a1, b2s, ab6, bds, c1, b2s, q]
  · simp only [List.length_cons, List.length_append, List.length_nil]; omega
theorem hg_c {k v i : Int32} {n : Nat} {C : Mem} (h : acC k v i n C) (hk : 0 ≤ k ∧ k ≤ 6) (hn : n < 700) (e : Nat) (he : e ≤ 17) (x : Int32) : Ans (f_rec_hangs 12 0 k x (Int32.ofNat e) C) (acC k v i) bgC (hgV k v i x) (hgB k) n C := by
  rcases kind7 hk with r | r | r | r | r | r | r <;> subst r
  · rw [hgB_0, hgV_0]; exact hg_0 h hk (by omega) 11 e (by omega) x
  · rw [hgB_1, hgV_1]; exact hg_1 h hk (by omega) 10 e (by omega) x
  · rw [hgB_2, hgV_2]; exact hg_d h hk (by omega) 10 e (by omega) x 2 (Or.inl rfl)
  · rw [hgB_3, hgV_3]; exact hg_d h hk (by omega) 10 e (by omega) x 3 (Or.inr rfl)
  · rw [hgB_4, hgV_4]; exact hg_4 h hk (by omega) 9 e (by omega) x
  · rw [hgB_5, hgV_5]; exact hg_5 h hk (by omega) 9 e (by omega) x
  · rw [hgB_6, hgV_6]; exact hg_6 h hk (by omega) 9 e (by omega) x
theorem hgB_len (k : Int32) : (hgB k).length ≤ 6 := by
  have := swB_len k
  unfold hgB
  split
  · simp only [List.length_cons]; omega
  · split
    · simp only [List.length_cons]; omega
    · split
      · simp only [List.length_cons, List.length_append, List.length_nil]; omega
      · simp only [List.length_cons]; omega
theorem tl_0 {k v i : Int32} {n : Nat} {C : Mem} (h : acC k v i n C) (hk : 0 ≤ k ∧ k ≤ 6) (hn : n < 600) (m e : Nat) (he : e ≤ 12) (x : Int32) : Ans (f_rec_tells (m + 1) 0 0 x (Int32.ofNat e) C) (acC k v i) bgC (hgV k v i x * 2) (12 :: hgB k) n C := by
  obtain ⟨b1, b2⟩ := began_c h (by omega) 12
  obtain ⟨a1, a2⟩ := hg_c b2 hk (by omega) (e + 1) (by omega) x
  refine Ans.of ?_ ?_ a2
  · rw [rt_eq]; unfold f_Acts_tells
    rw [if_pos (le40 (by omega)), if_pos rfl, b1, bds, oN_s, b2.2.1, a1, b2s, bgs_c _ 12]
  · simp only [List.length_cons]; omega
theorem tl_d {k v i : Int32} {n : Nat} {C : Mem} (h : acC k v i n C) (hk : 0 ≤ k ∧ k ≤ 6) (hn : n < 600) (m e : Nat) (he : e ≤ 11) (x q : Int32) (hq : q = 1 ∨ q = 2) : Ans (f_rec_tells (m + 2) 0 q x (Int32.ofNat e) C) (acC k v i) bgC (hgV k v i x * 2) (12 :: hgB k) n C := by
  obtain ⟨a1, a2⟩ := tl_0 h hk (by omega) m (e + 1) (by omega) x
  refine ⟨?_, a2⟩
  rw [rt_eq]; unfold f_Acts_tells
  rcases hq with r | r <;> subst r
  · rw [if_pos (le40 (by omega)), if_neg (by decide), if_neg (by decide), if_neg (by decide), ab1, bds, oN_s, a1, b2s]
  · rw [if_pos (le40 (by omega)), if_neg (by decide), if_neg (by decide), if_neg (by decide), ab2, bds, oN_s, a1, b2s]
theorem tl_4 {k v i : Int32} {n : Nat} {C : Mem} (h : acC k v i n C) (hk : 0 ≤ k ∧ k ≤ 6) (hn : n < 600) (m e : Nat) (he : e ≤ 10) (x : Int32) : Ans (f_rec_tells (m + 3) 0 4 x (Int32.ofNat e) C) (acC k v i) bgC (hgV k v i x * 2) (12 :: hgB k) n C := by
  obtain ⟨a1, a2⟩ := tl_d h hk (by omega) m (e + 1) (by omega) x 1 (Or.inl rfl)
  refine ⟨?_, a2⟩
  rw [rt_eq]; unfold f_Acts_tells
  rw [if_pos (le40 (by omega)), if_neg (by decide), if_neg (by decide), if_neg (by decide), ab4, bds, oN_s, a1, b2s]
theorem tl_5 {k v i : Int32} {n : Nat} {C : Mem} (h : acC k v i n C) (hk : 0 ≤ k ∧ k ≤ 6) (hn : n < 590) (m e : Nat) (he : e ≤ 10) (x : Int32) : Ans (f_rec_tells (m + 3) 0 5 x (Int32.ofNat e) C) (acC k v i) bgC (hgV k v i (x - i) * 2) (60 :: 12 :: hgB k) n C := by
  obtain ⟨b1, b2⟩ := began_c h (by omega) 60
  obtain ⟨a1, a2⟩ := tl_d b2 hk (by omega) m (e + 1) (by omega) (x - i) 2 (Or.inr rfl)
  refine Ans.of ?_ ?_ a2
  · rw [rt_eq]; unfold f_Acts_tells
    rw [if_pos (le40 (by omega)), if_neg (by decide), if_neg (by decide), if_pos rfl, b1, bds, ab5, bds, oN_s, b2.2.2.2, a1, b2s, bgs_c _ 60]
  · simp only [List.length_cons]; omega
theorem tl_3 {k v i : Int32} {n : Nat} {C : Mem} (h : acC k v i n C) (hk : 0 ≤ k ∧ k ≤ 6) (hn : n < 500) (m e : Nat) (he : e ≤ 11) (x : Int32) : Ans (f_rec_tells (m + 2) 0 3 x (Int32.ofNat e) C) (acC k v i) bgC (hgV k v i x * 2 + hgV k v i 1) (40 :: 12 :: (hgB k ++ hgB k)) n C := by
  obtain ⟨b1, b2⟩ := began_c h (by omega) 40
  have hl := hgB_len k
  obtain ⟨a1, a2⟩ := tl_0 b2 hk (by omega) m (e + 1) (by omega) x
  obtain ⟨c1, c2⟩ := hg_c a2 hk (by rw [List.length_cons]; omega) (e + 1) (by omega) 1
  have q : bgs bgC (40 :: 12 :: (hgB k ++ hgB k)) C = bgs bgC (hgB k) (bgs bgC (12 :: hgB k) (bgC 40 C)) := by
    rw [bgs_c, bgs_c, bgs_app, bgs_c]
  rw [← q] at c2
  refine Ans.of ?_ ?_ c2
  · rw [q, rt_eq]; unfold f_Acts_tells
    rw [if_pos (le40 (by omega)), if_neg (by decide), if_pos rfl, b1, bds, ab3, bds, oN_s, a1, b2s, a2.2.1, c1, b2s]
  · simp only [List.length_cons, List.length_append]; omega
theorem tl_6 {k v i : Int32} {n : Nat} {C : Mem} (h : acC k v i n C) (hk : 0 ≤ k ∧ k ≤ 6) (hn : n < 500) (m e : Nat) (he : e ≤ 10) (x : Int32) : Ans (f_rec_tells (m + 3) 0 6 x (Int32.ofNat e) C) (acC k v i) bgC (hgV k v i x * 2 + hgV k v i 1) (40 :: 12 :: (hgB k ++ hgB k)) n C := by
  obtain ⟨a1, a2⟩ := tl_3 h hk (by omega) m (e + 1) (by omega) x
  refine ⟨?_, a2⟩
  rw [rt_eq]; unfold f_Acts_tells
  rw [if_pos (le40 (by omega)), if_neg (by decide), if_neg (by decide), if_neg (by decide), ab6, bds, oN_s, a1, b2s]
theorem tlB_a {k : Int32} (h : ¬ (k = 3 ∨ k = 6)) (h2 : ¬ k = 5) (v i x : Int32) : tlB k = 12 :: hgB k ∧ tlV k v i x = hgV k v i x * 2 := by
  unfold tlB tlV; rw [if_neg h, if_neg h2, if_neg h, if_neg h2]; exact ⟨rfl, rfl⟩
theorem tlB_b {k : Int32} (h : k = 3 ∨ k = 6) (v i x : Int32) : tlB k = 40 :: 12 :: (hgB k ++ hgB k) ∧ tlV k v i x = hgV k v i x * 2 + hgV k v i 1 := by
  unfold tlB tlV; rw [if_pos h, if_pos h]; exact ⟨rfl, rfl⟩
theorem tlB_5 (v i x : Int32) : tlB 5 = 60 :: 12 :: hgB 5 ∧ tlV 5 v i x = hgV 5 v i (x - i) * 2 := by
  unfold tlB tlV; rw [if_neg (by decide), if_pos rfl, if_neg (by decide), if_pos rfl]; exact ⟨rfl, rfl⟩
theorem tl_c {k v i : Int32} {n : Nat} {C : Mem} (h : acC k v i n C) (hk : 0 ≤ k ∧ k ≤ 6) (hn : n < 400) (e : Nat) (he : e ≤ 10) (x : Int32) : Ans (f_rec_tells 12 0 k x (Int32.ofNat e) C) (acC k v i) bgC (tlV k v i x) (tlB k) n C := by
  rcases kind7 hk with r | r | r | r | r | r | r <;> subst r
  · obtain ⟨e1, e2⟩ := tlB_a (k := 0) (by decide) (by decide) v i x
    rw [e1, e2]; exact tl_0 h hk (by omega) 11 e (by omega) x
  · obtain ⟨e1, e2⟩ := tlB_a (k := 1) (by decide) (by decide) v i x
    rw [e1, e2]; exact tl_d h hk (by omega) 10 e (by omega) x 1 (Or.inl rfl)
  · obtain ⟨e1, e2⟩ := tlB_a (k := 2) (by decide) (by decide) v i x
    rw [e1, e2]; exact tl_d h hk (by omega) 10 e (by omega) x 2 (Or.inr rfl)
  · obtain ⟨e1, e2⟩ := tlB_b (k := 3) (by decide) v i x
    rw [e1, e2]; exact tl_3 h hk (by omega) 10 e (by omega) x
  · obtain ⟨e1, e2⟩ := tlB_a (k := 4) (by decide) (by decide) v i x
    rw [e1, e2]; exact tl_4 h hk (by omega) 9 e (by omega) x
  · obtain ⟨e1, e2⟩ := tlB_5 v i x
    rw [e1, e2]; exact tl_5 h hk (by omega) 9 e (by omega) x
  · obtain ⟨e1, e2⟩ := tlB_b (k := 6) (by decide) v i x
    rw [e1, e2]; exact tl_6 h hk (by omega) 9 e (by omega) x
