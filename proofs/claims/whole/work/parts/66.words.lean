/-! WORDS -/
def wl (w : Nat) : List Int32 := ([[115, 119, 101, 108, 108, 32], [100, 114, 97, 119, 32], [115, 105, 110, 107, 32], [100, 114, 97, 117, 103, 104, 116, 32]] : List (List Int32)).getD w []
def lc (T : Nat → Int32) (n : Nat) : List Int32 → Nat → Nat
  | [], _ => 0
  | c :: cs, a => if nx T n a = c then lc T n cs (a + 1) + 1 else 0
theorem lc_le (T : Nat → Int32) (n : Nat) : ∀ (cs : List Int32) (a : Nat), lc T n cs a ≤ cs.length
  | [], _ => Nat.le_refl 0
  | c :: cs, a => by
    have := lc_le T n cs (a + 1)
    simp only [lc]
    split
    · rw [List.length_cons]; omega
    · omega
theorem lc_n {T : Nat → Int32} {n : Nat} : ∀ (cs : List Int32) (a : Nat), (∀ c, c ∈ cs → 0 ≤ c) → a ≤ n → a + lc T n cs a ≤ n
  | [], a, _, h => h
  | c :: cs, a, hc, h => by
    simp only [lc]
    by_cases q : nx T n a = c
    · have := nx_lt q (hc c List.mem_cons_self)
      have ih := lc_n (T := T) (n := n) cs (a + 1) (fun x hx => hc x (List.mem_cons_of_mem _ hx)) (by omega)
      rw [if_pos q]; omega
    · rw [if_neg q]; omega
theorem like_l2 {T : Nat → Int32} {n a p L : Nat} {C : Mem} {code ws : List Int32} (h : CX T n C a code) (ht : txt T n) (hL : ws.length = L) (hL9 : L < 10) (hlen : f_St_length p C = Int32.ofNat L) (hch : ∀ j, j < L → f_St_charAt p (Int32.ofNat j) C = some (ws.getD j 0)) (hpos : ∀ c, c ∈ ws → 0 ≤ c) : ∀ (k fuel j : Nat), k < fuel → j + k = L → j + a ≤ n → f_Tx_alikeWith_l2 p C fuel (Int32.ofNat j) = some (Int32.ofNat (j + lc T n (ws.drop j) (a + j)))
  | k, 0, _, h, _, _ => by omega
  | 0, fuel + 1, j, _, hj, _ => by
    have c : Int32.ofNat L ≤ Int32.ofNat j := (oN_le (by omega) (by omega)).mpr (by omega)
    simp only [f_Tx_alikeWith_l2, hlen, if_pos c]
    rw [List.drop_of_length_le (by omega)]; rfl
  | k + 1, fuel + 1, j, _, hj, hjn => by
    obtain ⟨x1, x2, x3, x4, x5, x6, x7⟩ := id h
    have hn := ht.1
    have c : ¬ Int32.ofNat L ≤ Int32.ofNat j := fun z => by have := (oN_le (by omega) (by omega)).mp z; omega
    have sm : Int32.ofNat a + Int32.ofNat j = Int32.ofNat (a + j) := (Int32.ofNat_add a j).symm
    have hjl : j < ws.length := by omega
    simp only [f_Tx_alikeWith_l2, hlen, if_neg c, x1, x3, sm]
    rw [drop_c hjl 0]
    simp only [lc]
    by_cases q : a + j < n
    · have hle : ¬ Int32.ofNat n ≤ Int32.ofNat (a + j) := fun z => by have := (oN_le (by omega) (by omega)).mp z; omega
      have e : nx T n (a + j) = T (a + j) := if_pos q
      rw [if_neg hle, gd_pos (oN_in (by omega) (by omega)), hch j (by omega), bdg, oN_ix (by omega), x2 _ q, e]
      by_cases z : T (a + j) = ws.getD j 0
      · rw [if_pos z, if_pos z, lte, oN_s, like_l2 h ht hL hL9 hlen hch hpos k fuel (j + 1) (by omega) (by omega) (by omega), show a + (j + 1) = a + j + 1 by omega, show j + 1 + lc T n (ws.drop (j + 1)) (a + j + 1) = j + (lc T n (ws.drop (j + 1)) (a + j + 1) + 1) by omega]
      · rw [if_neg z, if_neg z]; rfl
    · have hle : Int32.ofNat n ≤ Int32.ofNat (a + j) := (oN_le (by omega) (by omega)).mpr (by omega)
      have e : nx T n (a + j) = -1 := if_neg q
      have g := hpos _ (getD_mem hjl 0)
      have n1 : ¬ (-1 : Int32) = ws.getD j 0 := fun w => by rw [← w] at g; exact absurd g (by decide)
      rw [if_pos hle, e, if_neg n1]; rfl
theorem chM (p : Nat) (x : Int32) (C : Mem) : f_St_charAt p x C = f_St_charAt p x (zM 0) := Eq.trans rfl rfl
def okW (w : Nat) : Bool := (f_St_length (w * 131072 + 19) (zM 0) == Int32.ofNat (wl w).length) && (List.range (wl w).length).all (fun j => f_St_charAt (w * 131072 + 19) (Int32.ofNat j) (zM 0) == some ((wl w).getD j 0)) && (wl w).all (fun c => decide (0 ≤ c)) && decide ((wl w).length < 10) && decide ((w * 131072 + 19) % 131072 = 19 ∧ (w * 131072 + 19) / 131072 < 6)
theorem okW_is : (List.range 4).all okW = true := by decide +kernel
theorem like_w {T : Nat → Int32} {n a w : Nat} {C : Mem} {code : List Int32} (h : CX T n C a code) (ht : txt T n) (hw : w < 4) : f_Tx_alikeWith (w * 131072 + 19) C = some (Int32.ofNat (lc T n (wl w) a)) ∧ f_St_length (w * 131072 + 19) C = Int32.ofNat (wl w).length ∧ (w * 131072 + 19) % 131072 = 19 ∧ (w * 131072 + 19) / 131072 < 6 ∧ (∀ c, c ∈ wl w → 0 ≤ c) ∧ (wl w).length < 10 := by
  have := List.all_eq_true.mp okW_is w (List.mem_range.mpr hw)
  simp only [okW, Bool.and_eq_true, beq_iff_eq, decide_eq_true_eq] at this
  obtain ⟨⟨⟨⟨a1, a2⟩, a3⟩, a4⟩, a5⟩ := this
  have hl : f_St_length (w * 131072 + 19) C = Int32.ofNat (wl w).length := a1
  have hpos : ∀ c, c ∈ wl w → 0 ≤ c := fun c hc => of_decide_eq_true (List.all_eq_true.mp a3 c hc)
  refine ⟨?_, hl, a5.1, a5.2, hpos, a4⟩
  have := like_l2 h ht rfl a4 hl (fun j hj => by rw [chM]; exact beq_iff_eq.mp (List.all_eq_true.mp a2 j (List.mem_range.mpr hj))) hpos (wl w).length 200 0 (by omega) (by omega) (by have := h.2.2.2.1; omega)
  rw [Nat.zero_add] at this
  exact this
/-- what the class makes of the four: the word, or -1, and how far -/
def woC (T : Nat → Int32) (n a : Nat) : Int32 × Nat :=
  if lc T n (wl 0) a = 6 then (0, 6) else if lc T n (wl 1) a = 5 then (1, 5) else if lc T n (wl 2) a = 5 then (2, 5) else if lc T n (wl 3) a = 8 then (3, 8) else (-1, max (max (max (lc T n (wl 0) a) (lc T n (wl 1) a)) (lc T n (wl 2) a)) (lc T n (wl 3) a))
theorem mx_nat {i j : Nat} (hi' : i < 100) (hj : j < 100) : mxI (Int32.ofNat i) (Int32.ofNat j) = Int32.ofNat (max i j) := by
  unfold mxI
  by_cases q : i < j
  · rw [if_pos ((oN_lt (by omega) (by omega)).mpr q), Nat.max_eq_right (by omega)]
  · rw [if_neg (fun z => q ((oN_lt (by omega) (by omega)).mp z)), Nat.max_eq_left (by omega)]
theorem oN_ne {i j : Nat} (hi' : i < 100) (hj : j < 100) (h : i ≠ j) : ¬ Int32.ofNat i = Int32.ofNat j := fun e => h (by
  have a := oN_ix (i := i) (by omega)
  have b := oN_ix (i := j) (by omega)
  rw [e] at a
  omega)
theorem word_end {fuel : Nat} {v w : Int32} {C : Mem} (h : (4 : Int32) ≤ w) : f_Tx_takenWord_l4 (fuel + 1) v w C = some (-1, setI C 6684679 2 (mI C 6684679 2 + v)) := by
  simp only [f_Tx_takenWord_l4, if_pos h, lte]
theorem word_c {T : Nat → Int32} {n a : Nat} {C : Mem} {code : List Int32} (h : CX T n C a code) (ht : txt T n) : ∃ C', f_Tx_takenWord C = some ((woC T n a).1, C') ∧ CX T n C' (a + (woC T n a).2) code ∧ Fz ctP C C' := by
  have hx3 := h.2.2.1
  have han := h.2.2.2.1
  obtain ⟨a0, b0, c0, d0, e0, _⟩ := like_w h ht (w := 0) (by decide)
  obtain ⟨a1, b1, c1, d1, e1, _⟩ := like_w h ht (w := 1) (by decide)
  obtain ⟨a2, b2', c2, d2, e2, _⟩ := like_w h ht (w := 2) (by decide)
  obtain ⟨a3, b3, c3, d3, e3, _⟩ := like_w h ht (w := 3) (by decide)
  have n0 := lc_n (T := T) (n := n) (wl 0) a e0 han
  have n1 := lc_n (T := T) (n := n) (wl 1) a e1 han
  have n2 := lc_n (T := T) (n := n) (wl 2) a e2 han
  have n3 := lc_n (T := T) (n := n) (wl 3) a e3 han
  have l0 := lc_le T n (wl 0) a
  have l1 := lc_le T n (wl 1) a
  have l2 := lc_le T n (wl 2) a
  have l3 := lc_le T n (wl 3) a
  have g0 : (wl 0).length = 6 := rfl
  have g1 : (wl 1).length = 5 := rfl
  have g2 : (wl 2).length = 5 := rfl
  have g3 : (wl 3).length = 8 := rfl
  rw [g0] at b0 l0
  rw [g1] at b1 l1
  rw [g2] at b2' l2
  rw [g3] at b3 l3
  have o0 : f_Tx_wordOf 0 C = 0 * 131072 + 19 := rfl
  have o1 : f_Tx_wordOf (0 + 1) C = 1 * 131072 + 19 := rfl
  have o2 : f_Tx_wordOf (0 + 1 + 1) C = 2 * 131072 + 19 := rfl
  have o3 : f_Tx_wordOf (0 + 1 + 1 + 1) C = 3 * 131072 + 19 := rfl
  have nx0 : mxI 0 (Int32.ofNat (lc T n (wl 0) a)) = Int32.ofNat (lc T n (wl 0) a) := by
    have := mx_nat (i := 0) (j := lc T n (wl 0) a) (by omega) (by omega)
    rw [Nat.max_eq_right (by omega)] at this
    exact this
  have step : ∀ (fuel : Nat) (v w : Int32) (p L m : Nat), ¬ (4 : Int32) ≤ w → f_Tx_wordOf w C = p → p % 131072 = 19 ∧ p / 131072 < 6 → f_Tx_alikeWith p C = some (Int32.ofNat m) → f_St_length p C = Int32.ofNat L → L < 100 → m < 100 → f_Tx_takenWord_l4 (fuel + 1) v w C = if m = L then some (w, setI C 6684679 2 (Int32.ofNat (a + L))) else f_Tx_takenWord_l4 fuel (mxI v (Int32.ofNat m)) (w + 1) C := fun fuel v w p L m hw hp hpp ha hl hL hm => by
    have sm : Int32.ofNat a + Int32.ofNat m = Int32.ofNat (a + m) := (Int32.ofNat_add a m).symm
    simp only [f_Tx_takenWord_l4, if_neg hw, lte, hp, gd_pos hpp, ha, bdg, hl, hx3, sm]
    by_cases q : m = L
    · rw [if_pos q, q, if_pos rfl]
    · rw [if_neg q, if_neg (oN_ne hm hL q)]
  have s0 := step 199 0 0 _ _ _ (by decide) o0 ⟨c0, d0⟩ a0 b0 (by omega) (by omega)
  have s1 := step 198 (mxI 0 (Int32.ofNat (lc T n (wl 0) a))) (0 + 1) _ _ _ (by decide) o1 ⟨c1, d1⟩ a1 b1 (by omega) (by omega)
  have s2 := step 197 (mxI (mxI 0 (Int32.ofNat (lc T n (wl 0) a))) (Int32.ofNat (lc T n (wl 1) a))) (0 + 1 + 1) _ _ _ (by decide) o2 ⟨c2, d2⟩ a2 b2' (by omega) (by omega)
  have s3 := step 196 (mxI (mxI (mxI 0 (Int32.ofNat (lc T n (wl 0) a))) (Int32.ofNat (lc T n (wl 1) a))) (Int32.ofNat (lc T n (wl 2) a))) (0 + 1 + 1 + 1) _ _ _ (by decide) o3 ⟨c3, d3⟩ a3 b3 (by omega) (by omega)
  have mxs : mxI (mxI (mxI (mxI 0 (Int32.ofNat (lc T n (wl 0) a))) (Int32.ofNat (lc T n (wl 1) a))) (Int32.ofNat (lc T n (wl 2) a))) (Int32.ofNat (lc T n (wl 3) a)) = Int32.ofNat (max (max (max (lc T n (wl 0) a) (lc T n (wl 1) a)) (lc T n (wl 2) a)) (lc T n (wl 3) a)) := by
    rw [nx0, mx_nat (by omega) (by omega), mx_nat (by omega) (by omega), mx_nat (by omega) (by omega)]
  have s4 : f_Tx_takenWord_l4 196 (mxI (mxI (mxI (mxI 0 (Int32.ofNat (lc T n (wl 0) a))) (Int32.ofNat (lc T n (wl 1) a))) (Int32.ofNat (lc T n (wl 2) a))) (Int32.ofNat (lc T n (wl 3) a))) (0 + 1 + 1 + 1 + 1) C = some (-1, setI C 6684679 2 (Int32.ofNat (a + max (max (max (lc T n (wl 0) a) (lc T n (wl 1) a)) (lc T n (wl 2) a)) (lc T n (wl 3) a)))) := by
    rw [mxs]
    have c4 : (4 : Int32) ≤ 0 + 1 + 1 + 1 + 1 := by decide
    have sm : ∀ m, Int32.ofNat a + Int32.ofNat m = Int32.ofNat (a + m) := fun m => (Int32.ofNat_add a m).symm
    rw [word_end (fuel := 195) c4, hx3, sm]
  have top : f_Tx_takenWord C = f_Tx_takenWord_l4 200 0 0 C := rfl
  unfold woC
  by_cases q0 : lc T n (wl 0) a = 6
  · rw [if_pos q0, top, s0, if_pos q0]
    exact ⟨_, rfl, h.at (by omega) (by omega), cx_fr _⟩
  rw [if_neg q0]
  by_cases q1 : lc T n (wl 1) a = 5
  · rw [if_pos q1, top, s0, if_neg q0, s1, if_pos q1]
    exact ⟨_, rfl, h.at (by omega) (by omega), cx_fr _⟩
  rw [if_neg q1]
  by_cases q2 : lc T n (wl 2) a = 5
  · rw [if_pos q2, top, s0, if_neg q0, s1, if_neg q1, s2, if_pos q2]
    exact ⟨_, rfl, h.at (by omega) (by omega), cx_fr _⟩
  rw [if_neg q2]
  by_cases q3 : lc T n (wl 3) a = 8
  · rw [if_pos q3, top, s0, if_neg q0, s1, if_neg q1, s2, if_neg q2, s3, if_pos q3]
    exact ⟨_, rfl, h.at (by omega) (by omega), cx_fr _⟩
  rw [if_neg q3, top, s0, if_neg q0, s1, if_neg q1, s2, if_neg q2, s3, if_neg q3, s4]
  exact ⟨_, rfl, h.at (by omega) (by omega), cx_fr _⟩
/-! the model chooses one by what stands there -/
def woM (T : Nat → Int32) (n a : Nat) : Nat := if nx T n a = 115 then (if nx T n (a + 1) = 105 then 2 else 0) else if nx T n (a + 3) = 117 ∧ nx T n (a + 2) = 97 then 3 else 1
theorem wo_eq (T : Nat → Int32) (n a : Nat) : woC T n a = if lc T n (wl (woM T n a)) a = (wl (woM T n a)).length then (Int32.ofNat (woM T n a), (wl (woM T n a)).length) else (-1, lc T n (wl (woM T n a)) a) := by
  have h0 : lc T n (wl 0) a = if nx T n a = 115 then (if nx T n (a + 1) = 119 then lc T n [101, 108, 108, 32] (a + 2) + 1 else 0) + 1 else 0 := rfl
  have h1 : lc T n (wl 1) a = if nx T n a = 100 then (if nx T n (a + 1) = 114 then (if nx T n (a + 2) = 97 then (if nx T n (a + 3) = 119 then lc T n [32] (a + 4) + 1 else 0) + 1 else 0) + 1 else 0) + 1 else 0 := rfl
  have h2 : lc T n (wl 2) a = if nx T n a = 115 then (if nx T n (a + 1) = 105 then lc T n [110, 107, 32] (a + 2) + 1 else 0) + 1 else 0 := rfl
  have h3 : lc T n (wl 3) a = if nx T n a = 100 then (if nx T n (a + 1) = 114 then (if nx T n (a + 2) = 97 then (if nx T n (a + 3) = 117 then lc T n [103, 104, 116, 32] (a + 4) + 1 else 0) + 1 else 0) + 1 else 0) + 1 else 0 := rfl
  have g0 : (wl 0).length = 6 := rfl
  have g1 : (wl 1).length = 5 := rfl
  have g2 : (wl 2).length = 5 := rfl
  have g3 : (wl 3).length = 8 := rfl
  have l0 := lc_le T n [101, 108, 108, 32] (a + 2)
  have l1 := lc_le T n [32] (a + 4)
  have l2 := lc_le T n [110, 107, 32] (a + 2)
  have l3 := lc_le T n [103, 104, 116, 32] (a + 4)
  simp only [List.length_cons, List.length_nil] at l0 l1 l2 l3
  unfold woC woM
  by_cases s : nx T n a = 115
  · have nd : ¬ nx T n a = 100 := by rw [s]; decide
    rw [if_pos s] at h0 h2
    rw [if_neg nd] at h1 h3
    rw [if_pos s]
    by_cases i : nx T n (a + 1) = 105
    · have nw : ¬ nx T n (a + 1) = 119 := by rw [i]; decide
      rw [if_neg nw] at h0
      rw [if_pos i] at h2
      rw [if_pos i, g2, h0, h1, h2, h3]
      generalize lc T n [110, 107, 32] (a + 2) = x at *
      rw [if_neg (by omega), if_neg (by omega), if_neg (show ¬ (0 : Nat) = 8 by omega)]
      by_cases y : x + 1 + 1 = 5
      · rw [if_pos y, if_pos y]; rfl
      · rw [if_neg y, if_neg y]
        congr 1 <;> omega
    · rw [if_neg i] at h2
      rw [if_neg i, g0, h0, h1, h2, h3]
      by_cases w : nx T n (a + 1) = 119
      · rw [if_pos w]
        generalize lc T n [101, 108, 108, 32] (a + 2) = x at *
        rw [if_neg (show ¬ (0 : Nat) = 5 by omega), if_neg (show ¬ 0 + 1 = 5 by omega), if_neg (show ¬ (0 : Nat) = 8 by omega)]
        by_cases y : x + 1 + 1 = 6
        · rw [if_pos y, if_pos y]; rfl
        · rw [if_neg y, if_neg y]
          congr 1 <;> omega
      · rw [if_neg w]; rfl
  · rw [if_neg s] at h0 h2
    rw [if_neg s]
    by_cases u : nx T n (a + 3) = 117 ∧ nx T n (a + 2) = 97
    · have nw : ¬ nx T n (a + 3) = 119 := by rw [u.1]; decide
      rw [if_neg nw, if_pos u.2] at h1
      rw [if_pos u.1, if_pos u.2] at h3
      rw [if_pos u, g3, h0, h1, h2, h3]
      generalize lc T n [103, 104, 116, 32] (a + 4) = x at *
      by_cases d : nx T n a = 100
      · rw [if_pos d, if_pos d]
        by_cases r : nx T n (a + 1) = 114
        · rw [if_pos r, if_pos r, if_neg (show ¬ (0 : Nat) = 6 by omega), if_neg (show ¬ 0 + 1 + 1 + 1 = 5 by omega), if_neg (show ¬ (0 : Nat) = 5 by omega)]
          by_cases y : x + 1 + 1 + 1 + 1 = 8
          · rw [if_pos y, if_pos y]; rfl
          · rw [if_neg y, if_neg y]
            congr 1 <;> omega
        · rw [if_neg r, if_neg r]; rfl
      · rw [if_neg d, if_neg d]; rfl
    · rw [if_neg u, g1, h0, h1, h2, h3]
      generalize lc T n [32] (a + 4) = x at *
      by_cases d : nx T n a = 100
      · rw [if_pos d, if_pos d]
        by_cases r : nx T n (a + 1) = 114
        · rw [if_pos r, if_pos r]
          by_cases z : nx T n (a + 2) = 97
          · have nu : ¬ nx T n (a + 3) = 117 := fun e => u ⟨e, z⟩
            rw [if_pos z, if_pos z, if_neg nu]
            by_cases w : nx T n (a + 3) = 119
            · rw [if_pos w, if_neg (show ¬ (0 : Nat) = 6 by omega), if_neg (show ¬ (0 : Nat) = 5 by omega), if_neg (show ¬ 0 + 1 + 1 + 1 = 8 by omega)]
              by_cases y : x + 1 + 1 + 1 + 1 = 5
              · rw [if_pos y, if_pos y]; rfl
              · rw [if_neg y, if_neg y]
                congr 1 <;> omega
            · rw [if_neg w]; rfl
          · rw [if_neg z, if_neg z]; rfl
        · rw [if_neg r, if_neg r]; rfl
      · rw [if_neg d, if_neg d]; rfl
