/-! A DOOR'S STATE: 0 number, 1 kind, 2 v, 3 sag, 4 pack, 5 6 waters, 7 8 paints, 9 .. 14 cuts, 15 lean, 16 month -/
def dmpS (S : Nat → Int32) : Int32 := (S 5 + S 6) / 2
def fctS (S : Nat → Int32) (l : Nat) : Int32 := if l = 0 then S 1 else if l = 1 then S 0 else if l = 2 then dmpS S / 10 else if l = 3 then S 3 else if l = 4 then S 7 + S 8 else S 16 - S 16 / 12 * 12
def swxS (cs : List Cls) (S : Nat → Int32) : Int32 := ((if swS cs = 0 then 1 else sumS 0 (fctS S) cs) * dmpS S) / 20
def swlS (cs : List Cls) (S : Nat → Int32) : Int32 := if S 1 = 1 then swxS cs S + S 2 else if S 1 = 4 then (swxS cs S + S 2) / 2 else if S 1 = 5 then mxI 0 (swxS cs S - 2) else swxS cs S
def bndS (S : Nat → Int32) : Int32 := if S 1 = 2 then 2 * (abI (S 5 - S 6) / 10) else if S 1 = 5 then 2 * (abI (S 5 - S 6) / 10) else abI (S 5 - S 6) / 10
def hngS (S : Nat → Int32) : Int32 := if S 1 = 3 then mxI 0 (S 3 - S 4) + S 2 else if S 1 = 6 then (mxI 0 (S 3 - S 4) + S 2) + S 15 / 2 else mxI 0 (S 3 - S 4)
def tkuS (p1 p2 p3 p4 p5 p6 : Int32) : Int32 := f_D_takenUp p1 p2 p3 p4 p5 p6 (zM 0)
def gapS (cs : List Cls) (S : Nat → Int32) (s : Nat) : Int32 := S (9 + s) - tkuS (Int32.ofNat s) (swlS cs S) (hngS S) (bndS S) (S 15) (S 4)
def watS (a w p : Int32) : Int32 := if p = 0 then w + (a - w) / 2 else w + (a - w) / 8
def takS (a : Int32) (S : Nat → Int32) : Nat → Int32 := fun i => if i = 5 then watS a (S 5) (S 7) else if i = 6 then watS a (S 6) (S 8) else S i
def pasS (cs : List Cls) (a : Int32) (S : Nat → Int32) : Nat → Int32 := fun i => if i = 3 then mnI 20 (S 3 + sumS 1 (fctS (takS a S)) cs) else if i = 15 then f_D_sunk (S 15) (S 16 + 1) (lastS 2 0 cs) (zM 0) else if i = 16 then S 16 + 1 else takS a S i
def okS (m : Nat) (S : Nat → Int32) : Prop := (0 ≤ S 1 ∧ S 1 ≤ 6) ∧ (0 ≤ S 2 ∧ S 2 ≤ 9) ∧ (0 ≤ S 3 ∧ S 3 ≤ 20) ∧ (0 ≤ S 4 ∧ S 4 ≤ 9) ∧ (0 ≤ S 5 ∧ S 5 ≤ 99) ∧ (0 ≤ S 6 ∧ S 6 ≤ 99) ∧ (S 7 = 0 ∨ S 7 = 1) ∧ (S 8 = 0 ∨ S 8 = 1) ∧ (∀ s, s < 6 → 0 ≤ S (9 + s) ∧ S (9 + s) ≤ 99) ∧ (0 ≤ S 15 ∧ S 15 ≤ 20) ∧ S 16 = Int32.ofNat m
/-! numbers -/
theorem ti_add {a b : Int32} (h1 : -2147483648 ≤ a.toInt + b.toInt) (h2 : a.toInt + b.toInt < 2147483648) : (a + b).toInt = a.toInt + b.toInt := by
  rw [Int32.toInt_add, Int.bmod_eq_of_le] <;> omega
theorem ti_sub {a b : Int32} (h1 : -2147483648 ≤ a.toInt - b.toInt) (h2 : a.toInt - b.toInt < 2147483648) : (a - b).toInt = a.toInt - b.toInt := by
  rw [Int32.toInt_sub, Int.bmod_eq_of_le] <;> omega
theorem ti_mul {a b : Int32} (h1 : -2147483648 ≤ a.toInt * b.toInt) (h2 : a.toInt * b.toInt < 2147483648) : (a * b).toInt = a.toInt * b.toInt := by
  rw [Int32.toInt_mul, Int.bmod_eq_of_le] <;> omega
theorem ti_div {a k : Int32} (hk : 0 < k.toInt) (ha : 0 ≤ a.toInt) : (a / k).toInt = a.toInt / k.toInt := by
  rw [Int32.toInt_div_of_ne_right _ _ (fun e => by rw [e] at hk; exact absurd hk (by decide)), Int.tdiv_eq_ediv_of_nonneg ha]
theorem ti_div_n {a k : Int32} (hk : 0 < k.toInt) (ha : a.toInt ≤ 0) : (a / k).toInt = -((-a.toInt) / k.toInt) := by
  rw [Int32.toInt_div_of_ne_right _ _ (fun e => by rw [e] at hk; exact absurd hk (by decide))]
  have : a.toInt = -(-a.toInt) := by omega
  rw [this, Int.neg_tdiv, Int.tdiv_eq_ediv_of_nonneg (by omega), Int.neg_neg]
theorem tl (n : Int) (h : -2147483648 ≤ n) (h2 : n < 2147483648) : (Int32.ofInt n).toInt = n := Int32.toInt_ofInt_of_le h h2
theorem bnd {a : Int32} {l h : Int} (h1 : Int32.ofInt l ≤ a ∧ a ≤ Int32.ofInt h) (hl : -2147483648 ≤ l ∧ l < 2147483648) (hh : -2147483648 ≤ h ∧ h < 2147483648) : l ≤ a.toInt ∧ a.toInt ≤ h := by
  have a1 := Int32.le_iff_toInt_le.mp h1.1
  have a2 := Int32.le_iff_toInt_le.mp h1.2
  rw [tl _ hl.1 hl.2] at a1
  rw [tl _ hh.1 hh.2] at a2
  exact ⟨a1, a2⟩
theorem bnd' {a : Int32} {l h : Int} (h1 : l ≤ a.toInt ∧ a.toInt ≤ h) (hl : -2147483648 ≤ l ∧ l < 2147483648) (hh : -2147483648 ≤ h ∧ h < 2147483648) : Int32.ofInt l ≤ a ∧ a ≤ Int32.ofInt h := by
  refine ⟨Int32.le_iff_toInt_le.mpr ?_, Int32.le_iff_toInt_le.mpr ?_⟩
  · rw [tl _ hl.1 hl.2]; exact h1.1
  · rw [tl _ hh.1 hh.2]; exact h1.2
theorem wat_ok {a w p : Int32} (ha : 0 ≤ a ∧ a ≤ 99) (hw : 0 ≤ w ∧ w ≤ 99) : 0 ≤ watS a w p ∧ watS a w p ≤ 99 := by
  have a1 := bnd (l := 0) (h := 99) ha (by decide) (by decide)
  have w1 := bnd (l := 0) (h := 99) hw (by decide) (by decide)
  have e := ti_sub (a := a) (b := w) (by omega) (by omega)
  refine bnd' (l := 0) (h := 99) ?_ (by decide) (by decide)
  have t2 : (2 : Int32).toInt = 2 := by decide
  have t8 : (8 : Int32).toInt = 8 := by decide
  unfold watS
  by_cases q : p = 0
  · rw [if_pos q]
    by_cases z : 0 ≤ (a - w).toInt
    · have d := ti_div (k := 2) (by decide) z
      rw [t2] at d
      rw [ti_add] <;> omega
    · have d := ti_div_n (a := a - w) (k := 2) (by decide) (by omega)
      rw [t2] at d
      rw [ti_add] <;> omega
  · rw [if_neg q]
    by_cases z : 0 ≤ (a - w).toInt
    · have d := ti_div (k := 8) (by decide) z
      rw [t8] at d
      rw [ti_add] <;> omega
    · have d := ti_div_n (a := a - w) (k := 8) (by decide) (by omega)
      rw [t8] at d
      rw [ti_add] <;> omega
theorem suS_ok {w : Int32} {F : Nat → Int32} : ∀ (cs : List Cls) (n : Int32) (m : Nat), m + cs.length ≤ 10 → (∀ q, q ∈ cs → 0 ≤ q.2.1 ∧ q.2.1 ≤ 99) → 0 ≤ n.toInt → n.toInt ≤ 99 * m → 0 ≤ (suS w F cs n).toInt ∧ (suS w F cs n).toInt ≤ 990
  | [], n, m, h, _, h1, h2 => by
    show 0 ≤ n.toInt ∧ n.toInt ≤ 990
    omega
  | q :: cs, n, m, h, hq, h1, h2 => by
    rw [suS_c]
    rw [List.length_cons] at h
    have b := hq q List.mem_cons_self
    have b1 := bnd (l := 0) (h := 99) b (by decide) (by decide)
    have hq' : ∀ q, q ∈ cs → 0 ≤ q.2.1 ∧ q.2.1 ≤ 99 := fun q hm => hq q (List.mem_cons_of_mem _ hm)
    by_cases z : q.1 = w ∧ hdS F q.2.2 = true
    · rw [if_pos z]
      have e := ti_add (a := n) (b := q.2.1) (by omega) (by omega)
      exact suS_ok cs _ (m + 1) (by omega) hq' (by omega) (by omega)
    · rw [if_neg z]
      exact suS_ok cs _ m (by omega) hq' h1 h2
theorem sumS_ok {w : Int32} {F : Nat → Int32} {cs : List Cls} (h : wfH cs) : 0 ≤ (sumS w F cs).toInt ∧ (sumS w F cs).toInt ≤ 990 :=
  suS_ok cs 0 0 (by have := h.1; omega) (fun q hq => ⟨(h.2 q hq).2.2.1, (h.2 q hq).2.2.2.1⟩) (by decide) (by decide)
theorem lastS_ok {w : Int32} : ∀ (cs : List Cls) (n : Int32), (∀ q, q ∈ cs → 0 ≤ q.2.1 ∧ q.2.1 ≤ 99) → 0 ≤ n ∧ n ≤ 99 → 0 ≤ lastS w n cs ∧ lastS w n cs ≤ 99
  | [], n, _, h => h
  | q :: cs, n, hq, h => by
    have b := hq q List.mem_cons_self
    have hq' : ∀ q, q ∈ cs → 0 ≤ q.2.1 ∧ q.2.1 ≤ 99 := fun q hm => hq q (List.mem_cons_of_mem _ hm)
    have hc : lastS w n (q :: cs) = lastS w (if q.1 = w then q.2.1 else n) cs := rfl
    rw [hc]
    by_cases e : q.1 = w
    · rw [if_pos e]; exact lastS_ok cs _ hq' b
    · rw [if_neg e]; exact lastS_ok cs _ hq' h
theorem lastS_wf {w n : Int32} {cs : List Cls} (h : wfH cs) (hn : 0 ≤ n ∧ n ≤ 99) : 0 ≤ lastS w n cs ∧ lastS w n cs ≤ 99 := lastS_ok cs n (fun q hq => ⟨(h.2 q hq).2.2.1, (h.2 q hq).2.2.2.1⟩) hn
theorem dmp_ok {m : Nat} {S : Nat → Int32} (h : okS m S) : 0 ≤ (dmpS S).toInt ∧ (dmpS S).toInt ≤ 99 := by
  obtain ⟨-, -, -, -, h5, h6, -⟩ := h
  have a1 := bnd (l := 0) (h := 99) h5 (by decide) (by decide)
  have a2 := bnd (l := 0) (h := 99) h6 (by decide) (by decide)
  have e := ti_add (a := S 5) (b := S 6) (by omega) (by omega)
  have d := ti_div (a := S 5 + S 6) (k := 2) (by decide) (by omega)
  have t2 : (2 : Int32).toInt = 2 := by decide
  rw [t2] at d
  show 0 ≤ ((S 5 + S 6) / 2).toInt ∧ _
  unfold dmpS
  omega
theorem swx_ok {m : Nat} {S : Nat → Int32} {cs : List Cls} (h : okS m S) (hw : wfH cs) : 0 ≤ swxS cs S ∧ swxS cs S ≤ 5000 := by
  have d := dmp_ok h
  have s := sumS_ok (w := 0) (F := fctS S) hw
  refine bnd' (l := 0) (h := 5000) ?_ (by decide) (by decide)
  unfold swxS
  have key : ∀ x : Int32, 0 ≤ x.toInt → x.toInt ≤ 990 → 0 ≤ ((x * dmpS S) / 20).toInt ∧ ((x * dmpS S) / 20).toInt ≤ 5000 := fun x h1 h2 => by
    have b1 : 0 ≤ x.toInt * (dmpS S).toInt := Int.mul_nonneg h1 d.1
    have b2 : x.toInt * (dmpS S).toInt ≤ 990 * 99 := Int.mul_le_mul h2 d.2 d.1 (by decide)
    have e := ti_mul (a := x) (b := dmpS S) (by omega) (by omega)
    have q := ti_div (a := x * dmpS S) (k := 20) (by decide) (by omega)
    have t20 : (20 : Int32).toInt = 20 := by decide
    rw [t20] at q
    omega
  by_cases z : swS cs = 0
  · rw [if_pos z]; exact key 1 (by decide) (by decide)
  · rw [if_neg z]; exact key _ s.1 s.2
theorem oN_mod {m : Nat} (h : m < 1000000) : Int32.ofNat m - Int32.ofNat m / 12 * 12 = Int32.ofNat (m % 12) := by
  have e1 : (Int32.ofNat m).toInt = m := oN_int (by omega)
  have t : (12 : Int32).toInt = 12 := by decide
  have d := ti_div (a := Int32.ofNat m) (k := 12) (by decide) (by omega)
  rw [t] at d
  have q := ti_mul (a := Int32.ofNat m / 12) (b := 12) (by rw [t]; omega) (by rw [t]; omega)
  rw [t] at q
  have s := ti_sub (a := Int32.ofNat m) (b := Int32.ofNat m / 12 * 12) (by omega) (by omega)
  apply Int32.toInt_inj.mp
  rw [oN_int (by omega)]
  omega
theorem pas_ok {m : Nat} {S : Nat → Int32} {cs : List Cls} (h : okS m S) (hw : wfH cs) {a : Int32} (ha : 0 ≤ a ∧ a ≤ 99) : okS (m + 1) (pasS cs a S) := by
  have hs := sumS_ok (w := 1) (F := fctS (takS a S)) hw
  have hl := lastS_wf (w := 2) (n := 0) hw (by decide)
  obtain ⟨h1, h2, h3, h4, h5, h6, h7, h8, h9, h10, h11⟩ := h
  refine ⟨h1, h2, ?_, h4, wat_ok ha h5, wat_ok ha h6, h7, h8, ?_, ?_, ?_⟩
  · show 0 ≤ mnI 20 (S 3 + sumS 1 (fctS (takS a S)) cs) ∧ mnI 20 (S 3 + sumS 1 (fctS (takS a S)) cs) ≤ 20
    have b3 := bnd (l := 0) (h := 20) h3 (by decide) (by decide)
    have e := ti_add (a := S 3) (b := sumS 1 (fctS (takS a S)) cs) (by omega) (by omega)
    have q := bnd' (l := 0) (h := 1010) (a := S 3 + sumS 1 (fctS (takS a S)) cs) (by omega) (by decide) (by decide)
    have q1 : (0 : Int32) ≤ S 3 + sumS 1 (fctS (takS a S)) cs := q.1
    generalize S 3 + sumS 1 (fctS (takS a S)) cs = x at *
    unfold mnI
    split
    · exact ⟨q1, by grind⟩
    · exact ⟨by decide, by decide⟩
  · intro s hs'
    have e : pasS cs a S (9 + s) = S (9 + s) := by
      unfold pasS takS
      rw [if_neg (by omega), if_neg (by omega), if_neg (by omega), if_neg (by omega), if_neg (by omega)]
    rw [e]; exact h9 s hs'
  · show 0 ≤ f_D_sunk (S 15) (S 16 + 1) (lastS 2 0 cs) (zM 0) ∧ f_D_sunk (S 15) (S 16 + 1) (lastS 2 0 cs) (zM 0) ≤ 20
    unfold f_D_sunk
    generalize lastS 2 0 cs = y at *
    split
    · unfold mnI
      split <;> grind
    · exact h10
  · show S 16 + 1 = _
    rw [h11, oN_s]
