/-! THE CELLS THAT GO TOGETHER: the i-th of the class and the i-th of the model hold the same -/
/-- of a Home at h, the i-th cell -/
def ceH (h i : Nat) : Nat × Nat :=
  if i < 12 then (h + 131462, i)
  else if i < 60 then
    (let d := h + 655359 + 655360 * ((i - 12) / 12)
     let f := (i - 12) % 12
     if f = 0 then (d, 1) else if f = 1 then (d, 2) else if f = 2 then (d, 3) else if f = 3 then (d, 4) else if f = 4 then (d + 131143, 0) else if f = 5 then (d + 131143, 1) else (d + 393415, f - 6))
  else if i < 64 then (h, i - 58)
  else if i = 64 then (h, 8)
  else if i < 77 then (h + 393606, i - 65)
  else (h + 524678, i - 77)
/-- the model's: b = 0 now, 1 in the image -/
def meH (b i : Nat) : Nat × Nat :=
  if i < 12 then (if b = 0 then 12583307 else 15729035, i)
  else if i < 60 then
    (let j := (i - 12) / 12
     let f := (i - 12) % 12
     if f = 0 then (if b = 0 then 12714123 else 15859851, j) else if f = 1 then (if b = 0 then 12845195 else 15990923, j) else if f = 2 then (if b = 0 then 13369483 else 16515211, j) else if f = 3 then (if b = 0 then 13500555 else 16646283, j) else if f = 4 then (if b = 0 then 12976267 else 16121995, j) else if f = 5 then (if b = 0 then 13107339 else 16253067, j) else (if b = 0 then 13632267 else 16777995, 6 * j + (f - 6)))
  else if i = 60 then (12451850, if b = 0 then 1 else 42)
  else if i = 61 then (12451850, if b = 0 then 2 else 43)
  else if i = 62 then (12451850, if b = 0 then 3 else 44)
  else if i = 63 then (12451850, if b = 0 then 13 else 41)
  else if i = 64 then (12451850, if b = 0 then 37 else 45)
  else if i < 77 then (if b = 0 then 15466891 else 16908683, i - 65)
  else (if b = 0 then 15597963 else 17039755, i - 77)
def ce (i : Nat) : Nat × Nat :=
  if i < 89 then ceH 131077 i
  else if i < 178 then ceH 3407877 (i - 89)
  else if i = 178 then (9, 2)
  else if i = 179 then (9, 6)
  else if i = 180 then (6684679, 0)
  else if i < 281 then (6818955, i - 181)
  else if i = 281 then (10485761, 1)
  else if i < 302 then (10617483, i - 282)
  else if i < 308 then (10878984 + 262144 * (i - 302), 0)
  else (10878984 + 262144 * (i - 308), 1)
def me (i : Nat) : Nat × Nat :=
  if i < 89 then meH 0 i
  else if i < 178 then meH 1 (i - 89)
  else if i = 178 then (12451850, 40)
  else if i = 179 then (12451850, 12)
  else if i = 180 then (12451850, 14)
  else if i < 281 then (13765771, i - 181)
  else if i = 281 then (12451850, 57)
  else if i < 302 then (17171083, i - 282)
  else if i < 308 then (17301707, i - 302)
  else (17432779, i - 308)
def nC : Nat := 314
def rdI (C : Mem) (p : Nat × Nat) : Int32 := mI C p.1 p.2
def wrI (C : Mem) (p : Nat × Nat) (v : Int32) : Mem := setI C p.1 p.2 v
theorem rd_wr (C : Mem) (p q : Nat × Nat) (v : Int32) : rdI (wrI C p v) q = if q = p then v else rdI C q := by
  show (if q.1 = p.1 ∧ q.2 = p.2 then v else mI C q.1 q.2) = _
  by_cases h : q = p
  · rw [if_pos h, if_pos ⟨by rw [h], by rw [h]⟩]
  · rw [if_neg h, if_neg fun ⟨a, b⟩ => h (Prod.ext a b)]; rfl
/-- what stands in a cell lies between these -/
def loH (i : Nat) : Int32 := if i = 63 then -1 else if 77 ≤ i then -99 else 0
def hiH (i : Nat) : Int32 :=
  if i < 12 then 99
  else if i < 60 then
    (let f := (i - 12) % 12
     if f = 0 then 6 else if f = 1 then 9 else if f = 2 then 20 else if f = 3 then 9 else 99)
  else if i = 60 then 4 else if i = 61 then 20 else if i = 62 then 9999 else if i = 63 then 5 else if i = 64 then 12 else if i < 77 then 5 else 99
def lo (i : Nat) : Int32 := if i < 89 then loH i else if i < 178 then loH (i - 89) else if 302 ≤ i ∧ i < 308 then -1 else 0
def hi (i : Nat) : Int32 := if i < 89 then hiH i else if i < 178 then hiH (i - 89) else if i = 178 then 1 else if i = 179 then 6 else if i = 180 then 100 else if i < 281 then 127 else if i = 281 then 100000 else if i < 302 then 100 else if i < 308 then 4 else 60
def inImg (i : Nat) : Prop := 89 ≤ i ∧ i < 178
def RI (C M : Mem) : Prop := ∀ i, i < nC → (¬ inImg i ∨ rdI C (ce 178) = 1) → rdI C (ce i) = rdI M (me i) ∧ lo i ≤ rdI C (ce i) ∧ rdI C (ce i) ≤ hi i
def injT (f : Nat → Nat × Nat) : Bool := (List.range nC).all fun i => (List.range i).all fun j => !(f i == f j)
theorem injT_of {f : Nat → Nat × Nat} (h : injT f = true) {i j : Nat} (hi : i < nC) (hj : j < nC) (e : f i = f j) : i = j := by
  have h2 := List.all_eq_true.mp h
  rcases Nat.lt_trichotomy i j with q | q | q
  · have := List.all_eq_true.mp (h2 j (List.mem_range.mpr hj)) i (List.mem_range.mpr q)
    simp [e] at this
  · exact q
  · have := List.all_eq_true.mp (h2 i (List.mem_range.mpr hi)) j (List.mem_range.mpr q)
    simp [e] at this
theorem ce_inj {i j : Nat} (hi : i < nC) (hj : j < nC) (e : ce i = ce j) : i = j := injT_of (by decide +kernel) hi hj e
theorem me_inj {i j : Nat} (hi : i < nC) (hj : j < nC) (e : me i = me j) : i = j := injT_of (by decide +kernel) hi hj e
/-- both set the same cell to the same -/
theorem RI.set {C M : Mem} (h : RI C M) {i : Nat} (hi' : i < nC) (h178 : i ≠ 178) {v : Int32} (h1 : lo i ≤ v) (h2 : v ≤ hi i) : RI (wrI C (ce i) v) (wrI M (me i) v) := by
  intro k hk hm
  have e178 : rdI (wrI C (ce i) v) (ce 178) = rdI C (ce 178) := by
    rw [rd_wr, if_neg fun e => h178 (ce_inj (by decide) hi' e).symm]
  rw [e178] at hm
  rw [rd_wr, rd_wr]
  by_cases e : k = i
  · subst e
    rw [if_pos rfl, if_pos rfl]
    exact ⟨rfl, h1, h2⟩
  · rw [if_neg fun q => e (ce_inj hk hi' q), if_neg fun q => e (me_inj hk hi' q)]
    exact h k hk hm
/-- a cell that goes with none -/
def cJ (p : Nat × Nat) : Prop := ∀ i, i < nC → ce i ≠ p
def mJ (p : Nat × Nat) : Prop := ∀ i, i < nC → me i ≠ p
theorem RI.junkC {C M : Mem} (h : RI C M) {p : Nat × Nat} (hp : cJ p) (v : Int32) : RI (wrI C p v) M := by
  intro k hk hm
  rw [rd_wr, if_neg (hp 178 (by decide))] at hm
  rw [rd_wr, if_neg (hp k hk)]
  exact h k hk hm
theorem RI.junkM {C M : Mem} (h : RI C M) {p : Nat × Nat} (hp : mJ p) (v : Int32) : RI C (wrI M p v) := by
  intro k hk hm
  rw [rd_wr, if_neg (hp k hk)]
  exact h k hk hm
theorem RI_0 : RI C0 M0 := by
  have key : (List.range nC).all (fun i => (decide (89 ≤ i) && decide (i < 178)) || (rdI C0 (ce i) == rdI M0 (me i) && decide (lo i ≤ rdI C0 (ce i)) && decide (rdI C0 (ce i) ≤ hi i))) = true := by decide +kernel
  have k178 : rdI C0 (ce 178) = 0 := by decide +kernel
  intro i hi' hm
  rw [k178] at hm
  have := List.all_eq_true.mp key i (List.mem_range.mpr hi')
  simp only [Bool.or_eq_true, Bool.and_eq_true, decide_eq_true_eq, beq_iff_eq] at this
  rcases this with q | ⟨⟨q1, q2⟩, q3⟩
  · rcases hm with hm | hm
    · exact absurd q hm
    · exact absurd hm (by decide)
  · exact ⟨q1, q2, q3⟩
