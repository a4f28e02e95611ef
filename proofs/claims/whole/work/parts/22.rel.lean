/-! HOUSES AS LISTS OF CLAUSES (word, number, code), AND WHAT THE TWO MEMORIES SHARE -/
abbrev Cls : Type := Int32 × Int32 × List Int32
/-- how many truths wait behind a code; none, where it isn't well made -/
def depS : List Int32 → Nat → Option Nat
  | [], d => some d
  | c :: cs, d => if c = -1 then (if 1 ≤ d then depS cs d else none) else if c = -2 ∨ c = -3 then (if 2 ≤ d then depS cs (d - 1) else none) else if 0 ≤ c ∧ c < 1800 ∧ d < 60 then depS cs (d + 1) else none
def wfH (cs : List Cls) : Prop := cs.length ≤ 10 ∧ ∀ q, q ∈ cs → 0 ≤ q.1 ∧ q.1 ≤ 3 ∧ 0 ≤ q.2.1 ∧ q.2.1 ≤ 99 ∧ q.2.2.length ≤ 100 ∧ (q.1 ≤ 1 → depS q.2.2 0 = some 1)
/-- the code's sign, as the model keeps it -/
def trS (c : Int32) : Int32 := if c = -1 then -33 else if c = -2 then -38 else if c = -3 then -124 else 1000 * (c / 300) + 100 * (c / 100 - c / 100 / 3 * 3) + (c - c / 100 * 100)
def swS (cs : List Cls) : Int32 := if cs.any (fun q => q.1 == 0) then 1 else 0
def lastS (w d : Int32) (cs : List Cls) : Int32 := cs.foldl (fun n q => if q.1 = w then q.2.1 else n) d
/-- where houses lie -/
def hReg (a : Nat) : Prop := (7208966 ≤ a ∧ a < 7602179) ∨ 12451840 ≤ a
def CRep (C : Mem) (x : Nat) (q : Cls) : Prop := x % 131072 = 2 ∧ hReg x ∧ mI C x 0 = q.1 ∧ mI C x 1 = q.2.1 ∧ mR C x 2 % 32 = 11 ∧ hReg (mR C x 2) ∧ lnA (mR C x 2) = q.2.2.length ∧ ∀ k, k < q.2.2.length → mI C (mR C x 2) k = q.2.2.getD k 0
def HRep (C : Mem) (id : Nat) (cs : List Cls) : Prop := id % 131072 = 6 ∧ hReg id ∧ mI C id 1 = swS cs ∧ mI C id 2 = lastS 2 0 cs ∧ mI C id 3 = lastS 3 9 cs ∧ mR C id 0 % 32 = 16 ∧ hReg (mR C id 0) ∧ lnA (mR C id 0) = cs.length ∧ ∀ c, c < cs.length → CRep C (mR C (mR C id 0) c) (cs.getD c (0, 0, []))
def MRep (M : Mem) (f : Nat) (cs : List Cls) : Prop := mI M 13893835 f = Int32.ofNat cs.length ∧ ∀ c, c < cs.length → mI M 14026635 (10 * f + c) = (cs.getD c (0, 0, [])).1 ∧ mI M 14157707 (10 * f + c) = (cs.getD c (0, 0, [])).2.1 ∧ ((cs.getD c (0, 0, [])).1 ≤ 1 → ∃ a : Nat, mI M 14288779 (10 * f + c) = Int32.ofNat a ∧ mI M 14419851 (10 * f + c) = Int32.ofNat (a + (cs.getD c (0, 0, [])).2.2.length) ∧ a + (cs.getD c (0, 0, [])).2.2.length ≤ 100 * f + 100 ∧ ∀ k, k < (cs.getD c (0, 0, [])).2.2.length → mI M 14568203 (a + k) = trS ((cs.getD c (0, 0, [])).2.2.getD k 0))
/-- the same houses -/
def RHs (hs : Nat → List Cls) (C M : Mem) : Prop := HRep C 7208966 [] ∧ ∀ f, f < 6 → Int32.ofNat f < rdI C (ce 179) → HRep C (mR C 7471311 f) (hs f) ∧ MRep M f (hs f) ∧ wfH (hs f)
/-- the house that holds is there -/
def RHo (C : Mem) : Prop := rdI C (ce 63) < rdI C (ce 179) ∧ (rdI C (ce 178) = 1 → rdI C (ce 152) < rdI C (ce 179)) ∧ ∀ t, t < 6 → rdI C (ce (302 + t)) = -1 → rdI C (ce (308 + t)) = 0
theorem RHo.fr {C C' : Mem} (hC : ∀ k, k < nC → k = 63 ∨ k = 179 ∨ k = 178 ∨ k = 152 ∨ 302 ≤ k → rdI C' (ce k) = rdI C (ce k)) (h : RHo C) : RHo C' := by
  unfold RHo
  rw [hC 63 (by decide) (by decide), hC 179 (by decide) (by decide), hC 178 (by decide) (by decide), hC 152 (by decide) (by decide)]
  refine ⟨h.1, h.2.1, fun t ht => ?_⟩
  rw [hC (302 + t) (by unfold nC; omega) (by omega), hC (308 + t) (by unfold nC; omega) (by omega)]
  exact h.2.2 t ht
/-- paint, and the doors' numbers, of a Home whose first door is d0, whose count is n -/
def RPa (C M : Mem) (d0 aP : Nat) : Prop := ∀ j, j < 4 → (mI C (d0 + 655360 * j + 262215) 0 = 0 ∨ mI C (d0 + 655360 * j + 262215) 0 = 1) ∧ (mI C (d0 + 655360 * j + 262215) 1 = 0 ∨ mI C (d0 + 655360 * j + 262215) 1 = 1) ∧ mI M aP j = mI C (d0 + 655360 * j + 262215) 0 + 2 * mI C (d0 + 655360 * j + 262215) 1
def RNu (C : Mem) (d0 : Nat) (n : Int32) : Prop := ∀ j, j < 4 → Int32.ofNat j < n → mI C (d0 + 655360 * j) 0 = Int32.ofNat j
def RX (C M : Mem) : Prop := RPa C M 786436 13238411 ∧ RNu C 786436 (rdI C (ce 60)) ∧ (rdI C (ce 178) = 1 → RPa C M 4063236 16384139 ∧ RNu C 4063236 (rdI C (ce 149)))
def RTl (C M : Mem) : Prop := ∀ t k, t < 6 → k < 60 → mL C (10878984 + 262144 * t + 132996) k = mL M 17575180 (60 * t + k)
def Rel (hs : Nat → List Cls) (C M : Mem) : Prop := RI C M ∧ RHs hs C M ∧ RHo C ∧ RX C M ∧ RTl C M ∧ mZ C = mZ M
/-! frames: what another cell's change leaves -/
theorem CRep.fr {C C' : Mem} (hI : ∀ a, hReg a → ∀ k, mI C' a k = mI C a k) (hR : ∀ a, hReg a → ∀ k, mR C' a k = mR C a k) {x : Nat} {q : Cls} (h : CRep C x q) : CRep C' x q := by
  obtain ⟨h1, h2, h3, h4, h5, h6, h7, h8⟩ := h
  unfold CRep
  rw [hI x h2, hI x h2, hR x h2]
  exact ⟨h1, h2, h3, h4, h5, h6, h7, fun k hk => by rw [hI _ h6]; exact h8 k hk⟩
theorem HRep.fr {C C' : Mem} (hI : ∀ a, hReg a → ∀ k, mI C' a k = mI C a k) (hR : ∀ a, hReg a → ∀ k, mR C' a k = mR C a k) {id : Nat} {cs : List Cls} (h : HRep C id cs) : HRep C' id cs := by
  obtain ⟨h1, h2, h3, h4, h5, h6, h7, h8, h9⟩ := h
  unfold HRep
  rw [hI id h2, hI id h2, hI id h2, hR id h2]
  exact ⟨h1, h2, h3, h4, h5, h6, h7, h8, fun c hc => by rw [hR _ h7]; exact (h9 c hc).fr hI hR⟩
/-- the model's cells of the houses -/
def mReg (a : Nat) : Prop := a = 13893835 ∨ a = 14026635 ∨ a = 14157707 ∨ a = 14288779 ∨ a = 14419851 ∨ a = 14568203
theorem MRep.fr {M M' : Mem} (hI : ∀ a, mReg a → ∀ k, mI M' a k = mI M a k) {f : Nat} {cs : List Cls} (h : MRep M f cs) : MRep M' f cs := by
  obtain ⟨h1, h2⟩ := h
  have e1 := hI 13893835 (Or.inl rfl)
  have e2 := hI 14026635 (Or.inr (Or.inl rfl))
  have e3 := hI 14157707 (Or.inr (Or.inr (Or.inl rfl)))
  have e4 := hI 14288779 (Or.inr (Or.inr (Or.inr (Or.inl rfl))))
  have e5 := hI 14419851 (Or.inr (Or.inr (Or.inr (Or.inr (Or.inl rfl)))))
  have e6 := hI 14568203 (Or.inr (Or.inr (Or.inr (Or.inr (Or.inr rfl)))))
  refine ⟨by rw [e1]; exact h1, fun c hc => ?_⟩
  obtain ⟨a1, a2, a3⟩ := h2 c hc
  refine ⟨by rw [e2]; exact a1, by rw [e3]; exact a2, fun hw => ?_⟩
  obtain ⟨a, b1, b2, b3, b4⟩ := a3 hw
  exact ⟨a, by rw [e4]; exact b1, by rw [e5]; exact b2, b3, fun k hk => by rw [e6]; exact b4 k hk⟩
theorem RHs.fr {hs : Nat → List Cls} {C M C' M' : Mem} (hI : ∀ a, hReg a → ∀ k, mI C' a k = mI C a k) (hR : ∀ a, hReg a → ∀ k, mR C' a k = mR C a k) (h179 : rdI C' (ce 179) = rdI C (ce 179)) (hM : ∀ a, mReg a → ∀ k, mI M' a k = mI M a k) (h : RHs hs C M) : RHs hs C' M' := by
  refine ⟨h.1.fr hI hR, fun f hf hl => ?_⟩
  rw [h179] at hl
  obtain ⟨a1, a2, a3⟩ := h.2 f hf hl
  rw [hR 7471311 (Or.inl ⟨by decide, by decide⟩)]
  exact ⟨a1.fr hI hR, a2.fr hM, a3⟩
/-- the cells of paint and of numbers, on the class's side -/
def pnC (p : Nat × Nat) : Prop := ∃ j, j < 4 ∧ (p = (786436 + 655360 * j + 262215, 0) ∨ p = (786436 + 655360 * j + 262215, 1) ∨ p = (786436 + 655360 * j, 0) ∨ p = (4063236 + 655360 * j + 262215, 0) ∨ p = (4063236 + 655360 * j + 262215, 1) ∨ p = (4063236 + 655360 * j, 0))
theorem RX.fr {C M C' M' : Mem} (hp : ∀ p, pnC p → rdI C' p = rdI C p) (hm : ∀ j, j < 4 → mI M' 13238411 j = mI M 13238411 j ∧ mI M' 16384139 j = mI M 16384139 j) (h60 : rdI C' (ce 60) = rdI C (ce 60)) (h149 : rdI C' (ce 149) = rdI C (ce 149)) (h178 : rdI C' (ce 178) = rdI C (ce 178)) (h : RX C M) : RX C' M' := by
  obtain ⟨a, b, c⟩ := h
  have q1 : ∀ j, j < 4 → mI C' (786436 + 655360 * j + 262215) 0 = mI C (786436 + 655360 * j + 262215) 0 := fun j hj => hp (_, _) ⟨j, hj, Or.inl rfl⟩
  have q2 : ∀ j, j < 4 → mI C' (786436 + 655360 * j + 262215) 1 = mI C (786436 + 655360 * j + 262215) 1 := fun j hj => hp (_, _) ⟨j, hj, Or.inr (Or.inl rfl)⟩
  have q3 : ∀ j, j < 4 → mI C' (786436 + 655360 * j) 0 = mI C (786436 + 655360 * j) 0 := fun j hj => hp (_, _) ⟨j, hj, Or.inr (Or.inr (Or.inl rfl))⟩
  have q4 : ∀ j, j < 4 → mI C' (4063236 + 655360 * j + 262215) 0 = mI C (4063236 + 655360 * j + 262215) 0 := fun j hj => hp (_, _) ⟨j, hj, Or.inr (Or.inr (Or.inr (Or.inl rfl)))⟩
  have q5 : ∀ j, j < 4 → mI C' (4063236 + 655360 * j + 262215) 1 = mI C (4063236 + 655360 * j + 262215) 1 := fun j hj => hp (_, _) ⟨j, hj, Or.inr (Or.inr (Or.inr (Or.inr (Or.inl rfl))))⟩
  have q6 : ∀ j, j < 4 → mI C' (4063236 + 655360 * j) 0 = mI C (4063236 + 655360 * j) 0 := fun j hj => hp (_, _) ⟨j, hj, Or.inr (Or.inr (Or.inr (Or.inr (Or.inr rfl))))⟩
  refine ⟨fun j hj => ?_, fun j hj hl => ?_, fun k => ?_⟩
  · rw [q1 j hj, q2 j hj, (hm j hj).1]; exact a j hj
  · rw [q3 j hj]; exact b j hj (by rw [← h60]; exact hl)
  · rw [h178] at k
    refine ⟨fun j hj => ?_, fun j hj hl => ?_⟩
    · rw [q4 j hj, q5 j hj, (hm j hj).2]; exact (c k).1 j hj
    · rw [q6 j hj]; exact (c k).2 j hj (by rw [← h149]; exact hl)
