/-! CELLS COPIED: image, undo -/
def lk : List ((Nat × Nat) × (Nat × Nat)) → Nat × Nat → Option (Nat × Nat)
  | [], _ => none
  | e :: l, p => if p = e.1 then some e.2 else lk l p
def CpL (L : List ((Nat × Nat) × (Nat × Nat))) (C C' : Mem) : Prop := (∀ p, rdI C' p = rdI C ((lk L p).getD p)) ∧ mR C' = mR C ∧ mL C' = mL C ∧ mZ C' = mZ C
def KR (P : Nat × Nat → Prop) (L : List ((Nat × Nat) × (Nat × Nat))) : Prop := ∀ e, e ∈ L → P e.1
theorem lk_none {P : Nat × Nat → Prop} {q : Nat × Nat} : ∀ {L : List ((Nat × Nat) × (Nat × Nat))}, KR P L → ¬ P q → lk L q = none
  | [], _, _ => rfl
  | e :: l, h, hq => by
    show (if q = e.1 then _ else _) = _
    rw [if_neg (fun (x : q = e.1) => hq (by rw [x]; exact h e List.mem_cons_self))]
    exact lk_none (fun x hx => h x (List.mem_cons_of_mem _ hx)) hq
theorem KR.cons {P : Nat × Nat → Prop} {L : List ((Nat × Nat) × (Nat × Nat))} (h : KR P L) {p q : Nat × Nat} (hp : P p) : KR P ((p, q) :: L) := fun e he => by
  rcases List.mem_cons.mp he with x | x
  · rw [x]; exact hp
  · exact h e x
theorem CpL.nil (C : Mem) : CpL [] C C := ⟨fun _ => rfl, rfl, rfl, rfl⟩
theorem CpL.cons {P : Nat × Nat → Prop} {L : List ((Nat × Nat) × (Nat × Nat))} {C C1 : Mem} (h : CpL L C C1) (hL : KR P L) {a k b l : Nat} (hq : ¬ P (b, l)) : CpL (((a, k), (b, l)) :: L) C (setI C1 a k (mI C1 b l)) := by
  obtain ⟨h1, h2, h3, h4⟩ := h
  refine ⟨fun p => ?_, h2, h3, h4⟩
  show rdI (wrI C1 (a, k) (mI C1 b l)) p = rdI C ((if p = (a, k) then some (b, l) else lk L p).getD p)
  rw [rd_wr]
  by_cases e : p = (a, k)
  · rw [if_pos e, if_pos e]
    have := h1 (b, l)
    rw [lk_none hL hq] at this
    exact this
  · rw [if_neg e, if_neg e]; exact h1 p
def cl2 (a b : Nat) : Nat → List ((Nat × Nat) × (Nat × Nat))
  | 0 => []
  | n + 1 => ((b, n), (a, n)) :: cl2 a b n
theorem lk_cl2 (a b : Nat) (L : List ((Nat × Nat) × (Nat × Nat))) (p : Nat × Nat) : ∀ n, lk (cl2 a b n ++ L) p = if p.1 = b ∧ p.2 < n then some (a, p.2) else lk L p
  | 0 => by rw [if_neg (by omega)]; rfl
  | n + 1 => by
    show (if p = (b, n) then some (a, n) else lk (cl2 a b n ++ L) p) = _
    rw [lk_cl2 a b L p n]
    by_cases e : p = (b, n)
    · subst e; rw [if_pos rfl, if_pos ⟨rfl, Nat.lt_succ_self _⟩]
    · rw [if_neg e]
      by_cases e2 : p.1 = b ∧ p.2 < n
      · rw [if_pos e2, if_pos ⟨e2.1, by omega⟩]
      · rw [if_neg e2, if_neg]
        intro ⟨x, y⟩
        by_cases z : p.2 = n
        · exact e (Prod.ext x z)
        · exact e2 ⟨x, by omega⟩
theorem KR.cl2 {P : Nat × Nat → Prop} {L : List ((Nat × Nat) × (Nat × Nat))} (h : KR P L) {a b : Nat} (hp : ∀ k, P (b, k)) : ∀ n, KR P (cl2 a b n ++ L)
  | 0 => h
  | n + 1 => (KR.cl2 h hp n).cons (hp n)
theorem mI_cpyI (C : Mem) (a sp b dp n c j : Nat) : mI (cpyI C a sp b dp n) c j = if c = b ∧ dp ≤ j ∧ j < dp + n then mI C a (sp + (j - dp)) else mI C c j := rfl
theorem CpL.row {P : Nat × Nat → Prop} {L : List ((Nat × Nat) × (Nat × Nat))} {C C1 : Mem} (h : CpL L C C1) (hL : KR P L) {a b : Nat} (n : Nat) (hq : ∀ k, ¬ P (a, k)) : CpL (cl2 a b n ++ L) C (cpyI C1 a 0 b 0 n) := by
  obtain ⟨h1, h2, h3, h4⟩ := h
  refine ⟨fun p => ?_, h2, h3, h4⟩
  show mI (cpyI C1 a 0 b 0 n) p.1 p.2 = _
  rw [lk_cl2, mI_cpyI]
  by_cases e : p.1 = b ∧ p.2 < n
  · rw [if_pos e, if_pos (by omega)]
    have := h1 (a, p.2)
    rw [lk_none hL (hq p.2)] at this
    rw [Nat.zero_add, Nat.sub_zero]
    exact this
  · rw [if_neg e, if_neg (by omega)]; exact h1 p
def dL (t s : Nat) (L : List ((Nat × Nat) × (Nat × Nat))) : List ((Nat × Nat) × (Nat × Nat)) := cl2 (s + 393415) (t + 393415) 6 ++ (cl2 (s + 262215) (t + 262215) 2 ++ (cl2 (s + 131143) (t + 131143) 2 ++ (((t, 4), (s, 4)) :: ((t, 3), (s, 3)) :: ((t, 2), (s, 2)) :: ((t, 1), (s, 1)) :: ((t, 0), (s, 0)) :: L)))
theorem k0 : (0 : Int32).toNatClampNeg = 0 := rfl
theorem k2 : (2 : Int32).toNatClampNeg = 2 := rfl
theorem k6 : (6 : Int32).toNatClampNeg = 6 := rfl
theorem k12 : (12 : Int32).toNatClampNeg = 12 := rfl
/-- a DOOR's cells come to another -/
theorem become_cp {P : Nat × Nat → Prop} {t s : Nat} {L : List ((Nat × Nat) × (Nat × Nat))} {C C1 : Mem} (h : CpL L C C1) (hL : KR P L) (hP : ∀ k, P (t, k) ∧ P (t + 131143, k) ∧ P (t + 262215, k) ∧ P (t + 393415, k)) (hN : ∀ k, ¬ P (s, k) ∧ ¬ P (s + 131143, k) ∧ ¬ P (s + 262215, k) ∧ ¬ P (s + 393415, k)) : ∃ C', f_Dr_become t s C1 = some C' ∧ CpL (dL t s L) C C' ∧ KR P (dL t s L) := by
  have r0 := h.cons hL (a := t) (k := 0) (hN 0).1
  have q0 := hL.cons (q := (s, 0)) (hP 0).1
  have r1 := r0.cons q0 (a := t) (k := 1) (hN 1).1
  have q1 := q0.cons (q := (s, 1)) (hP 1).1
  have r2 := r1.cons q1 (a := t) (k := 2) (hN 2).1
  have q2 := q1.cons (q := (s, 2)) (hP 2).1
  have r3 := r2.cons q2 (a := t) (k := 3) (hN 3).1
  have q3 := q2.cons (q := (s, 3)) (hP 3).1
  have r4 := r3.cons q3 (a := t) (k := 4) (hN 4).1
  have q4 := q3.cons (q := (s, 4)) (hP 4).1
  have r5 := r4.row q4 (b := t + 131143) 2 (fun k => (hN k).2.1)
  have q5 := q4.cl2 (a := s + 131143) (fun k => (hP k).2.1) 2
  have r6 := r5.row q5 (b := t + 262215) 2 (fun k => (hN k).2.2.1)
  have q6 := q5.cl2 (a := s + 262215) (fun k => (hP k).2.2.1) 2
  have r7 := r6.row q6 (b := t + 393415) 6 (fun k => (hN k).2.2.2)
  have q7 := q6.cl2 (a := s + 393415) (fun k => (hP k).2.2.2) 6
  refine ⟨_, ?_, r7, q7⟩
  unfold f_Dr_become
  rw [lte, lte, lte, lte, lte, gd_pos (by decide), lte, gd_pos (by decide), lte, gd_pos (by decide), lte, k0, k2, k6]
def hdL (t s : Nat) : Nat → List ((Nat × Nat) × (Nat × Nat)) → List ((Nat × Nat) × (Nat × Nat))
  | 0, L => L
  | n + 1, L => dL (t + 262281 + 393078 + 655360 * n) (s + 262281 + 393078 + 655360 * n) (hdL t s n L)
def hL (t s : Nat) : List ((Nat × Nat) × (Nat × Nat)) := ((t, 8), (s, 8)) :: (cl2 (s + 524678) (t + 524678) 12 ++ (cl2 (s + 393606) (t + 393606) 12 ++ (((t, 5), (s, 5)) :: ((t, 4), (s, 4)) :: ((t, 3), (s, 3)) :: ((t, 2), (s, 2)) :: hdL t s 4 (cl2 (s + 131462) (t + 131462) 12 ++ []))))
def PH (t : Nat) (p : Nat × Nat) : Prop := t ≤ p.1 ∧ p.1 < t + 3276800
theorem home_l17 {t s : Nat} (hts : t + 3276800 ≤ s ∨ s + 3276800 ≤ t) {C C1 : Mem} {L : List ((Nat × Nat) × (Nat × Nat))} (h : CpL L C C1) (hL : KR (PH t) L) : ∀ n, n ≤ 4 → ∃ C', f_Hm_become_l17 t s 200 0 C1 = f_Hm_become_l17 t s (200 - n) (Int32.ofNat n) C' ∧ CpL (hdL t s n L) C C' ∧ KR (PH t) (hdL t s n L)
  | 0, _ => ⟨C1, rfl, h, hL⟩
  | n + 1, hn => by
    obtain ⟨C', a1, a2, a3⟩ := home_l17 hts h hL n (by omega)
    obtain ⟨C2, b1, b2, b3⟩ := become_cp (t := t + 262281 + 393078 + 655360 * n) (s := s + 262281 + 393078 + 655360 * n) a2 a3 (fun k => by unfold PH; simp only; omega) (fun k => by unfold PH; simp only; omega)
    refine ⟨C2, ?_, b2, b3⟩
    rw [a1]
    obtain ⟨f, hf, hf2⟩ : ∃ f, 200 - n = f + 1 ∧ 200 - (n + 1) = f := ⟨200 - (n + 1), by omega, rfl⟩
    rw [hf, hf2]
    simp only [f_Hm_become_l17]
    rw [if_neg (show ¬ (4 : Int32) ≤ Int32.ofNat n from fun q => by have := (oN_le (m := 4) (by omega) (by omega)).mp q; omega), gd_pos (oN_in (by omega) (by omega)), gd_pos (oN_in (by omega) (by omega)), oN_ix (by omega), b1, bds, lte, oN_s]
theorem home_end {t s : Nat} (n : Nat) (M : Mem) : f_Hm_become_l17 t s (n + 1) 4 M = some (lt (setI M t 2 (mI M s 2)) fun M2 => lt (setI M2 t 3 (mI M2 s 3)) fun M3 => lt (setI M3 t 4 (mI M3 s 4)) fun M4 => lt (setI M4 t 5 (mI M4 s 5)) fun M5 => lt (cpyI M5 (s + 393606) 0 (t + 393606) 0 12) fun M6 => lt (cpyI M6 (s + 524678) 0 (t + 524678) 0 12) fun M7 => setI M7 t 8 (mI M7 s 8)) := by
  simp only [f_Hm_become_l17]
  rw [if_pos (by decide), lte, lte, lte, lte, gd_pos (by decide), lte, gd_pos (by decide), lte, lte, k0, k12, lte, lte, lte, lte, lte, lte]
theorem home_cp {t s : Nat} (hts : t + 3276800 ≤ s ∨ s + 3276800 ≤ t) (C : Mem) : ∃ C', f_Hm_become t s C = some C' ∧ CpL (hL t s) C C' ∧ KR (PH t) (hL t s) := by
  have n0 : KR (PH t) [] := fun e he => by cases he
  have hS : ∀ k, ¬ PH t (s, k) := fun k => by unfold PH; simp only; omega
  have hT : ∀ k, PH t (t, k) := fun k => by unfold PH; simp only; omega
  have r0 := (CpL.nil C).row n0 (a := s + 131462) (b := t + 131462) 12 (fun k => by unfold PH; simp only; omega)
  have q0 := n0.cl2 (a := s + 131462) (b := t + 131462) (fun k => by unfold PH; simp only; omega) 12
  obtain ⟨C1, a1, r1, q1⟩ := home_l17 hts r0 q0 4 (by decide)
  have r2 := r1.cons q1 (a := t) (k := 2) (hS 2)
  have q2 := q1.cons (q := (s, 2)) (hT 2)
  have r3 := r2.cons q2 (a := t) (k := 3) (hS 3)
  have q3 := q2.cons (q := (s, 3)) (hT 3)
  have r4 := r3.cons q3 (a := t) (k := 4) (hS 4)
  have q4 := q3.cons (q := (s, 4)) (hT 4)
  have r5 := r4.cons q4 (a := t) (k := 5) (hS 5)
  have q5 := q4.cons (q := (s, 5)) (hT 5)
  have r6 := r5.row q5 (a := s + 393606) (b := t + 393606) 12 (fun k => by unfold PH; simp only; omega)
  have q6 := q5.cl2 (a := s + 393606) (b := t + 393606) (fun k => by unfold PH; simp only; omega) 12
  have r7 := r6.row q6 (a := s + 524678) (b := t + 524678) 12 (fun k => by unfold PH; simp only; omega)
  have q7 := q6.cl2 (a := s + 524678) (b := t + 524678) (fun k => by unfold PH; simp only; omega) 12
  have r8 := r7.cons q7 (a := t) (k := 8) (hS 8)
  have q8 := q7.cons (q := (s, 8)) (hT 8)
  refine ⟨_, ?_, r8, q8⟩
  unfold f_Hm_become
  rw [gd_pos (by decide), lte, k0, k12, a1]
  exact home_end 195 C1
