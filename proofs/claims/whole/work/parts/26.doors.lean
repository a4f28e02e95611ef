/-! doors, mends, acts' kinds -/
theorem oN_int {i : Nat} (h : i < 2147483648) : (Int32.ofNat i).toInt = i := Int32.toInt_ofNat_of_lt h
theorem oN_ix {i : Nat} (h : i < 2147483648) : (Int32.ofNat i).toNatClampNeg = i := by
  have e : (Int32.ofNat i).toNatClampNeg = (Int32.ofNat i).toInt.toNat := rfl
  rw [e, oN_int h]; omega
theorem oN_le {m i : Nat} (hm : m < 2147483648) (h : i < 2147483648) : Int32.ofNat m ≤ Int32.ofNat i ↔ m ≤ i := by
  rw [Int32.le_iff_toInt_le, oN_int hm, oN_int h]; omega
theorem oN_lt {m i : Nat} (hm : m < 2147483648) (h : i < 2147483648) : Int32.ofNat m < Int32.ofNat i ↔ m < i := by
  rw [Int32.lt_iff_toInt_lt, oN_int hm, oN_int h]; omega
theorem oN_in {i n : Nat} (h : i < 2147483648) (k : i < n) : inR (Int32.ofNat i) n := by
  show 0 ≤ _ ∧ _
  rw [oN_int h]; omega
theorem oN_s (i : Nat) : Int32.ofNat i + 1 = Int32.ofNat (i + 1) := (Int32.ofNat_add i 1).symm
/-- a row filled from i on -/
def filR (M : Mem) (p : Nat) (v : Int32) : Nat → Nat → Mem
  | 0, _ => M
  | k + 1, i => filR (setI M p i v) p v k (i + 1)
theorem fil_l5 {p m : Nat} (hm : lnA p = m) (hb : m < 4096) (v : Int32) : ∀ (k fuel i : Nat) (M : Mem), k < fuel → i + k = m → f_Ar_fillI_l5 p fuel v (Int32.ofNat i) (Int32.ofNat m) M = some (filR M p v k i)
  | k, 0, _, _, h, _ => by omega
  | 0, f + 1, i, M, _, h => by
    simp only [f_Ar_fillI_l5]
    rw [if_pos ((oN_le (by omega) (by omega)).mpr (by omega))]; rfl
  | k + 1, f + 1, i, M, h1, h => by
    simp only [f_Ar_fillI_l5]
    rw [if_neg (fun q => by have := (oN_le (by omega) (by omega)).mp q; omega), gd_pos (oN_in (by omega) (by omega)), oN_ix (by omega)]
    show f_Ar_fillI_l5 p f v (Int32.ofNat i + 1) (Int32.ofNat m) (setI M p i v) = _
    rw [oN_s]
    exact fil_l5 hm hb v k f (i + 1) _ (by omega) (by omega)
theorem fill2 {p : Nat} (h : lnA p = 2) (v : Int32) (M : Mem) : f_Ar_fillI p v M = some (setI (setI M p 0 v) p 1 v) := by
  unfold f_Ar_fillI; rw [h]; exact fil_l5 h (by decide) v 2 200 0 M (by decide) rfl
theorem fill6 {p : Nat} (h : lnA p = 6) (v : Int32) (M : Mem) : f_Ar_fillI p v M = some (setI (setI (setI (setI (setI (setI M p 0 v) p 1 v) p 2 v) p 3 v) p 4 v) p 5 v) := by
  unfold f_Ar_fillI; rw [h]; exact fil_l5 h (by decide) v 6 200 0 M (by decide) rfl
theorem RI.gen {C M C' M' : Mem} (h : RI C M) (hC : ∀ i, i < nC → rdI C' (ce i) = rdI C (ce i)) (hM : ∀ i, i < nC → rdI M' (me i) = rdI M (me i)) : RI C' M' := by
  intro i hi' hm
  rw [hC 178 (by decide)] at hm
  rw [hC i hi', hM i hi']; exact h i hi' hm
theorem Rel.gen {hs : Nat → List Cls} {C M C' M' : Mem} (h : Rel hs C M) (hC : ∀ i, i < nC → rdI C' (ce i) = rdI C (ce i)) (hM : ∀ i, i < nC → rdI M' (me i) = rdI M (me i)) (hI : ∀ a, hReg a → ∀ k, mI C' a k = mI C a k) (hR : mR C' = mR C) (hL : mL C' = mL C) (hZ : mZ C' = mZ C) (gI : ∀ a, mReg a → ∀ k, mI M' a k = mI M a k) (gL : mL M' = mL M) (gZ : mZ M' = mZ M) (hX : RX C' M') : Rel hs C' M' := by
  obtain ⟨a1, a2, a3, a4, a5, a6⟩ := h
  refine ⟨a1.gen hC hM, a2.fr hI (fun a _ k => by rw [hR]) (hC _ (by decide)) gI, a3.fr (fun k hk _ => hC k hk), hX, ?_, by rw [hZ, gZ, a6]⟩
  · intro t k ht hk
    rw [hL, gL]; exact a5 t k ht hk
theorem pn_cJ {p : Nat × Nat} (h : pnC p) : cJ p := fun _ hi' e => ce_pn hi' (e ▸ h)
theorem pn_reg {p : Nat × Nat} (h : pnC p) : ¬ hReg p.1 := by
  obtain ⟨j, hj, h⟩ := h
  unfold hReg
  rcases h with e | e | e | e | e | e <;> (subst e; simp only; omega)
theorem mp_ne {i : Nat} (hi' : i < nC) (j : Nat) : me i ≠ (13238411, j) := fun e => (me_reg hi').2.1 (by rw [e])
theorem Rel.number {hs : Nat → List Cls} {C M : Mem} (h : Rel hs C M) {j : Nat} (hj : j < 4) : Rel hs (wrI C (786436 + 655360 * j, 0) (Int32.ofNat j)) M := by
  have hp : pnC (786436 + 655360 * j, 0) := ⟨j, hj, Or.inr (Or.inr (Or.inl rfl))⟩
  have hne : ∀ i, i < nC → rdI (wrI C (786436 + 655360 * j, 0) (Int32.ofNat j)) (ce i) = rdI C (ce i) := fun i hi' => rd_ne (pn_cJ hp i hi')
  refine h.gen hne (fun _ _ => rfl) (fun a ha k => mI_ne (ne_of_P ha (pn_reg hp))) rfl rfl rfl (fun _ _ _ => rfl) rfl rfl ?_
  obtain ⟨x1, x2, x3⟩ := h.2.2.2.1
  refine ⟨fun i hi' => ?_, fun i hi' hl => ?_, fun q => ?_⟩
  · rw [mI_ne (by simp only; omega), mI_ne (by simp only; omega)]; exact x1 i hi'
  · rw [hne 60 (by decide)] at hl
    rw [mI_wrI]
    by_cases e : i = j
    · subst e; rw [if_pos ⟨rfl, rfl⟩]
    · rw [if_neg (by simp only; omega)]; exact x2 i hi' hl
  · rw [hne 178 (by decide)] at q
    rw [hne 149 (by decide)]
    obtain ⟨y1, y2⟩ := x3 q
    refine ⟨fun i hi' => ?_, fun i hi' hl => ?_⟩
    · rw [mI_ne (by simp only; omega), mI_ne (by simp only; omega)]; exact y1 i hi'
    · rw [mI_ne (by simp only; omega)]; exact y2 i hi' hl
theorem Rel.paint {hs : Nat → List Cls} {C M : Mem} (h : Rel hs C M) {j : Nat} (hj : j < 4) {u v w : Int32} (hu : u = 0 ∨ u = 1) (hv : v = 0 ∨ v = 1) (hw : w = u + 2 * v) : Rel hs (wrI (wrI C (786436 + 655360 * j + 262215, 0) u) (786436 + 655360 * j + 262215, 1) v) (wrI M (13238411, j) w) := by
  have hp : pnC (786436 + 655360 * j + 262215, 0) := ⟨j, hj, Or.inl rfl⟩
  have hp2 : pnC (786436 + 655360 * j + 262215, 1) := ⟨j, hj, Or.inr (Or.inl rfl)⟩
  have hne : ∀ i, i < nC → rdI (wrI (wrI C (786436 + 655360 * j + 262215, 0) u) (786436 + 655360 * j + 262215, 1) v) (ce i) = rdI C (ce i) := fun i hi' => by rw [rd_ne (pn_cJ hp2 i hi'), rd_ne (pn_cJ hp i hi')]
  refine h.gen hne (fun i hi' => rd_ne (mp_ne hi' j)) (fun a ha k => by rw [mI_ne (ne_of_P ha (pn_reg hp2)), mI_ne (ne_of_P ha (pn_reg hp))]) rfl rfl rfl (fun a ha k => mI_ne (ne_of_P ha (by unfold mReg; simp))) rfl rfl ?_
  obtain ⟨x1, x2, x3⟩ := h.2.2.2.1
  refine ⟨fun i hi' => ?_, fun i hi' hl => ?_, fun q => ?_⟩
  · by_cases e : i = j
    · subst e
      rw [mI_wrI, mI_wrI, mI_wrI, mI_wrI, mI_wrI]
      simp only [true_and, if_true, and_true]
      exact ⟨hu, hv, hw⟩
    · rw [mI_ne (by simp only; omega), mI_ne (by simp only; omega), mI_ne (by simp only; omega), mI_ne (by simp only; omega), mI_wrI, if_neg (by simp only; omega)]; exact x1 i hi'
  · rw [hne 60 (by decide)] at hl
    rw [mI_ne (by simp only; omega), mI_ne (by simp only; omega)]; exact x2 i hi' hl
  · rw [hne 178 (by decide)] at q
    rw [hne 149 (by decide)]
    obtain ⟨y1, y2⟩ := x3 q
    refine ⟨fun i hi' => ?_, fun i hi' hl => ?_⟩
    · rw [mI_ne (by simp only; omega), mI_ne (by simp only; omega), mI_ne (by simp only; omega), mI_ne (by simp only; omega), mI_ne (by simp only; omega)]; exact y1 i hi'
    · rw [mI_ne (by simp only; omega), mI_ne (by simp only; omega)]; exact y2 i hi' hl
