/-! a tape becomes a row -/
def filL (M : Mem) (p : Nat) (v : Int64) : Nat → Nat → Mem
  | 0, _ => M
  | k + 1, i => filL (setL M p i v) p v k (i + 1)
theorem filL_same (p : Nat) (v : Int64) : ∀ (k i : Nat) (M : Mem), mI (filL M p v k i) = mI M ∧ mR (filL M p v k i) = mR M ∧ mZ (filL M p v k i) = mZ M
  | 0, _, _ => ⟨rfl, rfl, rfl⟩
  | k + 1, i, M => filL_same p v k (i + 1) (setL M p i v)
theorem filL_at (p : Nat) (v : Int64) : ∀ (k i : Nat) (M : Mem) (a j : Nat), mL (filL M p v k i) a j = if a = p ∧ i ≤ j ∧ j < i + k then v else mL M a j
  | 0, i, M, a, j => by rw [if_neg (by omega)]; rfl
  | k + 1, i, M, a, j => by
    show mL (filL (setL M p i v) p v k (i + 1)) a j = _
    rw [filL_at p v k (i + 1) (setL M p i v) a j, mL_setL]
    by_cases h1 : a = p ∧ i ≤ j ∧ j < i + (k + 1)
    · rw [if_pos h1]
      by_cases h2 : a = p ∧ i + 1 ≤ j ∧ j < i + 1 + k
      · rw [if_pos h2]
      · rw [if_neg h2, if_pos (by omega)]
    · rw [if_neg h1, if_neg (by omega), if_neg (by omega)]
theorem filL_l6 {p m : Nat} (hm : lnA p = m) (hb : m < 4096) (v : Int64) : ∀ (k fuel i : Nat) (M : Mem), k < fuel → i + k = m → f_Ar_fillL_l6 p fuel v (Int32.ofNat i) (Int32.ofNat m) M = some (filL M p v k i)
  | k, 0, _, _, h, _ => by omega
  | 0, f + 1, i, M, _, h => by
    simp only [f_Ar_fillL_l6]
    rw [if_pos ((oN_le (by omega) (by omega)).mpr (by omega))]; rfl
  | k + 1, f + 1, i, M, h1, h => by
    simp only [f_Ar_fillL_l6]
    rw [if_neg (fun q => by have := (oN_le (by omega) (by omega)).mp q; omega), gd_pos (oN_in (by omega) (by omega)), oN_ix (by omega)]
    show f_Ar_fillL_l6 p f v (Int32.ofNat i + 1) (Int32.ofNat m) (setL M p i v) = _
    rw [oN_s]
    exact filL_l6 hm hb v k f (i + 1) _ (by omega) (by omega)
theorem tape_l69 {t : Nat} (ht : t < 6) : ∀ (k fuel i : Nat) (M : Mem), k < fuel → i + k = 60 → f_M_tape_l69 fuel (Int32.ofNat t) (Int32.ofNat i) M = some (1, filL M 17575180 0 k (60 * t + i))
  | k, 0, _, _, h, _ => by omega
  | 0, f + 1, i, M, _, h => by
    simp only [f_M_tape_l69]
    rw [if_pos (show (60 : Int32) ≤ Int32.ofNat i from (oN_le (m := 60) (by omega) (by omega)).mpr (by omega))]; rfl
  | k + 1, f + 1, i, M, h1, h => by
    simp only [f_M_tape_l69]
    rw [if_neg (show ¬ (60 : Int32) ≤ Int32.ofNat i from fun q => by have := (oN_le (m := 60) (by omega) (by omega)).mp q; omega), ix60, gd_pos (oN_in (by omega) (by omega)), oN_ix (by omega)]
    show f_M_tape_l69 f (Int32.ofNat t) (Int32.ofNat i + 1) (setL M 17575180 (60 * t + i) 0) = _
    rw [oN_s]
    exact tape_l69 ht k f (i + 1) _ (by omega) (by omega)
