/-! image, undo -/
def PI (p : Nat × Nat) : Prop := (15729035 ≤ p.1 ∧ p.1 ≤ 17039755) ∨ (p.1 = 12451850 ∧ 41 ≤ p.2 ∧ p.2 ≤ 45)
def PU (p : Nat × Nat) : Prop := (12583307 ≤ p.1 ∧ p.1 ≤ 13632267) ∨ (15466891 ≤ p.1 ∧ p.1 ≤ 15597963) ∨ (p.1 = 12451850 ∧ p.2 < 40)
def c_image194 : Nat → Nat → List ((Nat × Nat) × (Nat × Nat)) → List ((Nat × Nat) × (Nat × Nat))
  | 0, _, L => L
  | k + 1, i, L => c_image194 k (i + 1) (((16777995, i), (13632267, i)) :: L)
theorem image_194 {L : List ((Nat × Nat) × (Nat × Nat))} {M0 M : Mem} (h : CpL L M0 M) (hL : KR PI L) : ∀ k fuel i, k < fuel → i + k = 24 → ∃ M', f_M_image_l194 fuel (Int32.ofNat i) M = some (mI M' 12451850 1, M') ∧ CpL (c_image194 k i L) M0 M' ∧ KR PI (c_image194 k i L)
  | k, 0, _, h, _ => by omega
  | 0, f + 1, i, _, hi => ⟨M, by simp only [f_M_image_l194]; rw [if_pos (show (24 : Int32) ≤ Int32.ofNat i from (oN_le (m := 24) (by omega) (by omega)).mpr (by omega))], h, hL⟩
  | k + 1, f + 1, i, h1, hi => by
    have r0 := CpL.cons h hL (a := 16777995) (k := i) (b := 13632267) (l := i) (by unfold PI; simp only; omega)
    have q0 := KR.cons hL (p := (16777995, i)) (q := (13632267, i)) (by unfold PI; simp only; omega)
    obtain ⟨M', a1, a2, a3⟩ := image_194 r0 q0 k f (i + 1) (by omega) (by omega)
    refine ⟨M', ?_, a2, a3⟩
    simp only [f_M_image_l194]
    have hr := oN_in (i := i) (n := 24) (by omega) (by omega)
    rw [if_neg (show ¬ (24 : Int32) ≤ Int32.ofNat i from fun q => by have := (oN_le (m := 24) (by omega) (by omega)).mp q; omega), gd_pos hr, gd_pos hr, lte, lte, oN_ix (by omega), oN_s]
    exact a1
def c_image97 : Nat → Nat → List ((Nat × Nat) × (Nat × Nat)) → List ((Nat × Nat) × (Nat × Nat))
  | 0, _, L => c_image194 24 0 L
  | k + 1, i, L => c_image97 k (i + 1) (((16646283, i), (13500555, i)) :: ((16515211, i), (13369483, i)) :: ((16384139, i), (13238411, i)) :: ((16253067, i), (13107339, i)) :: ((16121995, i), (12976267, i)) :: ((15990923, i), (12845195, i)) :: ((15859851, i), (12714123, i)) :: L)
theorem image_97 {L : List ((Nat × Nat) × (Nat × Nat))} {M0 M : Mem} (h : CpL L M0 M) (hL : KR PI L) : ∀ k fuel i, k < fuel → i + k = 4 → ∃ M', f_M_image_l97 fuel (Int32.ofNat i) M = some (mI M' 12451850 1, M') ∧ CpL (c_image97 k i L) M0 M' ∧ KR PI (c_image97 k i L)
  | k, 0, _, h, _ => by omega
  | 0, f + 1, i, _, hi => by
    obtain ⟨M', a1, a2, a3⟩ := image_194 h hL 24 200 0 (by omega) (by omega)
    refine ⟨M', ?_, a2, a3⟩
    simp only [f_M_image_l97]
    rw [if_pos (show (4 : Int32) ≤ Int32.ofNat i from (oN_le (m := 4) (by omega) (by omega)).mpr (by omega))]
    exact a1
  | k + 1, f + 1, i, h1, hi => by
    have r0 := CpL.cons h hL (a := 15859851) (k := i) (b := 12714123) (l := i) (by unfold PI; simp only; omega)
    have q0 := KR.cons hL (p := (15859851, i)) (q := (12714123, i)) (by unfold PI; simp only; omega)
    have r1 := CpL.cons r0 q0 (a := 15990923) (k := i) (b := 12845195) (l := i) (by unfold PI; simp only; omega)
    have q1 := KR.cons q0 (p := (15990923, i)) (q := (12845195, i)) (by unfold PI; simp only; omega)
    have r2 := CpL.cons r1 q1 (a := 16121995) (k := i) (b := 12976267) (l := i) (by unfold PI; simp only; omega)
    have q2 := KR.cons q1 (p := (16121995, i)) (q := (12976267, i)) (by unfold PI; simp only; omega)
    have r3 := CpL.cons r2 q2 (a := 16253067) (k := i) (b := 13107339) (l := i) (by unfold PI; simp only; omega)
    have q3 := KR.cons q2 (p := (16253067, i)) (q := (13107339, i)) (by unfold PI; simp only; omega)
    have r4 := CpL.cons r3 q3 (a := 16384139) (k := i) (b := 13238411) (l := i) (by unfold PI; simp only; omega)
    have q4 := KR.cons q3 (p := (16384139, i)) (q := (13238411, i)) (by unfold PI; simp only; omega)
    have r5 := CpL.cons r4 q4 (a := 16515211) (k := i) (b := 13369483) (l := i) (by unfold PI; simp only; omega)
    have q5 := KR.cons q4 (p := (16515211, i)) (q := (13369483, i)) (by unfold PI; simp only; omega)
    have r6 := CpL.cons r5 q5 (a := 16646283) (k := i) (b := 13500555) (l := i) (by unfold PI; simp only; omega)
    have q6 := KR.cons q5 (p := (16646283, i)) (q := (13500555, i)) (by unfold PI; simp only; omega)
    obtain ⟨M', a1, a2, a3⟩ := image_97 r6 q6 k f (i + 1) (by omega) (by omega)
    refine ⟨M', ?_, a2, a3⟩
    simp only [f_M_image_l97]
    have hr := oN_in (i := i) (n := 4) (by omega) (by omega)
    rw [if_neg (show ¬ (4 : Int32) ≤ Int32.ofNat i from fun q => by have := (oN_le (m := 4) (by omega) (by omega)).mp q; omega), gd_pos hr, gd_pos hr, lte, gd_pos hr, gd_pos hr, lte, gd_pos hr, gd_pos hr, lte, gd_pos hr, gd_pos hr, lte, gd_pos hr, gd_pos hr, lte, gd_pos hr, gd_pos hr, lte, gd_pos hr, gd_pos hr, lte, lte, oN_ix (by omega), oN_s]
    exact a1
def c_image47 : Nat → Nat → List ((Nat × Nat) × (Nat × Nat)) → List ((Nat × Nat) × (Nat × Nat))
  | 0, _, L => c_image97 4 0 L
  | k + 1, i, L => c_image47 k (i + 1) (((17039755, i), (15597963, i)) :: ((16908683, i), (15466891, i)) :: ((15729035, i), (12583307, i)) :: L)
theorem image_47 {L : List ((Nat × Nat) × (Nat × Nat))} {M0 M : Mem} (h : CpL L M0 M) (hL : KR PI L) : ∀ k fuel i, k < fuel → i + k = 12 → ∃ M', f_M_image_l47 fuel (Int32.ofNat i) M = some (mI M' 12451850 1, M') ∧ CpL (c_image47 k i L) M0 M' ∧ KR PI (c_image47 k i L)
  | k, 0, _, h, _ => by omega
  | 0, f + 1, i, _, hi => by
    obtain ⟨M', a1, a2, a3⟩ := image_97 h hL 4 200 0 (by omega) (by omega)
    refine ⟨M', ?_, a2, a3⟩
    simp only [f_M_image_l47]
    rw [if_pos (show (12 : Int32) ≤ Int32.ofNat i from (oN_le (m := 12) (by omega) (by omega)).mpr (by omega))]
    exact a1
  | k + 1, f + 1, i, h1, hi => by
    have r0 := CpL.cons h hL (a := 15729035) (k := i) (b := 12583307) (l := i) (by unfold PI; simp only; omega)
    have q0 := KR.cons hL (p := (15729035, i)) (q := (12583307, i)) (by unfold PI; simp only; omega)
    have r1 := CpL.cons r0 q0 (a := 16908683) (k := i) (b := 15466891) (l := i) (by unfold PI; simp only; omega)
    have q1 := KR.cons q0 (p := (16908683, i)) (q := (15466891, i)) (by unfold PI; simp only; omega)
    have r2 := CpL.cons r1 q1 (a := 17039755) (k := i) (b := 15597963) (l := i) (by unfold PI; simp only; omega)
    have q2 := KR.cons q1 (p := (17039755, i)) (q := (15597963, i)) (by unfold PI; simp only; omega)
    obtain ⟨M', a1, a2, a3⟩ := image_47 r2 q2 k f (i + 1) (by omega) (by omega)
    refine ⟨M', ?_, a2, a3⟩
    simp only [f_M_image_l47]
    have hr := oN_in (i := i) (n := 12) (by omega) (by omega)
    rw [if_neg (show ¬ (12 : Int32) ≤ Int32.ofNat i from fun q => by have := (oN_le (m := 12) (by omega) (by omega)).mp q; omega), gd_pos hr, gd_pos hr, lte, gd_pos hr, gd_pos hr, lte, gd_pos hr, gd_pos hr, lte, lte, oN_ix (by omega), oN_s]
    exact a1
def L_image : List ((Nat × Nat) × (Nat × Nat)) := c_image47 12 0 (((12451850, 45), (12451850, 37)) :: ((12451850, 44), (12451850, 3)) :: ((12451850, 43), (12451850, 2)) :: ((12451850, 42), (12451850, 1)) :: ((12451850, 41), (12451850, 13)) :: [])
theorem image_m (M : Mem) : ∃ M', f_M_image M = some (mI M' 12451850 1, M') ∧ CpL L_image (setI M 12451850 40 1) M' ∧ KR PI L_image := by
  have n0 : KR PI [] := fun e he => by cases he
  have r0 := CpL.cons (CpL.nil (setI M 12451850 40 1)) n0 (a := 12451850) (k := 41) (b := 12451850) (l := 13) (by unfold PI; simp only; omega)
  have q0 := KR.cons n0 (p := (12451850, 41)) (q := (12451850, 13)) (Or.inr ⟨rfl, by decide, by decide⟩)
  have r1 := CpL.cons r0 q0 (a := 12451850) (k := 42) (b := 12451850) (l := 1) (by unfold PI; simp only; omega)
  have q1 := KR.cons q0 (p := (12451850, 42)) (q := (12451850, 1)) (Or.inr ⟨rfl, by decide, by decide⟩)
  have r2 := CpL.cons r1 q1 (a := 12451850) (k := 43) (b := 12451850) (l := 2) (by unfold PI; simp only; omega)
  have q2 := KR.cons q1 (p := (12451850, 43)) (q := (12451850, 2)) (Or.inr ⟨rfl, by decide, by decide⟩)
  have r3 := CpL.cons r2 q2 (a := 12451850) (k := 44) (b := 12451850) (l := 3) (by unfold PI; simp only; omega)
  have q3 := KR.cons q2 (p := (12451850, 44)) (q := (12451850, 3)) (Or.inr ⟨rfl, by decide, by decide⟩)
  have r4 := CpL.cons r3 q3 (a := 12451850) (k := 45) (b := 12451850) (l := 37) (by unfold PI; simp only; omega)
  have q4 := KR.cons q3 (p := (12451850, 45)) (q := (12451850, 37)) (Or.inr ⟨rfl, by decide, by decide⟩)
  obtain ⟨M', a1, a2, a3⟩ := image_47 r4 q4 12 200 0 (by omega) (by omega)
  refine ⟨M', ?_, a2, a3⟩
  unfold f_M_image
  rw [lte, lte, lte, lte, lte, lte]
  exact a1
def c_undo199 : Nat → Nat → List ((Nat × Nat) × (Nat × Nat)) → List ((Nat × Nat) × (Nat × Nat))
  | 0, _, L => L
  | k + 1, i, L => c_undo199 k (i + 1) (((13632267, i), (16777995, i)) :: L)
theorem undo_199 {L : List ((Nat × Nat) × (Nat × Nat))} {M0 M : Mem} (h : CpL L M0 M) (hL : KR PU L) : ∀ k fuel i, k < fuel → i + k = 24 → ∃ M', f_M_undo_l199 fuel (Int32.ofNat i) M = some (mI M' 12451850 1, M') ∧ CpL (c_undo199 k i L) M0 M' ∧ KR PU (c_undo199 k i L)
  | k, 0, _, h, _ => by omega
  | 0, f + 1, i, _, hi => ⟨M, by simp only [f_M_undo_l199]; rw [if_pos (show (24 : Int32) ≤ Int32.ofNat i from (oN_le (m := 24) (by omega) (by omega)).mpr (by omega))], h, hL⟩
  | k + 1, f + 1, i, h1, hi => by
    have r0 := CpL.cons h hL (a := 13632267) (k := i) (b := 16777995) (l := i) (by unfold PU; simp only; omega)
    have q0 := KR.cons hL (p := (13632267, i)) (q := (16777995, i)) (by unfold PU; simp only; omega)
    obtain ⟨M', a1, a2, a3⟩ := undo_199 r0 q0 k f (i + 1) (by omega) (by omega)
    refine ⟨M', ?_, a2, a3⟩
    simp only [f_M_undo_l199]
    have hr := oN_in (i := i) (n := 24) (by omega) (by omega)
    rw [if_neg (show ¬ (24 : Int32) ≤ Int32.ofNat i from fun q => by have := (oN_le (m := 24) (by omega) (by omega)).mp q; omega), gd_pos hr, gd_pos hr, lte, lte, oN_ix (by omega), oN_s]
    exact a1
def c_undo102 : Nat → Nat → List ((Nat × Nat) × (Nat × Nat)) → List ((Nat × Nat) × (Nat × Nat))
  | 0, _, L => c_undo199 24 0 L
  | k + 1, i, L => c_undo102 k (i + 1) (((13500555, i), (16646283, i)) :: ((13369483, i), (16515211, i)) :: ((13238411, i), (16384139, i)) :: ((13107339, i), (16253067, i)) :: ((12976267, i), (16121995, i)) :: ((12845195, i), (15990923, i)) :: ((12714123, i), (15859851, i)) :: L)
theorem undo_102 {L : List ((Nat × Nat) × (Nat × Nat))} {M0 M : Mem} (h : CpL L M0 M) (hL : KR PU L) : ∀ k fuel i, k < fuel → i + k = 4 → ∃ M', f_M_undo_l102 fuel (Int32.ofNat i) M = some (mI M' 12451850 1, M') ∧ CpL (c_undo102 k i L) M0 M' ∧ KR PU (c_undo102 k i L)
  | k, 0, _, h, _ => by omega
  | 0, f + 1, i, _, hi => by
    obtain ⟨M', a1, a2, a3⟩ := undo_199 h hL 24 200 0 (by omega) (by omega)
    refine ⟨M', ?_, a2, a3⟩
    simp only [f_M_undo_l102]
    rw [if_pos (show (4 : Int32) ≤ Int32.ofNat i from (oN_le (m := 4) (by omega) (by omega)).mpr (by omega))]
    exact a1
  | k + 1, f + 1, i, h1, hi => by
    have r0 := CpL.cons h hL (a := 12714123) (k := i) (b := 15859851) (l := i) (by unfold PU; simp only; omega)
    have q0 := KR.cons hL (p := (12714123, i)) (q := (15859851, i)) (by unfold PU; simp only; omega)
    have r1 := CpL.cons r0 q0 (a := 12845195) (k := i) (b := 15990923) (l := i) (by unfold PU; simp only; omega)
    have q1 := KR.cons q0 (p := (12845195, i)) (q := (15990923, i)) (by unfold PU; simp only; omega)
    have r2 := CpL.cons r1 q1 (a := 12976267) (k := i) (b := 16121995) (l := i) (by unfold PU; simp only; omega)
    have q2 := KR.cons q1 (p := (12976267, i)) (q := (16121995, i)) (by unfold PU; simp only; omega)
    have r3 := CpL.cons r2 q2 (a := 13107339) (k := i) (b := 16253067) (l := i) (by unfold PU; simp only; omega)
    have q3 := KR.cons q2 (p := (13107339, i)) (q := (16253067, i)) (by unfold PU; simp only; omega)
    have r4 := CpL.cons r3 q3 (a := 13238411) (k := i) (b := 16384139) (l := i) (by unfold PU; simp only; omega)
    have q4 := KR.cons q3 (p := (13238411, i)) (q := (16384139, i)) (by unfold PU; simp only; omega)
    have r5 := CpL.cons r4 q4 (a := 13369483) (k := i) (b := 16515211) (l := i) (by unfold PU; simp only; omega)
    have q5 := KR.cons q4 (p := (13369483, i)) (q := (16515211, i)) (by unfold PU; simp only; omega)
    have r6 := CpL.cons r5 q5 (a := 13500555) (k := i) (b := 16646283) (l := i) (by unfold PU; simp only; omega)
    have q6 := KR.cons q5 (p := (13500555, i)) (q := (16646283, i)) (by unfold PU; simp only; omega)
    obtain ⟨M', a1, a2, a3⟩ := undo_102 r6 q6 k f (i + 1) (by omega) (by omega)
    refine ⟨M', ?_, a2, a3⟩
    simp only [f_M_undo_l102]
    have hr := oN_in (i := i) (n := 4) (by omega) (by omega)
    rw [if_neg (show ¬ (4 : Int32) ≤ Int32.ofNat i from fun q => by have := (oN_le (m := 4) (by omega) (by omega)).mp q; omega), gd_pos hr, gd_pos hr, lte, gd_pos hr, gd_pos hr, lte, gd_pos hr, gd_pos hr, lte, gd_pos hr, gd_pos hr, lte, gd_pos hr, gd_pos hr, lte, gd_pos hr, gd_pos hr, lte, gd_pos hr, gd_pos hr, lte, lte, oN_ix (by omega), oN_s]
    exact a1
def c_undo52 : Nat → Nat → List ((Nat × Nat) × (Nat × Nat)) → List ((Nat × Nat) × (Nat × Nat))
  | 0, _, L => c_undo102 4 0 L
  | k + 1, i, L => c_undo52 k (i + 1) (((15597963, i), (17039755, i)) :: ((15466891, i), (16908683, i)) :: ((12583307, i), (15729035, i)) :: L)
theorem undo_52 {L : List ((Nat × Nat) × (Nat × Nat))} {M0 M : Mem} (h : CpL L M0 M) (hL : KR PU L) : ∀ k fuel i, k < fuel → i + k = 12 → ∃ M', f_M_undo_l52 fuel (Int32.ofNat i) M = some (mI M' 12451850 1, M') ∧ CpL (c_undo52 k i L) M0 M' ∧ KR PU (c_undo52 k i L)
  | k, 0, _, h, _ => by omega
  | 0, f + 1, i, _, hi => by
    obtain ⟨M', a1, a2, a3⟩ := undo_102 h hL 4 200 0 (by omega) (by omega)
    refine ⟨M', ?_, a2, a3⟩
    simp only [f_M_undo_l52]
    rw [if_pos (show (12 : Int32) ≤ Int32.ofNat i from (oN_le (m := 12) (by omega) (by omega)).mpr (by omega))]
    exact a1
  | k + 1, f + 1, i, h1, hi => by
    have r0 := CpL.cons h hL (a := 12583307) (k := i) (b := 15729035) (l := i) (by unfold PU; simp only; omega)
    have q0 := KR.cons hL (p := (12583307, i)) (q := (15729035, i)) (by unfold PU; simp only; omega)
    have r1 := CpL.cons r0 q0 (a := 15466891) (k := i) (b := 16908683) (l := i) (by unfold PU; simp only; omega)
    have q1 := KR.cons q0 (p := (15466891, i)) (q := (16908683, i)) (by unfold PU; simp only; omega)
    have r2 := CpL.cons r1 q1 (a := 15597963) (k := i) (b := 17039755) (l := i) (by unfold PU; simp only; omega)
    have q2 := KR.cons q1 (p := (15597963, i)) (q := (17039755, i)) (by unfold PU; simp only; omega)
    obtain ⟨M', a1, a2, a3⟩ := undo_52 r2 q2 k f (i + 1) (by omega) (by omega)
    refine ⟨M', ?_, a2, a3⟩
    simp only [f_M_undo_l52]
    have hr := oN_in (i := i) (n := 12) (by omega) (by omega)
    rw [if_neg (show ¬ (12 : Int32) ≤ Int32.ofNat i from fun q => by have := (oN_le (m := 12) (by omega) (by omega)).mp q; omega), gd_pos hr, gd_pos hr, lte, gd_pos hr, gd_pos hr, lte, gd_pos hr, gd_pos hr, lte, lte, oN_ix (by omega), oN_s]
    exact a1
def L_undo : List ((Nat × Nat) × (Nat × Nat)) := c_undo52 12 0 (((12451850, 37), (12451850, 45)) :: ((12451850, 3), (12451850, 44)) :: ((12451850, 2), (12451850, 43)) :: ((12451850, 1), (12451850, 42)) :: ((12451850, 13), (12451850, 41)) :: [])
theorem undo_m (M : Mem) (h0 : ¬ mI M 12451850 40 = 0) : ∃ M', f_M_undo M = some (mI M' 12451850 1, M') ∧ CpL L_undo M M' ∧ KR PU L_undo := by
  have n0 : KR PU [] := fun e he => by cases he
  have r0 := CpL.cons (CpL.nil M) n0 (a := 12451850) (k := 13) (b := 12451850) (l := 41) (by unfold PU; simp only; omega)
  have q0 := KR.cons n0 (p := (12451850, 13)) (q := (12451850, 41)) (Or.inr (Or.inr ⟨rfl, by decide⟩))
  have r1 := CpL.cons r0 q0 (a := 12451850) (k := 1) (b := 12451850) (l := 42) (by unfold PU; simp only; omega)
  have q1 := KR.cons q0 (p := (12451850, 1)) (q := (12451850, 42)) (Or.inr (Or.inr ⟨rfl, by decide⟩))
  have r2 := CpL.cons r1 q1 (a := 12451850) (k := 2) (b := 12451850) (l := 43) (by unfold PU; simp only; omega)
  have q2 := KR.cons q1 (p := (12451850, 2)) (q := (12451850, 43)) (Or.inr (Or.inr ⟨rfl, by decide⟩))
  have r3 := CpL.cons r2 q2 (a := 12451850) (k := 3) (b := 12451850) (l := 44) (by unfold PU; simp only; omega)
  have q3 := KR.cons q2 (p := (12451850, 3)) (q := (12451850, 44)) (Or.inr (Or.inr ⟨rfl, by decide⟩))
  have r4 := CpL.cons r3 q3 (a := 12451850) (k := 37) (b := 12451850) (l := 45) (by unfold PU; simp only; omega)
  have q4 := KR.cons q3 (p := (12451850, 37)) (q := (12451850, 45)) (Or.inr (Or.inr ⟨rfl, by decide⟩))
  obtain ⟨M', a1, a2, a3⟩ := undo_52 r4 q4 12 200 0 (by omega) (by omega)
  refine ⟨M', ?_, a2, a3⟩
  unfold f_M_undo
  rw [if_neg h0, lte, lte, lte, lte, lte]
  exact a1
def okI : Bool := (List.range nC).all fun i => if i < 89 then lk (hL 3407877 131077) (ce (89 + i)) == some (ce i) && lk L_image (me (89 + i)) == some (me i) && lk (hL 3407877 131077) (ce i) == none && lk L_image (me i) == none && lo (89 + i) == lo i && hi (89 + i) == hi i else if 178 ≤ i then lk (hL 3407877 131077) (ce i) == none && lk L_image (me i) == none else true
def okU : Bool := (List.range nC).all fun i => if i < 89 then lk (hL 131077 3407877) (ce i) == some (ce (89 + i)) && lk L_undo (me i) == some (me (89 + i)) && lk (hL 131077 3407877) (ce (89 + i)) == none && lk L_undo (me (89 + i)) == none && lo (89 + i) == lo i && hi (89 + i) == hi i else if 178 ≤ i then lk (hL 131077 3407877) (ce i) == none && lk L_undo (me i) == none else true
theorem okI_is : okI = true := by decide +kernel
theorem okU_is : okU = true := by decide +kernel
theorem okI_a {i : Nat} (h : i < 89) : lk (hL 3407877 131077) (ce (89 + i)) = some (ce i) ∧ lk L_image (me (89 + i)) = some (me i) ∧ lk (hL 3407877 131077) (ce i) = none ∧ lk L_image (me i) = none ∧ lo (89 + i) = lo i ∧ hi (89 + i) = hi i := by
  have := List.all_eq_true.mp okI_is i (List.mem_range.mpr (by unfold nC; omega))
  rw [if_pos h] at this
  simpa [and_assoc] using this
theorem okI_b {i : Nat} (h : 178 ≤ i) (h2 : i < nC) : lk (hL 3407877 131077) (ce i) = none ∧ lk L_image (me i) = none := by
  have := List.all_eq_true.mp okI_is i (List.mem_range.mpr h2)
  rw [if_neg (by omega), if_pos h] at this
  simpa using this
theorem okU_a {i : Nat} (h : i < 89) : lk (hL 131077 3407877) (ce i) = some (ce (89 + i)) ∧ lk L_undo (me i) = some (me (89 + i)) ∧ lk (hL 131077 3407877) (ce (89 + i)) = none ∧ lk L_undo (me (89 + i)) = none ∧ lo (89 + i) = lo i ∧ hi (89 + i) = hi i := by
  have := List.all_eq_true.mp okU_is i (List.mem_range.mpr (by unfold nC; omega))
  rw [if_pos h] at this
  simpa [and_assoc] using this
theorem okU_b {i : Nat} (h : 178 ≤ i) (h2 : i < nC) : lk (hL 131077 3407877) (ce i) = none ∧ lk L_undo (me i) = none := by
  have := List.all_eq_true.mp okU_is i (List.mem_range.mpr h2)
  rw [if_neg (by omega), if_pos h] at this
  simpa using this
theorem okX {j : Nat} (h : j < 4) : (lk (hL 3407877 131077) (4063236 + 655360 * j + 262215, 0) = some (786436 + 655360 * j + 262215, 0) ∧ lk (hL 3407877 131077) (4063236 + 655360 * j + 262215, 1) = some (786436 + 655360 * j + 262215, 1) ∧ lk (hL 3407877 131077) (4063236 + 655360 * j, 0) = some (786436 + 655360 * j, 0) ∧ lk L_image (16384139, j) = some (13238411, j)) ∧ (lk (hL 131077 3407877) (786436 + 655360 * j + 262215, 0) = some (4063236 + 655360 * j + 262215, 0) ∧ lk (hL 131077 3407877) (786436 + 655360 * j + 262215, 1) = some (4063236 + 655360 * j + 262215, 1) ∧ lk (hL 131077 3407877) (786436 + 655360 * j, 0) = some (4063236 + 655360 * j, 0) ∧ lk L_undo (13238411, j) = some (16384139, j)) := by
  have : (List.range 4).all (fun j => (lk (hL 3407877 131077) (4063236 + 655360 * j + 262215, 0) == some (786436 + 655360 * j + 262215, 0) && lk (hL 3407877 131077) (4063236 + 655360 * j + 262215, 1) == some (786436 + 655360 * j + 262215, 1) && lk (hL 3407877 131077) (4063236 + 655360 * j, 0) == some (786436 + 655360 * j, 0) && lk L_image (16384139, j) == some (13238411, j)) && (lk (hL 131077 3407877) (786436 + 655360 * j + 262215, 0) == some (4063236 + 655360 * j + 262215, 0) && lk (hL 131077 3407877) (786436 + 655360 * j + 262215, 1) == some (4063236 + 655360 * j + 262215, 1) && lk (hL 131077 3407877) (786436 + 655360 * j, 0) == some (4063236 + 655360 * j, 0) && lk L_undo (13238411, j) == some (16384139, j))) = true := by decide +kernel
  have := List.all_eq_true.mp this j (List.mem_range.mpr h)
  simpa [and_assoc] using this
theorem CpL.some {L : List ((Nat × Nat) × (Nat × Nat))} {C C' : Mem} (h : CpL L C C') {p q : Nat × Nat} (e : lk L p = some q) : rdI C' p = rdI C q := by
  rw [h.1 p, e]; rfl
theorem CpL.no {L : List ((Nat × Nat) × (Nat × Nat))} {C C' : Mem} (h : CpL L C C') {p : Nat × Nat} (e : lk L p = none) : rdI C' p = rdI C p := by
  rw [h.1 p, e]; rfl
theorem sim_image {hs : Nat → List Cls} {C M : Mem} (h : Rel hs C M) : Sim C M (f_D_image C) f_M_image := by
  obtain ⟨C1, a1, a2, a3⟩ := home_cp (t := 3407877) (s := 131077) (Or.inr (by omega)) C
  obtain ⟨M1, b1, b2, b3⟩ := image_m M
  have nz : ∀ k, k < nC → k ≠ 178 → rdI (wrI C1 (ce 178) 1) (ce k) = rdI C1 (ce k) := fun k hk hne => by rw [rd_wr, if_neg fun q => hne (ce_inj hk (by decide) q)]
  have e178 : rdI (wrI C1 (ce 178) 1) (ce 178) = 1 := by rw [rd_wr, if_pos rfl]
  have mz : ∀ k, k < nC → k ≠ 178 → rdI (setI M 12451850 40 1) (me k) = rdI M (me k) := fun k hk hne => by
    show rdI (wrI M (me 178) 1) (me k) = _
    rw [rd_wr, if_neg fun q => hne (me_inj hk (by decide) q)]
  have m178 : rdI (setI M 12451850 40 1) (me 178) = 1 := by
    show rdI (wrI M (me 178) 1) (me 178) = _
    rw [rd_wr, if_pos rfl]
  have A : ∀ i, i < 89 → rdI (wrI C1 (ce 178) 1) (ce i) = rdI C (ce i) ∧ rdI (wrI C1 (ce 178) 1) (ce (89 + i)) = rdI C (ce i) ∧ rdI M1 (me i) = rdI M (me i) ∧ rdI M1 (me (89 + i)) = rdI M (me i) := fun i hi' => by
    obtain ⟨o1, o2, o3, o4, -⟩ := okI_a hi'
    have l1 : i < nC := by unfold nC; omega
    have l2 : 89 + i < nC := by unfold nC; omega
    refine ⟨?_, ?_, ?_, ?_⟩
    · rw [nz i l1 (by omega), a2.no o3]
    · rw [nz _ l2 (by omega), a2.some o1]
    · rw [b2.no o4, mz i l1 (by omega)]
    · rw [b2.some o2, mz i l1 (by omega)]
  have B : ∀ i, 178 < i → i < nC → rdI (wrI C1 (ce 178) 1) (ce i) = rdI C (ce i) ∧ rdI M1 (me i) = rdI M (me i) := fun i h1 h2 => by
    obtain ⟨o1, o2⟩ := okI_b (Nat.le_of_lt h1) h2
    exact ⟨by rw [nz i h2 (by omega), a2.no o1], by rw [b2.no o2, mz i h2 (by omega)]⟩
  have c1 : ∀ a, (a < 3407877 ∨ 6684677 ≤ a) → a ≠ 9 → ∀ k, mI (wrI C1 (ce 178) 1) a k = mI C a k := fun a ha h9 k => by
    rw [mI_ne (p := ce 178) h9]
    exact a2.no (p := (a, k)) (lk_none a3 (by unfold PH; simp only; omega))
  have d1 : ∀ a, (a < 15729035 ∨ 17039755 < a) → a ≠ 12451850 → ∀ k, mI M1 a k = mI M a k := fun a ha h9 k => by
    have := b2.no (p := (a, k)) (lk_none b3 (by unfold PI; simp only; omega))
    exact this.trans (if_neg fun q => h9 q.1)
  have hR : Rel hs (wrI C1 (ce 178) 1) M1 := by
    obtain ⟨h1, h2, h3, h4, h5, h6⟩ := h
    refine ⟨?_, ?_, ?_, ?_, ?_, ?_⟩
    · intro i hi' hm
      by_cases c : i < 89
      · obtain ⟨x1, x2, x3, x4⟩ := A i c
        rw [x1, x3]; exact h1 i hi' (Or.inl (by unfold inImg; omega))
      · by_cases c2 : i < 178
        · obtain ⟨u, hu⟩ : ∃ u, i = 89 + u := ⟨i - 89, by omega⟩
          subst hu
          obtain ⟨x1, x2, x3, x4⟩ := A u (by omega)
          obtain ⟨-, -, -, -, y1, y2⟩ := okI_a (i := u) (by omega)
          rw [x2, x4, y1, y2]
          exact h1 u (by unfold nC; omega) (Or.inl (by unfold inImg; omega))
        · by_cases c3 : i = 178
          · subst c3
            rw [e178, b2.no (okI_b (i := 178) (by omega) (by decide)).2, m178]
            exact ⟨rfl, by decide, by decide⟩
          · obtain ⟨x1, x2⟩ := B i (by omega) hi'
            rw [x1, x2]; exact h1 i hi' (Or.inl (by unfold inImg; omega))
    · exact h2.fr (fun a ha k => c1 a (by unfold hReg at ha; omega) (by unfold hReg at ha; omega) k) (fun a ha k => by rw [mR_wrI, a2.2.1]) (B 179 (by decide) (by decide)).1 (fun a ha k => d1 a (by unfold mReg at ha; omega) (by unfold mReg at ha; omega) k)
    · obtain ⟨y1, y2, y3⟩ := h3
      refine ⟨by rw [(A 63 (by decide)).1, (B 179 (by decide) (by decide)).1]; exact y1, fun _ => ?_, fun t ht => ?_⟩
      · rw [show (152 : Nat) = 89 + 63 from rfl, (A 63 (by decide)).2.1, (B 179 (by decide) (by decide)).1]; exact y1
      · rw [(B (302 + t) (by omega) (by unfold nC; omega)).1, (B (308 + t) (by omega) (by unfold nC; omega)).1]; exact y3 t ht
    · obtain ⟨y1, y2, y3⟩ := h4
      refine ⟨fun j hj => ?_, fun j hj hl => ?_, fun _ => ⟨fun j hj => ?_, fun j hj hl => ?_⟩⟩
      · rw [c1 _ (by omega) (by omega), c1 _ (by omega) (by omega), d1 _ (by omega) (by omega)]; exact y1 j hj
      · rw [(A 60 (by decide)).1] at hl
        rw [c1 _ (by omega) (by omega)]; exact y2 j hj hl
      · obtain ⟨⟨z1, z2, z3, z4⟩, -⟩ := okX hj
        have w1 : mI (wrI C1 (ce 178) 1) (4063236 + 655360 * j + 262215) 0 = mI C (786436 + 655360 * j + 262215) 0 := (mI_ne (p := ce 178) (show 4063236 + 655360 * j + 262215 ≠ 9 by omega)).trans (a2.some z1)
        have w2 : mI (wrI C1 (ce 178) 1) (4063236 + 655360 * j + 262215) 1 = mI C (786436 + 655360 * j + 262215) 1 := (mI_ne (p := ce 178) (show 4063236 + 655360 * j + 262215 ≠ 9 by omega)).trans (a2.some z2)
        have w4 : mI M1 16384139 j = mI M 13238411 j := (b2.some z4).trans (mS (M := M) (a := 12451850) (k := 40) (b := 13238411) (l := j) (v := 1) (by decide))
        rw [w1, w2, w4]; exact y1 j hj
      · obtain ⟨⟨z1, z2, z3, z4⟩, -⟩ := okX hj
        rw [show (149 : Nat) = 89 + 60 from rfl, (A 60 (by decide)).2.1] at hl
        have w3 : mI (wrI C1 (ce 178) 1) (4063236 + 655360 * j) 0 = mI C (786436 + 655360 * j) 0 := (mI_ne (p := ce 178) (show 4063236 + 655360 * j ≠ 9 by omega)).trans (a2.some z3)
        rw [w3]; exact y2 j hj hl
    · intro t k ht hk
      rw [mL_wrI, a2.2.2.1, b2.2.2.1]; exact h5 t k ht hk
    · rw [mZ_wrI, a2.2.2.2, b2.2.2.2]; exact h6
  have ea : rdI (wrI C1 (ce 178) 1) (ce 60) = rdI M1 (me 60) := hR.eq (i := 60) (by decide) (by unfold inImg; omega)
  refine sim_of h (a := rdI M1 (me 60)) (C' := wrI C1 (ce 178) 1) ?_ a2.2.2.2 b1 hR
  unfold f_D_image
  rw [a1, bds, lte, ← ea]
  rfl
theorem sim_undo {hs : Nat → List Cls} {C M : Mem} (h : Rel hs C M) : Sim C M (f_D_undo C) f_M_undo := by
  have l1 := h.lo (i := 178) (by decide) (by unfold inImg; omega)
  have l2 := h.hi (i := 178) (by decide) (by unfold inImg; omega)
  have l3 := h.eq (i := 178) (by decide) (by unfold inImg; omega)
  have q1 : mI C 9 2 = rdI C (ce 178) := rfl
  have q2 : mI M 12451850 40 = rdI C (ce 178) := l3.symm
  change 0 ≤ _ at l1
  change _ ≤ (1 : Int32) at l2
  by_cases hp : rdI C (ce 178) = 0
  · exact sim_no (-3) h (by unfold f_D_undo; rw [q1, if_pos hp]) (by unfold f_M_undo; rw [q2, if_pos hp])
  · have h178 : rdI C (ce 178) = 1 := by grind
    obtain ⟨C1, a1, a2, a3⟩ := home_cp (t := 131077) (s := 3407877) (Or.inl (by omega)) C
    obtain ⟨M1, b1, b2, b3⟩ := undo_m M (by rw [q2]; exact hp)
    have A : ∀ i, i < 89 → rdI C1 (ce i) = rdI C (ce (89 + i)) ∧ rdI C1 (ce (89 + i)) = rdI C (ce (89 + i)) ∧ rdI M1 (me i) = rdI M (me (89 + i)) ∧ rdI M1 (me (89 + i)) = rdI M (me (89 + i)) := fun i hi' => by
      obtain ⟨o1, o2, o3, o4, -⟩ := okU_a hi'
      exact ⟨a2.some o1, a2.no o3, b2.some o2, b2.no o4⟩
    have B : ∀ i, 178 ≤ i → i < nC → rdI C1 (ce i) = rdI C (ce i) ∧ rdI M1 (me i) = rdI M (me i) := fun i h1 h2 => by
      obtain ⟨o1, o2⟩ := okU_b h1 h2
      exact ⟨a2.no o1, b2.no o2⟩
    have c1 : ∀ a, (a < 131077 ∨ 3407877 ≤ a) → ∀ k, mI C1 a k = mI C a k := fun a ha k => a2.no (p := (a, k)) (lk_none a3 (by unfold PH; simp only; omega))
    have d1 : ∀ a, (a < 12583307 ∨ 15597963 < a) → a ≠ 12451850 → ∀ k, mI M1 a k = mI M a k := fun a ha h9 k => b2.no (p := (a, k)) (lk_none b3 (by unfold PU; simp only; omega))
    have d2 : ∀ a, mReg a → ∀ k, mI M1 a k = mI M a k := fun a ha k => b2.no (p := (a, k)) (lk_none b3 (by unfold mReg at ha; unfold PU; simp only; omega))
    have hR : Rel hs C1 M1 := by
      obtain ⟨h1, h2, h3, h4, h5, h6⟩ := h
      refine ⟨?_, ?_, ?_, ?_, ?_, ?_⟩
      · intro i hi' hm
        by_cases c : i < 89
        · obtain ⟨x1, x2, x3, x4⟩ := A i c
          obtain ⟨-, -, -, -, y1, y2⟩ := okU_a (i := i) (by omega)
          rw [x1, x3, ← y1, ← y2]; exact h1 (89 + i) (by unfold nC; omega) (Or.inr h178)
        · by_cases c2 : i < 178
          · obtain ⟨u, hu⟩ : ∃ u, i = 89 + u := ⟨i - 89, by omega⟩
            subst hu
            obtain ⟨x1, x2, x3, x4⟩ := A u (by omega)
            rw [x2, x4]
            exact h1 (89 + u) hi' (Or.inr h178)
          · obtain ⟨x1, x2⟩ := B i (by omega) hi'
            rw [x1, x2]; exact h1 i hi' (Or.inl (by unfold inImg; omega))
      · exact h2.fr (fun a ha k => c1 a (by unfold hReg at ha; omega) k) (fun a ha k => by rw [a2.2.1]) (B 179 (by decide) (by decide)).1 d2
      · obtain ⟨y1, y2, y3⟩ := h3
        refine ⟨by rw [(A 63 (by decide)).1, (B 179 (by decide) (by decide)).1]; exact y2 h178, fun _ => ?_, fun t ht => ?_⟩
        · rw [show (152 : Nat) = 89 + 63 from rfl, (A 63 (by decide)).2.1, (B 179 (by decide) (by decide)).1]; exact y2 h178
        · rw [(B (302 + t) (by omega) (by unfold nC; omega)).1, (B (308 + t) (by omega) (by unfold nC; omega)).1]; exact y3 t ht
      · obtain ⟨y1, y2, y3⟩ := h4
        obtain ⟨y3, y4⟩ := y3 h178
        refine ⟨fun j hj => ?_, fun j hj hl => ?_, fun _ => ⟨fun j hj => ?_, fun j hj hl => ?_⟩⟩
        · obtain ⟨-, z1, z2, z3, z4⟩ := okX hj
          have w1 : mI C1 (786436 + 655360 * j + 262215) 0 = mI C (4063236 + 655360 * j + 262215) 0 := a2.some z1
          have w2 : mI C1 (786436 + 655360 * j + 262215) 1 = mI C (4063236 + 655360 * j + 262215) 1 := a2.some z2
          have w4 : mI M1 13238411 j = mI M 16384139 j := b2.some z4
          rw [w1, w2, w4]; exact y3 j hj
        · obtain ⟨-, z1, z2, z3, z4⟩ := okX hj
          rw [(A 60 (by decide)).1] at hl
          have w3 : mI C1 (786436 + 655360 * j) 0 = mI C (4063236 + 655360 * j) 0 := a2.some z3
          rw [w3]; exact y4 j hj hl
        · rw [c1 _ (by omega), c1 _ (by omega), d1 _ (by omega) (by omega)]; exact y3 j hj
        · rw [show (149 : Nat) = 89 + 60 from rfl, (A 60 (by decide)).2.1] at hl
          rw [c1 _ (by omega)]; exact y4 j hj hl
      · intro t k ht hk
        rw [a2.2.2.1, b2.2.2.1]; exact h5 t k ht hk
      · rw [a2.2.2.2, b2.2.2.2]; exact h6
    have ea : rdI C1 (ce 60) = rdI M1 (me 60) := hR.eq (i := 60) (by decide) (by unfold inImg; omega)
    refine sim_of h (a := rdI M1 (me 60)) (C' := C1) ?_ a2.2.2.2 b1 hR
    unfold f_D_undo
    rw [q1, if_neg hp, a1, bds, ← ea]
    rfl
