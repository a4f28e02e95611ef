/-! tape, door -/
theorem fillL60 {p : Nat} (h : lnA p = 60) (v : Int64) (M : Mem) : f_Ar_fillL p v M = some (filL M p v 60 0) := by
  unfold f_Ar_fillL; rw [h]; exact filL_l6 h (by decide) v 60 200 0 M (by decide) rfl
theorem lte {α β : Type} (x : α) (g : α → β) : lt x g = g x := Eq.trans rfl rfl
theorem bR1 {d : Nat} (s n : Int32) (C : Mem) : f_Tp_becomeRow d s n C = bd (f_Ar_fillL (d + 132996) 0 (wrI (wrI C (d, 0) s) (d, 1) n)) fun M3 => some M3 := by
  unfold f_Tp_becomeRow; rw [lte, lte]; rfl
theorem bR2 {d p : Nat} (e : d + 132996 = p) (s n : Int32) (C : Mem) : f_Tp_becomeRow d s n C = bd (f_Ar_fillL p 0 (wrI (wrI C (d, 0) s) (d, 1) n)) fun M3 => some M3 := by
  rw [← e]; exact bR1 s n C
theorem becomeRow0 {d p : Nat} (e : d + 132996 = p) (hl : lnA p = 60) (s n : Int32) (C : Mem) : f_Tp_becomeRow d s n C = some (filL (wrI (wrI C (d, 0) s) (d, 1) n) p 0 60 0) := by
  rw [bR2 e, fillL60 hl]; rfl
theorem becomeRow {t : Nat} (ht : t < 6) (s n : Int32) (C : Mem) : f_Tp_becomeRow (10878984 + 262144 * t) s n C = some (filL (wrI (wrI C (10878984 + 262144 * t, 0) s) (10878984 + 262144 * t, 1) n) (10878984 + 262144 * t + 132996) 0 60 0) :=
  becomeRow0 (p := 10878984 + 262144 * t + 132996) rfl (by unfold lnA; omega) s n C
theorem mRow {t : Nat} (ht : t < 6) {p : Int32} (hr : inR p 6) (et : p.toNatClampNeg = t) (e0 : p = Int32.ofNat t) (n : Int32) (M : Mem) : f_M_tape_b65 p n p M = some (1, filL (wrI M (17432779, t) n) 17575180 0 60 (60 * t + 0)) := by
  unfold f_M_tape_b65
  rw [gd_pos hr]
  simp only [lt, et]
  rw [e0]
  exact tape_l69 ht 60 200 0 _ (by decide) (by decide)
theorem sim_tape {hs : Nat → List Cls} {C M : Mem} (h : Rel hs C M) (p1 p2 p3 : Int32) : Sim C M (f_D_tape p1 p2 p3 C) (f_M_tape p1 p2 p3) := by
  rcases tape_at C M p1 with ⟨t, ht, et, e0, hr, eC, eM⟩ | ⟨eC, eM⟩
  · have row : ∀ s n : Int32, -1 ≤ s → s ≤ 4 → 0 ≤ n → n ≤ 60 → (s = -1 → n = 0) → Rel hs (filL (wrI (wrI C (10878984 + 262144 * t, 0) s) (10878984 + 262144 * t, 1) n) (10878984 + 262144 * t + 132996) 0 60 0) (filL (wrI (wrI M (17301707, t) s) (17432779, t) n) 17575180 0 60 (60 * t + 0)) := fun s n a b c d e => (h.tape ht a b c d e).emptied ht
    have hz : ∀ s n : Int32, mZ (filL (wrI (wrI C (10878984 + 262144 * t, 0) s) (10878984 + 262144 * t, 1) n) (10878984 + 262144 * t + 132996) 0 60 0) = mZ C := fun s n => (filL_same _ _ _ _ _).2.2
    have mb : ∀ s n : Int32, f_M_tape_b65 p1 n p1 (setI M 17301707 t s) = some (1, filL (wrI (wrI M (17301707, t) s) (17432779, t) n) 17575180 0 60 (60 * t + 0)) := fun s n => mRow ht hr et e0 n _
    have k8 := tkd t
    have nz := tnz t
    have bR := fun s n => becomeRow ht s n C
    obtain ⟨d, hd⟩ : ∃ d, d = 10878984 + 262144 * t := ⟨_, rfl⟩
    rw [← hd] at k8 nz eC row hz bR
    by_cases hm : p2 = -1
    · subst hm
      refine sim_of h (a := 1) ?_ (hz (-1) 0) ?_ (row (-1) 0 (by decide) (by decide) (by decide) (by decide) (fun _ => rfl))
      · simp only [f_D_tape, eC, bd_some, if_neg nz, if_true, gd_pos k8, bR]
      · simp only [f_M_tape, eM, if_neg i10, mi1 (show (-1 : Int32) ≤ -1 ∧ (-1 : Int32) ≤ 4 by decide), if_pos (show (-1 : Int32) < 0 by decide), f_M_tape_b33, f_M_tape_b44, gd_pos hr, lt, et, if_neg (show ¬ (0 : Int32) ≤ -1 by decide), mb]
    · by_cases hp : 0 ≤ p2 ∧ p2 ≤ 4
      · have hp' : -1 ≤ p2 ∧ p2 ≤ 4 := ⟨by grind, hp.2⟩
        have hn : ¬ p2 < 0 := by grind
        by_cases h60 : p3 ≤ 60
        · by_cases h0 : 0 ≤ p3
          · refine sim_of h (a := 1) ?_ (hz p2 p3) ?_ (row p2 p3 hp'.1 hp.2 h0 h60 (fun e => absurd e hm))
            · simp only [f_D_tape, eC, bd_some, if_neg nz, if_neg hm, wi1 hp, if_neg i10, if_pos h60, if_pos h0, gd_pos k8, bR]
            · simp only [f_M_tape, eM, if_neg i10, mi1 hp', if_neg hn, if_pos h60, f_M_tape_b33, if_pos h0, f_M_tape_b44, gd_pos hr, lt, et, if_pos hp.1, mb]
          · exact sim_no (-14) h (by simp only [f_D_tape, eC, bd_some, if_neg nz, if_neg hm, wi1 hp, if_neg i10, if_pos h60, if_neg h0]) (by simp only [f_M_tape, eM, if_neg i10, mi1 hp', if_neg hn, if_pos h60, f_M_tape_b33, if_neg h0])
        · exact sim_no (-2) h (by simp only [f_D_tape, eC, bd_some, if_neg nz, if_neg hm, wi1 hp, if_neg i10, if_neg h60]) (by simp only [f_M_tape, eM, if_neg i10, mi1 hp', if_neg hn, if_neg h60])
      · have hp' : ¬ (-1 ≤ p2 ∧ p2 ≤ 4) := by grind
        exact sim_no (-2) h (by simp only [f_D_tape, eC, bd_some, if_neg nz, if_neg hm, wi0 hp, if_true]) (by simp only [f_M_tape, eM, if_neg i10, mi0 hp', if_true])
  · exact sim_no (-1) h (by simp only [f_D_tape, eC, bd_some, if_true]) (by simp only [f_M_tape, eM, if_true])
