/-! WHOLE, SETTLE -/
theorem MX.wl {T : Nat → Int32} {n sB a d : Nat} {M : Mem} {W out : List Int32} (h : MX T n sB M a W d out) : mI M 12451850 26 = Int32.ofNat W.length := h.2.2.2.2.2.2.1
theorem whole_no {T : Nat → Int32} {n sB a d fuel : Nat} {M : Mem} {W out : List Int32} (h : MX T n sB M a W d out) (hl : W.length ≤ 100) (hW : W.headD 0 ≠ 33) : f_M_whole_l0 (fuel + 1) M = some M := by
  simp only [f_M_whole_l0]
  rw [h.wl]
  match W, h, hl, hW with
  | [], h, _, _ => exact if_pos (by decide)
  | v :: W, h, hl, hW =>
    rw [List.length_cons] at hl
    have c : ¬ Int32.ofNat (v :: W).length ≤ 0 := fun z => by have := (oN_le (m := W.length + 1) (i := 0) (by omega) (by omega)).mp z; omega
    rw [if_neg c, List.length_cons, oN_p (by omega), Nat.add_sub_cancel, gd_pos (oN_in (by omega) (by omega)), oN_ix (by omega), h.top, if_neg (show ¬ v = 33 from hW)]
theorem whole_yes {T : Nat → Int32} {n sB a d f kk : Nat} {M : Mem} {W out : List Int32} (h : MX T n sB M a (33 :: W) (d + 1) out) (hl : W.length < 100) (hs : sB + out.length < 600) (hf : 100 * f ≤ sB) (hd : d < 100) : ∃ M', (∀ fuel, f_M_whole_l0 (fuel + 1) M = f_M_whole_l0 fuel M') ∧ MX T n sB M' a W d (out ++ [-33]) ∧ Fz (mtP (sB, kk)) M M' := by
  obtain ⟨M1, p1, p2, p3⟩ := put_m (f := f) (kk := kk) h hs hf (-33)
  have p4 := p2.pop.op d
  refine ⟨_, fun fuel => ?_, p4, (p3.trans (mt_11 (Or.inr (Or.inr (Or.inr (Or.inl rfl)))) _)).trans (mt_11 (Or.inr (Or.inr (Or.inr (Or.inr rfl)))) _)⟩
  have c : ¬ Int32.ofNat (33 :: W).length ≤ 0 := fun z => by
    rw [List.length_cons] at z
    have := (oN_le (m := W.length + 1) (i := 0) (by omega) (by omega)).mp z
    omega
  have e27 : mI (setI M1 12451850 26 (Int32.ofNat W.length)) 12451850 27 = Int32.ofNat (d + 1) := (mSk (by decide)).trans p2.2.2.2.2.2.2.2.2
  have w1 : Int32.ofNat (33 :: W).length - 1 = Int32.ofNat W.length := by rw [List.length_cons, oN_p (by omega)]; rfl
  have d1 : Int32.ofNat (d + 1) - 1 = Int32.ofNat d := by rw [oN_p (by omega)]; rfl
  have hr : inR (Int32.ofNat W.length) 101 := oN_in (by omega) (by omega)
  have hx : (Int32.ofNat W.length).toNatClampNeg = W.length := oN_ix (by omega)
  simp only [f_M_whole_l0, h.wl, if_neg c, w1, gd_pos hr, hx, h.top, if_true, p1, bdg, lte, p2.wl, e27, d1]
/-- how many signs of not wait on top -/
def lead : List Int32 → Nat
  | [] => 0
  | v :: W => if v = 33 then lead W + 1 else 0
theorem whole_ir {T : Nat → Int32} {n sB f : Nat} (hf : 100 * f ≤ sB) : ∀ (W : List Int32) (a d : Nat) (M : Mem) (out : List Int32) (f1 f2 : Nat), MX T n sB M a W d out → W.length ≤ 100 → sB + out.length + W.length ≤ 600 → d < 100 → lead W ≤ d → W.length < f1 → W.length < f2 → f_M_whole_l0 f1 M = f_M_whole_l0 f2 M
  | _, _, _, _, _, 0, _, _, _, _, _, _, h, _ => by omega
  | _, _, _, _, _, _, 0, _, _, _, _, _, _, h => by omega
  | [], a, d, M, out, f1 + 1, f2 + 1, h, hl, _, _, _, _, _ => by
    rw [whole_no h hl (by decide), whole_no h hl (by decide)]
  | v :: W, a, d, M, out, f1 + 1, f2 + 1, h, hl, hs, h2, h3, h4, h5 => by
    rw [List.length_cons] at hl hs h4 h5
    by_cases q : v = 33
    · subst q
      have hd : lead W + 1 ≤ d := by simpa [lead] using h3
      match d, hd, h2, h with
      | d + 1, hd, h2, h =>
        obtain ⟨M', g1, g2, g3⟩ := whole_yes (f := f) (kk := 0) h (by omega) (by omega) hf (by omega)
        rw [g1, g1]
        exact whole_ir hf W a d M' (out ++ [-33]) f1 f2 g2 (by omega) (by rw [List.length_append]; simp; omega) (by omega) (by omega) (by omega) (by omega)
    · rw [whole_no h (by rw [List.length_cons]; omega) q, whole_no h (by rw [List.length_cons]; omega) q]
theorem settle_no {T : Nat → Int32} {n sB a d fuel : Nat} {M : Mem} {W out : List Int32} {s : Int32} (h : MX T n sB M a W d out) (hl : W.length ≤ 100) (h38 : W.headD 0 ≠ 38) (h124 : W.headD 0 = 124 → s = 38) : f_M_settle_l0 (fuel + 1) s M = some M := by
  simp only [f_M_settle_l0]
  rw [h.wl]
  match W, h, hl, h38, h124 with
  | [], h, _, _, _ => exact if_pos (by decide)
  | v :: W, h, hl, h38, h124 =>
    rw [List.length_cons] at hl
    have c : ¬ Int32.ofNat (v :: W).length ≤ 0 := fun z => by have := (oN_le (m := W.length + 1) (i := 0) (by omega) (by omega)).mp z; omega
    have hr : inR (Int32.ofNat W.length) 101 := oN_in (by omega) (by omega)
    rw [if_neg c, List.length_cons, oN_p (by omega), Nat.add_sub_cancel, gd_pos hr, oN_ix (by omega), h.top, if_neg (show ¬ v = 38 from h38), gd_pos hr]
    by_cases q : v = 124
    · rw [if_pos q, if_pos (h124 q)]
    · rw [if_neg q]
theorem settle_yes {T : Nat → Int32} {n sB a d f fuel kk : Nat} {M : Mem} {v s : Int32} {W out : List Int32} (h : MX T n sB M a (v :: W) d out) (hv : v = 38 ∨ (v = 124 ∧ s ≠ 38)) (hl : W.length < 100) (hs : sB + out.length < 600) (hf : 100 * f ≤ sB) : ∃ M', f_M_settle_l0 (fuel + 1) s M = f_M_settle_l0 fuel s M' ∧ MX T n sB M' a W d (out ++ [-v]) ∧ Fz (mtP (sB, kk)) M M' := by
  obtain ⟨M1, p1, p2, p3⟩ := put_m (f := f) (kk := kk) h.pop hs hf (-v)
  refine ⟨M1, ?_, p2, (mt_11 (Or.inr (Or.inr (Or.inr (Or.inl rfl)))) _).trans p3⟩
  have c : ¬ Int32.ofNat (v :: W).length ≤ 0 := fun z => by
    rw [List.length_cons] at z
    have := (oN_le (m := W.length + 1) (i := 0) (by omega) (by omega)).mp z
    omega
  have w1 : Int32.ofNat (v :: W).length - 1 = Int32.ofNat W.length := by rw [List.length_cons, oN_p (by omega)]; rfl
  have hr : inR (Int32.ofNat W.length) 101 := oN_in (by omega) (by omega)
  have hx : (Int32.ofNat W.length).toNatClampNeg = W.length := oN_ix (by omega)
  have tp : mI (setI M 12451850 26 (Int32.ofNat W.length)) 14683307 W.length = v := (mS (by decide)).trans h.top
  have e26 : mI (setI M 12451850 26 (Int32.ofNat W.length)) 12451850 26 = Int32.ofNat W.length := mSe
  have b45 : f_M_settle_b45 (f_M_settle_l0 fuel) s M = f_M_settle_l0 fuel s M1 := by
    simp only [f_M_settle_b45, h.wl, w1, lte, e26, gd_pos hr, hx, tp, p1, bdg]
  simp only [f_M_settle_l0, h.wl, if_neg c, w1, gd_pos hr, hx, h.top, b45]
  rcases hv with q | ⟨q, z⟩
  · rw [if_pos q]
  · have n38 : ¬ v = 38 := by rw [q]; decide
    rw [if_neg n38, if_pos q, if_neg z]
def pnd (pend : List Int32) : Prop := pend = [] ∨ pend = [38] ∨ pend = [124] ∨ pend = [38, 124]
theorem settle_p {T : Nat → Int32} {n sB a d f kk : Nat} {M : Mem} {s : Int32} {pend W out : List Int32} (hp : pend = [] ∨ pend = [38] ∨ (s ≠ 38 ∧ pnd pend)) (h : MX T n sB M a (pend ++ W) d out) (h38 : W.headD 0 ≠ 38) (h124 : W.headD 0 = 124 → s = 38) (hl : W.length < 98) (hs : sB + out.length + pend.length ≤ 600) (hf : 100 * f ≤ sB) : ∃ M', f_M_settle s M = some M' ∧ MX T n sB M' a W d (out ++ pend.map (fun x => -x)) ∧ Fz (mtP (sB, kk)) M M' := by
  unfold f_M_settle
  have key : pend = [] ∨ pend = [38] ∨ (s ≠ 38 ∧ (pend = [124] ∨ pend = [38, 124])) := by
    rcases hp with q | q | ⟨z, q⟩
    · exact Or.inl q
    · exact Or.inr (Or.inl q)
    · rcases q with q | q | q | q
      · exact Or.inl q
      · exact Or.inr (Or.inl q)
      · exact Or.inr (Or.inr ⟨z, Or.inl q⟩)
      · exact Or.inr (Or.inr ⟨z, Or.inr q⟩)
  rcases key with q | q | ⟨z, q | q⟩
  · subst q
    exact ⟨M, settle_no (fuel := 199) h (by simp; omega) h38 h124, by simpa using h, Fz.rf⟩
  · subst q
    obtain ⟨M1, g1, g2, g3⟩ := settle_yes (f := f) (kk := kk) (fuel := 199) (s := s) h (Or.inl rfl) (by simp; omega) (by simp at hs; omega) hf
    exact ⟨M1, g1.trans (settle_no (fuel := 198) g2 (by simp; omega) h38 h124), by simpa using g2, g3⟩
  · subst q
    obtain ⟨M1, g1, g2, g3⟩ := settle_yes (f := f) (kk := kk) (fuel := 199) (s := s) h (Or.inr ⟨rfl, z⟩) (by simp; omega) (by simp at hs; omega) hf
    exact ⟨M1, g1.trans (settle_no (fuel := 198) g2 (by simp; omega) h38 h124), by simpa using g2, g3⟩
  · subst q
    obtain ⟨M1, g1, g2, g3⟩ := settle_yes (f := f) (kk := kk) (fuel := 199) (s := s) h (Or.inl rfl) (by simp; omega) (by simp at hs; omega) hf
    obtain ⟨M2, k1, k2', k3'⟩ := settle_yes (f := f) (kk := kk) (fuel := 198) (s := s) g2 (Or.inr ⟨rfl, z⟩) (by simp; omega) (by simp at hs ⊢; omega) hf
    exact ⟨M2, (g1.trans k1).trans (settle_no (fuel := 197) k2' (by simp; omega) h38 h124), by simpa using k2', g3.trans k3'⟩
