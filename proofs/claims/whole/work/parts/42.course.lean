/-! THE CLASS'S COURSE -/
def DoS (C : Mem) (d : Nat) (S : Nat → Int32) : Prop := (mI C d 0 = S 0 ∧ mI C d 1 = S 1 ∧ mI C d 2 = S 2 ∧ mI C d 3 = S 3 ∧ mI C d 4 = S 4) ∧ (mI C (d + 131143) 0 = S 5 ∧ mI C (d + 131143) 1 = S 6) ∧ (mI C (d + 262215) 0 = S 7 ∧ mI C (d + 262215) 1 = S 8) ∧ ∀ s, s < 6 → mI C (d + 393415) s = S (9 + s)
theorem DoS.fr {P : Nat → Nat → Prop} {C C' : Mem} {d : Nat} {S : Nat → Int32} (h : DoS C d S) (hF : Fr P C C') (h0 : ∀ k, ¬ P d k) (h1 : ∀ k, ¬ P (d + 131143) k) (h2 : ∀ k, ¬ P (d + 262215) k) (h3 : ∀ k, ¬ P (d + 393415) k) : DoS C' d S := by
  obtain ⟨⟨a0, a1, a2, a3, a4⟩, ⟨b0, b1⟩, ⟨c0, c1⟩, e⟩ := h
  refine ⟨⟨?_, ?_, ?_, ?_, ?_⟩, ⟨?_, ?_⟩, ⟨?_, ?_⟩, fun s hs => ?_⟩
  · rw [hF.1 _ _ (h0 _)]; exact a0
  · rw [hF.1 _ _ (h0 _)]; exact a1
  · rw [hF.1 _ _ (h0 _)]; exact a2
  · rw [hF.1 _ _ (h0 _)]; exact a3
  · rw [hF.1 _ _ (h0 _)]; exact a4
  · rw [hF.1 _ _ (h1 _)]; exact b0
  · rw [hF.1 _ _ (h1 _)]; exact b1
  · rw [hF.1 _ _ (h2 _)]; exact c0
  · rw [hF.1 _ _ (h2 _)]; exact c1
  · rw [hF.1 _ _ (h3 _)]; exact e s hs
/-- the cells from t on, a course's -/
def coP (t a _ : Nat) : Prop := t ≤ a ∧ a < t + 1048968
/-- all of a course's cells -/
def coA (t a _ : Nat) : Prop := t ≤ a ∧ a < t + 1310921
theorem coP_A (t : Nat) : ∀ a k, coP t a k → coA t a k := fun a k h => by unfold coP at h; unfold coA; omega
def oneP (d : Nat) : Nat → Nat → Prop := fun x _ => x = d
theorem oneP_n {d x k : Nat} (h : x ≠ d) : ¬ oneP d x k := h
theorem oneP_co {t d : Nat} (h : t ≤ d ∧ d < t + 1048968) : ∀ a k, oneP d a k → coP t a k := fun a k e => by
  have e : a = d := e
  subst e; exact h
theorem Fr.one {a : Nat} {A B : Mem} (h : Fr (oneP a) A B) (k : Nat) (v : Int32) : Fr (oneP a) A (setI B a k v) := Fr.set h (show oneP a a k from rfl) v
theorem DoS.fr1 {x : Nat} {C C' : Mem} {d : Nat} {S : Nat → Int32} (h : DoS C d S) (hF : Fr (oneP x) C C') (h0 : d ≠ x) (h1 : d + 131143 ≠ x) (h2 : d + 262215 ≠ x) (h3 : d + 393415 ≠ x) : DoS C' d S := h.fr hF (fun _ => h0) (fun _ => h1) (fun _ => h2) (fun _ => h3)
theorem tk_end {d n : Nat} {a : Int32} (C : Mem) : f_Dr_takeUp_l2 d (n + 1) a (Int32.ofNat 2) C = some C := by
  simp only [f_Dr_takeUp_l2]
  exact if_pos (by decide)
theorem tk_step {d n : Nat} {a : Int32} {i : Nat} (hi' : i < 2) (C : Mem) : f_Dr_takeUp_l2 d (n + 1) a (Int32.ofNat i) C = f_Dr_takeUp_l2 d n a (Int32.ofNat (i + 1)) (setI C (d + 131143) i (watS a (mI C (d + 131143) i) (mI C (d + 262215) i))) := by
  have hr : inR (Int32.ofNat i) 2 := oN_in (by omega) hi'
  have hx : (Int32.ofNat i).toNatClampNeg = i := oN_ix (by omega)
  simp only [f_Dr_takeUp_l2]
  rw [if_neg (fun q => by have := (oN_le (m := 2) (i := i) (by omega) (by omega)).mp q; omega)]
  simp only [gd_pos hr, hx, lte, oN_s]
  unfold watS
  by_cases q : mI C (d + 262215) i = 0
  · rw [if_pos q, if_pos q]
  · rw [if_neg q, if_neg q]
theorem tk_c {d : Nat} {C : Mem} {S : Nat → Int32} (h : DoS C d S) (a : Int32) : ∃ C', f_Dr_takeUp d a C = some C' ∧ DoS C' d (takS a S) ∧ Fr (oneP (d + 131143)) C C' := by
  obtain ⟨⟨a0, a1, a2, a3, a4⟩, ⟨b0, b1⟩, ⟨c0, c1⟩, e⟩ := h
  refine ⟨setI (setI C (d + 131143) 0 (watS a (S 5) (S 7))) (d + 131143) 1 (watS a (S 6) (S 8)), ?_, ⟨⟨?_, ?_, ?_, ?_, ?_⟩, ⟨?_, ?_⟩, ⟨?_, ?_⟩, fun s hs => ?_⟩, (Fr.rf.one _ _).one _ _⟩
  · unfold f_Dr_takeUp
    refine (tk_step (n := 199) (i := 0) (by decide) C).trans ?_
    refine (tk_step (n := 198) (i := 1) (by decide) _).trans ?_
    rw [mSk (by decide), mSk (by decide), b0, b1, c0, c1]
    exact tk_end (n := 197) _
  · rw [mS (by omega), mS (by omega)]; exact a0
  · rw [mS (by omega), mS (by omega)]; exact a1
  · rw [mS (by omega), mS (by omega)]; exact a2
  · rw [mS (by omega), mS (by omega)]; exact a3
  · rw [mS (by omega), mS (by omega)]; exact a4
  · rw [mSk (by decide), mSe]; rfl
  · rw [mSe]; rfl
  · rw [mS (by omega), mS (by omega)]; exact c0
  · rw [mS (by omega), mS (by omega)]; exact c1
  · rw [mS (by omega), mS (by omega), e s hs]
    unfold takS
    rw [if_neg (by omega), if_neg (by omega)]
theorem facts_c {d : Nat} {C : Mem} {S : Nat → Int32} (h : DoS C d S) : ∃ C', f_Dr_factsIn d (S 16) C = some (d + 524487, C') ∧ (∀ l, l < 6 → mI C' (d + 524487) l = fctS S l) ∧ Fr (oneP (d + 524487)) C C' := by
  obtain ⟨⟨a0, a1, a2, a3, a4⟩, ⟨b0, b1⟩, ⟨c0, c1⟩, e⟩ := h
  refine ⟨setI (setI (setI (setI (setI (setI C (d + 524487) 0 (S 1)) (d + 524487) 1 (S 0)) (d + 524487) 2 (dmpS S / 10)) (d + 524487) 3 (S 3)) (d + 524487) 4 (S 7 + S 8)) (d + 524487) 5 (S 16 - S 16 / 12 * 12), ?_, fun l hl => ?_, (((((Fr.rf.one _ _).one _ _).one _ _).one _ _).one _ _).one _ _⟩
  · unfold f_Dr_factsIn
    simp only [lte]
    rw [a1, mS (by omega), a0]
    have e1 : f_Dr_dampness d (setI (setI C (d + 524487) 0 (S 1)) (d + 524487) 1 (S 0)) = dmpS S := by
      unfold f_Dr_dampness dmpS
      rw [mS (by omega), mS (by omega), mS (by omega), mS (by omega), b0, b1]
    rw [e1, mS (by omega), mS (by omega), mS (by omega), a3]
    rw [mS (a := d + 524487) (b := d + 262215) (by omega), mS (a := d + 524487) (b := d + 262215) (by omega), mS (a := d + 524487) (b := d + 262215) (by omega), mS (a := d + 524487) (b := d + 262215) (by omega)]
    rw [mS (a := d + 524487) (b := d + 262215) (by omega), mS (a := d + 524487) (b := d + 262215) (by omega), mS (a := d + 524487) (b := d + 262215) (by omega), mS (a := d + 524487) (b := d + 262215) (by omega), c0, c1]
  · rcases (show l = 0 ∨ l = 1 ∨ l = 2 ∨ l = 3 ∨ l = 4 ∨ l = 5 by omega) with q | q | q | q | q | q <;> subst q
    · rw [mSk (by decide), mSk (by decide), mSk (by decide), mSk (by decide), mSk (by decide), mSe]; rfl
    · rw [mSk (by decide), mSk (by decide), mSk (by decide), mSk (by decide), mSe]; rfl
    · rw [mSk (by decide), mSk (by decide), mSk (by decide), mSe]; rfl
    · rw [mSk (by decide), mSk (by decide), mSe]; rfl
    · rw [mSk (by decide), mSe]; rfl
    · rw [mSe]; rfl
theorem hReg_co {t : Nat} (ht : t = 7602179 ∨ t = 9043971) {a : Nat} (h : hReg a) (k : Nat) : ¬ coP t a k := by
  unfold hReg at h; unfold coP; omega
theorem HRep.co {t : Nat} (ht : t = 7602179 ∨ t = 9043971) {C C' : Mem} (hF : Fr (coP t) C C') {id : Nat} {cs : List Cls} (h : HRep C id cs) : HRep C' id cs :=
  h.fr (fun a ha k => hF.1 a k (hReg_co ht ha k)) (fun a ha k => hF.2.1 a k (hReg_co ht ha k))
/-- a course that holds a door's state -/
def CoS (C : Mem) (t H : Nat) (cs : List Cls) (S : Nat → Int32) : Prop := DoS C (t + 393217) S ∧ mI C t 4 = S 15 ∧ mI C t 3 = S 16 ∧ mR C t 0 = H ∧ HRep C H cs
/-- and has settled -/
def CoT (C : Mem) (t H : Nat) (cs : List Cls) (S : Nat → Int32) : Prop := CoS C t H cs S ∧ mI C t 5 = swlS cs S ∧ mI C t 6 = bndS S ∧ mI C t 7 = hngS S
theorem swell_c {d : Nat} {C : Mem} {S : Nat → Int32} (h : DoS C d S) (x : Int32) : f_Dr_swell d x C = if S 1 = 1 then (x * dmpS S) / 20 + S 2 else if S 1 = 4 then ((x * dmpS S) / 20 + S 2) / 2 else if S 1 = 5 then mxI 0 ((x * dmpS S) / 20 - 2) else (x * dmpS S) / 20 := by
  obtain ⟨⟨a0, a1, a2, a3, a4⟩, ⟨b0, b1⟩, ⟨c0, c1⟩, e⟩ := h
  unfold f_Dr_swell
  have : f_Dr_dampness d C = dmpS S := by unfold f_Dr_dampness dmpS; rw [b0, b1]
  rw [lte, this, a1, a2]
theorem bend_c {d : Nat} {C : Mem} {S : Nat → Int32} (h : DoS C d S) : f_Dr_bend d C = bndS S := by
  obtain ⟨⟨a0, a1, a2, a3, a4⟩, ⟨b0, b1⟩, ⟨c0, c1⟩, e⟩ := h
  unfold f_Dr_bend bndS
  rw [lte, b0, b1, a1]
theorem hang_c {d : Nat} {C : Mem} {S : Nat → Int32} (h : DoS C d S) : f_Dr_hang d (S 15) C = hngS S := by
  obtain ⟨⟨a0, a1, a2, a3, a4⟩, ⟨b0, b1⟩, ⟨c0, c1⟩, e⟩ := h
  unfold f_Dr_hang hngS
  rw [lte, a1, a2, a3, a4]
theorem ct_kd {t : Nat} (ht : t = 7602179 ∨ t = 9043971) : (t + 393217 + 524487) % 32 = 11 ∧ lnA (t + 393217 + 524487) = 6 := by
  rcases ht with e | e <;> subst e <;> exact ⟨by decide, by decide⟩
theorem settle_c {t H : Nat} (ht : t = 7602179 ∨ t = 9043971) {C : Mem} {cs : List Cls} {S : Nat → Int32} (h : CoS C t H cs S) (hw : wfH cs) : ∃ C', f_Co_settle t C = some C' ∧ CoT C' t H cs S ∧ Fr (coP t) C C' := by
  obtain ⟨h1, h2, h3, h4, h5⟩ := h
  obtain ⟨C1, f1, f2, f3⟩ := facts_c h1
  have F1 : Fr (coP t) C C1 := f3.mono (oneP_co (by omega))
  have g1 : DoS C1 (t + 393217) S := h1.fr1 f3 (by omega) (by omega) (by omega) (by omega)
  have g2 : mI C1 t 4 = S 15 := (f3.1 _ _ (oneP_n (by omega))).trans h2
  have g3 : mI C1 t 3 = S 16 := (f3.1 _ _ (oneP_n (by omega))).trans h3
  have g4 : mR C1 t 0 = H := (f3.2.1 _ _ (oneP_n (by omega))).trans h4
  have g5 : HRep C1 H cs := h5.co ht F1
  have fin : ∀ x : Int32, x = (if swS cs = 0 then 1 else sumS 0 (fctS S) cs) → ∃ C', f_Co_settle_b40 t x C1 = some C' ∧ CoT C' t H cs S ∧ Fr (coP t) C C' := fun x hx => by
    have k1 : f_Dr_swell (t + 393217) x C1 = swlS cs S := by rw [swell_c g1, hx]; rfl
    refine ⟨setI (setI (setI C1 t 5 (swlS cs S)) t 6 (bndS S)) t 7 (hngS S), ?_, ⟨⟨?_, ?_, ?_, ?_, ?_⟩, ?_, ?_, ?_⟩, ?_⟩
    · unfold f_Co_settle_b40
      simp only [lte]
      rw [k1]
      have d1 : DoS (setI C1 t 5 (swlS cs S)) (t + 393217) S := g1.fr1 (Fr.rf.one (a := t) _ _) (by omega) (by omega) (by omega) (by omega)
      have d2 : DoS (setI (setI C1 t 5 (swlS cs S)) t 6 (bndS S)) (t + 393217) S := d1.fr1 (Fr.rf.one (a := t) _ _) (by omega) (by omega) (by omega) (by omega)
      show some (setI (setI (setI C1 t 5 (swlS cs S)) t 6 (f_Dr_bend (t + 393217) (setI C1 t 5 (swlS cs S)))) t 7 (f_Dr_hang (t + 393217) (mI (setI (setI C1 t 5 (swlS cs S)) t 6 (f_Dr_bend (t + 393217) (setI C1 t 5 (swlS cs S)))) t 4) (setI (setI C1 t 5 (swlS cs S)) t 6 (f_Dr_bend (t + 393217) (setI C1 t 5 (swlS cs S)))))) = _
      rw [bend_c d1, mSk (by decide), mSk (by decide), g2, hang_c d2]
    · exact g1.fr1 (((Fr.rf.one (a := t) _ _).one _ _).one _ _) (by omega) (by omega) (by omega) (by omega)
    · rw [mSk (by decide), mSk (by decide), mSk (by decide)]; exact g2
    · rw [mSk (by decide), mSk (by decide), mSk (by decide)]; exact g3
    · exact g4
    · exact g5.co ht (((Fr.rf.set (P := coP t) (by unfold coP; omega) _).set (by unfold coP; omega) _).set (by unfold coP; omega) _)
    · rw [mSk (by decide), mSk (by decide), mSe]
    · rw [mSk (by decide), mSe]
    · rw [mSe]
    · exact ((F1.set (P := coP t) (by unfold coP; omega) _).set (by unfold coP; omega) _).set (by unfold coP; omega) _
  unfold f_Co_settle
  rw [h3, f1, b2g, g4, gd_pos g5.1, g5.2.2.1]
  by_cases z : swS cs = 0
  · rw [if_pos z]; exact fin 1 (by rw [if_pos z])
  · rw [if_neg z, gd_pos g5.1, gd_pos (ct_kd ht).1, total_c g5 (by decide) hw (ct_kd ht).2 f2, bdg]
    exact fin _ (by rw [if_neg z])
theorem draw_c {d : Nat} {C : Mem} {S : Nat → Int32} (h : DoS C d S) (x : Int32) : ∃ C', f_Dr_drawOut d x C = some C' ∧ DoS C' d (fun i => if i = 3 then mnI 20 (S 3 + x) else S i) ∧ Fr (oneP d) C C' ∧ mR C' = mR C := by
  obtain ⟨⟨a0, a1, a2, a3, a4⟩, ⟨b0, b1⟩, ⟨c0, c1⟩, e⟩ := h
  refine ⟨setI C d 3 (mnI 20 (S 3 + x)), ?_, ⟨⟨?_, ?_, ?_, ?_, ?_⟩, ⟨?_, ?_⟩, ⟨?_, ?_⟩, fun s hs => ?_⟩, Fr.rf.one _ _, rfl⟩
  · unfold f_Dr_drawOut; rw [lte, a3]
  · rw [mSk (by decide)]; exact a0
  · rw [mSk (by decide)]; exact a1
  · rw [mSk (by decide)]; exact a2
  · rw [mSe]; rfl
  · rw [mSk (by decide)]; exact a4
  · rw [mS (by omega)]; exact b0
  · rw [mS (by omega)]; exact b1
  · rw [mS (by omega)]; exact c0
  · rw [mS (by omega)]; exact c1
  · rw [mS (by omega)]
    show _ = if 9 + s = 3 then _ else _
    rw [if_neg (by omega)]; exact e s hs
theorem DoS.cg {C : Mem} {d : Nat} {S T : Nat → Int32} (h : DoS C d S) (e : ∀ i, i < 15 → S i = T i) : DoS C d T := by
  obtain ⟨⟨a0, a1, a2, a3, a4⟩, ⟨b0, b1⟩, ⟨c0, c1⟩, f⟩ := h
  rw [e _ (by decide)] at a0 a1 a2 a3 a4 b0 b1 c0 c1
  exact ⟨⟨a0, a1, a2, a3, a4⟩, ⟨b0, b1⟩, ⟨c0, c1⟩, fun s hs => by rw [f s hs, e _ (by omega)]⟩
theorem pass_c {t H : Nat} (ht : t = 7602179 ∨ t = 9043971) {C : Mem} {cs : List Cls} {S : Nat → Int32} (h : CoS C t H cs S) (hw : wfH cs) (a : Int32) : ∃ C', f_Co_pass t a C = some C' ∧ CoS C' t H cs (pasS cs a S) ∧ Fr (coP t) C C' := by
  obtain ⟨h1, h2, h3, h4, h5⟩ := h
  obtain ⟨C1, f1, f2, f3⟩ := tk_c h1 a
  have F1 : Fr (coP t) C C1 := f3.mono (oneP_co (by omega))
  have g3 : mI C1 t 3 = takS a S 16 := (f3.1 _ _ (oneP_n (by omega))).trans h3
  obtain ⟨C2, j1, j2, j3⟩ := facts_c f2
  have F2 : Fr (coP t) C C2 := F1.trans (j3.mono (oneP_co (by omega)))
  have e2 : DoS C2 (t + 393217) (takS a S) := f2.fr1 j3 (by omega) (by omega) (by omega) (by omega)
  have r1 : mR C1 t 0 = H := (f3.2.1 _ _ (oneP_n (by omega))).trans h4
  have H2 : HRep C2 H cs := h5.co ht F2
  obtain ⟨C3, l1, l2, l3, l4⟩ := draw_c e2 (sumS 1 (fctS (takS a S)) cs)
  have F3 : Fr (coP t) C C3 := F2.trans (l3.mono (oneP_co (by omega)))
  have r3 : mR C3 t 0 = H := by rw [l4]; exact (j3.2.1 _ _ (oneP_n (by omega))).trans r1
  have H3 : HRep C3 H cs := h5.co ht F3
  have m3 : mI C3 t 3 = S 16 := (l3.1 _ _ (oneP_n (by omega))).trans ((j3.1 _ _ (oneP_n (by omega))).trans g3)
  have m4 : mI C3 t 4 = S 15 := (l3.1 _ _ (oneP_n (by omega))).trans ((j3.1 _ _ (oneP_n (by omega))).trans ((f3.1 _ _ (oneP_n (by omega))).trans h2))
  refine ⟨setI (setI C3 t 3 (S 16 + 1)) t 4 (f_D_sunk (S 15) (S 16 + 1) (lastS 2 0 cs) (zM 0)), ?_, ⟨?_, ?_, ?_, ?_, ?_⟩, ?_⟩
  · unfold f_Co_pass
    rw [f1, bdg, g3, j1, b2g, r1, gd_pos h5.1, gd_pos (ct_kd ht).1, total_c H2 (by decide) hw (ct_kd ht).2 j2, bdg, l1, bdg, lte, m3]
    have r4 : mR (setI C3 t 3 (S 16 + 1)) t 0 = H := r3
    rw [r4, gd_pos h5.1, lte, mSk (by decide), m4, mSe]
    have e : mI (setI C3 t 3 (S 16 + 1)) H 2 = lastS 2 0 cs := by
      have := H3.2.1
      rw [mS (by unfold hReg at this; omega)]; exact H3.2.2.2.1
    rw [e]; rfl
  · refine (l2.fr1 (((Fr.rf.one (a := t) _ _).one _ _)) (by omega) (by omega) (by omega) (by omega)).cg fun i hi' => ?_
    unfold pasS
    by_cases q : i = 3
    · rw [if_pos q, if_pos q]; rfl
    · rw [if_neg q, if_neg q, if_neg (by omega), if_neg (by omega)]
  · rw [mSe]; rfl
  · rw [mSk (by decide), mSe]; rfl
  · exact r3
  · exact H3.co ht ((Fr.rf.set (P := coP t) (by unfold coP; omega) _).set (by unfold coP; omega) _)
  · exact (F3.set (P := coP t) (by unfold coP; omega) _).set (by unfold coP; omega) _
