/-! A HOUSE IS BUILT -/
def orW (cs : List Cls) (b : Int32) : Int32 := if b = 1 ∨ swS cs = 1 then 1 else 0
theorem init_l28 {C : Mem} {t p : Nat} {qs : List Cls} (h10 : qs.length ≤ 10) (h16 : p % 32 = 16) (hln : lnA p = qs.length) (hc : ∀ c, c < qs.length → mR C p c % 131072 = 2 ∧ mI C (mR C p c) 0 = (qs.getD c (0, 0, [])).1 ∧ mI C (mR C p c) 1 = (qs.getD c (0, 0, [])).2.1) : ∀ (k fuel i : Nat) (v2 v3 v4 : Int32), k < fuel → i + k = qs.length → (v2 = 0 ∨ v2 = 1) → f_Hs_init_l28 t p fuel v2 v3 v4 p (Int32.ofNat qs.length) (Int32.ofNat i) C = some (setI (setI (setI C t 1 (orW (qs.drop i) v2)) t 2 (lastS 2 v3 (qs.drop i))) t 3 (lastS 3 v4 (qs.drop i)))
  | k, 0, _, _, _, _, h, _, _ => by omega
  | 0, fuel + 1, i, v2, v3, v4, _, hi', hv => by
    have c : Int32.ofNat qs.length ≤ Int32.ofNat i := (oN_le (by omega) (by omega)).mpr (by omega)
    have e : orW (qs.drop i) v2 = v2 := by
      rw [List.drop_of_length_le (by omega)]
      rcases hv with q | q <;> subst q <;> decide
    simp only [f_Hs_init_l28, if_pos c, gd_pos hv, lte]
    rw [e, List.drop_of_length_le (by omega)]; rfl
  | k + 1, fuel + 1, i, v2, v3, v4, _, hi', hv => by
    have hil : i < qs.length := by omega
    have c : ¬ Int32.ofNat qs.length ≤ Int32.ofNat i := fun q => by have := (oN_le (by omega) (by omega)).mp q; omega
    obtain ⟨a1, a2, a3⟩ := hc i hil
    rw [drop_c hil (0, 0, [])]
    generalize qs.getD i (0, 0, []) = q at a2 a3 ⊢
    have ih := fun v2 v3 v4 h => init_l28 (t := t) h10 h16 hln hc k fuel (i + 1) v2 v3 v4 (by omega) (by omega) h
    have hr : inR (Int32.ofNat i) (lnA p) := by rw [hln]; exact oN_in (by omega) hil
    have hx : (Int32.ofNat i).toNatClampNeg = i := oN_ix (by omega)
    have l2 : lastS 2 v3 (q :: qs.drop (i + 1)) = lastS 2 (if q.1 = 2 then q.2.1 else v3) (qs.drop (i + 1)) := rfl
    have l3 : lastS 3 v4 (q :: qs.drop (i + 1)) = lastS 3 (if q.1 = 3 then q.2.1 else v4) (qs.drop (i + 1)) := rfl
    have o1 : orW (q :: qs.drop (i + 1)) v2 = orW (qs.drop (i + 1)) (v2 ||| (if q.1 = 0 then 1 else 0)) := by
      unfold orW swS
      rw [List.any_cons]
      by_cases z : q.1 = 0
      · rw [if_pos z, show (q.1 == 0) = true from beq_iff_eq.mpr z, Bool.true_or, if_pos (Or.inr (if_pos rfl))]
        have : v2 ||| 1 = 1 := by rcases hv with y | y <;> subst y <;> decide
        rw [this, if_pos (Or.inl rfl)]
      · rw [if_neg z, show (q.1 == 0) = false from beq_eq_false_iff_ne.mpr z, Bool.false_or]
        have : v2 ||| 0 = v2 := by rcases hv with y | y <;> subst y <;> decide
        rw [this]
    have hv' : ∀ b : Int32, (b = 0 ∨ b = 1) → (v2 ||| b = 0 ∨ v2 ||| b = 1) := fun b hb => by
      rcases hv with y | y <;> rcases hb with z | z <;> subst y <;> subst z <;> decide
    have b78 : ∀ (u s : Int32), f_Hs_init_b78 t p (f_Hs_init_l28 t p fuel) u v4 p (Int32.ofNat qs.length) (Int32.ofNat i) (mR C p i) s C = f_Hs_init_l28 t p fuel u s (if q.1 = 3 then q.2.1 else v4) p (Int32.ofNat qs.length) (Int32.ofNat (i + 1)) C := fun u s => by
      simp only [f_Hs_init_b78, gd_pos a1, a2, a3, lte, oN_s]
      by_cases z : q.1 = 3
      · rw [if_pos z, if_pos z]
      · rw [if_neg z, if_neg z]
    have b59 : ∀ b : Int32, f_Hs_init_b59 t p (f_Hs_init_l28 t p fuel) v3 v4 p (Int32.ofNat qs.length) (Int32.ofNat i) (mR C p i) b C = f_Hs_init_l28 t p fuel b (if q.1 = 2 then q.2.1 else v3) (if q.1 = 3 then q.2.1 else v4) p (Int32.ofNat qs.length) (Int32.ofNat (i + 1)) C := fun b => by
      simp only [f_Hs_init_b59, gd_pos a1, a2, a3, lte, b78]
      by_cases z : q.1 = 2
      · rw [if_pos z, if_pos z]
      · rw [if_neg z, if_neg z]
    rw [l2, l3, o1]
    have e00 : (0 : Int32) = 0 := rfl
    rcases hv with y | y
    · subst y
      simp only [f_Hs_init_l28, if_neg c, gd_pos h16, gd_pos hr, hx, lte, if_pos e00, gd_pos a1, a2, f_Hs_init_b54, b59]
      by_cases z : q.1 = 0
      · rw [if_pos z, if_pos z, show (0 : Int32) ||| 1 = 1 by decide]; exact ih _ _ _ (Or.inr rfl)
      · rw [if_neg z, if_neg z, show (0 : Int32) ||| 0 = 0 by decide]; exact ih _ _ _ (Or.inl rfl)
    · subst y
      have e : (1 : Int32) ||| (if q.1 = 0 then 1 else 0) = 1 := by split <;> decide
      simp only [f_Hs_init_l28, if_neg c, gd_pos h16, gd_pos hr, hx, lte, if_neg i10, f_Hs_init_b54, b59]
      rw [e]; exact ih _ _ _ (Or.inr rfl)
/-- rows of references are copied -/
theorem built_l10 {C : Mem} {p L : Nat} {qs : List Cls} (hL : qs.length = L) (h10 : L ≤ 10) (h16 : p % 32 = 16) (hln : lnA p = L) (hp : p ≠ 6947152 ∧ p ≠ 6684679) (h4 : mI C 6684679 4 = Int32.ofNat L) (hk : ∀ j, j < L → mR C 6947152 j % 131072 = 2) : ∀ (k fuel i : Nat) (C1 : Mem), k < fuel → i + k = L → (∀ a t, mI C1 a t = mI C a t) → (∀ a t, a ≠ p → mR C1 a t = mR C a t) → mL C1 = mL C → mZ C1 = mZ C → mW C1 = mW C → mV C1 = mV C → (∀ j, j < i → mR C1 p j = mR C 6947152 j) → ∃ C2, f_Tx_built_l10 fuel p (Int32.ofNat i) C1 = (lt (nid C2 6) fun a5 => lt (newM C2 6 4) fun M6 => gd (p % 32 = 16) (bd (f_Hs_init a5 p M6) fun M9 => some (a5, M9))) ∧ (∀ a t, mI C2 a t = mI C a t) ∧ (∀ a t, a ≠ p → mR C2 a t = mR C a t) ∧ mL C2 = mL C ∧ mZ C2 = mZ C ∧ (∀ j, j < L → mR C2 p j = mR C 6947152 j)
  | k, 0, _, _, h, _, _, _, _, _, _, _, _ => by omega
  | 0, fuel + 1, i, C1, _, hi', e1, e2, e3, e4, e5, e6, e7 => by
    have c : Int32.ofNat L ≤ Int32.ofNat i := (oN_le (by omega) (by omega)).mpr (by omega)
    refine ⟨C1, ?_, e1, e2, e3, e4, fun j hj => e7 j (by omega)⟩
    simp only [f_Tx_built_l10, e1, h4, if_pos c]
  | k + 1, fuel + 1, i, C1, _, hi', e1, e2, e3, e4, e5, e6, e7 => by
    have c : ¬ Int32.ofNat L ≤ Int32.ofNat i := fun q => by have := (oN_le (by omega) (by omega)).mp q; omega
    have hr10 : inR (Int32.ofNat i) 10 := oN_in (by omega) (by omega)
    have hr : inR (Int32.ofNat i) (lnA p) := by rw [hln]; exact oN_in (by omega) (by omega)
    have hx : (Int32.ofNat i).toNatClampNeg = i := oN_ix (by omega)
    have m1 : mR C1 6947152 i = mR C 6947152 i := e2 _ _ (Ne.symm hp.1)
    have m2 : mR C1 6947152 i % 131072 = 2 := by rw [m1]; exact hk i (by omega)
    obtain ⟨C2, r1, r2⟩ := built_l10 hL h10 h16 hln hp h4 hk k fuel (i + 1) (setR C1 p i (mR C1 6947152 i)) (by omega) (by omega) (fun a t => by rw [mI_setR]; exact e1 a t) (fun a t ha => by rw [mR_setR, if_neg (fun z => ha z.1)]; exact e2 a t ha) e3 e4 e5 e6 (fun j hj => by
      rw [mR_setR]
      by_cases q : j = i
      · rw [if_pos ⟨rfl, q⟩, q, m1]
      · rw [if_neg (fun z => q z.2)]; exact e7 j (by omega))
    refine ⟨C2, ?_, r2⟩
    rw [← r1]
    simp only [f_Tx_built_l10, e1, h4, if_neg c, gd_pos hr10, hx, gd_pos h16, gd_pos m2, gd_pos hr, lte, oN_s]
theorem orW0 (qs : List Cls) : orW qs 0 = swS qs := by
  unfold orW swS
  by_cases q : (qs.any fun q => q.1 == 0) = true
  · rw [if_pos q, if_pos (Or.inr rfl)]
  · rw [if_neg q, if_neg (fun z => z.elim (fun w => absurd w (by decide)) (fun w => absurd w (by decide)))]
/-- where a house's cells lie -/
def PL (C : Mem) (x : Nat) (qs : List Cls) : Prop := x / 131072 < mZ C ∧ mR C x 0 / 131072 < mZ C ∧ ∀ c, c < qs.length → mR C (mR C x 0) c / 131072 < mZ C ∧ mR C (mR C (mR C x 0) c) 2 / 131072 < mZ C
theorem built_c {C : Mem} {qs : List Cls} (h10 : qs.length ≤ 10) (hz : 95 ≤ mZ C) (h4 : mI C 6684679 4 = Int32.ofNat qs.length) (hk : ∀ j, j < qs.length → CRz (mZ C) C (mR C 6947152 j) (qs.getD j (0, 0, []))) : ∃ C' x, f_Tx_built C = some (x, C') ∧ HRep C' x qs ∧ Fz (neP (mZ C)) C C' ∧ PL C' x qs := by
  obtain ⟨p, hp⟩ : ∃ p, p = mZ C * 131072 + (qs.length * 32 + 16) := ⟨_, rfl⟩
  obtain ⟨x, hx⟩ : ∃ x, x = (mZ C + 1) * 131072 + 6 := ⟨_, rfl⟩
  have np_ : nid C (qs.length * 32 + 16) = p := by unfold nid; omega
  have pp : ∀ k, neP (mZ C) p k := fun k => by unfold neP; omega
  have px : ∀ k, neP (mZ C) x k := fun k => by unfold neP; omega
  have F1 : Fz (neP (mZ C)) C (newM C (qs.length * 32 + 16) qs.length) := Fz.rf.new (by rw [np_]; exact pp) _
  have z1 : mZ (newM C (qs.length * 32 + 16) qs.length) = mZ C + 1 := rfl
  generalize hC1 : newM C (qs.length * 32 + 16) qs.length = C1 at F1 z1
  have lp : lnA p = qs.length := by unfold lnA; omega
  have p16 : p % 32 = 16 := by omega
  have e4 : mI C1 6684679 4 = Int32.ofNat qs.length := ((F1.1 6684679 4 (by unfold neP; omega)).1).trans h4
  have eR : ∀ j, mR C1 6947152 j = mR C 6947152 j := fun j => (F1.1 6947152 j (by unfold neP; omega)).2.1
  obtain ⟨C2, r1, r2, r3, r4, r5, r6⟩ := built_l10 (C := C1) (p := p) rfl h10 p16 lp (by omega) e4 (fun j hj => by rw [eR]; exact (hk j hj).1.1) qs.length 200 0 C1 (by omega) (by omega) (fun _ _ => rfl) (fun _ _ _ => rfl) rfl rfl rfl rfl (fun j hj => by omega)
  have F2 : Fz (neP (mZ C)) C C2 := ⟨fun a t q => by
    obtain ⟨u1, u2, u3⟩ := F1.1 a t q
    have ne : a ≠ p := fun e => q (e ▸ pp t)
    exact ⟨(r2 a t).trans u1, (r3 a t ne).trans u2, by rw [r4]; exact u3⟩, by rw [r5, z1]; omega⟩
  have nx_ : nid C2 6 = x := by unfold nid; rw [r5, z1, hx]
  have F3 : Fz (neP (mZ C)) C (newM C2 6 4) := F2.new (by rw [nx_]; exact px) _
  have xp : p ≠ x := by omega
  have R3 : ∀ j, j < qs.length → mR (newM C2 6 4) p j = mR C 6947152 j := fun j hj => by
    have : mR (newM C2 6 4) p j = mR C2 p j := if_neg (by rw [nx_]; exact xp)
    rw [this, r6 j hj, eR]
  generalize hC3 : newM C2 6 4 = C3 at F3 R3
  have F4 : Fz (neP (mZ C)) C (setR C3 x 0 p) := F3.setr (px 0) _
  have R4 : ∀ j, j < qs.length → mR (setR C3 x 0 p) p j = mR C 6947152 j := fun j hj => by
    rw [mR_setR, if_neg (fun z => xp z.1)]; exact R3 j hj
  have R4x : mR (setR C3 x 0 p) x 0 = p := by rw [mR_setR, if_pos ⟨rfl, rfl⟩]
  generalize hC4 : setR C3 x 0 p = C4 at *
  have old : ∀ j, j < qs.length → mR C4 p j % 131072 = 2 ∧ mI C4 (mR C4 p j) 0 = (qs.getD j (0, 0, [])).1 ∧ mI C4 (mR C4 p j) 1 = (qs.getD j (0, 0, [])).2.1 := fun j hj => by
    obtain ⟨⟨k1, k2, k3, k4, -⟩, k5, k6⟩ := hk j hj
    rw [R4 j hj]
    exact ⟨k1, ((F4.1 _ 0 (by unfold neP; omega)).1).trans k3, ((F4.1 _ 1 (by unfold neP; omega)).1).trans k4⟩
  have il := init_l28 (t := x) h10 p16 lp old qs.length 200 0 0 0 9 (by omega) (by omega) (Or.inl rfl)
  rw [List.drop_zero, orW0] at il
  generalize hC5 : setI (setI (setI C4 x 1 (swS qs)) x 2 (lastS 2 0 qs)) x 3 (lastS 3 9 qs) = C5 at il
  have F5 : Fz (neP (mZ C)) C C5 := by
    rw [← hC5]; exact ((F4.set (px 1) _).set (px 2) _).set (px 3) _
  have zz : mZ C5 = mZ C + 2 := by
    rw [← hC5, ← hC4, ← hC3]
    show mZ C2 + 1 = _
    rw [r5, z1]
  have RR : ∀ a t, mR C5 a t = mR C4 a t := fun a t => by rw [← hC5, mR_setI, mR_setI, mR_setI]
  refine ⟨C5, x, ?_, ⟨by omega, by unfold hReg; omega, ?_, ?_, ?_, ?_, ?_, ?_, fun c hc => ?_⟩, F5, ?_, ?_, fun c hc => ?_⟩
  · have hr : inR (Int32.ofNat qs.length) 4096 := oN_in (by omega) (by omega)
    have hxl : (Int32.ofNat qs.length).toNatClampNeg = qs.length := oN_ix (by omega)
    have hin : f_Hs_init x p C3 = some C5 := by
      simp only [f_Hs_init, lte, hC4, lp]
      exact il
    unfold f_Tx_built
    rw [h4, gd_pos hr, hxl, np_, lte, hC1, lte]
    refine r1.trans ?_
    rw [nx_, lte, hC3, lte, gd_pos p16, hin, bdg]
  · rw [← hC5, mSk (by decide), mSk (by decide), mSe]
  · rw [← hC5, mSk (by decide), mSe]
  · rw [← hC5, mSe]
  · rw [RR, R4x]; omega
  · rw [RR, R4x]; unfold hReg; omega
  · rw [RR, R4x]; exact lp
  · rw [RR, RR, R4x, R4 c hc]
    obtain ⟨⟨k1, k2, k3, k4, k5, k6, k7, k8⟩, k9, k10⟩ := hk c hc
    have o1 : ∀ a t, a / 131072 < mZ C → mI C5 a t = mI C a t ∧ mR C5 a t = mR C a t := fun a t ha => by
      have := F5.1 a t (by unfold neP; omega)
      exact ⟨this.1, this.2.1⟩
    have e2 := (o1 _ 2 k9).2
    refine ⟨k1, k2, (o1 _ 0 k9).1.trans k3, (o1 _ 1 k9).1.trans k4, ?_, ?_, ?_, fun t ht => ?_⟩
    · rw [e2]; exact k5
    · rw [e2]; exact k6
    · rw [e2]; exact k7
    · rw [e2, (o1 _ t k10).1]; exact k8 t ht
  · rw [zz]; omega
  · rw [RR, R4x, zz]; omega
  · rw [RR, RR, R4x, R4 c hc, zz]
    obtain ⟨⟨k1, k2, k3, k4, k5, k6, k7, k8⟩, k9, k10⟩ := hk c hc
    have e2 : mR C5 (mR C 6947152 c) 2 = mR C (mR C 6947152 c) 2 := (F5.1 _ 2 (by unfold neP; omega)).2.1
    rw [e2]
    exact ⟨by omega, by omega⟩
