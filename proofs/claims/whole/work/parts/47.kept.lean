/-! KEPT AND PUT BACK; THE RELATION UNDER FRAMES -/
theorem le4 {i : Nat} (h : i < 2147483648) : (4 : Int32) ≤ Int32.ofNat i ↔ 4 ≤ i := oN_le (m := 4) (by decide) h
def kpP (a k : Nat) : Prop := a = 15073419 ∨ a = 15204491 ∨ a = 15335563 ∨ (a = 12451850 ∧ (k = 33 ∨ k = 34))
def Kp (M M1 : Mem) : Prop := (∀ k, k < 4 → mI M1 15073419 k = mI M 12976267 k ∧ mI M1 15204491 k = mI M 13107339 k ∧ mI M1 15335563 k = mI M 13369483 k) ∧ mI M1 12451850 33 = mI M 12451850 2 ∧ mI M1 12451850 34 = mI M 12451850 3
theorem keep_l2 {M : Mem} : ∀ (k fuel i : Nat) (M1 : Mem), k < fuel → i + k = 4 → Fr kpP M M1 → (∀ q, q < i → mI M1 15073419 q = mI M 12976267 q ∧ mI M1 15204491 q = mI M 13107339 q ∧ mI M1 15335563 q = mI M 13369483 q) → ∃ M2, f_M_keep_l2 fuel (Int32.ofNat i) M1 = some M2 ∧ Kp M M2 ∧ Fr kpP M M2
  | k, 0, _, _, h, _, _, _ => by omega
  | 0, fuel + 1, i, M1, _, hi', hF, hK => by
    have e : i = 4 := by omega
    subst e
    have f2 : Fr kpP M (setI (setI M1 12451850 33 (mI M 12451850 2)) 12451850 34 (mI M 12451850 3)) := (hF.set (by unfold kpP; omega) _).set (by unfold kpP; omega) _
    refine ⟨_, ?_, ⟨fun q hq => ?_, (mSk (by decide)).trans mSe, mSe⟩, f2⟩
    · simp only [f_M_keep_l2]
      rw [if_pos ((le4 (i := 4) (by omega)).mpr (by omega)), lte, lte, hF.1 12451850 2 (by unfold kpP; omega), mSk (by decide), hF.1 12451850 3 (by unfold kpP; omega)]
    · obtain ⟨a, b, c⟩ := hK q hq
      exact ⟨(mS (by decide)).trans ((mS (by decide)).trans a), (mS (by decide)).trans ((mS (by decide)).trans b), (mS (by decide)).trans ((mS (by decide)).trans c)⟩
  | k + 1, fuel + 1, i, M1, _, hi', hF, hK => by
    have hr : inR (Int32.ofNat i) 4 := oN_in (by omega) (by omega)
    have hx : (Int32.ofNat i).toNatClampNeg = i := oN_ix (by omega)
    have f2 : Fr kpP M (setI (setI (setI M1 15073419 i (mI M 12976267 i)) 15204491 i (mI M 13107339 i)) 15335563 i (mI M 13369483 i)) := ((hF.set (by unfold kpP; omega) _).set (by unfold kpP; omega) _).set (by unfold kpP; omega) _
    obtain ⟨M3, a1, a2, a3⟩ := keep_l2 k fuel (i + 1) _ (by omega) (by omega) f2 (fun q hq => by
      by_cases e : q = i
      · subst e
        exact ⟨(mS (by decide)).trans ((mS (by decide)).trans mSe), (mS (by decide)).trans mSe, mSe⟩
      · obtain ⟨a, b, c⟩ := hK q (by omega)
        exact ⟨(mSk e).trans ((mSk e).trans ((mSk e).trans a)), (mSk e).trans ((mSk e).trans ((mSk e).trans b)), (mSk e).trans ((mSk e).trans ((mSk e).trans c))⟩)
    refine ⟨M3, ?_, a2, a3⟩
    simp only [f_M_keep_l2]
    rw [if_neg (fun q => by have := (le4 (by omega)).mp q; omega)]
    simp only [gd_pos hr, hx, lte, oN_s]
    rw [hF.1 12976267 i (by unfold kpP; omega), mS (by decide), hF.1 13107339 i (by unfold kpP; omega), mS (by decide), mS (by decide), hF.1 13369483 i (by unfold kpP; omega)]
    exact a1
theorem keep_m (M : Mem) : ∃ M1, f_M_keep M = some M1 ∧ Kp M M1 ∧ Fr kpP M M1 := keep_l2 4 200 0 M (by omega) (by omega) Fr.rf (fun q hq => by omega)
def pbP (a k : Nat) : Prop := ((a = 12976267 ∨ a = 13107339 ∨ a = 13369483) ∧ k < 4) ∨ (a = 12451850 ∧ (k = 2 ∨ k = 3))
theorem back_l2 {M : Mem} : ∀ (k fuel i : Nat) (M1 : Mem), k < fuel → i + k = 4 → Fr pbP M M1 → (∀ q, q < i → mI M1 12976267 q = mI M 15073419 q ∧ mI M1 13107339 q = mI M 15204491 q ∧ mI M1 13369483 q = mI M 15335563 q) → ∃ M2, f_M_putBack_l2 fuel (Int32.ofNat i) M1 = some M2 ∧ (∀ q, q < 4 → mI M2 12976267 q = mI M 15073419 q ∧ mI M2 13107339 q = mI M 15204491 q ∧ mI M2 13369483 q = mI M 15335563 q) ∧ mI M2 12451850 2 = mI M 12451850 33 ∧ mI M2 12451850 3 = mI M 12451850 34 ∧ Fr pbP M M2
  | k, 0, _, _, h, _, _, _ => by omega
  | 0, fuel + 1, i, M1, _, hi', hF, hK => by
    have e : i = 4 := by omega
    subst e
    have f2 : Fr pbP M (setI (setI M1 12451850 2 (mI M 12451850 33)) 12451850 3 (mI M 12451850 34)) := (hF.set (by unfold pbP; omega) _).set (by unfold pbP; omega) _
    refine ⟨_, ?_, fun q hq => ?_, (mSk (by decide)).trans mSe, mSe, f2⟩
    · simp only [f_M_putBack_l2]
      rw [if_pos ((le4 (i := 4) (by omega)).mpr (by omega)), lte, lte, hF.1 12451850 33 (by unfold pbP; omega), mSk (by decide), hF.1 12451850 34 (by unfold pbP; omega)]
    · obtain ⟨a, b, c⟩ := hK q hq
      exact ⟨(mS (by decide)).trans ((mS (by decide)).trans a), (mS (by decide)).trans ((mS (by decide)).trans b), (mS (by decide)).trans ((mS (by decide)).trans c)⟩
  | k + 1, fuel + 1, i, M1, _, hi', hF, hK => by
    have hr : inR (Int32.ofNat i) 4 := oN_in (by omega) (by omega)
    have hx : (Int32.ofNat i).toNatClampNeg = i := oN_ix (by omega)
    have f2 : Fr pbP M (setI (setI (setI M1 12976267 i (mI M 15073419 i)) 13107339 i (mI M 15204491 i)) 13369483 i (mI M 15335563 i)) := ((hF.set (by unfold pbP; omega) _).set (by unfold pbP; omega) _).set (by unfold pbP; omega) _
    obtain ⟨M3, a1, a2, a3⟩ := back_l2 k fuel (i + 1) _ (by omega) (by omega) f2 (fun q hq => by
      by_cases e : q = i
      · subst e
        exact ⟨(mS (by decide)).trans ((mS (by decide)).trans mSe), (mS (by decide)).trans mSe, mSe⟩
      · obtain ⟨a, b, c⟩ := hK q (by omega)
        exact ⟨(mSk e).trans ((mSk e).trans ((mSk e).trans a)), (mSk e).trans ((mSk e).trans ((mSk e).trans b)), (mSk e).trans ((mSk e).trans ((mSk e).trans c))⟩)
    refine ⟨M3, ?_, a2, a3⟩
    simp only [f_M_putBack_l2]
    rw [if_neg (fun q => by have := (le4 (by omega)).mp q; omega)]
    simp only [gd_pos hr, hx, lte, oN_s]
    rw [hF.1 15073419 i (by unfold pbP; omega), mS (by decide), hF.1 15204491 i (by unfold pbP; omega), mS (by decide), mS (by decide), hF.1 15335563 i (by unfold pbP; omega)]
    exact a1
/-- what a call that only asks leaves changed in the model -/
def jM (a k : Nat) : Prop := a = 14945421 ∨ a = 15073419 ∨ a = 15204491 ∨ a = 15335563 ∨ (a = 12451850 ∧ 33 ≤ k ∧ k ≤ 36)
def xP (a k : Nat) : Prop := goP a k ∨ jM a k
theorem pil_jM : ∀ a k, pilP a k → jM a k := fun a k h => Or.inl h
theorem kp_jM : ∀ a k, kpP a k → jM a k := fun a k h => by unfold kpP at h; unfold jM; omega
/-- a frame of the ints alone -/
def Fi (P : Nat → Nat → Prop) (M M' : Mem) : Prop := (∀ a k, ¬ P a k → mI M' a k = mI M a k) ∧ mL M' = mL M ∧ mZ M' = mZ M
theorem Fr.fi {P : Nat → Nat → Prop} {M M' : Mem} (h : Fr P M M') : Fi P M M' := ⟨h.1, h.2.2⟩
theorem Fi.rf {P : Nat → Nat → Prop} {M : Mem} : Fi P M M := ⟨fun _ _ _ => rfl, rfl, rfl⟩
theorem Fi.trans {P : Nat → Nat → Prop} {A B C : Mem} (h : Fi P A B) (k : Fi P B C) : Fi P A C := ⟨fun a i q => (k.1 a i q).trans (h.1 a i q), k.2.1.trans h.2.1, k.2.2.trans h.2.2⟩
theorem Fi.mono {P Q : Nat → Nat → Prop} (hPQ : ∀ a k, P a k → Q a k) {A B : Mem} (h : Fi P A B) : Fi Q A B := ⟨fun a i q => h.1 a i fun z => q (hPQ a i z), h.2⟩
theorem Fi.set {P : Nat → Nat → Prop} {A B : Mem} (h : Fi P A B) {a k : Nat} (hp : P a k) (v : Int32) : Fi P A (setI B a k v) :=
  ⟨fun b i q => (if_neg (fun e : b = a ∧ i = k => q (e.1 ▸ e.2 ▸ hp))).trans (h.1 b i q), h.2⟩
theorem back_m {M M2 : Mem} (hK : Kp M M2) (hF : Fi xP M M2) : ∃ M3, f_M_putBack M2 = some M3 ∧ Kp M M3 ∧ Fi jM M M3 := by
  obtain ⟨M3, a1, a2, a3, a4, a5⟩ := back_l2 (M := M2) 4 200 0 M2 (by omega) (by omega) Fr.rf (fun q hq => by omega)
  have nk : ∀ a k, kpP a k → mI M3 a k = mI M2 a k := fun a k h => a5.1 a k (by unfold kpP at h; unfold pbP; omega)
  refine ⟨M3, a1, ⟨fun q hq => ?_, (nk _ _ (by unfold kpP; omega)).trans hK.2.1, (nk _ _ (by unfold kpP; omega)).trans hK.2.2⟩, fun a k h => ?_, a5.2.2.1.trans hF.2.1, a5.2.2.2.trans hF.2.2⟩
  · obtain ⟨x, y, z⟩ := hK.1 q hq
    exact ⟨(nk _ _ (by unfold kpP; omega)).trans x, (nk _ _ (by unfold kpP; omega)).trans y, (nk _ _ (by unfold kpP; omega)).trans z⟩
  · by_cases g : pbP a k
    · unfold pbP at g
      rcases g with ⟨g | g | g, hk⟩ | ⟨g, hk | hk⟩
      · subst g; exact (a2 k hk).1.trans (hK.1 k hk).1
      · subst g; exact (a2 k hk).2.1.trans (hK.1 k hk).2.1
      · subst g; exact (a2 k hk).2.2.trans (hK.1 k hk).2.2
      · subst g; subst hk; exact a3.trans hK.2.1
      · subst g; subst hk; exact a4.trans hK.2.2
    · rw [a5.1 a k g]
      refine hF.1 a k fun q => ?_
      rcases q with q | q
      · unfold goP at q; unfold pbP at g; unfold jM at h; omega
      · exact h q
/-- the model on its way, from M0 that it will put back -/
def Gn (M0 M1 : Mem) (n m b : Nat) (cs : List Cls) (A : Nat → Int32) (SS : Nat → Nat → Int32) : Prop := MoA M1 n m SS ∧ Kp M0 M1 ∧ Fi xP M0 M1 ∧ MHb M1 cs b ∧ ∀ k, k < 12 → mI M1 12583307 k = A k
theorem Kp.fr {P : Nat → Nat → Prop} {M0 M1 M2 : Mem} (h : Kp M0 M1) (hF : Fr P M1 M2) (hP : ∀ a k, kpP a k → ¬ P a k) : Kp M0 M2 := by
  have nk : ∀ a k, kpP a k → mI M2 a k = mI M1 a k := fun a k q => hF.1 a k (hP a k q)
  refine ⟨fun q hq => ?_, (nk _ _ (by unfold kpP; omega)).trans h.2.1, (nk _ _ (by unfold kpP; omega)).trans h.2.2⟩
  obtain ⟨x, y, z⟩ := h.1 q hq
  exact ⟨(nk _ _ (by unfold kpP; omega)).trans x, (nk _ _ (by unfold kpP; omega)).trans y, (nk _ _ (by unfold kpP; omega)).trans z⟩
theorem MoA.fr {P : Nat → Nat → Prop} {M M' : Mem} {n m : Nat} {SS : Nat → Nat → Int32} (h : MoA M n m SS) (hF : Fr P M M') (hP : ∀ a k, (12714123 ≤ a ∧ a ≤ 13632267) ∨ (a = 12451850 ∧ k < 33) → ¬ P a k) : MoA M' n m SS := by
  obtain ⟨a, b, c, d, e⟩ := h
  have q : ∀ k, k < 33 → mI M' 12451850 k = mI M 12451850 k := fun k hk => hF.1 _ _ (hP _ _ (Or.inr ⟨rfl, hk⟩))
  exact ⟨(q _ (by decide)).trans a, b, (q _ (by decide)).trans c, by rw [q _ (by decide)]; exact d, fun j hj => ⟨(e j hj).1.fr hF hP, (e j hj).2⟩⟩
theorem jM_no {a k : Nat} (h : (12714123 ≤ a ∧ a ≤ 13632267) ∨ (a = 12451850 ∧ k < 33)) : ¬ jM a k := by unfold jM; omega
/-- a change of the two gaps, or of truths -/
def jG (a k : Nat) : Prop := a = 14945421 ∨ (a = 12451850 ∧ (k = 35 ∨ k = 36))
theorem Gn.fr {M0 M1 M2 : Mem} {n m b : Nat} {cs : List Cls} {A : Nat → Int32} {SS : Nat → Nat → Int32} (h : Gn M0 M1 n m b cs A SS) (hF : Fr jG M1 M2) : Gn M0 M2 n m b cs A SS := by
  obtain ⟨a, b', c, d, e⟩ := h
  refine ⟨a.fr hF fun a k q => by unfold jG; omega, b'.fr hF fun a k q => by unfold kpP at q; unfold jG; omega, c.trans (hF.mono fun a k q => Or.inr (by unfold jG at q; unfold jM; omega)).fi, d.fr (fun a ha k => hF.1 a k (by unfold mReg at ha; unfold jG; omega)) (hF.1 12451850 13 (by unfold jG; omega)), fun k hk => (hF.1 _ _ (by unfold jG; omega)).trans (e k hk)⟩
theorem Gn.pil {M0 M1 M2 : Mem} {n m b : Nat} {cs : List Cls} {A : Nat → Int32} {SS : Nat → Nat → Int32} (h : Gn M0 M1 n m b cs A SS) (hF : Fr pilP M1 M2) : Gn M0 M2 n m b cs A SS := h.fr (hF.mono fun a k q => Or.inl q)
theorem Gn.month {M0 M1 : Mem} {n m b : Nat} {cs : List Cls} {A : Nat → Int32} {SS : Nat → Nat → Int32} (h : Gn M0 M1 n m b cs A SS) (hm : m < 100000) (hw : wfH cs) {a : Int32} (ha : 0 ≤ a ∧ a ≤ 99) : ∃ M2, f_M_goMonth a M1 = some M2 ∧ Gn M0 M2 n (m + 1) b cs A (fun j => pasS cs a (SS j)) := by
  obtain ⟨h1, h2, h3, h4, h5⟩ := h
  obtain ⟨M2, g1, g2, g3, g4⟩ := goMonth_m h1 hm hw h4 ha
  exact ⟨M2, g1, g2, h2.fr g3 fun a k q => by unfold kpP at q; unfold goP; omega, h3.trans (g3.mono fun a k q => Or.inl q).fi, h4.go g3, fun k hk => (g3.1 _ _ (by unfold goP; omega)).trans (h5 k hk)⟩
theorem Gn.go {M0 M1 : Mem} {n m b : Nat} {cs : List Cls} {A : Nat → Int32} {SS : Nat → Nat → Int32} (h : Gn M0 M1 n m b cs A SS) (hm : m < 100000) (hw : wfH cs) (hA : airA A) : ∃ M2, f_M_goOn M1 = some M2 ∧ Gn M0 M2 n (m + 1) b cs A (fun j => monS cs A m (SS j)) := by
  have h12 : m % 12 < 12 := Nat.mod_lt _ (by decide)
  obtain ⟨M2, g1, g2⟩ := h.month hm hw (hA _ h12)
  refine ⟨M2, ?_, g2⟩
  unfold f_M_goOn
  rw [h.1.2.2.1, oN_mod (by omega), gd_pos (oN_in (by omega) h12), oN_ix (by omega), h.2.2.2.2 _ h12, g1, bdg]
theorem Gn.back {M0 M1 : Mem} {n m b : Nat} {cs : List Cls} {A : Nat → Int32} {SS : Nat → Nat → Int32} (h : Gn M0 M1 n m b cs A SS) : ∃ M3, f_M_putBack M1 = some M3 ∧ Kp M0 M3 ∧ Fi jM M0 M3 := back_m h.2.1 h.2.2.1
theorem MoA.fi {M M' : Mem} {n m : Nat} {SS : Nat → Nat → Int32} (h : MoA M n m SS) (hF : Fi jM M M') : MoA M' n m SS :=
  h.fr (P := jM) (M' := (mV M', mZ M', mW M', mI M', mL M', mR M)) ⟨hF.1, fun _ _ _ => rfl, hF.2⟩ (fun _ _ q => jM_no q)
theorem MHb.fi {M M' : Mem} {cs : List Cls} {b : Nat} (h : MHb M cs b) (hF : Fi jM M M') : MHb M' cs b :=
  h.fr (fun a ha k => hF.1 a k (by unfold mReg at ha; unfold jM; omega)) (hF.1 12451850 13 (by unfold jM; omega))
/-- all that a call that only asks begins with -/
def En (C M : Mem) (id n m b : Nat) (cs : List Cls) : Prop := f_D_holdingHouse C = some id ∧ HRep C id cs ∧ wfH cs ∧ MHb M cs b ∧ MoA M n m (fun j => stC C (786436 + 655360 * j)) ∧ rdI C (ce 60) = Int32.ofNat n ∧ m ≤ 9999 ∧ airA (mI C 262539) ∧ (∀ k, k < 12 → mI M 12583307 k = mI C 262539 k) ∧ mI C 131077 4 = Int32.ofNat m ∧ mI C 131077 3 = mI M 12451850 2
theorem enter {hs : Nat → List Cls} {C M : Mem} (h : Rel hs C M) : ∃ id n m b cs, En C M id n m b cs := by
  obtain ⟨id, cs, b, h1, h2, h3, h4⟩ := hold_at h
  obtain ⟨d1, d2, d3, d4⟩ := door_lim h
  obtain ⟨n, hn, en⟩ := oN_of (p := rdI C (ce 60)) ⟨d1, d2⟩ (n := 5) (by decide)
  have m1 := h.lo (i := 62) (by decide) (by unfold inImg; omega)
  have m2 := h.hi (i := 62) (by decide) (by unfold inImg; omega)
  have m3 := h.eq (i := 62) (by decide) (by unfold inImg; omega)
  obtain ⟨m, hm, em⟩ := oN_of (p := rdI C (ce 62)) (k := 9999) ⟨m1, m2⟩ (n := 10000) (by decide)
  have l1 := h.lo (i := 61) (by decide) (by unfold inImg; omega)
  have l2 := h.hi (i := 61) (by decide) (by unfold inImg; omega)
  have l3 := h.eq (i := 61) (by decide) (by unfold inImg; omega)
  have e61 : rdI M (me 61) = mI M 12451850 2 := rfl
  have c61 : rdI C (ce 61) = mI C 131077 3 := rfl
  have c62 : rdI C (ce 62) = mI C 131077 4 := rfl
  have e62 : rdI M (me 62) = mI M 12451850 3 := rfl
  have air : ∀ k, k < 12 → mI M 12583307 k = mI C 262539 k ∧ 0 ≤ mI C 262539 k ∧ mI C 262539 k ≤ 99 := fun k hk => by
    obtain ⟨e1, e2, e3, e4, e5⟩ := ce_air hk
    have a1 := h.eq e3 (by unfold inImg; omega)
    have a2 := h.lo e3 (by unfold inImg; omega)
    have a3 := h.hi e3 (by unfold inImg; omega)
    rw [e1, e2] at a1
    rw [e1, e4] at a2
    rw [e1, e5] at a3
    exact ⟨a1.symm, a2, a3⟩
  refine ⟨id, n, m, b, cs, h1, h2, h3, h4, ⟨d4.trans en, by omega, (e62.symm.trans m3.symm).trans em, ?_, fun j hj => ?_⟩, en, by omega, fun k hk => (air k hk).2, fun k hk => (air k hk).1, c62.symm.trans em, (c61.symm.trans l3).trans e61⟩
  · rw [← e61, ← l3]; exact ⟨l1, l2⟩
  · have hj4 : j < 4 := by omega
    have g : ∀ i p q (l u : Int32), (ce i = p ∧ me i = q ∧ i < nC ∧ lo i = l ∧ hi i = u) → i < 60 → mI C p.1 p.2 = mI M q.1 q.2 ∧ l ≤ mI C p.1 p.2 ∧ mI C p.1 p.2 ≤ u := fun i p q l u hh hi60 => by
      obtain ⟨e1, e2, e3, e4, e5⟩ := hh
      have a1 := h.eq e3 (by unfold inImg; omega)
      have a2 := h.lo e3 (by unfold inImg; omega)
      have a3 := h.hi e3 (by unfold inImg; omega)
      rw [e1, e2] at a1
      rw [e1, e4] at a2
      rw [e1, e5] at a3
      exact ⟨a1, a2, a3⟩
    have g1 := g _ _ _ _ _ (ce_kind hj4) (by omega)
    have g2 := g _ _ _ _ _ (ce_v hj4) (by omega)
    have g3 := g _ _ _ _ _ (ce_sag hj4) (by omega)
    have g4 := g _ _ _ _ _ (ce_pack hj4) (by omega)
    have g5 := g _ _ _ _ _ (ce_w0 hj4) (by omega)
    have g6 := g _ _ _ _ _ (ce_w1 hj4) (by omega)
    have g9 : ∀ s, s < 6 → _ := fun s hs => g _ _ _ _ _ (ce_cut hj4 hs) (by omega)
    obtain ⟨p1, p2, p3⟩ := h.2.2.2.1.1 j hj4
    have p4 := h.2.2.2.1.2.1 j hj4 (by rw [en]; exact (oN_lt (by omega) (by omega)).mpr hj)
    obtain ⟨-, -, -, s9⟩ := stC_do C (786436 + 655360 * j)
    refine ⟨⟨⟨g1.1.symm, g2.1.symm, g3.1.symm, g4.1.symm, g5.1.symm, g6.1.symm, p3⟩, fun s hs => ?_, ?_, ?_, p4⟩, g1.2, g2.2, g3.2, g4.2, g5.2, g6.2, p1, p2, fun s hs => ?_, ?_, c62.symm.trans em⟩
    · show _ = stC C (786436 + 655360 * j) (9 + s)
      rw [← s9 s hs]; exact (g9 s hs).1.symm
    · exact e61.symm.trans (l3.symm.trans c61)
    · exact e62.symm.trans (m3.symm.trans c62)
    · show 0 ≤ stC C (786436 + 655360 * j) (9 + s) ∧ stC C (786436 + 655360 * j) (9 + s) ≤ 99
      rw [← s9 s hs]; exact (g9 s hs).2
    · exact ⟨l1, l2⟩
