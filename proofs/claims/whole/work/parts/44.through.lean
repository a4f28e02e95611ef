/-! A COURSE GOES THROUGH: least and greatest gaps -/
/-- a course's cells, its rows of least and greatest too -/
def coB (t a _ : Nat) : Prop := t ≤ a ∧ a < t + 1310921 ∧ a ≠ t + 1048968
theorem coP_B (t : Nat) : ∀ a k, coP t a k → coB t a k := fun a k h => by unfold coP at h; unfold coB; omega
theorem hReg_coB {t : Nat} (ht : t = 7602179 ∨ t = 9043971) {a : Nat} (h : hReg a) (k : Nat) : ¬ coB t a k := by
  unfold hReg at h; unfold coB; omega
theorem HRep_coB {t : Nat} (ht : t = 7602179 ∨ t = 9043971) {C C' : Mem} (hF : Fr (coB t) C C') {id : Nat} {cs : List Cls} (h : HRep C id cs) : HRep C' id cs :=
  h.fr (fun a ha k => hF.1 a k (hReg_coB ht ha k)) (fun a ha k => hF.2.1 a k (hReg_coB ht ha k))
def lgS (cs : List Cls) (A : Nat → Int32) (s : Nat) : Nat → Nat → (Nat → Int32) → Int32 → Int32 → Int32 × Int32
  | 0, _, _, l, g => (l, g)
  | k + 1, m, S, l, g => lgS cs A s k (m + 1) (monS cs A m S) (mnI l (gapS cs (monS cs A m S) s)) (mxI g (gapS cs (monS cs A m S) s))
def leS (cs : List Cls) (A : Nat → Int32) (s n m : Nat) (S : Nat → Int32) : Int32 := (lgS cs A s n m S (gapS cs S s) (gapS cs S s)).1
def grS (cs : List Cls) (A : Nat → Int32) (s n m : Nat) (S : Nat → Int32) : Int32 := (lgS cs A s n m S (gapS cs S s) (gapS cs S s)).2
theorem CoT.set {t H : Nat} (ht : t = 7602179 ∨ t = 9043971) {C : Mem} {cs : List Cls} {S : Nat → Int32} (h : CoT C t H cs S) {a : Nat} (ha : a = t + 1179848 ∨ a = t + 1310920) (k : Nat) (v : Int32) : CoT (setI C a k v) t H cs S := by
  obtain ⟨⟨h1, h2, h3, h4, h5⟩, h6, h7, h8⟩ := h
  have f : Fr (oneP a) C (setI C a k v) := Fr.rf.one _ _
  refine ⟨⟨h1.fr1 f (by omega) (by omega) (by omega) (by omega), ?_, ?_, h4, HRep_coB ht (f.mono (fun x k e => by have e : x = a := e; unfold coB; omega)) h5⟩, ?_, ?_, ?_⟩
  · rw [mS (by omega)]; exact h2
  · rw [mS (by omega)]; exact h3
  · rw [mS (by omega)]; exact h6
  · rw [mS (by omega)]; exact h7
  · rw [mS (by omega)]; exact h8
/-- the rows of least and greatest hold these up to i, those from i on -/
def LgI (C : Mem) (t i : Nat) (l g l' g' : Nat → Int32) : Prop := ∀ s, s < 6 → mI C (t + 1179848) s = (if s < i then l s else l' s) ∧ mI C (t + 1310920) s = (if s < i then g s else g' s)
theorem LgI.step {C : Mem} {t i : Nat} {l g l' g' : Nat → Int32} (h : LgI C t i l g l' g') : LgI (setI (setI C (t + 1179848) i (l i)) (t + 1310920) i (g i)) t (i + 1) l g l' g' := by
  intro s hs
  obtain ⟨a, b⟩ := h s hs
  by_cases e : s = i
  · subst e
    rw [if_pos (by omega), if_pos (by omega)]
    exact ⟨(mS (by omega)).trans mSe, mSe⟩
  · rw [mS (by omega), mSk e, mSk e, mS (by omega), a, b]
    by_cases q : s < i
    · rw [if_pos q, if_pos q, if_pos (by omega), if_pos (by omega)]; exact ⟨rfl, rfl⟩
    · rw [if_neg q, if_neg q, if_neg (by omega), if_neg (by omega)]; exact ⟨rfl, rfl⟩
theorem co_lg {t i : Nat} {C : Mem} (u v : Int32) : Fr (coB t) C (setI (setI C (t + 1179848) i u) (t + 1310920) i v) := (Fr.rf.set (by unfold coB; omega) _).set (by unfold coB; omega) _
theorem thr_l2 {t H n : Nat} (ht : t = 7602179 ∨ t = 9043971) {cs : List Cls} {S : Nat → Int32} {l' g' : Nat → Int32} : ∀ (k fuel i : Nat) (C : Mem), k < fuel → i + k = 6 → CoT C t H cs S → LgI C t i (gapS cs S) (gapS cs S) l' g' → ∃ C', f_Co_goThrough_l2 t fuel (Int32.ofNat n) (Int32.ofNat i) C = f_Co_goThrough_l38 t 200 (Int32.ofNat n) 0 C' ∧ CoT C' t H cs S ∧ LgI C' t 6 (gapS cs S) (gapS cs S) l' g' ∧ Fr (coB t) C C'
  | k, 0, _, _, h, _, _, _ => by omega
  | 0, fuel + 1, i, C, _, hi', hC, hL => by
    have e : i = 6 := by omega
    subst e
    refine ⟨C, ?_, hC, hL, Fr.rf⟩
    simp only [f_Co_goThrough_l2]
    rw [if_pos ((le6 (by omega)).mpr (by omega))]
  | k + 1, fuel + 1, i, C, _, hi', hC, hL => by
    have h6 : i < 6 := by omega
    have hC1 := hC.set ht (Or.inl rfl) i (gapS cs S i)
    have hC2 := hC1.set ht (Or.inr rfl) i (gapS cs S i)
    obtain ⟨C', a1, a2, a3, a4⟩ := thr_l2 (n := n) ht k fuel (i + 1) _ (by omega) (by omega) hC2 hL.step
    refine ⟨C', ?_, a2, a3, (co_lg _ _).trans a4⟩
    simp only [f_Co_goThrough_l2]
    rw [if_neg (fun q => by have := (le6 (by omega)).mp q; omega), gap_c hC h6, bdg, gd_pos (oN_in (by omega) h6), oN_ix (by omega), lte, gap_c hC1 h6, bdg, gd_pos (oN_in (by omega) h6), lte, lte, oN_s]
    exact a1
theorem thr_l65 {t H n : Nat} (ht : t = 7602179 ∨ t = 9043971) {cs : List Cls} {S : Nat → Int32} {l g : Nat → Int32} {K : Int32 → Int32 → Mem → Option Mem} {v2 : Int32} : ∀ (k fuel i : Nat) (C : Mem), k < fuel → i + k = 6 → CoT C t H cs S → LgI C t i (fun s => mnI (l s) (gapS cs S s)) (fun s => mxI (g s) (gapS cs S s)) l g → ∃ C', f_Co_goThrough_l65 t K fuel (Int32.ofNat n) v2 (Int32.ofNat i) C = K (Int32.ofNat n) (v2 + 1) C' ∧ CoT C' t H cs S ∧ LgI C' t 6 (fun s => mnI (l s) (gapS cs S s)) (fun s => mxI (g s) (gapS cs S s)) l g ∧ Fr (coB t) C C'
  | k, 0, _, _, h, _, _, _ => by omega
  | 0, fuel + 1, i, C, _, hi', hC, hL => by
    have e : i = 6 := by omega
    subst e
    refine ⟨C, ?_, hC, hL, Fr.rf⟩
    simp only [f_Co_goThrough_l65]
    rw [if_pos ((le6 (by omega)).mpr (by omega)), lte]
  | k + 1, fuel + 1, i, C, _, hi', hC, hL => by
    have h6 : i < 6 := by omega
    have hC1 := hC.set ht (Or.inl rfl) i (mnI (l i) (gapS cs S i))
    have hC2 := hC1.set ht (Or.inr rfl) i (mxI (g i) (gapS cs S i))
    obtain ⟨C', a1, a2, a3, a4⟩ := thr_l65 (n := n) (K := K) (v2 := v2) ht k fuel (i + 1) _ (by omega) (by omega) hC2 hL.step
    refine ⟨C', ?_, a2, a3, (co_lg _ _).trans a4⟩
    obtain ⟨e1, e2⟩ := hL i h6
    rw [if_neg (by omega)] at e1 e2
    have hr : inR (Int32.ofNat i) 6 := oN_in (by omega) h6
    simp only [f_Co_goThrough_l65]
    rw [if_neg (fun q => by have := (le6 (by omega)).mp q; omega), gd_pos hr, gap_c hC h6, bdg, gd_pos hr, oN_ix (by omega), lte, e1, gd_pos hr, gap_c hC1 h6, bdg, gd_pos hr, lte, lte, oN_s, mS (by omega), e2]
    exact a1
theorem LgI.cg {C : Mem} {t : Nat} {l g l' g' l2 g2 l3 g3 : Nat → Int32} (h : LgI C t 6 l g l' g') (e : ∀ s, s < 6 → l s = l3 s ∧ g s = g3 s) : LgI C t 0 l2 g2 l3 g3 := fun s hs => by
  obtain ⟨a, b⟩ := h s hs
  rw [if_pos hs] at a b
  rw [if_neg (by omega), if_neg (by omega), a, b]
  exact e s hs
theorem LgI.fr {C C' : Mem} {t : Nat} {l g l' g' : Nat → Int32} {i : Nat} (h : LgI C t i l g l' g') (hl : ∀ k, mI C' (t + 1179848) k = mI C (t + 1179848) k) (hg : ∀ k, mI C' (t + 1310920) k = mI C (t + 1310920) k) : LgI C' t i l g l' g' := fun s hs => by
  rw [hl, hg]; exact h s hs
theorem thr_l38 {t H n : Nat} (ht : t = 7602179 ∨ t = 9043971) {cs : List Cls} (hw : wfH cs) {A : Nat → Int32} (hA : airA A) (hn : n ≤ 100) : ∀ (k fuel i m : Nat) (C : Mem) (S l g : Nat → Int32), k < fuel → i + k = n → m + k < 100000 → CoS C t H cs S → okS m S → (∀ q, q < 12 → mI C (t + 1048968) q = A q) → LgI C t 0 l g l g → ∃ C', f_Co_goThrough_l38 t fuel (Int32.ofNat n) (Int32.ofNat i) C = some C' ∧ CoS C' t H cs (itS cs A k m S) ∧ LgI C' t 0 l g (fun s => (lgS cs A s k m S (l s) (g s)).1) (fun s => (lgS cs A s k m S (l s) (g s)).2) ∧ Fr (coB t) C C'
  | k, 0, _, _, _, _, _, _, h, _, _, _, _, _, _ => by omega
  | 0, fuel + 1, i, m, C, S, l, g, _, hi', _, hC, hS, hG, hL => by
    refine ⟨C, ?_, hC, hL, Fr.rf⟩
    simp only [f_Co_goThrough_l38]
    rw [if_pos ((oN_le (by omega) (by omega)).mpr (by omega))]
  | k + 1, fuel + 1, i, m, C, S, l, g, _, hi', hm, hC, hS, hG, hL => by
    have h12 : m % 12 < 12 := Nat.mod_lt _ (by decide)
    obtain ⟨C1, p1, p2, p3⟩ := pass_c ht hC hw (A (m % 12))
    obtain ⟨C2, s1, s2, s3⟩ := settle_c ht p2 hw
    have f2 := p3.trans s3
    have L2 : LgI C2 t 0 (fun s => mnI (l s) (gapS cs (monS cs A m S) s)) (fun s => mxI (g s) (gapS cs (monS cs A m S) s)) l g := fun s hs => by
      obtain ⟨a, b⟩ := hL s hs
      rw [if_neg (by omega)] at a b
      rw [if_neg (by omega), if_neg (by omega), f2.1 _ _ (by unfold coP; omega), f2.1 _ _ (by unfold coP; omega)]
      exact ⟨a, b⟩
    obtain ⟨C3, r1, r2, r3, r4⟩ := thr_l65 (n := n) (K := f_Co_goThrough_l38 t fuel) (v2 := Int32.ofNat i) ht (S := monS cs A m S) (l := l) (g := g) 6 200 0 C2 (by omega) (by omega) s2 L2
    have f3 := (f2.mono (coP_B t)).trans r4
    have hG3 : ∀ q, q < 12 → mI C3 (t + 1048968) q = A q := fun q hq => (f3.1 _ _ (by unfold coB; omega)).trans (hG q hq)
    obtain ⟨C4, g1, g2, g3, g4⟩ := thr_l38 ht hw hA hn k fuel (i + 1) (m + 1) C3 (monS cs A m S) (fun s => mnI (l s) (gapS cs (monS cs A m S) s)) (fun s => mxI (g s) (gapS cs (monS cs A m S) s)) (by omega) (by omega) (by omega) r2.1 (mon_ok hw hA hS) hG3 (r3.cg fun s hs => ⟨rfl, rfl⟩)
    refine ⟨C4, ?_, g2, fun s hs => ?_, f3.trans g4⟩
    · simp only [f_Co_goThrough_l38]
      rw [if_neg (fun q => by have := (oN_le (by omega) (by omega)).mp q; omega), hC.mo hS, oN_mod (by omega), gd_pos (oN_in (by omega) h12), oN_ix (by omega), hG _ h12, p1, bdg, s1, bdg]
      refine r1.trans ?_
      rw [oN_s]; exact g1
    · obtain ⟨a, b⟩ := g3 s hs
      rw [if_neg (by omega)] at a b ⊢
      rw [if_neg (by omega)]
      exact ⟨a, b⟩
theorem through_c {t H n m : Nat} (ht : t = 7602179 ∨ t = 9043971) {cs : List Cls} (hw : wfH cs) {A : Nat → Int32} (hA : airA A) (hn : n ≤ 100) (hm : m < 50000) {C : Mem} {S : Nat → Int32} (hC : CoT C t H cs S) (hS : okS m S) (hG : ∀ q, q < 12 → mI C (t + 1048968) q = A q) : ∃ C', f_Co_goThrough t (Int32.ofNat n) C = some C' ∧ CoS C' t H cs (itS cs A n m S) ∧ (∀ s, s < 6 → mI C' (t + 1179848) s = leS cs A s n m S ∧ mI C' (t + 1310920) s = grS cs A s n m S) ∧ Fr (coB t) C C' := by
  obtain ⟨C1, a1, a2, a3, a4⟩ := thr_l2 (n := n) ht (l' := fun s => mI C (t + 1179848) s) (g' := fun s => mI C (t + 1310920) s) 6 200 0 C (by omega) (by omega) hC (fun s hs => ⟨rfl, rfl⟩)
  have hG1 : ∀ q, q < 12 → mI C1 (t + 1048968) q = A q := fun q hq => (a4.1 _ _ (by unfold coB; omega)).trans (hG q hq)
  obtain ⟨C2, b1, b2', b3, b4⟩ := thr_l38 ht hw hA hn n 200 0 m C1 S (gapS cs S) (gapS cs S) (by omega) (by omega) (by omega) a2.1 hS hG1 (a3.cg fun s hs => ⟨rfl, rfl⟩)
  refine ⟨C2, a1.trans b1, b2', fun s hs => ?_, a4.trans b4⟩
  obtain ⟨a, b⟩ := b3 s hs
  rw [if_neg (by omega)] at a b
  exact ⟨a, b⟩
