/-! A COURSE BEGINS, GOES ON, IS LOOKED AT -/
def stC (C : Mem) (d : Nat) : Nat → Int32 := fun i => if i < 5 then mI C d i else if i < 7 then mI C (d + 131143) (i - 5) else if i < 9 then mI C (d + 262215) (i - 7) else if i < 15 then mI C (d + 393415) (i - 9) else if i = 15 then mI C 131077 3 else mI C 131077 4
theorem stC_do (C : Mem) (d : Nat) : DoS C d (stC C d) := by
  refine ⟨⟨rfl, rfl, rfl, rfl, rfl⟩, ⟨rfl, rfl⟩, ⟨rfl, rfl⟩, fun s hs => ?_⟩
  unfold stC
  rw [if_neg (by omega), if_neg (by omega), if_neg (by omega), if_pos (by omega), show 9 + s - 9 = s by omega]
theorem Fr.cpy {P : Nat → Nat → Prop} {A B : Mem} (h : Fr P A B) {b : Nat} (hb : ∀ k, P b k) (a sp dp n : Nat) : Fr P A (cpyI B a sp b dp n) :=
  ⟨fun c j q => (if_neg (fun e : c = b ∧ dp ≤ j ∧ j < dp + n => q (e.1 ▸ hb j))).trans (h.1 c j q), h.2.1, h.2.2⟩
def inP (t n a _ : Nat) : Prop := t ≤ a ∧ a < t + n
theorem inP_i {t n a k : Nat} (h : t ≤ a ∧ a < t + n) : inP t n a k := h
def beC (t d : Nat) (S : Nat → Int32) (C : Mem) : Mem := setI (setI (setI (setI (setI C t 0 (S 0)) t 1 (S 1)) t 2 (S 2)) t 3 (S 3)) t 4 (S 4)
theorem beC_ne {t d : Nat} {S : Nat → Int32} {C : Mem} {a k : Nat} (q : a ≠ t) : mI (beC t d S C) a k = mI C a k := by
  unfold beC
  rw [mS q, mS q, mS q, mS q, mS q]
theorem beC_at {t d : Nat} {S : Nat → Int32} {C : Mem} : mI (beC t d S C) t 0 = S 0 ∧ mI (beC t d S C) t 1 = S 1 ∧ mI (beC t d S C) t 2 = S 2 ∧ mI (beC t d S C) t 3 = S 3 ∧ mI (beC t d S C) t 4 = S 4 := by
  unfold beC
  refine ⟨?_, ?_, ?_, ?_, ?_⟩
  · rw [mSk (by decide), mSk (by decide), mSk (by decide), mSk (by decide), mSe]
  · rw [mSk (by decide), mSk (by decide), mSk (by decide), mSe]
  · rw [mSk (by decide), mSk (by decide), mSe]
  · rw [mSk (by decide), mSe]
  · rw [mSe]
theorem beC_fr {t d : Nat} {S : Nat → Int32} {C : Mem} : Fr (inP t 400000) C (beC t d S C) := by
  unfold beC
  have h : ∀ k, inP t 400000 t k := fun k => inP_i (by omega)
  exact ((((Fr.rf.set (h _) _).set (h _) _).set (h _) _).set (h _) _).set (h _) _
def be8 (a1 a2 b1 b2 c1 c2 : Nat) (X : Mem) : Mem := cpyI (cpyI (cpyI X a1 0 a2 0 2) b1 0 b2 0 2) c1 0 c2 0 6
theorem be8_ne {a1 a2 b1 b2 c1 c2 : Nat} {X : Mem} {a k : Nat} (q : a ≠ a2 ∧ a ≠ b2 ∧ a ≠ c2) : mI (be8 a1 a2 b1 b2 c1 c2 X) a k = mI X a k := by
  unfold be8
  rw [mI_cpyI, if_neg (fun z => q.2.2 z.1), mI_cpyI, if_neg (fun z => q.2.1 z.1), mI_cpyI, if_neg (fun z => q.1 z.1)]
theorem be8_a {a1 a2 b1 b2 c1 c2 : Nat} {X : Mem} {k : Nat} (hk : k < 2) (q : a2 ≠ b2 ∧ a2 ≠ c2) : mI (be8 a1 a2 b1 b2 c1 c2 X) a2 k = mI X a1 k := by
  unfold be8
  rw [mI_cpyI, if_neg (fun z => q.2 z.1), mI_cpyI, if_neg (fun z => q.1 z.1), mI_cpyI, if_pos ⟨rfl, Nat.zero_le _, by omega⟩, Nat.zero_add, Nat.sub_zero]
theorem be8_b {a1 a2 b1 b2 c1 c2 : Nat} {X : Mem} {k : Nat} (hk : k < 2) (q : b2 ≠ c2) (z : b1 ≠ a2) : mI (be8 a1 a2 b1 b2 c1 c2 X) b2 k = mI X b1 k := by
  unfold be8
  rw [mI_cpyI, if_neg (fun z => q z.1), mI_cpyI, if_pos ⟨rfl, Nat.zero_le _, by omega⟩, Nat.zero_add, Nat.sub_zero, mI_cpyI, if_neg (fun w => z w.1)]
theorem be8_c {a1 a2 b1 b2 c1 c2 : Nat} {X : Mem} {k : Nat} (hk : k < 6) (q : c1 ≠ a2 ∧ c1 ≠ b2) : mI (be8 a1 a2 b1 b2 c1 c2 X) c2 k = mI X c1 k := by
  unfold be8
  rw [mI_cpyI, if_pos ⟨rfl, Nat.zero_le _, by omega⟩, Nat.zero_add, Nat.sub_zero, mI_cpyI, if_neg (fun z => q.2 z.1), mI_cpyI, if_neg (fun z => q.1 z.1)]
theorem be8_fr {P : Nat → Nat → Prop} {a1 a2 b1 b2 c1 c2 : Nat} {C X : Mem} (h : Fr P C X) (ha : ∀ k, P a2 k) (hb : ∀ k, P b2 k) (hc : ∀ k, P c2 k) : Fr P C (be8 a1 a2 b1 b2 c1 c2 X) := ((h.cpy ha _ _ _ _).cpy hb _ _ _ _).cpy hc _ _ _ _
theorem be_eq {t d : Nat} (hd : d + 600000 ≤ t) {C : Mem} {S : Nat → Int32} (h : DoS C d S) : f_Dr_become t d C = some (be8 (d + 131143) (t + 131143) (d + 262215) (t + 262215) (d + 393415) (t + 393415) (beC t d S C)) := by
  obtain ⟨⟨a0, a1, a2, a3, a4⟩, -, -, -⟩ := h
  unfold f_Dr_become be8 beC
  simp only [lte]
  rw [gd_pos (by decide), gd_pos (by decide), gd_pos (by decide), k0, k2, k6]
  have q : ∀ (X : Mem) (i : Nat) (v : Int32) k, mI (setI X t i v) d k = mI X d k := fun X i v k => mS (by omega)
  simp only [q, a0, a1, a2, a3, a4]
theorem become_d {t d : Nat} (hd : d + 600000 ≤ t) {C : Mem} {S : Nat → Int32} (h : DoS C d S) : ∃ C', f_Dr_become t d C = some C' ∧ DoS C' t S ∧ Fr (inP t 400000) C C' ∧ mR C' = mR C := by
  refine ⟨_, be_eq hd h, ?_, be8_fr beC_fr (fun k => inP_i (by omega)) (fun k => inP_i (by omega)) (fun k => inP_i (by omega)), rfl⟩
  obtain ⟨-, ⟨b0, b1⟩, ⟨c0, c1⟩, e⟩ := h
  obtain ⟨z0, z1, z2, z3, z4⟩ := beC_at (t := t) (d := d) (S := S) (C := C)
  have n : ∀ k, mI (be8 (d + 131143) (t + 131143) (d + 262215) (t + 262215) (d + 393415) (t + 393415) (beC t d S C)) t k = mI (beC t d S C) t k := fun k => be8_ne ⟨by omega, by omega, by omega⟩
  refine ⟨⟨(n 0).trans z0, (n 1).trans z1, (n 2).trans z2, (n 3).trans z3, (n 4).trans z4⟩, ⟨?_, ?_⟩, ⟨?_, ?_⟩, fun s hs => ?_⟩
  · rw [be8_a (by omega) ⟨by omega, by omega⟩, beC_ne (by omega)]; exact b0
  · rw [be8_a (by omega) ⟨by omega, by omega⟩, beC_ne (by omega)]; exact b1
  · rw [be8_b (by omega) (by omega) (by omega), beC_ne (by omega)]; exact c0
  · rw [be8_b (by omega) (by omega) (by omega), beC_ne (by omega)]; exact c1
  · rw [be8_c (by omega) ⟨by omega, by omega⟩, beC_ne (by omega)]; exact e s hs
theorem become_c {t d : Nat} (hd : d + 600000 ≤ t) {C : Mem} {S : Nat → Int32} (h : DoS C d S) : ∃ C', f_Dr_become (t + 393217) d C = some C' ∧ DoS C' (t + 393217) S ∧ Fr (coP t) C C' ∧ mR C' = mR C := by
  obtain ⟨td, e⟩ : ∃ td, td = t + 393217 := ⟨_, rfl⟩
  rw [← e]
  obtain ⟨C', a1, a2, a3, a4⟩ := become_d (t := td) (d := d) (by omega) h
  exact ⟨C', a1, a2, a3.mono (fun a k q => by unfold inP at q; unfold coP; omega), a4⟩
theorem begin_c {t d H : Nat} (ht : t = 7602179 ∨ t = 9043971) (hd : d + 600000 ≤ t) {C : Mem} {cs : List Cls} (h : HRep C H cs) (hw : wfH cs) : ∃ C', f_Co_begin t d 131077 H C = some C' ∧ CoT C' t H cs (stC C d) ∧ Fr (coA t) C C' ∧ ∀ q, q < 12 → mI C' (t + 1048968) q = mI C 262539 q := by
  have f1 : Fr (coP t) C (setR C t 0 H) := Fr.rf.setr (by unfold coP; omega) _
  obtain ⟨C2, b1, b2', b3, b5⟩ := become_c (t := t) hd (C := setR C t 0 H) (S := stC C d) (stC_do C d)
  have f2 := f1.trans b3
  obtain ⟨C3, hC3⟩ : ∃ C3, C3 = cpyI C2 262539 0 (t + 1048968) 0 12 := ⟨_, rfl⟩
  have f3 : Fr (oneP (t + 1048968)) C2 C3 := by rw [hC3]; exact Fr.rf.cpy (fun _ => rfl) _ _ _ _
  have F3 : Fr (coA t) C C3 := (f2.mono (coP_A t)).trans (f3.mono fun a k e => by have e : a = t + 1048968 := e; unfold coA; omega)
  have m3 : mI C3 131077 4 = stC C d 16 := (F3.1 _ _ (by unfold coA; omega)).trans rfl
  have m4 : mI C3 131077 3 = stC C d 15 := (F3.1 _ _ (by unfold coA; omega)).trans rfl
  have r2 : mR C3 t 0 = H := by
    rw [f3.2.1 _ _ (oneP_n (by omega)), b5]; exact if_pos ⟨rfl, rfl⟩
  have a3 : ∀ q, q < 12 → mI C3 (t + 1048968) q = mI C 262539 q := fun q hq => by
    rw [hC3, mI_cpyI, if_pos ⟨rfl, Nat.zero_le _, by omega⟩, Nat.zero_add, Nat.sub_zero]
    exact f2.1 _ _ (by unfold coP; omega)
  have g4 : Fr (coP t) C3 (setI (setI C3 t 3 (stC C d 16)) t 4 (stC C d 15)) := (Fr.rf.set (by unfold coP; omega) _).set (by unfold coP; omega) _
  have f4 : Fr (coA t) C (setI (setI C3 t 3 (stC C d 16)) t 4 (stC C d 15)) := F3.trans (g4.mono (coP_A t))
  have h3 : HRep C3 H cs := h.fr (fun a ha k => F3.1 a k (by unfold hReg at ha; unfold coA; omega)) (fun a ha k => F3.2.1 a k (by unfold hReg at ha; unfold coA; omega))
  have h4 : CoS (setI (setI C3 t 3 (stC C d 16)) t 4 (stC C d 15)) t H cs (stC C d) :=
    ⟨(b2'.fr1 f3 (by omega) (by omega) (by omega) (by omega)).fr1 ((Fr.rf.one (a := t) _ _).one _ _) (by omega) (by omega) (by omega) (by omega), mSe, by rw [mSk (by decide), mSe], r2, h3.co ht g4⟩
  obtain ⟨C5, s1, s2, s3⟩ := settle_c ht h4 hw
  refine ⟨C5, ?_, s2, f4.trans (s3.mono (coP_A t)), fun q hq => ?_⟩
  · unfold f_Co_begin
    rw [lte, b1, bdg, gd_pos (by decide), k0, k12, lte]
    show lt (setI (cpyI C2 262539 0 (t + 1048968) 0 12) t 3 (mI (cpyI C2 262539 0 (t + 1048968) 0 12) 131077 4)) _ = _
    rw [← hC3, lte, m3, lte]
    have e : mI (setI C3 t 3 (stC C d 16)) 131077 3 = stC C d 15 := (mS (by omega)).trans m4
    rw [e, s1]; rfl
  · exact (s3.1 _ _ (by unfold coP; omega)).trans ((g4.1 _ _ (by unfold coP; omega)).trans (a3 q hq))
theorem le6 {i : Nat} (h : i < 2147483648) : (6 : Int32) ≤ Int32.ofNat i ↔ 6 ≤ i := oN_le (m := 6) (by decide) h
theorem spot_c {s : Nat} (hs : s < 6) (C : Mem) : f_D_isSpot (Int32.ofNat s) C = 1 := by
  unfold f_D_isSpot
  exact wi1 ⟨(oN_le (m := 0) (by omega) (by omega)).mpr (by omega), (oN_le (i := 5) (by omega) (by omega)).mpr (by omega)⟩ C
theorem gap_c {t H : Nat} {C : Mem} {cs : List Cls} {S : Nat → Int32} (h : CoT C t H cs S) {s : Nat} (hs : s < 6) : f_Co_gap t (Int32.ofNat s) C = some (gapS cs S s) := by
  obtain ⟨⟨⟨⟨a0, a1, a2, a3, a4⟩, ⟨b0, b1⟩, ⟨c0, c1⟩, e⟩, h2, h3, h4, h5⟩, h6, h7, h8⟩ := h
  unfold f_Co_gap
  rw [spot_c hs, if_neg i10, gd_pos (oN_in (by omega) hs), oN_ix (by omega), e s hs, h6, h7, h8, h2, a4]; rfl
/-! what is read off the gaps -/
def orS (p : Nat → Bool) : Nat → Nat → Int32 → Int32
  | 0, _, v => v
  | k + 1, i, v => orS p k (i + 1) (if p i then v ||| (1 <<< (Int32.ofNat i &&& 31)) else v ||| 0)
def rubP (cs : List Cls) (S : Nat → Int32) (s : Nat) : Bool := decide (gapS cs S s < 0)
def rubS (cs : List Cls) (S : Nat → Int32) : Int32 := orS (rubP cs S) 6 0 0
def draP (cs : List Cls) (S : Nat → Int32) (s : Nat) : Bool := decide (lastS 3 9 cs < gapS cs S s)
def draS (cs : List Cls) (S : Nat → Int32) : Int32 := orS (draP cs S) 6 0 0
def frS (p : Nat → Bool) : Nat → Nat → Int32
  | 0, _ => -5
  | k + 1, i => if p i then Int32.ofNat i else frS p k (i + 1)
theorem rub_l4 {t H : Nat} {C : Mem} {cs : List Cls} {S : Nat → Int32} (h : CoT C t H cs S) : ∀ (k fuel i : Nat) (v : Int32), k < fuel → i + k = 6 → f_Co_rubbing_l4 t C fuel v (Int32.ofNat i) = some (orS (rubP cs S) k i v)
  | k, 0, _, _, h, _ => by omega
  | 0, fuel + 1, i, v, _, hi' => by
    simp only [f_Co_rubbing_l4]
    rw [if_pos ((le6 (by omega)).mpr (by omega))]; rfl
  | k + 1, fuel + 1, i, v, _, hi' => by
    have ih := fun v => rub_l4 h k fuel (i + 1) v (by omega) (by omega)
    simp only [f_Co_rubbing_l4]
    rw [if_neg (fun q => by have := (le6 (by omega)).mp q; omega), gap_c h (by omega), bdg]
    simp only [lte, oN_s, orS]
    by_cases q : gapS cs S i < 0
    · rw [if_neg (by grind), if_pos (show rubP cs S i = true from decide_eq_true q)]; exact ih _
    · rw [if_pos (by grind), if_neg (show ¬ rubP cs S i = true from fun z => q (of_decide_eq_true z))]; exact ih _
theorem rubbing_c {t H : Nat} {C : Mem} {cs : List Cls} {S : Nat → Int32} (h : CoT C t H cs S) : f_Co_rubbing t C = some (rubS cs S) := rub_l4 h 6 200 0 0 (by omega) (by omega)
theorem dra_l4 {t H : Nat} {C : Mem} {cs : List Cls} {S : Nat → Int32} (h : CoT C t H cs S) : ∀ (k fuel i : Nat) (v : Int32), k < fuel → i + k = 6 → f_Co_draughty_l4 t C fuel v (Int32.ofNat i) = some (orS (draP cs S) k i v)
  | k, 0, _, _, h, _ => by omega
  | 0, fuel + 1, i, v, _, hi' => by
    simp only [f_Co_draughty_l4]
    rw [if_pos ((le6 (by omega)).mpr (by omega))]; rfl
  | k + 1, fuel + 1, i, v, _, hi' => by
    have ih := fun v => dra_l4 h k fuel (i + 1) v (by omega) (by omega)
    have hR := h.1.2.2.2.2
    simp only [f_Co_draughty_l4]
    rw [if_neg (fun q => by have := (le6 (by omega)).mp q; omega), gap_c h (by omega), bdg, h.1.2.2.2.1, gd_pos hR.1, hR.2.2.2.2.1]
    simp only [lte, oN_s, orS]
    by_cases q : lastS 3 9 cs < gapS cs S i
    · rw [if_neg (by grind), if_pos (show draP cs S i = true from decide_eq_true q)]; exact ih _
    · rw [if_pos (by grind), if_neg (show ¬ draP cs S i = true from fun z => q (of_decide_eq_true z))]; exact ih _
theorem draughty_c {t H : Nat} {C : Mem} {cs : List Cls} {S : Nat → Int32} (h : CoT C t H cs S) : f_Co_draughty t C = some (draS cs S) := dra_l4 h 6 200 0 0 (by omega) (by omega)
theorem fr_l2 {t H : Nat} {C : Mem} {cs : List Cls} {S : Nat → Int32} (h : CoT C t H cs S) : ∀ (k fuel i : Nat), k < fuel → i + k = 6 → f_Co_firstRubbing_l2 t C fuel (Int32.ofNat i) = some (frS (rubP cs S) k i)
  | k, 0, _, h, _ => by omega
  | 0, fuel + 1, i, _, hi' => by
    simp only [f_Co_firstRubbing_l2]
    rw [if_pos ((le6 (by omega)).mpr (by omega))]; rfl
  | k + 1, fuel + 1, i, _, hi' => by
    have ih := fr_l2 h k fuel (i + 1) (by omega) (by omega)
    simp only [f_Co_firstRubbing_l2]
    rw [if_neg (fun q => by have := (le6 (by omega)).mp q; omega), gap_c h (by omega), bdg]
    simp only [lte, oN_s, frS]
    by_cases q : gapS cs S i < 0
    · rw [if_neg (by grind), if_pos (show rubP cs S i = true from decide_eq_true q)]
    · rw [if_pos (by grind), if_neg (show ¬ rubP cs S i = true from fun z => q (of_decide_eq_true z))]; exact ih
theorem first_c {t H : Nat} {C : Mem} {cs : List Cls} {S : Nat → Int32} (h : CoT C t H cs S) : f_Co_firstRubbing t C = some (frS (rubP cs S) 6 0) := fr_l2 h 6 200 0 (by omega) (by omega)
/-! months -/
def monS (cs : List Cls) (A : Nat → Int32) (m : Nat) (S : Nat → Int32) : Nat → Int32 := pasS cs (A (m % 12)) S
def itS (cs : List Cls) (A : Nat → Int32) : Nat → Nat → (Nat → Int32) → Nat → Int32
  | 0, _, S => S
  | k + 1, m, S => itS cs A k (m + 1) (monS cs A m S)
def airA (A : Nat → Int32) : Prop := ∀ k, k < 12 → 0 ≤ A k ∧ A k ≤ 99
theorem mon_ok {cs : List Cls} (hw : wfH cs) {A : Nat → Int32} (hA : airA A) {m : Nat} {S : Nat → Int32} (h : okS m S) : okS (m + 1) (monS cs A m S) := pas_ok h hw (hA _ (Nat.mod_lt _ (by decide)))
theorem it_ok {cs : List Cls} (hw : wfH cs) {A : Nat → Int32} (hA : airA A) : ∀ (k m : Nat) (S : Nat → Int32), okS m S → okS (m + k) (itS cs A k m S)
  | 0, _, _, h => h
  | k + 1, m, S, h => by
    have := it_ok hw hA k (m + 1) _ (mon_ok hw hA h)
    rw [show m + (k + 1) = m + 1 + k by omega]; exact this
theorem CoS.mo {t H : Nat} {C : Mem} {cs : List Cls} {S : Nat → Int32} (h : CoS C t H cs S) {m : Nat} (hm : okS m S) : mI C t 3 = Int32.ofNat m := h.2.2.1.trans hm.2.2.2.2.2.2.2.2.2.2
theorem goOn_l2 {t H n : Nat} (ht : t = 7602179 ∨ t = 9043971) {cs : List Cls} (hw : wfH cs) {A : Nat → Int32} (hA : airA A) (hn : n ≤ 100) : ∀ (k fuel i m : Nat) (C : Mem) (S : Nat → Int32), k < fuel → i + k = n → m + k < 100000 → CoS C t H cs S → okS m S → (∀ q, q < 12 → mI C (t + 1048968) q = A q) → ∃ C', f_Co_goOn_l2 t fuel (Int32.ofNat n) (Int32.ofNat i) C = some C' ∧ CoT C' t H cs (itS cs A k m S) ∧ Fr (coP t) C C'
  | k, 0, _, _, _, _, h, _, _, _, _, _ => by omega
  | 0, fuel + 1, i, m, C, S, _, hi', _, hC, hS, hG => by
    obtain ⟨C1, s1, s2, s3⟩ := settle_c ht hC hw
    refine ⟨C1, ?_, s2, s3⟩
    simp only [f_Co_goOn_l2]
    rw [if_pos ((oN_le (by omega) (by omega)).mpr (by omega)), s1]; rfl
  | k + 1, fuel + 1, i, m, C, S, _, hi', hm, hC, hS, hG => by
    have h12 : m % 12 < 12 := Nat.mod_lt _ (by decide)
    obtain ⟨C1, p1, p2, p3⟩ := pass_c ht hC hw (A (m % 12))
    have hG1 : ∀ q, q < 12 → mI C1 (t + 1048968) q = A q := fun q hq => (p3.1 _ _ (by unfold coP; omega)).trans (hG q hq)
    obtain ⟨C2, g1, g2, g3⟩ := goOn_l2 ht hw hA hn k fuel (i + 1) (m + 1) C1 (monS cs A m S) (by omega) (by omega) (by omega) p2 (mon_ok hw hA hS) hG1
    refine ⟨C2, ?_, g2, p3.trans g3⟩
    simp only [f_Co_goOn_l2]
    rw [if_neg (fun q => by have := (oN_le (by omega) (by omega)).mp q; omega), hC.mo hS, oN_mod (by omega), gd_pos (oN_in (by omega) h12), oN_ix (by omega), hG _ h12, p1, bdg, lte, oN_s]
    exact g1
theorem goOn_c {t H n m : Nat} (ht : t = 7602179 ∨ t = 9043971) {cs : List Cls} (hw : wfH cs) {A : Nat → Int32} (hA : airA A) (hn : n ≤ 100) (hm : m < 50000) {C : Mem} {S : Nat → Int32} (hC : CoS C t H cs S) (hS : okS m S) (hG : ∀ q, q < 12 → mI C (t + 1048968) q = A q) : ∃ C', f_Co_goOn t (Int32.ofNat n) C = some C' ∧ CoT C' t H cs (itS cs A n m S) ∧ Fr (coP t) C C' :=
  goOn_l2 ht hw hA hn n 200 0 m C S (by omega) (by omega) (by omega) hC hS hG
