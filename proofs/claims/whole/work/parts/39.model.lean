/-! FRAMES; THE MODEL'S SIDE OF A CODE'S TRUTH; SUMS AND LASTS OF A HOUSE -/
def Fr (P : Nat → Nat → Prop) (M M' : Mem) : Prop := (∀ a k, ¬ P a k → mI M' a k = mI M a k) ∧ (∀ a k, ¬ P a k → mR M' a k = mR M a k) ∧ mL M' = mL M ∧ mZ M' = mZ M
theorem Fr.rf {P : Nat → Nat → Prop} {M : Mem} : Fr P M M := ⟨fun _ _ _ => rfl, fun _ _ _ => rfl, rfl, rfl⟩
theorem Fr.trans {P : Nat → Nat → Prop} {A B C : Mem} (h : Fr P A B) (k : Fr P B C) : Fr P A C := ⟨fun a i q => (k.1 a i q).trans (h.1 a i q), fun a i q => (k.2.1 a i q).trans (h.2.1 a i q), k.2.2.1.trans h.2.2.1, k.2.2.2.trans h.2.2.2⟩
theorem Fr.mono {P Q : Nat → Nat → Prop} (hPQ : ∀ a k, P a k → Q a k) {A B : Mem} (h : Fr P A B) : Fr Q A B := ⟨fun a i q => h.1 a i fun z => q (hPQ a i z), fun a i q => h.2.1 a i fun z => q (hPQ a i z), h.2.2⟩
theorem Fr.set {P : Nat → Nat → Prop} {A B : Mem} (h : Fr P A B) {a k : Nat} (hp : P a k) (v : Int32) : Fr P A (setI B a k v) :=
  ⟨fun b i q => (if_neg (fun e : b = a ∧ i = k => q (e.1 ▸ e.2 ▸ hp))).trans (h.1 b i q), h.2.1, h.2.2⟩
theorem Fr.setr {P : Nat → Nat → Prop} {A B : Mem} (h : Fr P A B) {a k : Nat} (hp : P a k) (v : Nat) : Fr P A (setR B a k v) :=
  ⟨h.1, fun b i q => (if_neg (fun e : b = a ∧ i = k => q (e.1 ▸ e.2 ▸ hp))).trans (h.2.1 b i q), h.2.2⟩
theorem oN_p {d : Nat} (h : 1 ≤ d) : Int32.ofNat d - 1 = Int32.ofNat (d - 1) := by
  have : Int32.ofNat d = Int32.ofNat (d - 1) + 1 := by rw [oN_s, Nat.sub_add_cancel h]
  rw [this]; grind
theorem oN_m {d : Nat} (h : 1 ≤ d) : Int32.ofNat d + (-1) = Int32.ofNat (d - 1) := by
  have := oN_p h
  grind
/-- the facts of a door, as the model looks at them -/
def fcM (M : Mem) (j l : Nat) : Int32 :=
  if l = 0 then mI M 12714123 j else if l = 1 then Int32.ofNat j else if l = 2 then (mI M 12976267 j + mI M 13107339 j) / 2 / 10 else if l = 3 then mI M 13369483 j else if l = 4 then (mI M 13238411 j - mI M 13238411 j / 2 * 2) + mI M 13238411 j / 2 else mI M 12451850 3 - mI M 12451850 3 / 12 * 12
theorem factOf_m {M : Mem} {j l : Nat} (hj : j < 4) (hl : l < 6) : f_M_factOf (Int32.ofNat l) (Int32.ofNat j) M = some (fcM M j l) := by
  have hr : inR (Int32.ofNat j) 4 := oN_in (by omega) hj
  have hx : (Int32.ofNat j).toNatClampNeg = j := oN_ix (by omega)
  unfold f_M_factOf fcM
  simp only [gd_pos hr, hx]
  rcases (show l = 0 ∨ l = 1 ∨ l = 2 ∨ l = 3 ∨ l = 4 ∨ l = 5 by omega) with e | e | e | e | e | e <;> subst e <;> rfl
def pilP (a _ : Nat) : Prop := a = 14945421
theorem fcM_fr {M M' : Mem} (h : Fr pilP M M') (j l : Nat) : fcM M' j l = fcM M j l := by
  have e : ∀ a k, a ≠ 14945421 → mI M' a k = mI M a k := fun a k q => h.1 a k q
  unfold fcM
  rw [e _ _ (by decide), e _ _ (by decide), e _ _ (by decide), e _ _ (by decide), e _ _ (by decide), e _ _ (by decide)]
/-- the row of truths -/
def PR (M : Mem) (st : List Bool) : Prop := ∀ i, i < st.length → mI M 14945421 (st.length - 1 - i) = bI (st.getD i false)
theorem PR.tail {M : Mem} {b : Bool} {r : List Bool} (h : PR M (b :: r)) : PR M r ∧ mI M 14945421 r.length = bI b := by
  refine ⟨fun i hi' => ?_, ?_⟩
  · have := h (i + 1) (by rw [List.length_cons]; omega)
    rw [List.length_cons, show r.length + 1 - 1 - (i + 1) = r.length - 1 - i by omega] at this
    simpa using this
  · simpa using h 0 (by simp)
theorem PR.cons {M : Mem} {r : List Bool} (h : PR M r) (b : Bool) : PR (setI M 14945421 r.length (bI b)) (b :: r) := by
  intro i hi'
  rw [List.length_cons] at hi' ⊢
  cases i with
  | zero => rw [show r.length + 1 - 1 - 0 = r.length by omega, mSe]; rfl
  | succ i =>
    rw [mSk (by omega), show r.length + 1 - 1 - (i + 1) = r.length - 1 - i by omega, h i (by omega)]; rfl
theorem zN1 : zN 1 = 1 := by decide +kernel
theorem zN0 : zN 0 = 0 := by decide +kernel
theorem bI01 (b : Bool) : bI b = 0 ∨ bI b = 1 := by cases b <;> first | exact Or.inl rfl | exact Or.inr rfl
theorem pile_fr {M M1 : Mem} (h : Fr pilP M M1) (k : Nat) (v : Int32) : Fr pilP M (setI M1 14945421 k v) := h.set rfl v
theorem tsS_c (F : Nat → Int32) {c : Int32} {l : Nat} (h : (c / 300).toNatClampNeg = l) : tsS F c = if c / 100 - c / 100 / 3 * 3 = 0 then decide (F l < c - c / 100 * 100) else if c / 100 - c / 100 / 3 * 3 = 1 then decide (F l = c - c / 100 * 100) else decide (c - c / 100 * 100 < F l) := by
  unfold tsS; rw [h]
theorem holds_l10 {M : Mem} {j c a : Nat} {code : List Int32} (hj : j < 4) (hc : c < 60) (ha : a + code.length ≤ 600) (hlen : code.length ≤ 100) (hto : mI M 14419851 c = Int32.ofNat (a + code.length)) (hs : ∀ k, k < code.length → mI M 14568203 (a + k) = trS (code.getD k 0)) : ∀ (k fuel i : Nat) (M1 : Mem) (st : List Bool), k < fuel → i + k = code.length → depS (code.drop i) st.length = some 1 → st.length ≤ 60 → Fr pilP M M1 → PR M1 st → ∃ M2, f_M_holds_l10 fuel (Int32.ofNat c) (Int32.ofNat j) (Int32.ofNat st.length) (Int32.ofNat (a + i)) M1 = some (bI ((evS (fcM M j) (code.drop i) st).headD false), M2) ∧ Fr pilP M M2
  | k, 0, _, _, _, h, _, _, _, _, _ => by omega
  | 0, fuel + 1, i, M1, st, _, hi', hd, _, hf, hp => by
    refine ⟨M1, ?_, hf⟩
    simp only [f_M_holds_l10]
    rw [gd_pos (oN_in (by omega) hc), oN_ix (by omega), hf.1 14419851 c (by decide : ¬ (14419851 : Nat) = 14945421), hto, if_pos ((oN_le (by omega) (by omega)).mpr (by omega)), List.drop_of_length_le (by omega)]
    rw [List.drop_of_length_le (by omega)] at hd
    have h1 : st.length = 1 := by simpa [depS] using hd
    match st, h1, hp with
    | [b], _, hp =>
      have hb := hp.tail.2
      rw [List.length_nil] at hb
      rw [hb, gd_pos (bI01 b)]; rfl
  | k + 1, fuel + 1, i, M1, st, hfu, hi', hd, hs60, hf, hp => by
    have hil : i < code.length := by omega
    rw [drop_c hil 0] at hd ⊢
    rw [evS_c]
    simp only [f_M_holds_l10]
    have hsg : mI M1 14568203 (a + i) = trS (code.getD i 0) := (hf.1 14568203 (a + i) (by decide : ¬ (14568203 : Nat) = 14945421)).trans (hs i hil)
    rw [gd_pos (oN_in (by omega) hc), oN_ix (by omega), hf.1 14419851 c (by decide : ¬ (14419851 : Nat) = 14945421), hto, if_neg (fun q => by have := (oN_le (by omega) (by omega)).mp q; omega), gd_pos (oN_in (by omega) (by omega)), oN_ix (by omega), lte, hsg]
    generalize code.getD i 0 = t at hd ⊢
    have go := fun M' st' x y z w => holds_l10 hj hc ha hlen hto hs k fuel (i + 1) M' st' (by omega) (by omega) x y z w
    rcases depS_c hd with ⟨rfl, q1, q2⟩ | ⟨q0, q1, q2⟩ | ⟨q1, q2, q3, q4⟩
    · rw [show trS (-1) = -33 by decide +kernel, if_pos rfl]
      match st, q1, q2, hp, hs60 with
      | b :: r, _, q2, hp, hs60 =>
        rw [List.length_cons] at q2 hs60
        have e : stS (fcM M j) (-1) (b :: r) = (!b) :: r := by unfold stS; rw [if_pos rfl]; rfl
        rw [e, List.length_cons, oN_p (by omega), Nat.add_sub_cancel, gd_pos (oN_in (by omega) (by omega)), oN_ix (by omega), hp.tail.2, gd_pos (oN_in (by omega) (by omega)), gd_pos (oN_in (by omega) (by omega)), zN1, zN0]
        cases b with
        | false =>
          rw [if_pos (by decide), lte, lte, oN_s]
          exact go _ (true :: r) (by rw [List.length_cons]; exact q2) (by rw [List.length_cons]; omega) (pile_fr hf _ _) (hp.tail.1.cons true)
        | true =>
          rw [if_neg (by decide), lte, lte, oN_s]
          exact go _ (false :: r) (by rw [List.length_cons]; exact q2) (by rw [List.length_cons]; omega) (pile_fr hf _ _) (hp.tail.1.cons false)
    · match st, q1, q2, hp, hs60 with
      | b :: a' :: r, _, q2, hp, hs60 =>
        rw [List.length_cons, List.length_cons] at q2 hs60
        have p1 := hp.tail.2
        have p2 := hp.tail.1.tail.2
        have p3 := hp.tail.1.tail.1
        rw [List.length_cons] at p1
        have l1 : Int32.ofNat (b :: a' :: r).length + (-1) = Int32.ofNat (r.length + 1) := by
          rw [List.length_cons, List.length_cons, oN_m (by omega)]; rfl
        have l2 : Int32.ofNat (r.length + 1) - 1 = Int32.ofNat r.length := by rw [oN_p (by omega)]; rfl
        have r1 : inR (Int32.ofNat r.length) 100 := oN_in (by omega) (by omega)
        have r2 : inR (Int32.ofNat (r.length + 1)) 100 := oN_in (by omega) (by omega)
        have x1 : (Int32.ofNat r.length).toNatClampNeg = r.length := oN_ix (by omega)
        have x2 : (Int32.ofNat (r.length + 1)).toNatClampNeg = r.length + 1 := oN_ix (by omega)
        rcases q0 with rfl | rfl
        · have e : stS (fcM M j) (-2) (b :: a' :: r) = (a' && b) :: r := by unfold stS; rw [if_neg (by decide), if_pos rfl]; rfl
          rw [e, show trS (-2) = -38 by decide +kernel, if_neg (by decide), if_neg (by decide), lte, l1, if_pos rfl, l2]
          simp only [gd_pos r1, gd_pos r2, x1, x2, p1, p2, zN1, zN0, lte, oN_s]
          have fin : ∀ v : Bool, v = (a' && b) → ∃ M2, f_M_holds_l10 fuel (Int32.ofNat c) (Int32.ofNat j) (Int32.ofNat (r.length + 1)) (Int32.ofNat (a + i + 1)) (setI M1 14945421 r.length (bI v)) = some (bI ((evS (fcM M j) (code.drop (i + 1)) ((a' && b) :: r)).headD false), M2) ∧ Fr pilP M M2 := fun v hv => by
            rw [← hv]
            exact go _ (v :: r) (by rw [List.length_cons]; exact q2) (by rw [List.length_cons]; omega) (pile_fr hf _ _) (p3.cons v)
          cases a' with
          | false => rw [if_pos (by decide)]; exact fin false (by simp)
          | true =>
            rw [if_neg (by decide)]
            cases b with
            | false => rw [if_pos (by decide)]; exact fin false (by simp)
            | true => rw [if_neg (by decide)]; exact fin true (by simp)
        · have e : stS (fcM M j) (-3) (b :: a' :: r) = (a' || b) :: r := by unfold stS; rw [if_neg (by decide), if_neg (by decide), if_pos rfl]; rfl
          rw [e, show trS (-3) = -124 by decide +kernel, if_neg (by decide), if_neg (by decide), lte, l1, if_neg (by decide), l2]
          simp only [gd_pos r1, gd_pos r2, x1, x2, p1, p2, zN1, zN0, lte, oN_s]
          have fin : ∀ v : Bool, v = (a' || b) → ∃ M2, f_M_holds_l10 fuel (Int32.ofNat c) (Int32.ofNat j) (Int32.ofNat (r.length + 1)) (Int32.ofNat (a + i + 1)) (setI M1 14945421 r.length (bI v)) = some (bI ((evS (fcM M j) (code.drop (i + 1)) ((a' || b) :: r)).headD false), M2) ∧ Fr pilP M M2 := fun v hv => by
            rw [← hv]
            exact go _ (v :: r) (by rw [List.length_cons]; exact q2) (by rw [List.length_cons]; omega) (pile_fr hf _ _) (p3.cons v)
          cases a' with
          | true => rw [if_neg (by decide)]; exact fin true (by simp)
          | false =>
            rw [if_pos (by decide)]
            cases b with
            | false => rw [if_pos (by decide)]; exact fin false (by simp)
            | true => rw [if_neg (by decide)]; exact fin true (by simp)
    · obtain ⟨l, l6, a1, a2, a3, a4, a5, b1, b2', b3, b4, b5, n1, n2, n3⟩ := tst ⟨q1, q2⟩
      have e : stS (fcM M j) t st = tsS (fcM M j) t :: st := by unfold stS; rw [if_neg n1, if_neg n2, if_neg n3]
      have hr : inR (Int32.ofNat st.length) 100 := oN_in (by omega) (by omega)
      have hx : (Int32.ofNat st.length).toNatClampNeg = st.length := oN_ix (by omega)
      rw [e, if_neg b5, if_pos b4, b1, factOf_m hj l6, bdg, fcM_fr hf, lte, b2', b3, tsS_c _ a1]
      simp only [gd_pos hr, hx, zN1, zN0, lte, oN_s]
      have fin : ∀ v : Bool, ∃ M2, f_M_holds_l10 fuel (Int32.ofNat c) (Int32.ofNat j) (Int32.ofNat (st.length + 1)) (Int32.ofNat (a + i + 1)) (setI M1 14945421 st.length (bI v)) = some (bI ((evS (fcM M j) (code.drop (i + 1)) (v :: st)).headD false), M2) ∧ Fr pilP M M2 := fun v =>
        go _ (v :: st) (by rw [List.length_cons]; exact q4) (by rw [List.length_cons]; omega) (pile_fr hf _ _) (hp.cons v)
      by_cases h0 : t / 100 - t / 100 / 3 * 3 = 0
      · rw [if_pos h0, if_pos h0]
        by_cases q : fcM M j l < t - t / 100 * 100
        · rw [if_neg (by grind), decide_eq_true q]; exact fin true
        · rw [if_pos (by grind), decide_eq_false q]; exact fin false
      · rw [if_neg h0, if_neg h0]
        by_cases h1 : t / 100 - t / 100 / 3 * 3 = 1
        · rw [if_pos h1, if_pos h1]
          by_cases q : fcM M j l = t - t / 100 * 100
          · rw [if_pos q, decide_eq_true q]; exact fin true
          · rw [if_neg q, decide_eq_false q]; exact fin false
        · rw [if_neg h1, if_neg h1]
          by_cases q : t - t / 100 * 100 < fcM M j l
          · rw [if_neg (by grind), decide_eq_true q]; exact fin true
          · rw [if_pos (by grind), decide_eq_false q]; exact fin false
