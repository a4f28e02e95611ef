/-! EXPRESSIONS: the class descends, the model stacks -/
def dpt (cs : List Int32) (k : Nat) : Prop := ∀ (rest : List Int32) (dd : Nat), 3 * dd + k ≤ 180 → depS (cs ++ rest) dd = depS rest (dd + 1)
theorem dpt_one {c : Int32} (h : 0 ≤ c ∧ c < 1800) {k : Nat} (hk : 3 ≤ k) : dpt [c] k := fun rest dd hd => by
  obtain ⟨-, -, -, -, -, -, -, -, -, -, -, -, n1, n2, n3⟩ := tst h
  simp only [List.cons_append, List.nil_append, depS]
  have n23 : ¬ (c = -2 ∨ c = -3) := fun z => z.elim n2 n3
  rw [if_neg n1, if_neg n23, if_pos ⟨h.1, h.2, by omega⟩]
theorem dpt_not {cs : List Int32} {k : Nat} (h : dpt cs k) : dpt (cs ++ [-1]) (k + 1) := fun rest dd hd => by
  rw [List.append_assoc, h _ dd (by omega)]
  simp only [List.cons_append, List.nil_append, depS]
  rw [if_pos trivial, if_pos (by omega)]
theorem dpt_op {cs ds : List Int32} {k l : Nat} {c : Int32} (hc : c = -2 ∨ c = -3) (h : dpt cs k) (g : dpt ds l) (hk : 3 ≤ k) : dpt (cs ++ ds ++ [c]) (k + 1 + l) := fun rest dd hd => by
  rw [List.append_assoc, List.append_assoc, h _ dd (by omega), g _ (dd + 1) (by omega)]
  simp only [List.cons_append, List.nil_append, depS]
  have n1 : ¬ c = -1 := by rcases hc with q | q <;> rw [q] <;> decide
  rw [if_neg n1, if_pos hc, if_pos (by omega)]; rfl
theorem dpt_mono {cs : List Int32} {k l : Nat} (h : dpt cs k) (hkl : k ≤ l) : dpt cs l := fun rest dd hd => h rest dd (by omega)
def failT (T : Nat → Int32) (n sB sel fc d k : Nat) (C M : Mem) (a : Nat) (code : List Int32) (fuel : Nat) : Prop :=
  ∃ a' code' C' M1, f_rec_takes fc sel (Int32.ofNat d) C = some (0, C') ∧ CX T n C' a' code' ∧ code'.length + a ≤ code.length + a' ∧ a ≤ a' ∧ Fz ctP C C' ∧ Fz (mtP (sB, k)) M M1 ∧ mI M1 12451850 15 = Int32.ofNat a' ∧ f_M_takesE_l22 fuel (Int32.ofNat k) 1 M = some (0, M1)
def FacT (T : Nat → Int32) (n f sB k fc d : Nat) : Prop := ∀ (C M : Mem) (a : Nat) (code W out : List Int32) (fuel : Nat), CX T n C a code → MX T n sB M a W d out → sB + out.length + W.length ≤ 100 * f + a → lead W ≤ d → n - a < fuel →
  (∃ a' cs C' M1 fuel', f_rec_takes fc 2 (Int32.ofNat d) C = some (1, C') ∧ CX T n C' a' (code ++ cs) ∧ a + 3 ≤ a' ∧ cs.length + a ≤ a' ∧ dpt cs (a' - a) ∧ Fz ctP C C' ∧ MX T n sB M1 a' W d (out ++ cs.map trS) ∧ n - a' < fuel' ∧ Fz (mtP (sB, k)) M M1 ∧ f_M_takesE_l22 fuel (Int32.ofNat k) 1 M = (bd (f_M_whole M1) fun M2 => f_M_takesE_l22 fuel' (Int32.ofNat k) 0 M2)) ∨ failT T n sB 2 fc d k C M a code fuel
def pendT (T : Nat → Int32) (n f sB sel fc d k : Nat) (C M : Mem) (a : Nat) (code W out : List Int32) (fuel : Nat) (okP : List Int32 → Int32 → Prop) : Prop :=
  ∃ a' cs C' M1 fuel' pend out', f_rec_takes fc sel (Int32.ofNat d) C = some (1, C') ∧ CX T n C' a' (code ++ cs) ∧ a + 3 ≤ a' ∧ cs.length + a ≤ a' ∧ dpt cs (a' - a) ∧ Fz ctP C C' ∧ MX T n sB M1 a' (pend ++ W) d out' ∧ out' ++ pend.map (fun x => -x) = out ++ cs.map trS ∧ okP pend (nx T n a') ∧ n - a' < fuel' ∧ Fz (mtP (sB, k)) M M1 ∧ f_M_takesE_l22 fuel (Int32.ofNat k) 1 M = f_M_takesE_l22 fuel' (Int32.ofNat k) 0 M1
def okAll (p : List Int32) (x : Int32) : Prop := (p = [] ∨ p = [38]) ∧ x ≠ 38
def okAny (p : List Int32) (x : Int32) : Prop := pnd p ∧ x ≠ 38 ∧ x ≠ 124
def AllT (T : Nat → Int32) (n f sB k fc d : Nat) : Prop := ∀ (C M : Mem) (a : Nat) (code W out : List Int32) (fuel : Nat), CX T n C a code → MX T n sB M a W d out → sB + out.length + W.length ≤ 100 * f + a → W.headD 0 ≠ 33 ∧ W.headD 0 ≠ 38 → n - a < fuel →
  pendT T n f sB 1 fc d k C M a code W out fuel okAll ∨ failT T n sB 1 fc d k C M a code fuel
def AnyT (T : Nat → Int32) (n f sB k fc d : Nat) : Prop := ∀ (C M : Mem) (a : Nat) (code W out : List Int32) (fuel : Nat), CX T n C a code → MX T n sB M a W d out → sB + out.length + W.length ≤ 100 * f + a → W.headD 0 ≠ 33 ∧ W.headD 0 ≠ 38 ∧ W.headD 0 ≠ 124 → n - a < fuel →
  pendT T n f sB 0 fc d k C M a code W out fuel okAny ∨ failT T n sB 0 fc d k C M a code fuel
theorem lead0 {W : List Int32} (h : W.headD 0 ≠ 33) : lead W = 0 := by
  cases W with
  | nil => rfl
  | cons v W => unfold lead; exact if_neg h
theorem bd_as {α β γ : Type} (x : Option α) (g : α → Option β) (h : β → Option γ) : bd (bd x g) h = bd x fun y => bd (g y) h := by
  cases x <;> rfl
theorem l22_want {T : Nat → Int32} {n sB a d fuel k : Nat} {M : Mem} {W out : List Int32} (h : MX T n sB M a W d out) (ht : txt T n) : f_M_takesE_l22 (fuel + 1) (Int32.ofNat k) 1 M = if nx T n a = 33 then f_M_takesE_b43 (f_M_takesE_l22 fuel) (Int32.ofNat k) 1 (nx T n a) M else if nx T n a = 40 then f_M_takesE_b43 (f_M_takesE_l22 fuel) (Int32.ofNat k) 1 (nx T n a) M else b2 (f_M_takesTest M) fun r12 M11 => if r12 = 0 then some (0, M11) else f_M_takesE_l22 fuel (Int32.ofNat k) 0 M11 := by
  simp only [f_M_takesE_l22, next_m h ht, bdg, if_neg i10]
theorem nx_lt {T : Nat → Int32} {n a : Nat} {c : Int32} (h : nx T n a = c) (hc : 0 ≤ c) : a < n := by
  unfold nx at h
  by_cases z : a < n
  · exact z
  · rw [if_neg z] at h
    rw [← h] at hc; exact absurd hc (by decide)
/-- a sign of not, or a bracket, is put on top -/
theorem push_m {T : Nat → Int32} {n sB a d fuel k : Nat} {M : Mem} {W out : List Int32} {c : Int32} (h : MX T n sB M a W d out) (ht : txt T n) (hl : W.length ≤ a) (hd : d < 4) (ha : a < n) : ∃ M', f_M_takesE_b43 (f_M_takesE_l22 fuel) (Int32.ofNat k) 1 c M = f_M_takesE_l22 fuel (Int32.ofNat k) 1 M' ∧ MX T n sB M' (a + 1) (c :: W) (d + 1) out ∧ Fz (mtP (sB, k)) M M' := by
  have hn := ht.1
  have h1 := (h.op (d + 1)).push c
  have h2 := h1.at (a' := a + 1) (by omega)
  refine ⟨_, ?_, h2, ?_⟩
  · have e27 : mI M 12451850 27 = Int32.ofNat d := h.2.2.2.2.2.2.2.2
    have n4 : ¬ Int32.ofNat d = 4 := fun e => by
      have := oN_ix (i := d) (by omega)
      rw [e] at this
      have t : (4 : Int32).toNatClampNeg = 4 := by decide
      omega
    have e26 : mI (setI M 12451850 27 (Int32.ofNat (d + 1))) 12451850 26 = Int32.ofNat W.length := (mSk (by decide)).trans h.wl
    have hr : inR (Int32.ofNat W.length) 101 := oN_in (by omega) (by omega)
    have hx : (Int32.ofNat W.length).toNatClampNeg = W.length := oN_ix (by omega)
    have e26b : mI (setI (setI M 12451850 27 (Int32.ofNat (d + 1))) 14683307 W.length c) 12451850 26 = Int32.ofNat W.length := (mS (by decide)).trans e26
    have e15 : mI (setI (setI (setI M 12451850 27 (Int32.ofNat (d + 1))) 14683307 W.length c) 12451850 26 (Int32.ofNat (W.length + 1))) 12451850 15 = Int32.ofNat a := h1.2.2.1
    simp only [f_M_takesE_b43, e27, if_neg n4, lte, oN_s, e26, gd_pos hr, hx, e26b, e15]
  · exact (((Fz.rf.set (Or.inl ⟨rfl, Or.inr (Or.inr (Or.inr (Or.inr rfl)))⟩) _).set (Or.inr (Or.inr (Or.inl rfl))) _).set (Or.inl ⟨rfl, Or.inr (Or.inr (Or.inr (Or.inl rfl)))⟩) _).set (Or.inl ⟨rfl, Or.inl rfl⟩) _
theorem rt2 (m : Nat) (p : Int32) (C : Mem) : f_rec_takes (m + 1) 2 p C = f_Tx_takesFactor (f_rec_takes m) p C := Eq.trans rfl rfl
theorem rt1 (m : Nat) (p : Int32) (C : Mem) : f_rec_takes (m + 1) 1 p C = f_Tx_takesAllOf (f_rec_takes m) p C := Eq.trans rfl rfl
theorem rt0 (m : Nat) (p : Int32) (C : Mem) : f_rec_takes (m + 1) 0 p C = f_Tx_takesAnyOf (f_rec_takes m) p C := Eq.trans rfl rfl
/-! the class takes its signs of not by a loop, and adds them behind the rest -/
def nots : Nat → Int32 → Mem → Option (Int32 × Mem)
  | 0, v, M => gd (v = 0 ∨ v = 1) (some (v, M))
  | k + 1, v, M => bd (f_Tx_addCode (-1) M) fun M' => nots k v M'
theorem l71_nots (rec : Nat → Int32 → Mem → Option (Int32 × Mem)) (v : Int32) : ∀ (k fuel i : Nat) (M : Mem), k < fuel → i + k ≤ 100 → f_Tx_takesFactor_l71 rec fuel (Int32.ofNat (i + k)) v (Int32.ofNat i) M = nots k v M
  | k, 0, _, _, h, _ => by omega
  | 0, fuel + 1, i, M, _, hi' => by
    rw [f_Tx_takesFactor_l71.eq_2, if_pos ((oN_le (by omega) (by omega)).mpr (by omega))]; rfl
  | k + 1, fuel + 1, i, M, _, hi' => by
    rw [f_Tx_takesFactor_l71.eq_2, if_neg (fun q => by have := (oN_le (by omega) (by omega)).mp q; omega)]
    show _ = bd (f_Tx_addCode (-1) M) fun M' => nots k v M'
    congr 1
    funext M'
    have ih := l71_nots rec v k fuel (i + 1) M' (by omega) (by omega)
    rw [show i + 1 + k = i + (k + 1) by omega] at ih
    rw [lte, oN_s]; exact ih
def notG (r : Int32) (M3 : Mem) : Option (Int32 × Mem) := bd (f_Tx_addCode (-1) M3) fun M5 => gd (r = 0 ∨ r = 1) (some (r, M5))
theorem nots_last (v : Int32) : ∀ (k : Nat) (M : Mem), nots (k + 1) v M = b2 (nots k v M) notG
  | 0, M => by
    show bd (f_Tx_addCode (-1) M) (fun M' => gd (v = 0 ∨ v = 1) (some (v, M'))) = b2 (gd (v = 0 ∨ v = 1) (some (v, M))) notG
    by_cases q : v = 0 ∨ v = 1
    · rw [gd_pos q]; rfl
    · have gn : ∀ x : Option (Int32 × Mem), gd (v = 0 ∨ v = 1) x = none := fun x => if_neg q
      rw [gn]
      cases f_Tx_addCode (-1) M with
      | none => rfl
      | some x => exact gn _
  | k + 1, M => by
    show bd (f_Tx_addCode (-1) M) (fun M' => nots (k + 1) v M') = b2 (bd (f_Tx_addCode (-1) M) fun M' => nots k v M') notG
    cases f_Tx_addCode (-1) M with
    | none => rfl
    | some x => exact nots_last v k x
theorem b2_as {α γ : Type} (x : Option (α × Mem)) (g : α → Mem → Option (Int32 × Mem)) (h : Int32 → Mem → Option γ) : b2 (b2 x g) h = b2 x fun a M => b2 (g a M) h := by
  cases x <;> rfl
theorem b2_if {c : Prop} [Decidable c] (x y : Option (Int32 × Mem)) (h : Int32 → Mem → Option (Int32 × Mem)) : b2 (if c then x else y) h = if c then b2 x h else b2 y h := by
  split <;> rfl
section FACTOR
variable (rec : Nat → Int32 → Mem → Option (Int32 × Mem))
theorem b67_up {i e : Nat} (hie : i + 1 ≤ e) (he : e ≤ 4) (v : Int32) (M : Mem) : f_Tx_takesFactor_b67 rec (Int32.ofNat i) (Int32.ofNat e) v M = b2 (f_Tx_takesFactor_b67 rec (Int32.ofNat (i + 1)) (Int32.ofNat e) v M) notG := by
  obtain ⟨k, rfl⟩ : ∃ k, e = i + (k + 1) := ⟨e - (i + 1), by omega⟩
  have e1 : f_Tx_takesFactor_b67 rec (Int32.ofNat i) (Int32.ofNat (i + (k + 1))) v M = nots (k + 1) v M := l71_nots rec v (k + 1) 200 i M (by omega) (by omega)
  have e2 : f_Tx_takesFactor_b67 rec (Int32.ofNat (i + 1)) (Int32.ofNat (i + 1 + k)) v M = nots k v M := l71_nots rec v k 200 (i + 1) M (by omega) (by omega)
  rw [show i + 1 + k = i + (k + 1) by omega] at e2
  rw [e1, e2]; exact nots_last v k M
theorem b22_up {i e : Nat} (hie : i + 1 ≤ e) (he : e ≤ 4) (M : Mem) : f_Tx_takesFactor_b22 rec (Int32.ofNat i) (Int32.ofNat e) M = b2 (f_Tx_takesFactor_b22 rec (Int32.ofNat (i + 1)) (Int32.ofNat e) M) notG := by
  have u := b67_up rec hie he
  have u63 : ∀ M, f_Tx_takesFactor_b63 rec (Int32.ofNat i) (Int32.ofNat e) M = b2 (f_Tx_takesFactor_b63 rec (Int32.ofNat (i + 1)) (Int32.ofNat e) M) notG := fun M => by
    simp only [f_Tx_takesFactor_b63, b2_as, ← u]
  have u59 : ∀ M, f_Tx_takesFactor_b59 rec (Int32.ofNat i) (Int32.ofNat e) M = b2 (f_Tx_takesFactor_b59 rec (Int32.ofNat (i + 1)) (Int32.ofNat e) M) notG := fun M => u 0 M
  simp only [f_Tx_takesFactor_b22, b2_as, b2_if, ← u63, ← u59, ← u]
theorem l2_up {i : Nat} : ∀ (m e f1 f2 : Nat) (M : Mem), e + m = 4 → i + 1 ≤ e → m < f1 → m < f2 → f_Tx_takesFactor_l2 rec f1 (Int32.ofNat i) (Int32.ofNat e) M = b2 (f_Tx_takesFactor_l2 rec f2 (Int32.ofNat (i + 1)) (Int32.ofNat e) M) notG
  | m, e, 0, _, M, _, _, h, _ => by omega
  | m, e, _, 0, M, _, _, _, h => by omega
  | 0, e, f1 + 1, f2 + 1, M, hm, hi', _, _ => by
    have c : (4 : Int32) ≤ Int32.ofNat e := (oN_le (m := 4) (by decide) (by omega)).mpr (by omega)
    rw [f_Tx_takesFactor_l2.eq_2, f_Tx_takesFactor_l2.eq_2, if_pos c, if_pos c]
    exact b22_up rec hi' (by omega) M
  | m + 1, e, f1 + 1, f2 + 1, M, hm, hi', _, _ => by
    have c : ¬ (4 : Int32) ≤ Int32.ofNat e := fun q => by have := (oN_le (m := 4) (by decide) (by omega)).mp q; omega
    have ih := fun M => l2_up (i := i) m (e + 1) f1 f2 M (by omega) (by omega) (by omega) (by omega)
    have u := b22_up rec hi' (show e ≤ 4 by omega)
    rw [f_Tx_takesFactor_l2.eq_2, f_Tx_takesFactor_l2.eq_2, if_neg c, if_neg c]
    simp only [lte, oN_s, b2_as, b2_if, ← ih, ← u]
/-- what is taken behind the signs of not -/
def fac29 (d : Nat) (M : Mem) : Option (Int32 × Mem) :=
  if (4 : Int32) ≤ Int32.ofNat d then b2 (f_Tx_takesTest M) fun r M7 => gd (r = 0 ∨ r = 1) (some (r, M7))
  else b2 (f_Tx_takes 40 M) fun r M4 => if r = 0 then b2 (f_Tx_takesTest M4) fun r M7 => gd (r = 0 ∨ r = 1) (some (r, M7)) else b2 (rec 0 (Int32.ofNat (d + 1)) M4) fun r7 M6 => if r7 = 0 then some (0, M6) else b2 (f_Tx_takes 41 M6) fun r9 M8 => if r9 = 0 then some (0, M8) else some (1, M8)
theorem b22_29 {d : Nat} (hd : d ≤ 4) (M : Mem) : f_Tx_takesFactor_b22 rec (Int32.ofNat d) (Int32.ofNat d) M = fac29 rec d M := by
  have u : ∀ v M, f_Tx_takesFactor_b67 rec (Int32.ofNat d) (Int32.ofNat d) v M = gd (v = 0 ∨ v = 1) (some (v, M)) := fun v M => l71_nots rec v 0 200 d M (by omega) (by omega)
  have u63 : ∀ M, f_Tx_takesFactor_b63 rec (Int32.ofNat d) (Int32.ofNat d) M = b2 (f_Tx_takesTest M) fun r M7 => gd (r = 0 ∨ r = 1) (some (r, M7)) := fun M => by
    simp only [f_Tx_takesFactor_b63, u]
  have u59 : ∀ M, f_Tx_takesFactor_b59 rec (Int32.ofNat d) (Int32.ofNat d) M = some (0, M) := fun M => (u 0 M).trans (gd_pos (Or.inl rfl))
  have u1 : ∀ M, f_Tx_takesFactor_b67 rec (Int32.ofNat d) (Int32.ofNat d) 1 M = some (1, M) := fun M => (u 1 M).trans (gd_pos (Or.inr rfl))
  simp only [f_Tx_takesFactor_b22, u63, u59, u1, fac29, oN_s]
theorem fac_eq {d : Nat} (hd : d < 4) (M : Mem) : f_Tx_takesFactor rec (Int32.ofNat d) M = b2 (f_Tx_takes 33 M) fun r2 M1 => if r2 = 0 then fac29 rec d M1 else b2 (f_Tx_takesFactor rec (Int32.ofNat (d + 1)) M1) notG := by
  have c4 : ¬ (4 : Int32) ≤ Int32.ofNat d := fun q => by have := (oN_le (m := 4) (by decide) (by omega)).mp q; omega
  have u := fun M => l2_up rec (i := d) (4 - (d + 1)) (d + 1) 199 200 M (by omega) (by omega) (by omega) (by omega)
  show f_Tx_takesFactor_l2 rec (199 + 1) (Int32.ofNat d) (Int32.ofNat d) M = _
  rw [f_Tx_takesFactor_l2.eq_2, if_neg c4]
  congr 1
  funext r2 M1
  rw [b22_29 rec (by omega), lte, oN_s, u]
  rfl
theorem fac_eq4 (M : Mem) : f_Tx_takesFactor rec (Int32.ofNat 4) M = fac29 rec 4 M := by
  have c4 : (4 : Int32) ≤ Int32.ofNat 4 := by decide
  show f_Tx_takesFactor_l2 rec (199 + 1) (Int32.ofNat 4) (Int32.ofNat 4) M = _
  rw [f_Tx_takesFactor_l2.eq_2, if_pos c4]
  exact b22_29 rec (by omega) M
end FACTOR
/-- the last way of a factor: a test -/
theorem fac_test {T : Nat → Int32} {n f sB k fc d : Nat} (ht : txt T n) (hf : 100 * f ≤ sB) (hf5 : f ≤ 5) {C0 C M : Mem} {a : Nat} {code W out : List Int32} {fuel : Nat} (hF : Fz ctP C0 C) (hC : CX T n C a code) (hM : MX T n sB M a W d out) (hI : sB + out.length + W.length ≤ 100 * f + a) (hfu : n - a < fuel + 1) (hr : f_rec_takes fc 2 (Int32.ofNat d) C0 = b2 (f_Tx_takesTest C) fun r M7 => gd (r = 0 ∨ r = 1) (some (r, M7))) (hm : f_M_takesE_l22 (fuel + 1) (Int32.ofNat k) 1 M = b2 (f_M_takesTest M) fun r12 M11 => if r12 = 0 then some (0, M11) else f_M_takesE_l22 fuel (Int32.ofNat k) 0 M11) :
  (∃ a' cs C' M1 fuel', f_rec_takes fc 2 (Int32.ofNat d) C0 = some (1, C') ∧ CX T n C' a' (code ++ cs) ∧ a + 3 ≤ a' ∧ cs.length + a ≤ a' ∧ dpt cs (a' - a) ∧ Fz ctP C0 C' ∧ MX T n sB M1 a' W d (out ++ cs.map trS) ∧ n - a' < fuel' ∧ Fz (mtP (sB, k)) M M1 ∧ f_M_takesE_l22 (fuel + 1) (Int32.ofNat k) 1 M = (bd (f_M_whole M1) fun M2 => f_M_takesE_l22 fuel' (Int32.ofNat k) 0 M2)) ∨ failT T n sB 2 fc d k C0 M a code (fuel + 1) := by
  rcases test_j (f := f) (kk := k) hC hM ht hf (by omega) with ⟨a', c, C', M1, t1, t2, t3, t4, t5, t6, t7, t8, t9⟩ | ⟨a', C', M', t0, t1, t2, t3, t4, t5, t6⟩
  · have ha' := t2.2.2.2.1
    refine Or.inl ⟨a', [c], C', M1, fuel, ?_, t2, t3, by simp; omega, dpt_one ⟨t4, t5⟩ (by omega), hF.trans t6, t8, by omega, t9, ?_⟩
    · rw [hr, t1, b2g, gd_pos (Or.inr rfl)]
    · rw [hm, t7]
      refine (bd_as _ _ _).trans ?_
      congr 1
  · have q1 := t2.2.2.2.2.2.2
    refine Or.inr ⟨a', code, C', M', ?_, t2, by omega, t0, hF.trans t3, t6, t5.2.2.1, ?_⟩
    · rw [hr, t1, b2g, gd_pos (Or.inl rfl)]
    · rw [hm, t4, b2g, if_pos rfl]
theorem nlt {x : Int32} (h : x = 33 ∨ x = 40) : x ≠ 38 ∧ x ≠ 124 := by rcases h with q | q <;> rw [q] <;> exact ⟨by decide, by decide⟩
theorem four {d : Nat} (hd : d ≤ 4) : ((4 : Int32) ≤ Int32.ofNat d ↔ 4 ≤ d) := oN_le (m := 4) (by decide) (by omega)
theorem fac_last {T : Nat → Int32} {n f sB k fc : Nat} (ht : txt T n) (hf : 100 * f ≤ sB) (hf5 : f ≤ 5) : FacT T n f sB k (fc + 1) 4 := by
  intro C M a code W out fuel hC hM hI hL hfu
  match fuel, hfu with
  | fuel + 1, hfu =>
    have c4 : (4 : Int32) ≤ Int32.ofNat 4 := by decide
    have hr : f_rec_takes (fc + 1) 2 (Int32.ofNat 4) C = b2 (f_Tx_takesTest C) fun r M7 => gd (r = 0 ∨ r = 1) (some (r, M7)) := by
      rw [rt2, fac_eq4]
      simp only [fac29, if_pos c4]
    by_cases q : nx T n a = 33 ∨ nx T n a = 40
    · -- neither may begin here
      have e27 : mI M 12451850 27 = 4 := hM.2.2.2.2.2.2.2.2
      have hb : f_M_takesE_l22 (fuel + 1) (Int32.ofNat k) 1 M = some (0, M) := by
        rw [l22_want hM ht]
        rcases q with q | q
        · rw [if_pos q]; simp only [f_M_takesE_b43, e27, if_true]
        · have n33 : ¬ nx T n a = 33 := by rw [q]; decide
          rw [if_neg n33, if_pos q]; simp only [f_M_takesE_b43, e27, if_true]
      have pl : f_M_place (nx T n a) (zM 0) = -1 := by rcases q with q | q <;> rw [q] <;> decide +kernel
      have p1 : f_M_place (-1) (zM 0) = -1 := by decide +kernel
      obtain ⟨C1, a1, a2, a3⟩ := one_c (p := 524307) (g := fun x => f_M_place x (zM 0)) hC ht (fun x hx => (lets hx C).1) p1
      have n1 : ¬ (0 : Int32) ≤ -1 := by decide
      simp only [pl, if_neg n1] at a1 a2
      refine Or.inr ⟨a, code, C1, M, ?_, a2, by omega, Nat.le_refl a, a3, Fz.rf, hM.2.2.1, hb⟩
      have tt : f_Tx_takesTest C = some (0, C1) := by simp only [f_Tx_takesTest, a1, bdg, ap2g, if_neg n1, f_Tx_takesTest_b21, f_Tx_takesTest_b34]
      rw [hr, tt, b2g, gd_pos (Or.inl rfl)]
    · have n33 : ¬ nx T n a = 33 := fun e => q (Or.inl e)
      have n40 : ¬ nx T n a = 40 := fun e => q (Or.inr e)
      exact fac_test ht hf hf5 Fz.rf hC hM hI hfu hr (by rw [l22_want hM ht, if_neg n33, if_neg n40])
theorem l22_have {T : Nat → Int32} {n sB a d fuel k : Nat} {M : Mem} {W out : List Int32} (h : MX T n sB M a W d out) (ht : txt T n) : f_M_takesE_l22 (fuel + 1) (Int32.ofNat k) 0 M = if nx T n a = 38 then f_M_takesE_b122 (f_M_takesE_l22 fuel) (Int32.ofNat k) (nx T n a) M else if nx T n a = 124 then f_M_takesE_b122 (f_M_takesE_l22 fuel) (Int32.ofNat k) (nx T n a) M else bd (f_M_settle 124 M) fun M5 => gd (inR (Int32.ofNat k) 60) (lt (setI M5 14419851 (Int32.ofNat k).toNatClampNeg (mI M5 12451850 25)) fun M6 => if (mI M6 12451850 26) = 0 then some (1, M6) else if nx T n a = 41 then lt (setI M6 12451850 26 ((mI M6 12451850 26) - 1)) fun M7 => lt (setI M7 12451850 27 ((mI M7 12451850 27) - 1)) fun M8 => lt (setI M8 12451850 15 ((mI M8 12451850 15) + 1)) fun M9 => bd (f_M_whole M9) fun M10 => f_M_takesE_l22 fuel (Int32.ofNat k) 0 M10 else some (0, M6)) := by
  simp only [f_M_takesE_l22, next_m h ht, bdg, if_true]
theorem MX.to {T : Nat → Int32} {n sB a d : Nat} {M : Mem} {W out : List Int32} (h : MX T n sB M a W d out) {x : Nat} (hx : x = 14419851 ∨ x = 14288779 ∨ x = 14157707 ∨ x = 14026635 ∨ x = 13893835) (k : Nat) (v : Int32) : MX T n sB (setI M x k v) a W d out := by
  obtain ⟨x1, x2, x3, x4, x5, x6, x7, x8, x9⟩ := h
  exact ⟨(mS (by omega)).trans x1, fun i hi' => (mS (by omega)).trans (x2 i hi'), (mS (by omega)).trans x3, x4, (mS (by omega)).trans x5, fun i hi' => (mS (by omega)).trans (x6 i hi'), (mS (by omega)).trans x7, fun i hi' => (mS (by omega)).trans (x8 i hi'), (mS (by omega)).trans x9⟩
theorem len_eq {out' pend out cs : List Int32} (h : out' ++ pend.map (fun x => -x) = out ++ cs.map trS) : out'.length + pend.length = out.length + cs.length := by
  have := congrArg List.length h
  simpa using this
theorem fac_step {T : Nat → Int32} {n f sB k fc d : Nat} (ht : txt T n) (hf : 100 * f ≤ sB) (hf5 : f ≤ 5) (hk : k < 60) (hfk : 10 * f ≤ k) (hd : d < 4) (iF : FacT T n f sB k (fc + 1) (d + 1)) (iA : AnyT T n f sB k fc (d + 1)) : FacT T n f sB k (fc + 1) d := by
  intro C M a code W out fuel hC hM hI hL hfu
  have hn := ht.1
  have han := hC.2.2.2.1
  match fuel, hfu with
  | fuel + 1, hfu =>
    have c4 : ¬ (4 : Int32) ≤ Int32.ofNat d := fun z => by have := (four (by omega)).mp z; omega
    obtain ⟨C1, x1, x2, x3⟩ := takes_c hC ht (c := 33) (by decide)
    have hW : W.length ≤ a := by omega
    by_cases q33 : nx T n a = 33
    · have ha := nx_lt q33 (by decide)
      rw [if_pos q33] at x1 x2
      obtain ⟨M1, p1, p2, p3⟩ := push_m (fuel := fuel) (k := k) (c := nx T n a) hM ht hW hd ha
      have hm : f_M_takesE_l22 (fuel + 1) (Int32.ofNat k) 1 M = f_M_takesE_l22 fuel (Int32.ofNat k) 1 M1 := by
        rw [l22_want hM ht, if_pos q33]; exact p1
      rw [q33] at p2
      rcases iF C1 M1 (a + 1) code (33 :: W) out fuel x2 p2 (by rw [List.length_cons]; omega) (by simp [lead]; omega) (by omega) with ⟨a', cs, C', M2, fuel', r1, r2, r3, r4, r5, r6, r7, r8, r9, r10⟩ | ⟨a', code', C', M2, r1, r2, r3, r4, r5, r6, r7, r8⟩
      · have ha' := r2.2.2.2.1
        have cl := r2.2.2.2.2.2.2
        rw [List.length_append] at cl
        obtain ⟨C3, y1, y2, y3⟩ := add_c r2 ht (by rw [List.length_append]; have := hC.2.2.2.2.2.2; omega) (-1)
        obtain ⟨M3, w1, w2, w3⟩ := whole_yes (f := f) (kk := k) r7 (by omega) (by rw [List.length_append, List.length_map]; omega) hf (by omega)
        have ir := whole_ir hf W a' d M3 _ 199 200 w2 (by omega) (by simp; omega) (by omega) hL (by omega) (by omega)
        refine Or.inl ⟨a', cs ++ [-1], C3, M3, fuel', ?_, ?_, by omega, by simp; omega, ?_, (x3.trans r6).trans y3, ?_, r8, (p3.trans r9).trans w3, ?_⟩
        · rw [rt2] at r1
          rw [rt2, fac_eq _ hd]
          simp only [x1, bdg, ap2g, if_neg i10, r1, notG, y1]
          exact gd_pos (Or.inr trivial)
        · rw [← List.append_assoc]; exact y2
        · exact dpt_mono (dpt_not r5) (by omega)
        · rw [List.map_append, ← List.append_assoc]; exact w2
        · rw [hm, r10]
          have e : f_M_whole M2 = f_M_whole M3 := (w1 199).trans ir
          rw [e]
      · have cl := hC.2.2.2.2.2.2
        obtain ⟨C3, y1, y2, y3⟩ := add_c r2 ht (by omega) (-1)
        refine Or.inr ⟨a', code' ++ [-1], C3, M2, ?_, y2, by rw [List.length_append]; simp; omega, by omega, (x3.trans r5).trans y3, p3.trans r6, r7, ?_⟩
        · rw [rt2] at r1
          rw [rt2, fac_eq _ hd]
          simp only [x1, bdg, ap2g, if_neg i10, r1, notG, y1]
          exact gd_pos (Or.inl trivial)
        · rw [hm]; exact r8
    · rw [if_neg q33] at x1 x2
      obtain ⟨C2, z1, z2, z3⟩ := takes_c x2 ht (c := 40) (by decide)
      by_cases q40 : nx T n a = 40
      · have ha := nx_lt q40 (by decide)
        rw [if_pos q40] at z1 z2
        obtain ⟨M1, p1, p2, p3⟩ := push_m (fuel := fuel) (k := k) (c := nx T n a) hM ht hW hd ha
        have hm : f_M_takesE_l22 (fuel + 1) (Int32.ofNat k) 1 M = f_M_takesE_l22 fuel (Int32.ofNat k) 1 M1 := by
          rw [l22_want hM ht, if_neg q33, if_pos q40]; exact p1
        rw [q40] at p2
        rcases iA C2 M1 (a + 1) code (40 :: W) out fuel z2 p2 (by rw [List.length_cons]; omega) ⟨by simp, by simp, by simp⟩ (by omega) with ⟨a', cs, C', M2, fuel', pend, out', r1, r2, r3, r4, r5, r6, r7, r8, ⟨r9, r10, r11⟩, r12, r13, r14⟩ | ⟨a', code', C', M2, r1, r2, r3, r4, r5, r6, r7, r8⟩
        · have ha' := r2.2.2.2.1
          have le := len_eq r8
          obtain ⟨C3, y1, y2, y3⟩ := takes_c r2 ht (c := 41) (by decide)
          obtain ⟨M3, s1, s2, s3⟩ := settle_p (f := f) (kk := k) (s := 124) (Or.inr (Or.inr ⟨by decide, r9⟩)) r7 (by simp) (by simp) (by rw [List.length_cons]; omega) (by omega) hf
          rw [r8] at s2
          have hrk : inR (Int32.ofNat k) 60 := oN_in (by omega) hk
          have hxk : (Int32.ofNat k).toNatClampNeg = k := oN_ix (by omega)
          have s4 := s2.to (x := 14419851) (Or.inl rfl) k (mI M3 12451850 25)
          have f4 : Fz (mtP (sB, k)) M3 (setI M3 14419851 k (mI M3 12451850 25)) := Fz.rf.set (Or.inr (Or.inr (Or.inr ⟨rfl, rfl⟩))) _
          generalize hM4 : setI M3 14419851 k (mI M3 12451850 25) = M4 at s4 f4
          have w26 := s4.wl
          have n0 : ¬ mI M4 12451850 26 = 0 := by
            rw [w26, List.length_cons]
            intro e
            have := oN_ix (i := W.length + 1) (by omega)
            rw [e] at this
            have t : (0 : Int32).toNatClampNeg = 0 := by decide
            omega
          match fuel', r12 with
          | fuel' + 1, r12 =>
            have hm2 : f_M_takesE_l22 (fuel' + 1) (Int32.ofNat k) 0 M2 = if nx T n a' = 41 then lt (setI M4 12451850 26 ((mI M4 12451850 26) - 1)) fun M7 => lt (setI M7 12451850 27 ((mI M7 12451850 27) - 1)) fun M8 => lt (setI M8 12451850 15 ((mI M8 12451850 15) + 1)) fun M9 => bd (f_M_whole M9) fun M10 => f_M_takesE_l22 fuel' (Int32.ofNat k) 0 M10 else some (0, M4) := by
              rw [l22_have r7 ht, if_neg r10, if_neg r11, s1, bdg, gd_pos hrk, hxk, hM4, lte, if_neg n0]
            by_cases q41 : nx T n a' = 41
            · have han' := nx_lt q41 (by decide)
              rw [if_pos q41] at y1 y2 hm2
              have g1 := s4.pop
              have g2 := g1.op d
              have g3 := g2.at (a' := a' + 1) (by omega)
              have e1 : Int32.ofNat (40 :: W).length - 1 = Int32.ofNat W.length := by rw [List.length_cons, oN_p (by omega)]; rfl
              have e2 : mI (setI M4 12451850 26 (Int32.ofNat W.length)) 12451850 27 = Int32.ofNat (d + 1) := g1.2.2.2.2.2.2.2.2
              have e3 : Int32.ofNat (d + 1) - 1 = Int32.ofNat d := by rw [oN_p (by omega)]; rfl
              have e4 : mI (setI (setI M4 12451850 26 (Int32.ofNat W.length)) 12451850 27 (Int32.ofNat d)) 12451850 15 = Int32.ofNat a' := g2.2.2.1
              have f5 : Fz (mtP (sB, k)) M4 (setI (setI (setI M4 12451850 26 (Int32.ofNat W.length)) 12451850 27 (Int32.ofNat d)) 12451850 15 (Int32.ofNat (a' + 1))) := ((Fz.rf.set (Or.inl ⟨rfl, Or.inr (Or.inr (Or.inr (Or.inl rfl)))⟩) _).set (Or.inl ⟨rfl, Or.inr (Or.inr (Or.inr (Or.inr rfl)))⟩) _).set (Or.inl ⟨rfl, Or.inl rfl⟩) _
              refine Or.inl ⟨a' + 1, cs, C3, _, fuel', ?_, y2, by omega, by omega, dpt_mono r5 (by omega), ((x3.trans z3).trans r6).trans y3, g3, by omega, (((p3.trans r13).trans s3).trans f4).trans f5, ?_⟩
              · rw [rt2, fac_eq _ hd]
                simp only [fac29, if_neg c4, x1, bdg, ap2g, if_true, z1, if_neg i10, oN_s, r1, y1]
              · rw [hm, r14, hm2, w26, e1, lte, e2, e3, lte, e4, oN_s, lte]
            · rw [if_neg q41] at y1 y2 hm2
              refine Or.inr ⟨a', code ++ cs, C3, M4, ?_, y2, by rw [List.length_append]; omega, by omega, ((x3.trans z3).trans r6).trans y3, ((p3.trans r13).trans s3).trans f4, s4.2.2.1, ?_⟩
              · rw [rt2, fac_eq _ hd]
                simp only [fac29, if_neg c4, x1, bdg, ap2g, if_true, z1, if_neg i10, oN_s, r1, y1]
              · rw [hm, r14, hm2]
        · refine Or.inr ⟨a', code', C', M2, ?_, r2, by omega, by omega, (x3.trans z3).trans r5, p3.trans r6, r7, ?_⟩
          · rw [rt2, fac_eq _ hd]
            simp only [fac29, if_neg c4, x1, bdg, ap2g, if_true, z1, if_neg i10, oN_s, r1]
          · rw [hm]; exact r8
      · rw [if_neg q40] at z1 z2
        refine fac_test ht hf hf5 (x3.trans z3) z2 hM hI hfu ?_ (by rw [l22_want hM ht, if_neg q33, if_neg q40])
        rw [rt2, fac_eq _ hd]
        simp only [fac29, if_neg c4, x1, bdg, ap2g, if_true, z1]
