/-! functions read off the bytecode, and that the code runs so (written by program) -/
def f_D_changed_l37 (K19 : Int32 → Int32 → Int32 → Int32 → Mem → Option (Int32 × Mem)) : Nat → Int32 → Int32 → Int32 → Int32 → Int32 → Mem → Option (Int32 × Mem)
  | 0, _, _, _, _, _, _ => none
  | n + 1, v1, v2, v3, v4, v5, M => if (mI M 131077 2) ≤ v5 then lt (v4 + 1) fun x2 => K19 v1 v2 v3 x2 M else gd (inR v4 4) (gd (inR v5 4) (b2 (f_D_rubsLessChanged (786436 + 655360 * v4.toNatClampNeg) (786436 + 655360 * v5.toNatClampNeg) M) fun r4 M3 => if r4 = 0 then lt (v5 + 1) fun x5 => f_D_changed_l37 K19 n v1 v2 v3 v4 x5 M3 else if v2 = 0 then lt ((10 * v4) + v5) fun x8 => lt (v2 + 1) fun x9 => lt (v5 + 1) fun x10 => f_D_changed_l37 K19 n v1 x9 x8 v4 x10 M3 else lt (v2 + 1) fun x6 => lt (v5 + 1) fun x7 => f_D_changed_l37 K19 n v1 x6 v3 v4 x7 M3))
def f_D_changed_l19 : Nat → Int32 → Int32 → Int32 → Int32 → Mem → Option (Int32 × Mem)
  | 0, _, _, _, _, _ => none
  | n + 1, v1, v2, v3, v4, M => if (mI M 131077 2) ≤ v4 then if v1 = 0 then some (v2, M) else some (v3, M) else lt (v4 + 1) fun x1 => f_D_changed_l37 (f_D_changed_l19 n) 200 v1 v2 v3 v4 x1 M
def f_D_changed (p1 : Int32) (M : Mem) : Option (Int32 × Mem) := if (f_D_within p1 0 1 M) = 0 then some ((-1), M) else f_D_changed_l19 200 p1 0 (-5) 0 M
theorem o_D_changed_l37 (K19 : Int32 → Int32 → Int32 → Int32 → Mem → Option (Int32 × Mem)) (hK19 : ∀ (y1 : Int32) (y2 : Int32) (y3 : Int32) (y4 : Int32) (M : Mem), Go sRC g_D_changed fWi (K19 y1 y2 y3 y4 M) 19 [.ref 9, .int y1, .int y2, .int y3, .int y4, .null] [] M) : ∀ (n : Nat) (v1 : Int32) (v2 : Int32) (v3 : Int32) (v4 : Int32) (v5 : Int32) (M : Mem), Go sRC g_D_changed fWi (f_D_changed_l37 K19 n v1 v2 v3 v4 v5 M) 37 [.ref 9, .int v1, .int v2, .int v3, .int v4, .int v5] [] M := by
  intro n
  induction n with
  | zero =>
    intro v1 v2 v3 v4 v5 M
    exact go_def (f_D_changed_l37.eq_1 ..) go_none
  | succ n ih =>
    intro v1 v2 v3 v4 v5 M
    refine go_def (f_D_changed_l37.eq_2 ..) ?_
    refine go_iload (pc := 37) dX8_changed_37 rfl ?_
    refine go_aload_n (pc := 39) dX8_changed_39 rfl ?_
    refine go_getS (pc := 40) 131077 flX8_12 rfl rfl sC_9_0 (by decide) dX8_changed_40 ?_
    refine go_getI (pc := 43) flX8_79 rfl rfl dX8_changed_43 ?_
    refine go_icmpge (pc := 46) 102 dX8_changed_46 (by decide) (fun _ => ?_) (fun _ => ?_)
    · refine go_iincL (pc := 102) (L := fun x2 => [.ref 9, .int v1, .int v2, .int v3, .int x2, .int v5]) 1 dX8_changed_102 rfl ki_1 (Nat.le_of_ble_eq_true rfl) rfl (fun _ => rfl) (fun x2 => ?_)
      refine go_goto (pc := 105) 19 dX8_changed_105 (by decide) ?_
      refine go_sub (ls' := [.ref 9, .int v1, .int v2, .int v3, .int x2, .null]) ⟨Or.inr rfl, Or.inr rfl, Or.inr rfl, Or.inr rfl, Or.inr rfl, Or.inl rfl, trivial⟩ ?_
      exact hK19 v1 v2 v3 x2 M
    · refine go_aload_n (pc := 49) dX8_changed_49 rfl ?_
      refine go_aload_n (pc := 50) dX8_changed_50 rfl ?_
      refine go_getS (pc := 51) 131077 flX8_12 rfl rfl sC_9_0 (by decide) dX8_changed_51 ?_
      refine go_getS (pc := 54) 393358 flX8_82 rfl rfl (sC_5_1 rfl) (by decide) dX8_changed_54 ?_
      refine go_iload (pc := 57) dX8_changed_57 rfl ?_
      refine go_aaldS (pc := 59) (fun j => 786436 + 655360 * j) (by decide) (by decide) rfl (sCa_14 rfl) dX8_changed_59 (fun _ => ?_)
      refine go_aload_n (pc := 60) dX8_changed_60 rfl ?_
      refine go_getS (pc := 61) 131077 flX8_12 rfl rfl sC_9_0 (by decide) dX8_changed_61 ?_
      refine go_getS (pc := 64) 393358 flX8_82 rfl rfl (sC_5_1 rfl) (by decide) dX8_changed_64 ?_
      refine go_iload (pc := 67) dX8_changed_67 rfl ?_
      refine go_aaldS (pc := 69) (fun j => 786436 + 655360 * j) (by decide) (by decide) rfl (sCa_14 rfl) dX8_changed_69 (fun _ => ?_)
      refine go_callV (pc := 70) (a := 9) (as := [.ref (786436 + 655360 * v4.toNatClampNeg), .ref (786436 + 655360 * v5.toNatClampNeg)]) (st := []) (o_D_rubsLessChanged (786436 + 655360 * v4.toNatClampNeg) (786436 + 655360 * v5.toNatClampNeg) (k5 (k := 4) rfl _) (k5 (k := 4) rfl _) M) ic_D_rubsLessChanged ivX8_256 (rcvk (a := 9) (t := 9) rfl (by decide) (by decide) rfl) rfl (by decide) (Nat.le_of_ble_eq_true rfl) dX8_changed_70 (kWi fun r4 M3 => ?_)
      refine go_ifeq (pc := 73) 96 dX8_changed_73 (by decide) (fun _ => ?_) (fun _ => ?_)
      · refine go_iincL (pc := 96) (L := fun x5 => [.ref 9, .int v1, .int v2, .int v3, .int v4, .int x5]) 1 dX8_changed_96 rfl ki_1 (Nat.le_of_ble_eq_true rfl) rfl (fun _ => rfl) (fun x5 => ?_)
        refine go_goto (pc := 99) 37 dX8_changed_99 (by decide) ?_
        exact ih v1 v2 v3 v4 x5 M3
      · refine go_iload_n (pc := 76) dX8_changed_76 rfl ?_
        refine go_ifne (pc := 77) 91 dX8_changed_77 (by decide) (fun _ => ?_) (fun _ => ?_)
        · refine go_bipush (pc := 80) 10 dX8_changed_80 kb_10 ?_
          refine go_iload (pc := 82) dX8_changed_82 rfl ?_
          refine go_imul (pc := 84) dX8_changed_84 ?_
          refine go_iload (pc := 85) dX8_changed_85 rfl ?_
          refine go_iadd (pc := 87) dX8_changed_87 ?_
          refine go_goto (pc := 88) 92 dX8_changed_88 (by decide) ?_
          refine go_istore_nL (pc := 92) (L := fun x8 => [.ref 9, .int v1, .int v2, .int x8, .int v4, .int v5]) dX8_changed_92 (Nat.le_of_ble_eq_true rfl) rfl (fun _ => rfl) (fun x8 => ?_)
          refine go_iincL (pc := 93) (L := fun x9 => [.ref 9, .int v1, .int x9, .int x8, .int v4, .int v5]) 1 dX8_changed_93 rfl ki_1 (Nat.le_of_ble_eq_true rfl) rfl (fun _ => rfl) (fun x9 => ?_)
          refine go_iincL (pc := 96) (L := fun x10 => [.ref 9, .int v1, .int x9, .int x8, .int v4, .int x10]) 1 dX8_changed_96 rfl ki_1 (Nat.le_of_ble_eq_true rfl) rfl (fun _ => rfl) (fun x10 => ?_)
          refine go_goto (pc := 99) 37 dX8_changed_99 (by decide) ?_
          exact ih v1 x9 x8 v4 x10 M3
        · refine go_iload_n (pc := 91) dX8_changed_91 rfl ?_
          refine go_istore_n (pc := 92) (ls' := [.ref 9, .int v1, .int v2, .int v3, .int v4, .int v5]) dX8_changed_92 (Nat.le_of_ble_eq_true rfl) rfl rfl ?_
          refine go_iincL (pc := 93) (L := fun x6 => [.ref 9, .int v1, .int x6, .int v3, .int v4, .int v5]) 1 dX8_changed_93 rfl ki_1 (Nat.le_of_ble_eq_true rfl) rfl (fun _ => rfl) (fun x6 => ?_)
          refine go_iincL (pc := 96) (L := fun x7 => [.ref 9, .int v1, .int x6, .int v3, .int v4, .int x7]) 1 dX8_changed_96 rfl ki_1 (Nat.le_of_ble_eq_true rfl) rfl (fun _ => rfl) (fun x7 => ?_)
          refine go_goto (pc := 99) 37 dX8_changed_99 (by decide) ?_
          exact ih v1 x6 v3 v4 x7 M3
theorem o_D_changed_l19 : ∀ (n : Nat) (v1 : Int32) (v2 : Int32) (v3 : Int32) (v4 : Int32) (M : Mem), Go sRC g_D_changed fWi (f_D_changed_l19 n v1 v2 v3 v4 M) 19 [.ref 9, .int v1, .int v2, .int v3, .int v4, .null] [] M := by
  intro n
  induction n with
  | zero =>
    intro v1 v2 v3 v4 M
    exact go_def (f_D_changed_l19.eq_1 ..) go_none
  | succ n ih =>
    intro v1 v2 v3 v4 M
    refine go_def (f_D_changed_l19.eq_2 ..) ?_
    refine go_iload (pc := 19) dX8_changed_19 rfl ?_
    refine go_aload_n (pc := 21) dX8_changed_21 rfl ?_
    refine go_getS (pc := 22) 131077 flX8_12 rfl rfl sC_9_0 (by decide) dX8_changed_22 ?_
    refine go_getI (pc := 25) flX8_79 rfl rfl dX8_changed_25 ?_
    refine go_icmpge (pc := 28) 108 dX8_changed_28 (by decide) (fun _ => ?_) (fun _ => ?_)
    · refine go_iload_n (pc := 108) dX8_changed_108 rfl ?_
      refine go_ifne (pc := 109) 116 dX8_changed_109 (by decide) (fun _ => ?_) (fun _ => ?_)
      · refine go_iload_n (pc := 112) dX8_changed_112 rfl ?_
        refine go_goto (pc := 113) 117 dX8_changed_113 (by decide) ?_
        exact go_ret dX8_changed_117 rii rfl rfl
      · refine go_iload_n (pc := 116) dX8_changed_116 rfl ?_
        exact go_ret dX8_changed_117 rii rfl rfl
    · refine go_iload (pc := 31) dX8_changed_31 rfl ?_
      refine go_iconst (pc := 33) 1 dX8_changed_33 ki_1 ?_
      refine go_iadd (pc := 34) dX8_changed_34 ?_
      refine go_istoreL (pc := 35) (L := fun x1 => [.ref 9, .int v1, .int v2, .int v3, .int v4, .int x1]) dX8_changed_35 (Nat.le_of_ble_eq_true rfl) rfl (fun _ => rfl) (fun x1 => ?_)
      exact o_D_changed_l37 (f_D_changed_l19 n) ih 200 v1 v2 v3 v4 x1 M
theorem o_D_changed (p1 : Int32) (M : Mem) : Ct sRC g_D_changed fWi [.ref 9, .int p1] (f_D_changed p1 M) M := by
  refine ⟨Nat.le_of_ble_eq_true rfl, ?_⟩
  show Go sRC g_D_changed fWi (f_D_changed p1 M) 0 [.ref 9, .int p1, .null, .null, .null, .null] [] M
  refine go_def (f_D_changed.eq_1 ..) ?_
  refine go_iload_n (pc := 0) dX8_changed_0 rfl ?_
  refine go_iconst (pc := 1) 0 dX8_changed_1 ki_0 ?_
  refine go_iconst (pc := 2) 1 dX8_changed_2 ki_1 ?_
  refine go_T (v := f_D_within p1 0 1 M) ?_
  refine go_callS (pc := 3) (as := [.int p1, .int 0, .int 1]) (st := []) (o_D_within p1 0 1 M) ic_D_within ivX8_67 rfl (by decide) (Nat.le_of_ble_eq_true rfl) dX8_changed_3 (kTi ?_)
  refine go_ifne (pc := 6) 11 dX8_changed_6 (by decide) (fun _ => ?_) (fun _ => ?_)
  · refine go_iconst (pc := 9) (-1) dX8_changed_9 ki_m1 ?_
    exact go_ret dX8_changed_10 rii rfl rfl
  · refine go_iconst (pc := 11) 0 dX8_changed_11 ki_0 ?_
    refine go_istore_n (pc := 12) (ls' := [.ref 9, .int p1, .int 0, .null, .null, .null]) dX8_changed_12 (Nat.le_of_ble_eq_true rfl) rfl rfl ?_
    refine go_bipush (pc := 13) (-5) dX8_changed_13 kb_m5 ?_
    refine go_istore_n (pc := 15) (ls' := [.ref 9, .int p1, .int 0, .int (-5), .null, .null]) dX8_changed_15 (Nat.le_of_ble_eq_true rfl) rfl rfl ?_
    refine go_iconst (pc := 16) 0 dX8_changed_16 ki_0 ?_
    refine go_istore (pc := 17) (ls' := [.ref 9, .int p1, .int 0, .int (-5), .int 0, .null]) dX8_changed_17 (Nat.le_of_ble_eq_true rfl) rfl rfl ?_
    exact o_D_changed_l19 200 p1 0 (-5) 0 M
def f_D_book (p1 : Int32) (p2 : Int32) (M : Mem) : Option (Int32 × Mem) := if p1 = (-1) then lt (setI M 131077 8 0) fun M4 => some (0, M4) else if (f_D_isSpot p1 M) = 0 then some ((-1), M) else if (f_D_within p2 (-99) 99 M) = 0 then some ((-2), M) else if (mI M 131077 8) < 12 then gd (inR (mI M 131077 8) 12) (lt (setI M 524683 (mI M 131077 8).toNatClampNeg p1) fun M1 => gd (inR (mI M1 131077 8) 12) (lt (setI M1 655755 (mI M1 131077 8).toNatClampNeg p2) fun M2 => lt (setI M2 131077 8 ((mI M2 131077 8) + 1)) fun M3 => some (mI M3 131077 8, M3))) else some ((-4), M)
theorem o_D_book (p1 : Int32) (p2 : Int32) (M : Mem) : Ct sRC g_D_book fWi [.ref 9, .int p1, .int p2] (f_D_book p1 p2 M) M := by
  refine ⟨Nat.le_of_ble_eq_true rfl, ?_⟩
  show Go sRC g_D_book fWi (f_D_book p1 p2 M) 0 [.ref 9, .int p1, .int p2] [] M
  refine go_def (f_D_book.eq_1 ..) ?_
  refine go_iload_n (pc := 0) dX8_book_0 rfl ?_
  refine go_iconst (pc := 1) (-1) dX8_book_1 ki_m1 ?_
  refine go_icmpne (pc := 2) 15 dX8_book_2 (by decide) (fun _ => ?_) (fun _ => ?_)
  · refine go_aload_n (pc := 5) dX8_book_5 rfl ?_
    refine go_getS (pc := 6) 131077 flX8_12 rfl rfl sC_9_0 (by decide) dX8_book_6 ?_
    refine go_iconst (pc := 9) 0 dX8_book_9 ki_0 ?_
    refine go_putI (pc := 10) flX8_260 rfl (Or.inl rfl) ⟨rfl, rfl⟩ rfl dX8_book_10 (fun M4 => ?_)
    refine go_iconst (pc := 13) 0 dX8_book_13 ki_0 ?_
    exact go_ret dX8_book_14 rii rfl rfl
  · refine go_iload_n (pc := 15) dX8_book_15 rfl ?_
    refine go_T (v := f_D_isSpot p1 M) ?_
    refine go_callS (pc := 16) (as := [.int p1]) (st := []) (o_D_isSpot p1 M) ic_D_isSpot ivX8_219 rfl (by decide) (Nat.le_of_ble_eq_true rfl) dX8_book_16 (kTi ?_)
    refine go_ifne (pc := 19) 24 dX8_book_19 (by decide) (fun _ => ?_) (fun _ => ?_)
    · refine go_iconst (pc := 22) (-1) dX8_book_22 ki_m1 ?_
      exact go_ret dX8_book_23 rii rfl rfl
    · refine go_iload_n (pc := 24) dX8_book_24 rfl ?_
      refine go_bipush (pc := 25) (-99) dX8_book_25 kb_m99 ?_
      refine go_bipush (pc := 27) 99 dX8_book_27 kb_99 ?_
      refine go_T (v := f_D_within p2 (-99) 99 M) ?_
      refine go_callS (pc := 29) (as := [.int p2, .int (-99), .int 99]) (st := []) (o_D_within p2 (-99) 99 M) ic_D_within ivX8_67 rfl (by decide) (Nat.le_of_ble_eq_true rfl) dX8_book_29 (kTi ?_)
      refine go_ifne (pc := 32) 38 dX8_book_32 (by decide) (fun _ => ?_) (fun _ => ?_)
      · refine go_bipush (pc := 35) (-2) dX8_book_35 kb_m2 ?_
        exact go_ret dX8_book_37 rii rfl rfl
      · refine go_aload_n (pc := 38) dX8_book_38 rfl ?_
        refine go_getS (pc := 39) 131077 flX8_12 rfl rfl sC_9_0 (by decide) dX8_book_39 ?_
        refine go_getI (pc := 42) flX8_260 rfl rfl dX8_book_42 ?_
        refine go_bipush (pc := 45) 12 dX8_book_45 kb_12 ?_
        refine go_icmplt (pc := 47) 53 dX8_book_47 (by decide) (fun _ => ?_) (fun _ => ?_)
        · refine go_aload_n (pc := 53) dX8_book_53 rfl ?_
          refine go_getS (pc := 54) 131077 flX8_12 rfl rfl sC_9_0 (by decide) dX8_book_54 ?_
          refine go_getS (pc := 57) 524683 flX8_263 rfl rfl (sC_5_6 rfl) (by decide) dX8_book_57 ?_
          refine go_aload_n (pc := 60) dX8_book_60 rfl ?_
          refine go_getS (pc := 61) 131077 flX8_12 rfl rfl sC_9_0 (by decide) dX8_book_61 ?_
          refine go_getI (pc := 64) flX8_260 rfl rfl dX8_book_64 ?_
          refine go_iload_n (pc := 67) dX8_book_67 rfl ?_
          refine go_iast (pc := 68) rfl rfl dX8_book_68 (fun _ M1 => ?_)
          refine go_aload_n (pc := 69) dX8_book_69 rfl ?_
          refine go_getS (pc := 70) 131077 flX8_12 rfl rfl sC_9_0 (by decide) dX8_book_70 ?_
          refine go_getS (pc := 73) 655755 flX8_266 rfl rfl (sC_5_7 rfl) (by decide) dX8_book_73 ?_
          refine go_aload_n (pc := 76) dX8_book_76 rfl ?_
          refine go_getS (pc := 77) 131077 flX8_12 rfl rfl sC_9_0 (by decide) dX8_book_77 ?_
          refine go_getI (pc := 80) flX8_260 rfl rfl dX8_book_80 ?_
          refine go_iload_n (pc := 83) dX8_book_83 rfl ?_
          refine go_iast (pc := 84) rfl rfl dX8_book_84 (fun _ M2 => ?_)
          refine go_aload_n (pc := 85) dX8_book_85 rfl ?_
          refine go_getS (pc := 86) 131077 flX8_12 rfl rfl sC_9_0 (by decide) dX8_book_86 ?_
          refine go_dup (pc := 89) dX8_book_89 rfl ?_
          refine go_getI (pc := 90) flX8_260 rfl rfl dX8_book_90 ?_
          refine go_iconst (pc := 93) 1 dX8_book_93 ki_1 ?_
          refine go_iadd (pc := 94) dX8_book_94 ?_
          refine go_putI (pc := 95) flX8_260 rfl (Or.inl rfl) ⟨rfl, rfl⟩ rfl dX8_book_95 (fun M3 => ?_)
          refine go_aload_n (pc := 98) dX8_book_98 rfl ?_
          refine go_getS (pc := 99) 131077 flX8_12 rfl rfl sC_9_0 (by decide) dX8_book_99 ?_
          refine go_getI (pc := 102) flX8_260 rfl rfl dX8_book_102 ?_
          exact go_ret dX8_book_105 rii rfl rfl
        · refine go_bipush (pc := 50) (-4) dX8_book_50 kb_m4 ?_
          exact go_ret dX8_book_52 rii rfl rfl
def f_D_looked_l34 : Nat → Int32 → Int32 → Mem → Option (Int32 × Mem)
  | 0, _, _, _ => none
  | n + 1, v2, v4, M => if (mI M 131077 8) ≤ v4 then some ((-5), M) else gd (inR v4 12) (bd (f_Co_gap 7602179 (mI M 524683 v4.toNatClampNeg) M) fun r5 => gd (inR v4 12) (if (abI (r5 - (mI M 655755 v4.toNatClampNeg))) ≤ v2 then bd (f_Co_goOn 7602179 1 M) fun M6 => lt (v4 + 1) fun x7 => f_D_looked_l34 n v2 x7 M6 else some (v4, M)))
def f_D_looked (p1 : Int32) (p2 : Int32) (M : Mem) : Option (Int32 × Mem) := bd (f_D_doorAt p1 M) fun r1 => if r1 = 0 then some ((-1), M) else if (f_D_within p2 0 9 M) = 0 then some ((-2), M) else gd (r1 % 131072 = 4) (b2 (f_D_courseNow r1 M) fun r4 M3 => f_D_looked_l34 200 p2 0 M3)
theorem o_D_looked_l34 : ∀ (n : Nat) (v2 : Int32) (v4 : Int32) (M : Mem), Go sRC g_D_looked fWi (f_D_looked_l34 n v2 v4 M) 34 [.ref 9, .null, .int v2, .null, .int v4] [] M := by
  intro n
  induction n with
  | zero =>
    intro v2 v4 M
    exact go_def (f_D_looked_l34.eq_1 ..) go_none
  | succ n ih =>
    intro v2 v4 M
    refine go_def (f_D_looked_l34.eq_2 ..) ?_
    refine go_iload (pc := 34) dX8_looked_34 rfl ?_
    refine go_aload_n (pc := 36) dX8_looked_36 rfl ?_
    refine go_getS (pc := 37) 131077 flX8_12 rfl rfl sC_9_0 (by decide) dX8_looked_37 ?_
    refine go_getI (pc := 40) flX8_260 rfl rfl dX8_looked_40 ?_
    refine go_icmpge (pc := 43) 98 dX8_looked_43 (by decide) (fun _ => ?_) (fun _ => ?_)
    · refine go_bipush (pc := 98) (-5) dX8_looked_98 kb_m5 ?_
      exact go_ret dX8_looked_100 rii rfl rfl
    · refine go_aload_n (pc := 46) dX8_looked_46 rfl ?_
      refine go_getS (pc := 47) 7602179 flX8_46 rfl rfl sC_9_7 (by decide) dX8_looked_47 ?_
      refine go_aload_n (pc := 50) dX8_looked_50 rfl ?_
      refine go_getS (pc := 51) 131077 flX8_12 rfl rfl sC_9_0 (by decide) dX8_looked_51 ?_
      refine go_getS (pc := 54) 524683 flX8_263 rfl rfl (sC_5_6 rfl) (by decide) dX8_looked_54 ?_
      refine go_iload (pc := 57) dX8_looked_57 rfl ?_
      refine go_iald (pc := 59) rfl rfl dX8_looked_59 (fun _ => ?_)
      refine go_callV (pc := 60) (a := 7602179) (as := [.int (mI M 524683 v4.toNatClampNeg)]) (st := []) (o_Co_gap 7602179 (mI M 524683 v4.toNatClampNeg) rfl M) ic_Co_gap ivX8_103 (rcvk rfl (by decide) (by decide) rfl) rfl (by decide) (Nat.le_of_ble_eq_true rfl) dX8_looked_60 (kRi fun r5 => ?_)
      refine go_aload_n (pc := 63) dX8_looked_63 rfl ?_
      refine go_getS (pc := 64) 131077 flX8_12 rfl rfl sC_9_0 (by decide) dX8_looked_64 ?_
      refine go_getS (pc := 67) 655755 flX8_266 rfl rfl (sC_5_7 rfl) (by decide) dX8_looked_67 ?_
      refine go_iload (pc := 70) dX8_looked_70 rfl ?_
      refine go_iald (pc := 72) rfl rfl dX8_looked_72 (fun _ => ?_)
      refine go_isub (pc := 73) dX8_looked_73 ?_
      refine go_abs (pc := 74) (gT_of (mtb4 (mt16 (mt16 (mt16 (mt4 (mt4 (mt4 (mt1 (mt1 (List.Mem.head _)))))))))) rfl) mw_abs1 mw_i mw_abs2 (by decide) (Nat.le_of_ble_eq_true rfl) dX8_looked_74 ?_
      refine go_iload_n (pc := 77) dX8_looked_77 rfl ?_
      refine go_icmple (pc := 78) 84 dX8_looked_78 (by decide) (fun _ => ?_) (fun _ => ?_)
      · refine go_aload_n (pc := 84) dX8_looked_84 rfl ?_
        refine go_getS (pc := 85) 7602179 flX8_46 rfl rfl sC_9_7 (by decide) dX8_looked_85 ?_
        refine go_iconst (pc := 88) 1 dX8_looked_88 ki_1 ?_
        refine go_callV (pc := 89) (a := 7602179) (as := [.int 1]) (st := []) (o_Co_goOn 7602179 1 rfl M) ic_Co_goOn ivX8_209 (rcvk rfl (by decide) (by decide) rfl) rfl (by decide) (Nat.le_of_ble_eq_true rfl) dX8_looked_89 (kWv fun M6 => ?_)
        refine go_iincL (pc := 92) (L := fun x7 => [.ref 9, .null, .int v2, .null, .int x7]) 1 dX8_looked_92 rfl ki_1 (Nat.le_of_ble_eq_true rfl) rfl (fun _ => rfl) (fun x7 => ?_)
        refine go_goto (pc := 95) 34 dX8_looked_95 (by decide) ?_
        exact ih v2 x7 M6
      · refine go_iload (pc := 81) dX8_looked_81 rfl ?_
        exact go_ret dX8_looked_83 rii rfl rfl
theorem o_D_looked (p1 : Int32) (p2 : Int32) (M : Mem) : Ct sRC g_D_looked fWi [.ref 9, .int p1, .int p2] (f_D_looked p1 p2 M) M := by
  refine ⟨Nat.le_of_ble_eq_true rfl, ?_⟩
  show Go sRC g_D_looked fWi (f_D_looked p1 p2 M) 0 [.ref 9, .int p1, .int p2, .null, .null] [] M
  refine go_def (f_D_looked.eq_1 ..) ?_
  refine go_aload_n (pc := 0) dX8_looked_0 rfl ?_
  refine go_iload_n (pc := 1) dX8_looked_1 rfl ?_
  refine go_callV (pc := 2) (a := 9) (as := [.int p1]) (st := []) (o_D_doorAt p1 M) ic_D_doorAt ivX8_92 (rcvk (a := 9) (t := 9) rfl (by decide) (by decide) rfl) rfl (by decide) (Nat.le_of_ble_eq_true rfl) dX8_looked_2 (kRr fun r1 => ?_)
  refine go_astore_n (pc := 5) (ls' := [.ref 9, .int p1, .int p2, .ref r1, .null]) dX8_looked_5 (Nat.le_of_ble_eq_true rfl) rfl rfl ?_
  refine go_aload_n (pc := 6) dX8_looked_6 rfl ?_
  refine go_ifnonnull (pc := 7) 12 dX8_looked_7 (by decide) (fun _ => ?_) (fun _ => ?_)
  · refine go_iconst (pc := 10) (-1) dX8_looked_10 ki_m1 ?_
    exact go_ret dX8_looked_11 rii rfl rfl
  · refine go_iload_n (pc := 12) dX8_looked_12 rfl ?_
    refine go_iconst (pc := 13) 0 dX8_looked_13 ki_0 ?_
    refine go_bipush (pc := 14) 9 dX8_looked_14 kb_9 ?_
    refine go_T (v := f_D_within p2 0 9 M) ?_
    refine go_callS (pc := 16) (as := [.int p2, .int 0, .int 9]) (st := []) (o_D_within p2 0 9 M) ic_D_within ivX8_67 rfl (by decide) (Nat.le_of_ble_eq_true rfl) dX8_looked_16 (kTi ?_)
    refine go_ifne (pc := 19) 25 dX8_looked_19 (by decide) (fun _ => ?_) (fun _ => ?_)
    · refine go_bipush (pc := 22) (-2) dX8_looked_22 kb_m2 ?_
      exact go_ret dX8_looked_24 rii rfl rfl
    · refine go_aload_n (pc := 25) dX8_looked_25 rfl ?_
      refine go_aload_n (pc := 26) dX8_looked_26 rfl ?_
      refine go_gd fun g2 => ?_
      refine go_callV (pc := 27) (a := 9) (as := [.ref r1]) (st := []) (o_D_courseNow r1 g2 M) ic_D_courseNow ivX8_99 (rcvk (a := 9) (t := 9) rfl (by decide) (by decide) rfl) rfl (by decide) (Nat.le_of_ble_eq_true rfl) dX8_looked_27 (kWr fun r4 M3 => ?_)
      refine go_pop (pc := 30) dX8_looked_30 rfl ?_
      refine go_iconst (pc := 31) 0 dX8_looked_31 ki_0 ?_
      refine go_istore (pc := 32) (ls' := [.ref 9, .int p1, .int p2, .ref r1, .int 0]) dX8_looked_32 (Nat.le_of_ble_eq_true rfl) rfl rfl ?_
      refine go_sub (ls' := [.ref 9, .null, .int p2, .null, .int 0]) ⟨Or.inr rfl, Or.inl rfl, Or.inr rfl, Or.inl rfl, Or.inr rfl, trivial⟩ ?_
      exact o_D_looked_l34 200 p2 0 M3
def f_D_tapeAt (p1 : Int32) (M : Mem) : Option Nat := if (f_D_within p1 0 5 M) = 0 then some 0 else gd (inR p1 6) (some (10878984 + 262144 * p1.toNatClampNeg))
theorem o_D_tapeAt (p1 : Int32) (M : Mem) : Ct sRC g_D_tapeAt (fRr M) [.ref 9, .int p1] (f_D_tapeAt p1 M) M := by
  refine ⟨Nat.le_of_ble_eq_true rfl, ?_⟩
  show Go sRC g_D_tapeAt (fRr M) (f_D_tapeAt p1 M) 0 [.ref 9, .int p1] [] M
  refine go_def (f_D_tapeAt.eq_1 ..) ?_
  refine go_iload_n (pc := 0) dX8_tapeAt_0 rfl ?_
  refine go_iconst (pc := 1) 0 dX8_tapeAt_1 ki_0 ?_
  refine go_iconst (pc := 2) 5 dX8_tapeAt_2 ki_5 ?_
  refine go_T (v := f_D_within p1 0 5 M) ?_
  refine go_callS (pc := 3) (as := [.int p1, .int 0, .int 5]) (st := []) (o_D_within p1 0 5 M) ic_D_within ivX8_67 rfl (by decide) (Nat.le_of_ble_eq_true rfl) dX8_tapeAt_3 (kTi ?_)
  refine go_ifeq (pc := 6) 18 dX8_tapeAt_6 (by decide) (fun _ => ?_) (fun _ => ?_)
  · refine go_null (pc := 18) dX8_tapeAt_18 ?_
    exact go_ret dX8_tapeAt_19 ⟨_, rfl, Or.inl ⟨_, rfl⟩⟩ rfl rfl
  · refine go_aload_n (pc := 9) dX8_tapeAt_9 rfl ?_
    refine go_getS (pc := 10) 10748113 flX8_62 rfl rfl sC_9_10 (by decide) dX8_tapeAt_10 ?_
    refine go_iload_n (pc := 13) dX8_tapeAt_13 rfl ?_
    refine go_aaldS (pc := 14) (fun j => 10878984 + 262144 * j) (by decide) (by decide) rfl (sCa_17 rfl) dX8_tapeAt_14 (fun _ => ?_)
    refine go_goto (pc := 15) 19 dX8_tapeAt_15 (by decide) ?_
    exact go_ret dX8_tapeAt_19 ⟨_, rfl, Or.inl ⟨_, rfl⟩⟩ rfl rfl
def f_D_judge_l57 : Nat → Int32 → Nat → Int32 → Mem → Option (Int32 × Mem)
  | 0, _, _, _, _ => none
  | n + 1, v2, v4, v6, M => if 6 ≤ v6 then some ((-5), M) else gd (v4 % 131072 = 8) (if (f_Tp_hasPlace v4 v2 M) = 0 then some (100 + v6, M) else if (f_Tp_hasPlace v4 (v2 + v6) M) = 0 then some (100 + v6, M) else gd (inR (v2 + v6) 60) (bd (f_Co_gap 7602179 v6 M) fun r8 => if (lg_cmp (mL M (v4 + 132996) (v2 + v6).toNatClampNeg) r8.toInt64) = 0 then lt (v6 + 1) fun x9 => f_D_judge_l57 n v2 v4 x9 M else some (v6, M)))
def f_D_judge_b47 (v2 : Int32) (v4 : Nat) (v5 : Nat) (M : Mem) : Option (Int32 × Mem) := gd (v5 % 131072 = 4) (b2 (f_D_courseNow v5 M) fun r6 M5 => f_D_judge_l57 200 v2 v4 0 M5)
def f_D_judge (p1 : Int32) (p2 : Int32) (p3 : Int32) (M : Mem) : Option (Int32 × Mem) := bd (f_D_tapeAt p1 M) fun r1 => bd (f_D_doorAt p3 M) fun r2 => if r1 = 0 then some ((-1), M) else if r2 = 0 then some ((-1), M) else gd (r1 % 131072 = 8) (if (mI M r1 0) = (-1) then f_D_judge_b47 p2 r1 r2 M else if (mI M r1 0) = 1 then f_D_judge_b47 p2 r1 r2 M else some ((-12), M))
theorem o_D_judge_l57 : ∀ (n : Nat) (v2 : Int32) (v4 : Nat) (v6 : Int32) (M : Mem), Go sRC g_D_judge fWi (f_D_judge_l57 n v2 v4 v6 M) 57 [.ref 9, .null, .int v2, .null, .ref v4, .null, .int v6] [] M := by
  intro n
  induction n with
  | zero =>
    intro v2 v4 v6 M
    exact go_def (f_D_judge_l57.eq_1 ..) go_none
  | succ n ih =>
    intro v2 v4 v6 M
    refine go_def (f_D_judge_l57.eq_2 ..) ?_
    refine go_iload (pc := 57) dX8_judge_57 rfl ?_
    refine go_bipush (pc := 59) 6 dX8_judge_59 kb_6 ?_
    refine go_icmpge (pc := 61) 124 dX8_judge_61 (by decide) (fun _ => ?_) (fun _ => ?_)
    · refine go_bipush (pc := 124) (-5) dX8_judge_124 kb_m5 ?_
      exact go_ret dX8_judge_126 rii rfl rfl
    · refine go_aload (pc := 64) dX8_judge_64 rfl ?_
      refine go_iload_n (pc := 66) dX8_judge_66 rfl ?_
      refine go_gd fun g7 => ?_
      refine go_T (v := f_Tp_hasPlace v4 v2 M) ?_
      refine go_callV (pc := 67) (a := v4) (as := [.int v2]) (st := []) (o_Tp_hasPlace v4 v2 g7 M) ic_Tp_hasPlace ivX8_281 (rcvk g7 (by decide) (by decide) rfl) rfl (by decide) (Nat.le_of_ble_eq_true rfl) dX8_judge_67 (kTi ?_)
      refine go_ifeq (pc := 70) 85 dX8_judge_70 (by decide) (fun _ => ?_) (fun _ => ?_)
      · refine go_bipush (pc := 85) 100 dX8_judge_85 kb_100 ?_
        refine go_iload (pc := 87) dX8_judge_87 rfl ?_
        refine go_iadd (pc := 89) dX8_judge_89 ?_
        exact go_ret dX8_judge_90 rii rfl rfl
      · refine go_aload (pc := 73) dX8_judge_73 rfl ?_
        refine go_iload_n (pc := 75) dX8_judge_75 rfl ?_
        refine go_iload (pc := 76) dX8_judge_76 rfl ?_
        refine go_iadd (pc := 78) dX8_judge_78 ?_
        refine go_T (v := f_Tp_hasPlace v4 (v2 + v6) M) ?_
        refine go_callV (pc := 79) (a := v4) (as := [.int (v2 + v6)]) (st := []) (o_Tp_hasPlace v4 (v2 + v6) g7 M) ic_Tp_hasPlace ivX8_281 (rcvk g7 (by decide) (by decide) rfl) rfl (by decide) (Nat.le_of_ble_eq_true rfl) dX8_judge_79 (kTi ?_)
        refine go_ifne (pc := 82) 91 dX8_judge_82 (by decide) (fun _ => ?_) (fun _ => ?_)
        · refine go_bipush (pc := 85) 100 dX8_judge_85 kb_100 ?_
          refine go_iload (pc := 87) dX8_judge_87 rfl ?_
          refine go_iadd (pc := 89) dX8_judge_89 ?_
          exact go_ret dX8_judge_90 rii rfl rfl
        · refine go_aload (pc := 91) dX8_judge_91 rfl ?_
          refine go_getS (pc := 93) (v4 + 132996) flX8_284 rfl (kd32 (t := 8) g7 rfl) (sC_8_2 g7) (knz (by decide)) dX8_judge_93 ?_
          refine go_iload_n (pc := 96) dX8_judge_96 rfl ?_
          refine go_iload (pc := 97) dX8_judge_97 rfl ?_
          refine go_iadd (pc := 99) dX8_judge_99 ?_
          refine go_lald (pc := 100) (kd32 (t := 12) (kadd g7 rfl) rfl) (kln (kadd g7 rfl) rfl) dX8_judge_100 (fun _ => ?_)
          refine go_aload_n (pc := 101) dX8_judge_101 rfl ?_
          refine go_getS (pc := 102) 7602179 flX8_46 rfl rfl sC_9_7 (by decide) dX8_judge_102 ?_
          refine go_iload (pc := 105) dX8_judge_105 rfl ?_
          refine go_callV (pc := 107) (a := 7602179) (as := [.int v6]) (st := [.long (mL M (v4 + 132996) (v2 + v6).toNatClampNeg)]) (o_Co_gap 7602179 v6 rfl M) ic_Co_gap ivX8_103 (rcvk rfl (by decide) (by decide) rfl) rfl (by decide) (Nat.le_of_ble_eq_true rfl) dX8_judge_107 (kRi fun r8 => ?_)
          refine go_i2l (pc := 110) dX8_judge_110 ?_
          refine go_lcmp (pc := 111) dX8_judge_111 ?_
          refine go_ifeq (pc := 112) 118 dX8_judge_112 (by decide) (fun _ => ?_) (fun _ => ?_)
          · refine go_iincL (pc := 118) (L := fun x9 => [.ref 9, .null, .int v2, .null, .ref v4, .null, .int x9]) 1 dX8_judge_118 rfl ki_1 (Nat.le_of_ble_eq_true rfl) rfl (fun _ => rfl) (fun x9 => ?_)
            refine go_goto (pc := 121) 57 dX8_judge_121 (by decide) ?_
            exact ih v2 v4 x9 M
          · refine go_iload (pc := 115) dX8_judge_115 rfl ?_
            exact go_ret dX8_judge_117 rii rfl rfl
theorem o_D_judge_b47 (v2 : Int32) (v4 : Nat) (v5 : Nat) (M : Mem) : Go sRC g_D_judge fWi (f_D_judge_b47 v2 v4 v5 M) 47 [.ref 9, .null, .int v2, .null, .ref v4, .ref v5, .null] [] M := by
  refine go_def (f_D_judge_b47.eq_1 ..) ?_
  refine go_aload_n (pc := 47) dX8_judge_47 rfl ?_
  refine go_aload (pc := 48) dX8_judge_48 rfl ?_
  refine go_gd fun g4 => ?_
  refine go_callV (pc := 50) (a := 9) (as := [.ref v5]) (st := []) (o_D_courseNow v5 g4 M) ic_D_courseNow ivX8_99 (rcvk (a := 9) (t := 9) rfl (by decide) (by decide) rfl) rfl (by decide) (Nat.le_of_ble_eq_true rfl) dX8_judge_50 (kWr fun r6 M5 => ?_)
  refine go_pop (pc := 53) dX8_judge_53 rfl ?_
  refine go_iconst (pc := 54) 0 dX8_judge_54 ki_0 ?_
  refine go_istore (pc := 55) (ls' := [.ref 9, .null, .int v2, .null, .ref v4, .ref v5, .int 0]) dX8_judge_55 (Nat.le_of_ble_eq_true rfl) rfl rfl ?_
  refine go_sub (ls' := [.ref 9, .null, .int v2, .null, .ref v4, .null, .int 0]) ⟨Or.inr rfl, Or.inl rfl, Or.inr rfl, Or.inl rfl, Or.inr rfl, Or.inl rfl, Or.inr rfl, trivial⟩ ?_
  exact o_D_judge_l57 200 v2 v4 0 M5
theorem o_D_judge (p1 : Int32) (p2 : Int32) (p3 : Int32) (M : Mem) : Ct sRC g_D_judge fWi [.ref 9, .int p1, .int p2, .int p3] (f_D_judge p1 p2 p3 M) M := by
  refine ⟨Nat.le_of_ble_eq_true rfl, ?_⟩
  show Go sRC g_D_judge fWi (f_D_judge p1 p2 p3 M) 0 [.ref 9, .int p1, .int p2, .int p3, .null, .null, .null] [] M
  refine go_def (f_D_judge.eq_1 ..) ?_
  refine go_aload_n (pc := 0) dX8_judge_0 rfl ?_
  refine go_iload_n (pc := 1) dX8_judge_1 rfl ?_
  refine go_callV (pc := 2) (a := 9) (as := [.int p1]) (st := []) (o_D_tapeAt p1 M) ic_D_tapeAt ivX8_274 (rcvk (a := 9) (t := 9) rfl (by decide) (by decide) rfl) rfl (by decide) (Nat.le_of_ble_eq_true rfl) dX8_judge_2 (kRr fun r1 => ?_)
  refine go_astore (pc := 5) (ls' := [.ref 9, .int p1, .int p2, .int p3, .ref r1, .null, .null]) dX8_judge_5 (Nat.le_of_ble_eq_true rfl) rfl rfl ?_
  refine go_aload_n (pc := 7) dX8_judge_7 rfl ?_
  refine go_iload_n (pc := 8) dX8_judge_8 rfl ?_
  refine go_callV (pc := 9) (a := 9) (as := [.int p3]) (st := []) (o_D_doorAt p3 M) ic_D_doorAt ivX8_92 (rcvk (a := 9) (t := 9) rfl (by decide) (by decide) rfl) rfl (by decide) (Nat.le_of_ble_eq_true rfl) dX8_judge_9 (kRr fun r2 => ?_)
  refine go_astore (pc := 12) (ls' := [.ref 9, .int p1, .int p2, .int p3, .ref r1, .ref r2, .null]) dX8_judge_12 (Nat.le_of_ble_eq_true rfl) rfl rfl ?_
  refine go_aload (pc := 14) dX8_judge_14 rfl ?_
  refine go_ifnull (pc := 16) 24 dX8_judge_16 (by decide) (fun _ => ?_) (fun _ => ?_)
  · refine go_iconst (pc := 24) (-1) dX8_judge_24 ki_m1 ?_
    exact go_ret dX8_judge_25 rii rfl rfl
  · refine go_aload (pc := 19) dX8_judge_19 rfl ?_
    refine go_ifnonnull (pc := 21) 26 dX8_judge_21 (by decide) (fun _ => ?_) (fun _ => ?_)
    · refine go_iconst (pc := 24) (-1) dX8_judge_24 ki_m1 ?_
      exact go_ret dX8_judge_25 rii rfl rfl
    · refine go_aload (pc := 26) dX8_judge_26 rfl ?_
      refine go_gd fun g3 => ?_
      refine go_getI (pc := 28) flX8_278 rfl (kd32 (t := 8) g3 rfl) dX8_judge_28 ?_
      refine go_iconst (pc := 31) (-1) dX8_judge_31 ki_m1 ?_
      refine go_icmpeq (pc := 32) 47 dX8_judge_32 (by decide) (fun _ => ?_) (fun _ => ?_)
      · refine go_sub (ls' := [.ref 9, .null, .int p2, .null, .ref r1, .ref r2, .null]) ⟨Or.inr rfl, Or.inl rfl, Or.inr rfl, Or.inl rfl, Or.inr rfl, Or.inr rfl, Or.inl rfl, trivial⟩ ?_
        exact o_D_judge_b47 p2 r1 r2 M
      · refine go_aload (pc := 35) dX8_judge_35 rfl ?_
        refine go_getI (pc := 37) flX8_278 rfl (kd32 (t := 8) g3 rfl) dX8_judge_37 ?_
        refine go_iconst (pc := 40) 1 dX8_judge_40 ki_1 ?_
        refine go_icmpeq (pc := 41) 47 dX8_judge_41 (by decide) (fun _ => ?_) (fun _ => ?_)
        · refine go_sub (ls' := [.ref 9, .null, .int p2, .null, .ref r1, .ref r2, .null]) ⟨Or.inr rfl, Or.inl rfl, Or.inr rfl, Or.inl rfl, Or.inr rfl, Or.inr rfl, Or.inl rfl, trivial⟩ ?_
          exact o_D_judge_b47 p2 r1 r2 M
        · refine go_bipush (pc := 44) (-12) dX8_judge_44 kb_m12 ?_
          exact go_ret dX8_judge_46 rii rfl rfl
def f_D_image (M : Mem) : Option (Int32 × Mem) := bd (f_Hm_become 3407877 131077 M) fun M1 => lt (setI M1 9 2 1) fun M2 => some (mI M2 131077 2, M2)
theorem o_D_image (M : Mem) : Ct sRC g_D_image fWi [.ref 9] (f_D_image M) M := by
  refine ⟨Nat.le_of_ble_eq_true rfl, ?_⟩
  show Go sRC g_D_image fWi (f_D_image M) 0 [.ref 9] [] M
  refine go_def (f_D_image.eq_1 ..) ?_
  refine go_aload_n (pc := 0) dX8_image_0 rfl ?_
  refine go_getS (pc := 1) 3407877 flX8_18 rfl rfl sC_9_1 (by decide) dX8_image_1 ?_
  refine go_aload_n (pc := 4) dX8_image_4 rfl ?_
  refine go_getS (pc := 5) 131077 flX8_12 rfl rfl sC_9_0 (by decide) dX8_image_5 ?_
  refine go_callV (pc := 8) (a := 3407877) (as := [.ref 131077]) (st := []) (o_Hm_become 3407877 131077 rfl rfl M) ic_Hm_become ivX8_288 (rcvk rfl (by decide) (by decide) rfl) rfl (by decide) (Nat.le_of_ble_eq_true rfl) dX8_image_8 (kWv fun M1 => ?_)
  refine go_aload_n (pc := 11) dX8_image_11 rfl ?_
  refine go_iconst (pc := 12) 1 dX8_image_12 ki_1 ?_
  refine go_putI (pc := 13) flX8_292 rfl (Or.inl rfl) (nbz (Or.inr rfl)) rfl dX8_image_13 (fun M2 => ?_)
  refine go_aload_n (pc := 16) dX8_image_16 rfl ?_
  refine go_getS (pc := 17) 131077 flX8_12 rfl rfl sC_9_0 (by decide) dX8_image_17 ?_
  refine go_getI (pc := 20) flX8_79 rfl rfl dX8_image_20 ?_
  exact go_ret dX8_image_23 rii rfl rfl
def f_D_undo (M : Mem) : Option (Int32 × Mem) := if (mI M 9 2) = 0 then some ((-3), M) else bd (f_Hm_become 131077 3407877 M) fun M1 => some (mI M1 131077 2, M1)
theorem o_D_undo (M : Mem) : Ct sRC g_D_undo fWi [.ref 9] (f_D_undo M) M := by
  refine ⟨Nat.le_of_ble_eq_true rfl, ?_⟩
  show Go sRC g_D_undo fWi (f_D_undo M) 0 [.ref 9] [] M
  refine go_def (f_D_undo.eq_1 ..) ?_
  refine go_aload_n (pc := 0) dX8_undo_0 rfl ?_
  refine go_getI (pc := 1) flX8_292 rfl rfl dX8_undo_1 ?_
  refine go_ifne (pc := 4) 10 dX8_undo_4 (by decide) (fun _ => ?_) (fun _ => ?_)
  · refine go_bipush (pc := 7) (-3) dX8_undo_7 kb_m3 ?_
    exact go_ret dX8_undo_9 rii rfl rfl
  · refine go_aload_n (pc := 10) dX8_undo_10 rfl ?_
    refine go_getS (pc := 11) 131077 flX8_12 rfl rfl sC_9_0 (by decide) dX8_undo_11 ?_
    refine go_aload_n (pc := 14) dX8_undo_14 rfl ?_
    refine go_getS (pc := 15) 3407877 flX8_18 rfl rfl sC_9_1 (by decide) dX8_undo_15 ?_
    refine go_callV (pc := 18) (a := 131077) (as := [.ref 3407877]) (st := []) (o_Hm_become 131077 3407877 rfl rfl M) ic_Hm_become ivX8_288 (rcvk rfl (by decide) (by decide) rfl) rfl (by decide) (Nat.le_of_ble_eq_true rfl) dX8_undo_18 (kWv fun M1 => ?_)
    refine go_aload_n (pc := 21) dX8_undo_21 rfl ?_
    refine go_getS (pc := 22) 131077 flX8_12 rfl rfl sC_9_0 (by decide) dX8_undo_22 ?_
    refine go_getI (pc := 25) flX8_79 rfl rfl dX8_undo_25 ?_
    exact go_ret dX8_undo_28 rii rfl rfl
def f_D_act (p1 : Int32) (p2 : Int32) (p3 : Int32) (M : Mem) : Option (Int32 × Mem) := bd (f_Acts_forget M) fun M1 => bd (f_D_doorAt p1 M1) fun r2 => if r2 = 0 then some (0, M1) else gd (r2 % 131072 = 4) (b2 (f_Acts_perform r2 p2 p3 M1) fun r5 M4 => some (r5, M4))
theorem o_D_act (p1 : Int32) (p2 : Int32) (p3 : Int32) (M : Mem) : Ct sRC g_D_act fWi [.ref 9, .int p1, .int p2, .int p3] (f_D_act p1 p2 p3 M) M := by
  refine ⟨Nat.le_of_ble_eq_true rfl, ?_⟩
  show Go sRC g_D_act fWi (f_D_act p1 p2 p3 M) 0 [.ref 9, .int p1, .int p2, .int p3, .null] [] M
  refine go_def (f_D_act.eq_1 ..) ?_
  refine go_aload_n (pc := 0) dX8_act_0 rfl ?_
  refine go_getS (pc := 1) 10485761 flX8_56 rfl rfl sC_9_9 (by decide) dX8_act_1 ?_
  refine go_callV (pc := 4) (a := 10485761) (as := []) (st := []) (o_Acts_forget M) ic_Acts_forget ivX8_296 (rcvk (a := 10485761) (t := 1) rfl (by decide) (by decide) rfl) rfl (by decide) (Nat.le_of_ble_eq_true rfl) dX8_act_4 (kWv fun M1 => ?_)
  refine go_aload_n (pc := 7) dX8_act_7 rfl ?_
  refine go_iload_n (pc := 8) dX8_act_8 rfl ?_
  refine go_callV (pc := 9) (a := 9) (as := [.int p1]) (st := []) (o_D_doorAt p1 M1) ic_D_doorAt ivX8_92 (rcvk (a := 9) (t := 9) rfl (by decide) (by decide) rfl) rfl (by decide) (Nat.le_of_ble_eq_true rfl) dX8_act_9 (kRr fun r2 => ?_)
  refine go_astore (pc := 12) (ls' := [.ref 9, .int p1, .int p2, .int p3, .ref r2]) dX8_act_12 (Nat.le_of_ble_eq_true rfl) rfl rfl ?_
  refine go_aload (pc := 14) dX8_act_14 rfl ?_
  refine go_ifnonnull (pc := 16) 21 dX8_act_16 (by decide) (fun _ => ?_) (fun _ => ?_)
  · refine go_iconst (pc := 19) 0 dX8_act_19 ki_0 ?_
    exact go_ret dX8_act_20 rii rfl rfl
  · refine go_aload_n (pc := 21) dX8_act_21 rfl ?_
    refine go_getS (pc := 22) 10485761 flX8_56 rfl rfl sC_9_9 (by decide) dX8_act_22 ?_
    refine go_aload (pc := 25) dX8_act_25 rfl ?_
    refine go_iload_n (pc := 27) dX8_act_27 rfl ?_
    refine go_iload_n (pc := 28) dX8_act_28 rfl ?_
    refine go_gd fun g3 => ?_
    refine go_callV (pc := 29) (a := 10485761) (as := [.ref r2, .int p2, .int p3]) (st := []) (o_Acts_perform r2 p2 p3 g3 M1) ic_Acts_perform ivX8_299 (rcvk (a := 10485761) (t := 1) rfl (by decide) (by decide) rfl) rfl (by decide) (Nat.le_of_ble_eq_true rfl) dX8_act_29 (kWi fun r5 M4 => ?_)
    exact go_ret dX8_act_32 rii rfl rfl
def f_D_trace (p1 : Int32) (M : Mem) : Option Int32 := if (f_D_within p1 0 ((f_Acts_keptCount M) - 1) M) = 0 then some (-1) else gd (inR p1 20) (some (mI M 10617483 p1.toNatClampNeg))
theorem o_D_trace (p1 : Int32) (M : Mem) : Ct sRC g_D_trace (fRi M) [.ref 9, .int p1] (f_D_trace p1 M) M := by
  refine ⟨Nat.le_of_ble_eq_true rfl, ?_⟩
  show Go sRC g_D_trace (fRi M) (f_D_trace p1 M) 0 [.ref 9, .int p1] [] M
  refine go_def (f_D_trace.eq_1 ..) ?_
  refine go_iload_n (pc := 0) dX8_trace_0 rfl ?_
  refine go_iconst (pc := 1) 0 dX8_trace_1 ki_0 ?_
  refine go_aload_n (pc := 2) dX8_trace_2 rfl ?_
  refine go_getS (pc := 3) 10485761 flX8_56 rfl rfl sC_9_9 (by decide) dX8_trace_3 ?_
  refine go_T (v := f_Acts_keptCount M) ?_
  refine go_callV (pc := 6) (a := 10485761) (as := []) (st := [.int 0, .int p1]) (o_Acts_keptCount M) ic_Acts_keptCount ivX8_303 (rcvk (a := 10485761) (t := 1) rfl (by decide) (by decide) rfl) rfl (by decide) (Nat.le_of_ble_eq_true rfl) dX8_trace_6 (kTi ?_)
  refine go_iconst (pc := 9) 1 dX8_trace_9 ki_1 ?_
  refine go_isub (pc := 10) dX8_trace_10 ?_
  refine go_T (v := f_D_within p1 0 ((f_Acts_keptCount M) - 1) M) ?_
  refine go_callS (pc := 11) (as := [.int p1, .int 0, .int ((f_Acts_keptCount M) - 1)]) (st := []) (o_D_within p1 0 ((f_Acts_keptCount M) - 1) M) ic_D_within ivX8_67 rfl (by decide) (Nat.le_of_ble_eq_true rfl) dX8_trace_11 (kTi ?_)
  refine go_ifeq (pc := 14) 29 dX8_trace_14 (by decide) (fun _ => ?_) (fun _ => ?_)
  · refine go_iconst (pc := 29) (-1) dX8_trace_29 ki_m1 ?_
    exact go_ret dX8_trace_30 rii rfl rfl
  · refine go_aload_n (pc := 17) dX8_trace_17 rfl ?_
    refine go_getS (pc := 18) 10485761 flX8_56 rfl rfl sC_9_9 (by decide) dX8_trace_18 ?_
    refine go_getS (pc := 21) 10617483 flX8_306 rfl rfl sC_1_0 (by decide) dX8_trace_21 ?_
    refine go_iload_n (pc := 24) dX8_trace_24 rfl ?_
    refine go_iald (pc := 25) rfl rfl dX8_trace_25 (fun _ => ?_)
    refine go_goto (pc := 26) 30 dX8_trace_26 (by decide) ?_
    exact go_ret dX8_trace_30 rii rfl rfl
def f_D_isUnder_l4 (M : Mem) : Nat → Int32 → Int32 → Int32 → Option Int32
  | 0, _, _, _ => none
  | n + 1, v1, v2, v3 => if 7 ≤ v3 then some 0 else if (f_D_within v2 0 6 M) = 0 then some 0 else if v2 = v1 then some 1 else gd (inR v2 7) (lt (aBv v2.toNatClampNeg) fun x1 => lt (v3 + 1) fun x2 => f_D_isUnder_l4 M n v1 x1 x2)
def f_D_isUnder (p1 : Int32) (p2 : Int32) (M : Mem) : Option Int32 := f_D_isUnder_l4 M 200 p2 p1 0
theorem o_D_isUnder_l4 (M : Mem) : ∀ (n : Nat) (v1 : Int32) (v2 : Int32) (v3 : Int32), Go sRC g_D_isUnder (fRi M) (f_D_isUnder_l4 M n v1 v2 v3) 4 [.null, .int v1, .int v2, .int v3] [] M := by
  intro n
  induction n with
  | zero =>
    intro v1 v2 v3
    exact go_def (f_D_isUnder_l4.eq_1 ..) go_none
  | succ n ih =>
    intro v1 v2 v3
    refine go_def (f_D_isUnder_l4.eq_2 ..) ?_
    refine go_iload_n (pc := 4) dX8_isUnder_4 rfl ?_
    refine go_bipush (pc := 5) 7 dX8_isUnder_5 kb_7 ?_
    refine go_icmpge (pc := 7) 39 dX8_isUnder_7 (by decide) (fun _ => ?_) (fun _ => ?_)
    · refine go_iconst (pc := 39) 0 dX8_isUnder_39 ki_0 ?_
      exact go_ret dX8_isUnder_40 (rbz (Or.inl rfl)) rfl rfl
    · refine go_iload_n (pc := 10) dX8_isUnder_10 rfl ?_
      refine go_iconst (pc := 11) 0 dX8_isUnder_11 ki_0 ?_
      refine go_bipush (pc := 12) 6 dX8_isUnder_12 kb_6 ?_
      refine go_T (v := f_D_within v2 0 6 M) ?_
      refine go_callS (pc := 14) (as := [.int v2, .int 0, .int 6]) (st := []) (o_D_within v2 0 6 M) ic_D_within ivX8_67 rfl (by decide) (Nat.le_of_ble_eq_true rfl) dX8_isUnder_14 (kTi ?_)
      refine go_ifeq (pc := 17) 39 dX8_isUnder_17 (by decide) (fun _ => ?_) (fun _ => ?_)
      · refine go_iconst (pc := 39) 0 dX8_isUnder_39 ki_0 ?_
        exact go_ret dX8_isUnder_40 (rbz (Or.inl rfl)) rfl rfl
      · refine go_iload_n (pc := 20) dX8_isUnder_20 rfl ?_
        refine go_iload_n (pc := 21) dX8_isUnder_21 rfl ?_
        refine go_icmpne (pc := 22) 27 dX8_isUnder_22 (by decide) (fun _ => ?_) (fun _ => ?_)
        · refine go_iconst (pc := 25) 1 dX8_isUnder_25 ki_1 ?_
          exact go_ret dX8_isUnder_26 (rbz (Or.inr rfl)) rfl rfl
        · refine go_above (pc := 27) (gT_of (mtb4 (mt64 (mt64 (mt4 (mt4 (mt1 (List.Mem.head _))))))) rfl) dX8_isUnder_27 ?_
          refine go_iload_n (pc := 30) dX8_isUnder_30 rfl ?_
          refine go_iald_above (pc := 31) dX8_isUnder_31 (fun _ => ?_)
          refine go_istore_nL (pc := 32) (L := fun x1 => [.null, .int v1, .int x1, .int v3]) dX8_isUnder_32 (Nat.le_of_ble_eq_true rfl) rfl (fun _ => rfl) (fun x1 => ?_)
          refine go_iincL (pc := 33) (L := fun x2 => [.null, .int v1, .int x1, .int x2]) 1 dX8_isUnder_33 rfl ki_1 (Nat.le_of_ble_eq_true rfl) rfl (fun _ => rfl) (fun x2 => ?_)
          refine go_goto (pc := 36) 4 dX8_isUnder_36 (by decide) ?_
          exact ih v1 x1 x2
theorem o_D_isUnder (p1 : Int32) (p2 : Int32) (M : Mem) : Ct sRC g_D_isUnder (fRi M) [.int p1, .int p2] (f_D_isUnder p1 p2 M) M := by
  refine ⟨Nat.le_of_ble_eq_true rfl, ?_⟩
  show Go sRC g_D_isUnder (fRi M) (f_D_isUnder p1 p2 M) 0 [.int p1, .int p2, .null, .null] [] M
  refine go_def (f_D_isUnder.eq_1 ..) ?_
  refine go_iload_n (pc := 0) dX8_isUnder_0 rfl ?_
  refine go_istore_n (pc := 1) (ls' := [.int p1, .int p2, .int p1, .null]) dX8_isUnder_1 (Nat.le_of_ble_eq_true rfl) rfl rfl ?_
  refine go_iconst (pc := 2) 0 dX8_isUnder_2 ki_0 ?_
  refine go_istore_n (pc := 3) (ls' := [.int p1, .int p2, .int p1, .int 0]) dX8_isUnder_3 (Nat.le_of_ble_eq_true rfl) rfl rfl ?_
  refine go_sub (ls' := [.null, .int p2, .int p1, .int 0]) ⟨Or.inl rfl, Or.inr rfl, Or.inr rfl, Or.inr rfl, trivial⟩ ?_
  exact o_D_isUnder_l4 M 200 p2 p1 0
def f_D_taken (p1 : Int32) (p2 : Int32) (M : Mem) : Option Int32 := if (f_D_within p2 0 6 M) = 0 then some (-2) else bd (f_D_doorAt p1 M) fun r1 => if r1 = 0 then some (-11) else gd (r1 % 131072 = 4) (bd (f_D_isUnder (mI M r1 1) p2 M) fun r3 => if r3 = 0 then some (-12) else some (mI M r1 1))
theorem o_D_taken (p1 : Int32) (p2 : Int32) (M : Mem) : Ct sRC g_D_taken (fRi M) [.ref 9, .int p1, .int p2] (f_D_taken p1 p2 M) M := by
  refine ⟨Nat.le_of_ble_eq_true rfl, ?_⟩
  show Go sRC g_D_taken (fRi M) (f_D_taken p1 p2 M) 0 [.ref 9, .int p1, .int p2, .null] [] M
  refine go_def (f_D_taken.eq_1 ..) ?_
  refine go_iload_n (pc := 0) dX8_taken_0 rfl ?_
  refine go_iconst (pc := 1) 0 dX8_taken_1 ki_0 ?_
  refine go_bipush (pc := 2) 6 dX8_taken_2 kb_6 ?_
  refine go_T (v := f_D_within p2 0 6 M) ?_
  refine go_callS (pc := 4) (as := [.int p2, .int 0, .int 6]) (st := []) (o_D_within p2 0 6 M) ic_D_within ivX8_67 rfl (by decide) (Nat.le_of_ble_eq_true rfl) dX8_taken_4 (kTi ?_)
  refine go_ifne (pc := 7) 13 dX8_taken_7 (by decide) (fun _ => ?_) (fun _ => ?_)
  · refine go_bipush (pc := 10) (-2) dX8_taken_10 kb_m2 ?_
    exact go_ret dX8_taken_12 rii rfl rfl
  · refine go_aload_n (pc := 13) dX8_taken_13 rfl ?_
    refine go_iload_n (pc := 14) dX8_taken_14 rfl ?_
    refine go_callV (pc := 15) (a := 9) (as := [.int p1]) (st := []) (o_D_doorAt p1 M) ic_D_doorAt ivX8_92 (rcvk (a := 9) (t := 9) rfl (by decide) (by decide) rfl) rfl (by decide) (Nat.le_of_ble_eq_true rfl) dX8_taken_15 (kRr fun r1 => ?_)
    refine go_astore_n (pc := 18) (ls' := [.ref 9, .int p1, .int p2, .ref r1]) dX8_taken_18 (Nat.le_of_ble_eq_true rfl) rfl rfl ?_
    refine go_aload_n (pc := 19) dX8_taken_19 rfl ?_
    refine go_ifnonnull (pc := 20) 26 dX8_taken_20 (by decide) (fun _ => ?_) (fun _ => ?_)
    · refine go_bipush (pc := 23) (-11) dX8_taken_23 kb_m11 ?_
      exact go_ret dX8_taken_25 rii rfl rfl
    · refine go_aload_n (pc := 26) dX8_taken_26 rfl ?_
      refine go_gd fun g2 => ?_
      refine go_getI (pc := 27) flX8_107 rfl (kd32 (t := 4) g2 rfl) dX8_taken_27 ?_
      refine go_iload_n (pc := 30) dX8_taken_30 rfl ?_
      refine go_callS (pc := 31) (as := [.int (mI M r1 1), .int p2]) (st := []) (o_D_isUnder (mI M r1 1) p2 M) ic_D_isUnder ivX8_309 rfl (by decide) (Nat.le_of_ble_eq_true rfl) dX8_taken_31 (kRi fun r3 => ?_)
      refine go_ifeq (pc := 34) 44 dX8_taken_34 (by decide) (fun _ => ?_) (fun _ => ?_)
      · refine go_bipush (pc := 44) (-12) dX8_taken_44 kb_m12 ?_
        exact go_ret dX8_taken_46 rii rfl rfl
      · refine go_aload_n (pc := 37) dX8_taken_37 rfl ?_
        refine go_getI (pc := 38) flX8_107 rfl (kd32 (t := 4) g2 rfl) dX8_taken_38 ?_
        refine go_goto (pc := 41) 46 dX8_taken_41 (by decide) ?_
        exact go_ret dX8_taken_46 rii rfl rfl
def f_D_count (p1 : Int32) (M : Mem) : Int32 := if p1 = 0 then mI M 131077 2 else if p1 = 1 then mI M 9 6 else if p1 = 2 then mI M 131077 8 else if p1 = 3 then mI M 6684679 0 else if p1 = 4 then mI M 10485761 1 else (-2)
theorem o_D_count (p1 : Int32) (M : Mem) : Ct sRC g_D_count (fRi M) [.ref 9, .int p1] (some (f_D_count p1 M)) M := by
  refine ⟨Nat.le_of_ble_eq_true rfl, ?_⟩
  show Go sRC g_D_count (fRi M) (some (f_D_count p1 M)) 0 [.ref 9, .int p1] [] M
  refine go_def (congrArg some (f_D_count.eq_1 ..)) ?_
  refine go_iload_n (pc := 0) dX8_count_0 rfl ?_
  refine go_site ?_
  refine go_tswC (pc := 1) (v := 0) (off := 35) 36 dX8_count_1 (by decide) (by decide) (by decide) (fun _ => ?_) (fun n1 => ?_)
  · refine go_aload_n (pc := 36) dX8_count_36 rfl ?_
    refine go_getS (pc := 37) 131077 flX8_12 rfl rfl sC_9_0 (by decide) dX8_count_37 ?_
    refine go_getI (pc := 40) flX8_79 rfl rfl dX8_count_40 ?_
    exact go_ret dX8_count_43 rii rfl rfl
  refine go_site ?_
  refine go_tswC (pc := 1) (v := 1) (off := 43) 44 dX8_count_1 (by decide) (by decide) (by decide) (fun _ => ?_) (fun n2 => ?_)
  · refine go_aload_n (pc := 44) dX8_count_44 rfl ?_
    refine go_getI (pc := 45) flX8_148 rfl rfl dX8_count_45 ?_
    exact go_ret dX8_count_48 rii rfl rfl
  refine go_site ?_
  refine go_tswC (pc := 1) (v := 2) (off := 48) 49 dX8_count_1 (by decide) (by decide) (by decide) (fun _ => ?_) (fun n3 => ?_)
  · refine go_aload_n (pc := 49) dX8_count_49 rfl ?_
    refine go_getS (pc := 50) 131077 flX8_12 rfl rfl sC_9_0 (by decide) dX8_count_50 ?_
    refine go_getI (pc := 53) flX8_260 rfl rfl dX8_count_53 ?_
    exact go_ret dX8_count_56 rii rfl rfl
  refine go_site ?_
  refine go_tswC (pc := 1) (v := 3) (off := 56) 57 dX8_count_1 (by decide) (by decide) (by decide) (fun _ => ?_) (fun n4 => ?_)
  · refine go_aload_n (pc := 57) dX8_count_57 rfl ?_
    refine go_getS (pc := 58) 6684679 flX8_24 rfl rfl sC_9_3 (by decide) dX8_count_58 ?_
    refine go_getI (pc := 61) flX8_145 rfl rfl dX8_count_61 ?_
    exact go_ret dX8_count_64 rii rfl rfl
  refine go_site ?_
  refine go_tswC (pc := 1) (v := 4) (off := 64) 65 dX8_count_1 (by decide) (by decide) (by decide) (fun _ => ?_) (fun n5 => ?_)
  · refine go_aload_n (pc := 65) dX8_count_65 rfl ?_
    refine go_getS (pc := 66) 10485761 flX8_56 rfl rfl sC_9_9 (by decide) dX8_count_66 ?_
    refine go_getI (pc := 69) flX8_312 rfl rfl dX8_count_69 ?_
    exact go_ret dX8_count_72 rii rfl rfl
  refine go_tswD (pc := 1) 73 dX8_count_1 (by have n1t := lv_neT n1 (show (0 : Int32).toInt = 0 by decide); have n2t := lv_neT n2 (show (1 : Int32).toInt = 1 by decide); have n3t := lv_neT n3 (show (2 : Int32).toInt = 2 by decide); have n4t := lv_neT n4 (show (3 : Int32).toInt = 3 by decide); have n5t := lv_neT n5 (show (4 : Int32).toInt = 4 by decide); rcases (show p1.toInt < 0 ∨ 4 < p1.toInt by omega) with h | h <;> first | exact Or.inl h | exact Or.inr (Or.inl h) | exact Or.inr (Or.inr (by rw [h]; decide))) (by decide) ?_
  refine go_bipush (pc := 73) (-2) dX8_count_73 kb_m2 ?_
  exact go_ret dX8_count_75 rii rfl rfl
def f_D_tape (p1 : Int32) (p2 : Int32) (p3 : Int32) (M : Mem) : Option (Int32 × Mem) := bd (f_D_tapeAt p1 M) fun r1 => if r1 = 0 then some ((-1), M) else if p2 = (-1) then gd (r1 % 131072 = 8) (bd (f_Tp_becomeRow r1 p2 0 M) fun M5 => some (1, M5)) else if (f_D_within p2 0 4 M) = 0 then some ((-2), M) else if p3 ≤ 60 then if 0 ≤ p3 then gd (r1 % 131072 = 8) (bd (f_Tp_becomeRow r1 p2 p3 M) fun M3 => some (1, M3)) else some ((-14), M) else some ((-2), M)
theorem o_D_tape (p1 : Int32) (p2 : Int32) (p3 : Int32) (M : Mem) : Ct sRC g_D_tape fWi [.ref 9, .int p1, .int p2, .int p3] (f_D_tape p1 p2 p3 M) M := by
  refine ⟨Nat.le_of_ble_eq_true rfl, ?_⟩
  show Go sRC g_D_tape fWi (f_D_tape p1 p2 p3 M) 0 [.ref 9, .int p1, .int p2, .int p3, .null] [] M
  refine go_def (f_D_tape.eq_1 ..) ?_
  refine go_aload_n (pc := 0) dX8_tape_0 rfl ?_
  refine go_iload_n (pc := 1) dX8_tape_1 rfl ?_
  refine go_callV (pc := 2) (a := 9) (as := [.int p1]) (st := []) (o_D_tapeAt p1 M) ic_D_tapeAt ivX8_274 (rcvk (a := 9) (t := 9) rfl (by decide) (by decide) rfl) rfl (by decide) (Nat.le_of_ble_eq_true rfl) dX8_tape_2 (kRr fun r1 => ?_)
  refine go_astore (pc := 5) (ls' := [.ref 9, .int p1, .int p2, .int p3, .ref r1]) dX8_tape_5 (Nat.le_of_ble_eq_true rfl) rfl rfl ?_
  refine go_aload (pc := 7) dX8_tape_7 rfl ?_
  refine go_ifnonnull (pc := 9) 14 dX8_tape_9 (by decide) (fun _ => ?_) (fun _ => ?_)
  · refine go_iconst (pc := 12) (-1) dX8_tape_12 ki_m1 ?_
    exact go_ret dX8_tape_13 rii rfl rfl
  · refine go_iload_n (pc := 14) dX8_tape_14 rfl ?_
    refine go_iconst (pc := 15) (-1) dX8_tape_15 ki_m1 ?_
    refine go_icmpne (pc := 16) 28 dX8_tape_16 (by decide) (fun _ => ?_) (fun _ => ?_)
    · refine go_aload (pc := 19) dX8_tape_19 rfl ?_
      refine go_iload_n (pc := 21) dX8_tape_21 rfl ?_
      refine go_iconst (pc := 22) 0 dX8_tape_22 ki_0 ?_
      refine go_gd fun g4 => ?_
      refine go_callV (pc := 23) (a := r1) (as := [.int p2, .int 0]) (st := []) (o_Tp_becomeRow r1 p2 0 g4 M) ic_Tp_becomeRow ivX8_315 (rcvk g4 (by decide) (by decide) rfl) rfl (by decide) (Nat.le_of_ble_eq_true rfl) dX8_tape_23 (kWv fun M5 => ?_)
      refine go_iconst (pc := 26) 1 dX8_tape_26 ki_1 ?_
      exact go_ret dX8_tape_27 rii rfl rfl
    · refine go_iload_n (pc := 28) dX8_tape_28 rfl ?_
      refine go_iconst (pc := 29) 0 dX8_tape_29 ki_0 ?_
      refine go_iconst (pc := 30) 4 dX8_tape_30 ki_4 ?_
      refine go_T (v := f_D_within p2 0 4 M) ?_
      refine go_callS (pc := 31) (as := [.int p2, .int 0, .int 4]) (st := []) (o_D_within p2 0 4 M) ic_D_within ivX8_67 rfl (by decide) (Nat.le_of_ble_eq_true rfl) dX8_tape_31 (kTi ?_)
      refine go_ifeq (pc := 34) 43 dX8_tape_34 (by decide) (fun _ => ?_) (fun _ => ?_)
      · refine go_bipush (pc := 43) (-2) dX8_tape_43 kb_m2 ?_
        exact go_ret dX8_tape_45 rii rfl rfl
      · refine go_iload_n (pc := 37) dX8_tape_37 rfl ?_
        refine go_bipush (pc := 38) 60 dX8_tape_38 kb_60 ?_
        refine go_icmple (pc := 40) 46 dX8_tape_40 (by decide) (fun _ => ?_) (fun _ => ?_)
        · refine go_iload_n (pc := 46) dX8_tape_46 rfl ?_
          refine go_ifge (pc := 47) 53 dX8_tape_47 (by decide) (fun _ => ?_) (fun _ => ?_)
          · refine go_aload (pc := 53) dX8_tape_53 rfl ?_
            refine go_iload_n (pc := 55) dX8_tape_55 rfl ?_
            refine go_iload_n (pc := 56) dX8_tape_56 rfl ?_
            refine go_gd fun g2 => ?_
            refine go_callV (pc := 57) (a := r1) (as := [.int p2, .int p3]) (st := []) (o_Tp_becomeRow r1 p2 p3 g2 M) ic_Tp_becomeRow ivX8_315 (rcvk g2 (by decide) (by decide) rfl) rfl (by decide) (Nat.le_of_ble_eq_true rfl) dX8_tape_57 (kWv fun M3 => ?_)
            refine go_iconst (pc := 60) 1 dX8_tape_60 ki_1 ?_
            exact go_ret dX8_tape_61 rii rfl rfl
          · refine go_bipush (pc := 50) (-14) dX8_tape_50 kb_m14 ?_
            exact go_ret dX8_tape_52 rii rfl rfl
        · refine go_bipush (pc := 43) (-2) dX8_tape_43 kb_m2 ?_
          exact go_ret dX8_tape_45 rii rfl rfl
def f_D_item (p1 : Int32) (p2 : Int32) (p3 : Int64) (M : Mem) : Option (Int32 × Mem) := bd (f_D_tapeAt p1 M) fun r1 => if r1 = 0 then some ((-1), M) else gd (r1 % 131072 = 8) (if (mI M r1 0) = (-1) then some ((-11), M) else if (f_Tp_hasPlace r1 p2 M) = 0 then some ((-13), M) else gd (inR p2 60) (lt (setL M (r1 + 132996) p2.toNatClampNeg (f_Tp_narrowed r1 p3 M)) fun M3 => some (1, M3)))
theorem o_D_item (p1 : Int32) (p2 : Int32) (p3 : Int64) (M : Mem) : Ct sRC g_D_item fWi [.ref 9, .int p1, .int p2, .long p3] (f_D_item p1 p2 p3 M) M := by
  refine ⟨Nat.le_of_ble_eq_true rfl, ?_⟩
  show Go sRC g_D_item fWi (f_D_item p1 p2 p3 M) 0 [.ref 9, .int p1, .int p2, .long p3, .null, .null] [] M
  refine go_def (f_D_item.eq_1 ..) ?_
  refine go_aload_n (pc := 0) dX8_item_0 rfl ?_
  refine go_iload_n (pc := 1) dX8_item_1 rfl ?_
  refine go_callV (pc := 2) (a := 9) (as := [.int p1]) (st := []) (o_D_tapeAt p1 M) ic_D_tapeAt ivX8_274 (rcvk (a := 9) (t := 9) rfl (by decide) (by decide) rfl) rfl (by decide) (Nat.le_of_ble_eq_true rfl) dX8_item_2 (kRr fun r1 => ?_)
  refine go_astore (pc := 5) (ls' := [.ref 9, .int p1, .int p2, .long p3, .null, .ref r1]) dX8_item_5 (Nat.le_of_ble_eq_true rfl) rfl rfl ?_
  refine go_aload (pc := 7) dX8_item_7 rfl ?_
  refine go_ifnonnull (pc := 9) 14 dX8_item_9 (by decide) (fun _ => ?_) (fun _ => ?_)
  · refine go_iconst (pc := 12) (-1) dX8_item_12 ki_m1 ?_
    exact go_ret dX8_item_13 rii rfl rfl
  · refine go_aload (pc := 14) dX8_item_14 rfl ?_
    refine go_gd fun g2 => ?_
    refine go_getI (pc := 16) flX8_278 rfl (kd32 (t := 8) g2 rfl) dX8_item_16 ?_
    refine go_iconst (pc := 19) (-1) dX8_item_19 ki_m1 ?_
    refine go_icmpne (pc := 20) 26 dX8_item_20 (by decide) (fun _ => ?_) (fun _ => ?_)
    · refine go_bipush (pc := 23) (-11) dX8_item_23 kb_m11 ?_
      exact go_ret dX8_item_25 rii rfl rfl
    · refine go_aload (pc := 26) dX8_item_26 rfl ?_
      refine go_iload_n (pc := 28) dX8_item_28 rfl ?_
      refine go_T (v := f_Tp_hasPlace r1 p2 M) ?_
      refine go_callV (pc := 29) (a := r1) (as := [.int p2]) (st := []) (o_Tp_hasPlace r1 p2 g2 M) ic_Tp_hasPlace ivX8_281 (rcvk g2 (by decide) (by decide) rfl) rfl (by decide) (Nat.le_of_ble_eq_true rfl) dX8_item_29 (kTi ?_)
      refine go_ifne (pc := 32) 38 dX8_item_32 (by decide) (fun _ => ?_) (fun _ => ?_)
      · refine go_bipush (pc := 35) (-13) dX8_item_35 kb_m13 ?_
        exact go_ret dX8_item_37 rii rfl rfl
      · refine go_aload (pc := 38) dX8_item_38 rfl ?_
        refine go_getS (pc := 40) (r1 + 132996) flX8_284 rfl (kd32 (t := 8) g2 rfl) (sC_8_2 g2) (knz (by decide)) dX8_item_40 ?_
        refine go_iload_n (pc := 43) dX8_item_43 rfl ?_
        refine go_aload (pc := 44) dX8_item_44 rfl ?_
        refine go_lload_n (pc := 46) dX8_item_46 rfl ?_
        refine go_T (v := f_Tp_narrowed r1 p3 M) ?_
        refine go_callV (pc := 47) (a := r1) (as := [.long p3]) (st := [.int p2, .ref (r1 + 132996)]) (o_Tp_narrowed r1 p3 g2 M) ic_Tp_narrowed ivX8_319 (rcvk g2 (by decide) (by decide) rfl) rfl (by decide) (Nat.le_of_ble_eq_true rfl) dX8_item_47 (kTl ?_)
        refine go_last (pc := 50) (kd32 (t := 12) (kadd g2 rfl) rfl) (kln (kadd g2 rfl) rfl) dX8_item_50 (fun _ M3 => ?_)
        refine go_iconst (pc := 51) 1 dX8_item_51 ki_1 ?_
        exact go_ret dX8_item_52 rii rfl rfl
def f_D_read (p1 : Int32) (p2 : Int32) (M : Mem) : Option Int64 := bd (f_D_tapeAt p1 M) fun r1 => if r1 = 0 then some (-9223372036854775808) else gd (r1 % 131072 = 8) (if (f_Tp_hasPlace r1 p2 M) = 0 then some (-9223372036854775808) else gd (inR p2 60) (some (mL M (r1 + 132996) p2.toNatClampNeg)))
theorem o_D_read (p1 : Int32) (p2 : Int32) (M : Mem) : Ct sRC g_D_read (fRl M) [.ref 9, .int p1, .int p2] (f_D_read p1 p2 M) M := by
  refine ⟨Nat.le_of_ble_eq_true rfl, ?_⟩
  show Go sRC g_D_read (fRl M) (f_D_read p1 p2 M) 0 [.ref 9, .int p1, .int p2, .null] [] M
  refine go_def (f_D_read.eq_1 ..) ?_
  refine go_aload_n (pc := 0) dX8_read_0 rfl ?_
  refine go_iload_n (pc := 1) dX8_read_1 rfl ?_
  refine go_callV (pc := 2) (a := 9) (as := [.int p1]) (st := []) (o_D_tapeAt p1 M) ic_D_tapeAt ivX8_274 (rcvk (a := 9) (t := 9) rfl (by decide) (by decide) rfl) rfl (by decide) (Nat.le_of_ble_eq_true rfl) dX8_read_2 (kRr fun r1 => ?_)
  refine go_astore_n (pc := 5) (ls' := [.ref 9, .int p1, .int p2, .ref r1]) dX8_read_5 (Nat.le_of_ble_eq_true rfl) rfl rfl ?_
  refine go_aload_n (pc := 6) dX8_read_6 rfl ?_
  refine go_ifnull (pc := 7) 27 dX8_read_7 (by decide) (fun _ => ?_) (fun _ => ?_)
  · refine go_ldc2 (pc := 27) (v := (-9223372036854775808)) (gT_of (mtb4 (mt16 (mt4 (mt4 (mt4 (mt1 (mt1 (List.Mem.head _)))))))) rfl) dX8_read_27 ?_
    exact go_ret dX8_read_30 rfl rfl rfl
  · refine go_aload_n (pc := 10) dX8_read_10 rfl ?_
    refine go_iload_n (pc := 11) dX8_read_11 rfl ?_
    refine go_gd fun g2 => ?_
    refine go_T (v := f_Tp_hasPlace r1 p2 M) ?_
    refine go_callV (pc := 12) (a := r1) (as := [.int p2]) (st := []) (o_Tp_hasPlace r1 p2 g2 M) ic_Tp_hasPlace ivX8_281 (rcvk g2 (by decide) (by decide) rfl) rfl (by decide) (Nat.le_of_ble_eq_true rfl) dX8_read_12 (kTi ?_)
    refine go_ifeq (pc := 15) 27 dX8_read_15 (by decide) (fun _ => ?_) (fun _ => ?_)
    · refine go_ldc2 (pc := 27) (v := (-9223372036854775808)) (gT_of (mtb4 (mt16 (mt4 (mt4 (mt4 (mt1 (mt1 (List.Mem.head _)))))))) rfl) dX8_read_27 ?_
      exact go_ret dX8_read_30 rfl rfl rfl
    · refine go_aload_n (pc := 18) dX8_read_18 rfl ?_
      refine go_getS (pc := 19) (r1 + 132996) flX8_284 rfl (kd32 (t := 8) g2 rfl) (sC_8_2 g2) (knz (by decide)) dX8_read_19 ?_
      refine go_iload_n (pc := 22) dX8_read_22 rfl ?_
      refine go_lald (pc := 23) (kd32 (t := 12) (kadd g2 rfl) rfl) (kln (kadd g2 rfl) rfl) dX8_read_23 (fun _ => ?_)
      refine go_goto (pc := 24) 30 dX8_read_24 (by decide) ?_
      exact go_ret dX8_read_30 rfl rfl rfl
def f_D_shift (p1 : Int32) (p2 : Int32) (p3 : Int32) (p4 : Int32) (p5 : Int32) (M : Mem) : Option (Int32 × Mem) := bd (f_D_tapeAt p1 M) fun r1 => bd (f_D_tapeAt p3 M) fun r2 => if r1 = 0 then some ((-1), M) else if r2 = 0 then some ((-1), M) else gd (r1 % 131072 = 8) (if (mI M r1 0) = (-1) then some ((-11), M) else gd (r2 % 131072 = 8) (if (mI M r2 0) = (-1) then some ((-11), M) else if (mI M r1 0) = (mI M r2 0) then if (f_Tp_hasPlaces r1 p2 p5 M) = 0 then some ((-13), M) else if (f_Tp_hasPlaces r2 p4 p5 M) = 0 then some ((-13), M) else gd (cpOK p2 p4 p5 (60) (60)) (lt (cpyL M (r1 + 132996) p2.toNatClampNeg (r2 + 132996) p4.toNatClampNeg p5.toNatClampNeg) fun M5 => some (p5, M5)) else some ((-12), M)))
theorem o_D_shift (p1 : Int32) (p2 : Int32) (p3 : Int32) (p4 : Int32) (p5 : Int32) (M : Mem) : Ct sRC g_D_shift fWi [.ref 9, .int p1, .int p2, .int p3, .int p4, .int p5] (f_D_shift p1 p2 p3 p4 p5 M) M := by
  refine ⟨Nat.le_of_ble_eq_true rfl, ?_⟩
  show Go sRC g_D_shift fWi (f_D_shift p1 p2 p3 p4 p5 M) 0 [.ref 9, .int p1, .int p2, .int p3, .int p4, .int p5, .null, .null] [] M
  refine go_def (f_D_shift.eq_1 ..) ?_
  refine go_aload_n (pc := 0) dX8_shift_0 rfl ?_
  refine go_iload_n (pc := 1) dX8_shift_1 rfl ?_
  refine go_callV (pc := 2) (a := 9) (as := [.int p1]) (st := []) (o_D_tapeAt p1 M) ic_D_tapeAt ivX8_274 (rcvk (a := 9) (t := 9) rfl (by decide) (by decide) rfl) rfl (by decide) (Nat.le_of_ble_eq_true rfl) dX8_shift_2 (kRr fun r1 => ?_)
  refine go_astore (pc := 5) (ls' := [.ref 9, .int p1, .int p2, .int p3, .int p4, .int p5, .ref r1, .null]) dX8_shift_5 (Nat.le_of_ble_eq_true rfl) rfl rfl ?_
  refine go_aload_n (pc := 7) dX8_shift_7 rfl ?_
  refine go_iload_n (pc := 8) dX8_shift_8 rfl ?_
  refine go_callV (pc := 9) (a := 9) (as := [.int p3]) (st := []) (o_D_tapeAt p3 M) ic_D_tapeAt ivX8_274 (rcvk (a := 9) (t := 9) rfl (by decide) (by decide) rfl) rfl (by decide) (Nat.le_of_ble_eq_true rfl) dX8_shift_9 (kRr fun r2 => ?_)
  refine go_astore (pc := 12) (ls' := [.ref 9, .int p1, .int p2, .int p3, .int p4, .int p5, .ref r1, .ref r2]) dX8_shift_12 (Nat.le_of_ble_eq_true rfl) rfl rfl ?_
  refine go_aload (pc := 14) dX8_shift_14 rfl ?_
  refine go_ifnull (pc := 16) 24 dX8_shift_16 (by decide) (fun _ => ?_) (fun _ => ?_)
  · refine go_iconst (pc := 24) (-1) dX8_shift_24 ki_m1 ?_
    exact go_ret dX8_shift_25 rii rfl rfl
  · refine go_aload (pc := 19) dX8_shift_19 rfl ?_
    refine go_ifnonnull (pc := 21) 26 dX8_shift_21 (by decide) (fun _ => ?_) (fun _ => ?_)
    · refine go_iconst (pc := 24) (-1) dX8_shift_24 ki_m1 ?_
      exact go_ret dX8_shift_25 rii rfl rfl
    · refine go_aload (pc := 26) dX8_shift_26 rfl ?_
      refine go_gd fun g3 => ?_
      refine go_getI (pc := 28) flX8_278 rfl (kd32 (t := 8) g3 rfl) dX8_shift_28 ?_
      refine go_iconst (pc := 31) (-1) dX8_shift_31 ki_m1 ?_
      refine go_icmpeq (pc := 32) 44 dX8_shift_32 (by decide) (fun _ => ?_) (fun _ => ?_)
      · refine go_bipush (pc := 44) (-11) dX8_shift_44 kb_m11 ?_
        exact go_ret dX8_shift_46 rii rfl rfl
      · refine go_aload (pc := 35) dX8_shift_35 rfl ?_
        refine go_gd fun g4 => ?_
        refine go_getI (pc := 37) flX8_278 rfl (kd32 (t := 8) g4 rfl) dX8_shift_37 ?_
        refine go_iconst (pc := 40) (-1) dX8_shift_40 ki_m1 ?_
        refine go_icmpne (pc := 41) 47 dX8_shift_41 (by decide) (fun _ => ?_) (fun _ => ?_)
        · refine go_bipush (pc := 44) (-11) dX8_shift_44 kb_m11 ?_
          exact go_ret dX8_shift_46 rii rfl rfl
        · refine go_aload (pc := 47) dX8_shift_47 rfl ?_
          refine go_getI (pc := 49) flX8_278 rfl (kd32 (t := 8) g3 rfl) dX8_shift_49 ?_
          refine go_aload (pc := 52) dX8_shift_52 rfl ?_
          refine go_getI (pc := 54) flX8_278 rfl (kd32 (t := 8) g4 rfl) dX8_shift_54 ?_
          refine go_icmpeq (pc := 57) 63 dX8_shift_57 (by decide) (fun _ => ?_) (fun _ => ?_)
          · refine go_aload (pc := 63) dX8_shift_63 rfl ?_
            refine go_iload_n (pc := 65) dX8_shift_65 rfl ?_
            refine go_iload (pc := 66) dX8_shift_66 rfl ?_
            refine go_T (v := f_Tp_hasPlaces r1 p2 p5 M) ?_
            refine go_callV (pc := 68) (a := r1) (as := [.int p2, .int p5]) (st := []) (o_Tp_hasPlaces r1 p2 p5 g3 M) ic_Tp_hasPlaces ivX8_323 (rcvk g3 (by decide) (by decide) rfl) rfl (by decide) (Nat.le_of_ble_eq_true rfl) dX8_shift_68 (kTi ?_)
            refine go_ifeq (pc := 71) 86 dX8_shift_71 (by decide) (fun _ => ?_) (fun _ => ?_)
            · refine go_bipush (pc := 86) (-13) dX8_shift_86 kb_m13 ?_
              exact go_ret dX8_shift_88 rii rfl rfl
            · refine go_aload (pc := 74) dX8_shift_74 rfl ?_
              refine go_iload (pc := 76) dX8_shift_76 rfl ?_
              refine go_iload (pc := 78) dX8_shift_78 rfl ?_
              refine go_T (v := f_Tp_hasPlaces r2 p4 p5 M) ?_
              refine go_callV (pc := 80) (a := r2) (as := [.int p4, .int p5]) (st := []) (o_Tp_hasPlaces r2 p4 p5 g4 M) ic_Tp_hasPlaces ivX8_323 (rcvk g4 (by decide) (by decide) rfl) rfl (by decide) (Nat.le_of_ble_eq_true rfl) dX8_shift_80 (kTi ?_)
              refine go_ifne (pc := 83) 89 dX8_shift_83 (by decide) (fun _ => ?_) (fun _ => ?_)
              · refine go_bipush (pc := 86) (-13) dX8_shift_86 kb_m13 ?_
                exact go_ret dX8_shift_88 rii rfl rfl
              · refine go_aload (pc := 89) dX8_shift_89 rfl ?_
                refine go_getS (pc := 91) (r1 + 132996) flX8_284 rfl (kd32 (t := 8) g3 rfl) (sC_8_2 g3) (knz (by decide)) dX8_shift_91 ?_
                refine go_iload_n (pc := 94) dX8_shift_94 rfl ?_
                refine go_aload (pc := 95) dX8_shift_95 rfl ?_
                refine go_getS (pc := 97) (r2 + 132996) flX8_284 rfl (kd32 (t := 8) g4 rfl) (sC_8_2 g4) (knz (by decide)) dX8_shift_97 ?_
                refine go_iload (pc := 100) dX8_shift_100 rfl ?_
                refine go_iload (pc := 102) dX8_shift_102 rfl ?_
                refine go_copyL (pc := 104) (kd32 (t := 12) (kadd g3 rfl) rfl) (kd32 (t := 12) (kadd g4 rfl) rfl) (kln (kadd g3 rfl) rfl) (kln (kadd g4 rfl) rfl) (gT_of (mtb4 (mt64 (mt64 (mt16 (mt16 (mt4 (mt4 (mt4 (mt1 (List.Mem.head _)))))))))) rfl) ac1 ac2 ac3 (by decide) (Nat.le_of_ble_eq_true rfl) dX8_shift_104 (fun _ M5 => ?_)
                refine go_iload (pc := 107) dX8_shift_107 rfl ?_
                exact go_ret dX8_shift_109 rii rfl rfl
          · refine go_bipush (pc := 60) (-12) dX8_shift_60 kb_m12 ?_
            exact go_ret dX8_shift_62 rii rfl rfl
