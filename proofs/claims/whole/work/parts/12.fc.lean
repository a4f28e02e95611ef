/-! functions read off the bytecode, and that the code runs so (written by program) -/
def f_Co_rubsWith_l4 (t : Nat) (p1 : Nat) (M : Mem) : Nat → Int32 → Int32 → Option Int32
  | 0, _, _ => none
  | n + 1, v2, v3 => if 6 ≤ v3 then some v2 else if (Int32.ofNat (lnA p1)) ≤ v3 then some v2 else gd (inR v3 (lnA p1)) (if (f_D_takenUp v3 (mI M t 5) (mI M t 7) (mI M t 6) (mI M t 4) (mI M (t + 393217) 4) M) ≤ (mI M p1 v3.toNatClampNeg) then lt (v2 + 0) fun x1 => lt (v3 + 1) fun x2 => f_Co_rubsWith_l4 t p1 M n x1 x2 else lt (v2 + 1) fun x3 => lt (v3 + 1) fun x4 => f_Co_rubsWith_l4 t p1 M n x3 x4)
def f_Co_rubsWith (t : Nat) (p1 : Nat) (M : Mem) : Option Int32 := f_Co_rubsWith_l4 t p1 M 200 0 0
theorem o_Co_rubsWith_l4 (t : Nat) (p1 : Nat) (ht : t % 131072 = 3) (hp1 : p1 % 32 = 11) (M : Mem) : ∀ (n : Nat) (v2 : Int32) (v3 : Int32), Go sRC g_Co_rubsWith (fRi M) (f_Co_rubsWith_l4 t p1 M n v2 v3) 4 [.ref t, .ref p1, .int v2, .int v3] [] M := by
  intro n
  induction n with
  | zero =>
    intro v2 v3
    exact go_def (f_Co_rubsWith_l4.eq_1 ..) go_none
  | succ n ih =>
    intro v2 v3
    refine go_def (f_Co_rubsWith_l4.eq_2 ..) ?_
    refine go_iload_n (pc := 4) dX2_rubsWith_4 rfl ?_
    refine go_bipush (pc := 5) 6 dX2_rubsWith_5 kb_6 ?_
    refine go_icmpge (pc := 7) 63 dX2_rubsWith_7 (by decide) (fun _ => ?_) (fun _ => ?_)
    · refine go_iload_n (pc := 63) dX2_rubsWith_63 rfl ?_
      exact go_ret dX2_rubsWith_64 rii rfl rfl
    · refine go_iload_n (pc := 10) dX2_rubsWith_10 rfl ?_
      refine go_aload_n (pc := 11) dX2_rubsWith_11 rfl ?_
      refine go_alen (pc := 12) (by have : p1 % 32 = 11 := hp1; omega) (by have : p1 % 32 = 11 := hp1; omega) rfl dX2_rubsWith_12 ?_
      refine go_icmpge (pc := 13) 63 dX2_rubsWith_13 (by decide) (fun _ => ?_) (fun _ => ?_)
      · refine go_iload_n (pc := 63) dX2_rubsWith_63 rfl ?_
        exact go_ret dX2_rubsWith_64 rii rfl rfl
      · refine go_iload_n (pc := 16) dX2_rubsWith_16 rfl ?_
        refine go_aload_n (pc := 17) dX2_rubsWith_17 rfl ?_
        refine go_iload_n (pc := 18) dX2_rubsWith_18 rfl ?_
        refine go_iald (pc := 19) hp1 rfl dX2_rubsWith_19 (fun _ => ?_)
        refine go_iload_n (pc := 20) dX2_rubsWith_20 rfl ?_
        refine go_aload_n (pc := 21) dX2_rubsWith_21 rfl ?_
        refine go_getI (pc := 22) flX2_82 rfl (kd32 (t := 3) ht rfl) dX2_rubsWith_22 ?_
        refine go_aload_n (pc := 25) dX2_rubsWith_25 rfl ?_
        refine go_getI (pc := 26) flX2_93 rfl (kd32 (t := 3) ht rfl) dX2_rubsWith_26 ?_
        refine go_aload_n (pc := 29) dX2_rubsWith_29 rfl ?_
        refine go_getI (pc := 30) flX2_88 rfl (kd32 (t := 3) ht rfl) dX2_rubsWith_30 ?_
        refine go_aload_n (pc := 33) dX2_rubsWith_33 rfl ?_
        refine go_getI (pc := 34) flX2_60 rfl (kd32 (t := 3) ht rfl) dX2_rubsWith_34 ?_
        refine go_aload_n (pc := 37) dX2_rubsWith_37 rfl ?_
        refine go_getS (pc := 38) (t + 393217) flX2_25 rfl (kd32 (t := 3) ht rfl) (sC_3_1 ht) (knz (by decide)) dX2_rubsWith_38 ?_
        refine go_getI (pc := 41) flX2_131 rfl (kd32 (t := 4) (kadd ht rfl) rfl) dX2_rubsWith_41 ?_
        refine go_T (v := f_D_takenUp v3 (mI M t 5) (mI M t 7) (mI M t 6) (mI M t 4) (mI M (t + 393217) 4) M) ?_
        refine go_callSN (pc := 44) (as := [.int v3, .int (mI M t 5), .int (mI M t 7), .int (mI M t 6), .int (mI M t 4), .int (mI M (t + 393217) 4)]) (st := [.int (mI M p1 v3.toNatClampNeg), .int v2]) (o_D_takenUp v3 (mI M t 5) (mI M t 7) (mI M t 6) (mI M t 4) (mI M (t + 393217) 4) M) ic_D_takenUp ivX2_134 rfl (by decide) (Nat.le_of_ble_eq_true rfl) dX2_rubsWith_44 (kTi ?_)
        refine go_icmpge (pc := 47) 54 dX2_rubsWith_47 (by decide) (fun _ => ?_) (fun _ => ?_)
        · refine go_iconst (pc := 54) 0 dX2_rubsWith_54 ki_0 ?_
          refine go_iadd (pc := 55) dX2_rubsWith_55 ?_
          refine go_istore_nL (pc := 56) (L := fun x1 => [.ref t, .ref p1, .int x1, .int v3]) dX2_rubsWith_56 (Nat.le_of_ble_eq_true rfl) rfl (fun _ => rfl) (fun x1 => ?_)
          refine go_iincL (pc := 57) (L := fun x2 => [.ref t, .ref p1, .int x1, .int x2]) 1 dX2_rubsWith_57 rfl ki_1 (Nat.le_of_ble_eq_true rfl) rfl (fun _ => rfl) (fun x2 => ?_)
          refine go_goto (pc := 60) 4 dX2_rubsWith_60 (by decide) ?_
          exact ih x1 x2
        · refine go_iconst (pc := 50) 1 dX2_rubsWith_50 ki_1 ?_
          refine go_goto (pc := 51) 55 dX2_rubsWith_51 (by decide) ?_
          refine go_iadd (pc := 55) dX2_rubsWith_55 ?_
          refine go_istore_nL (pc := 56) (L := fun x3 => [.ref t, .ref p1, .int x3, .int v3]) dX2_rubsWith_56 (Nat.le_of_ble_eq_true rfl) rfl (fun _ => rfl) (fun x3 => ?_)
          refine go_iincL (pc := 57) (L := fun x4 => [.ref t, .ref p1, .int x3, .int x4]) 1 dX2_rubsWith_57 rfl ki_1 (Nat.le_of_ble_eq_true rfl) rfl (fun _ => rfl) (fun x4 => ?_)
          refine go_goto (pc := 60) 4 dX2_rubsWith_60 (by decide) ?_
          exact ih x3 x4
theorem o_Co_rubsWith (t : Nat) (p1 : Nat) (ht : t % 131072 = 3) (hp1 : p1 % 32 = 11) (M : Mem) : Ct sRC g_Co_rubsWith (fRi M) [.ref t, .ref p1] (f_Co_rubsWith t p1 M) M := by
  refine ⟨Nat.le_of_ble_eq_true rfl, ?_⟩
  show Go sRC g_Co_rubsWith (fRi M) (f_Co_rubsWith t p1 M) 0 [.ref t, .ref p1, .null, .null] [] M
  refine go_def (f_Co_rubsWith.eq_1 ..) ?_
  refine go_iconst (pc := 0) 0 dX2_rubsWith_0 ki_0 ?_
  refine go_istore_n (pc := 1) (ls' := [.ref t, .ref p1, .int 0, .null]) dX2_rubsWith_1 (Nat.le_of_ble_eq_true rfl) rfl rfl ?_
  refine go_iconst (pc := 2) 0 dX2_rubsWith_2 ki_0 ?_
  refine go_istore_n (pc := 3) (ls' := [.ref t, .ref p1, .int 0, .int 0]) dX2_rubsWith_3 (Nat.le_of_ble_eq_true rfl) rfl rfl ?_
  exact o_Co_rubsWith_l4 t p1 ht hp1 M 200 0 0
def f_Co_missing (t : Nat) (p1 : Int32) (M : Mem) : Option Int32 := gd (inR p1 6) (some (mxI 0 (-(mI M (t + 1179848) p1.toNatClampNeg))))
theorem o_Co_missing (t : Nat) (p1 : Int32) (ht : t % 131072 = 3) (M : Mem) : Ct sRC g_Co_missing (fRi M) [.ref t, .int p1] (f_Co_missing t p1 M) M := by
  refine ⟨Nat.le_of_ble_eq_true rfl, ?_⟩
  show Go sRC g_Co_missing (fRi M) (f_Co_missing t p1 M) 0 [.ref t, .int p1] [] M
  refine go_def (f_Co_missing.eq_1 ..) ?_
  refine go_iconst (pc := 0) 0 dX2_missing_0 ki_0 ?_
  refine go_aload_n (pc := 1) dX2_missing_1 rfl ?_
  refine go_getS (pc := 2) (t + 1179848) flX2_33 rfl (kd32 (t := 3) ht rfl) (sC_3_8 ht) (knz (by decide)) dX2_missing_2 ?_
  refine go_iload_n (pc := 5) dX2_missing_5 rfl ?_
  refine go_iald (pc := 6) (kd32 (t := 11) (kadd ht rfl) rfl) (kln (kadd ht rfl) rfl) dX2_missing_6 (fun _ => ?_)
  refine go_ineg (pc := 7) dX2_missing_7 ?_
  refine go_max (pc := 8) (gT_of (mtb3 (mt64 (mt64 (mt64 (mt16 (mt16 (mt4 (mt4 (mt1 (mt1 (List.Mem.head _))))))))))) rfl) mw_max1 mw_i mw_max2 (by decide) (Nat.le_of_ble_eq_true rfl) dX2_missing_8 ?_
  exact go_ret dX2_missing_11 rii rfl rfl
def f_Co_missingSpots_l4 (t : Nat) (M : Mem) : Nat → Int32 → Int32 → Option Int32
  | 0, _, _ => none
  | n + 1, v1, v2 => if 6 ≤ v2 then some v1 else bd (f_Co_missing t v2 M) fun r1 => if r1 ≤ 0 then lt (v1 + 0) fun x2 => lt (v2 + 1) fun x3 => f_Co_missingSpots_l4 t M n x2 x3 else lt (v1 + 1) fun x4 => lt (v2 + 1) fun x5 => f_Co_missingSpots_l4 t M n x4 x5
def f_Co_missingSpots (t : Nat) (M : Mem) : Option Int32 := f_Co_missingSpots_l4 t M 200 0 0
theorem o_Co_missingSpots_l4 (t : Nat) (ht : t % 131072 = 3) (M : Mem) : ∀ (n : Nat) (v1 : Int32) (v2 : Int32), Go sRC g_Co_missingSpots (fRi M) (f_Co_missingSpots_l4 t M n v1 v2) 4 [.ref t, .int v1, .int v2] [] M := by
  intro n
  induction n with
  | zero =>
    intro v1 v2
    exact go_def (f_Co_missingSpots_l4.eq_1 ..) go_none
  | succ n ih =>
    intro v1 v2
    refine go_def (f_Co_missingSpots_l4.eq_2 ..) ?_
    refine go_iload_n (pc := 4) dX2_missingSpots_4 rfl ?_
    refine go_bipush (pc := 5) 6 dX2_missingSpots_5 kb_6 ?_
    refine go_icmpge (pc := 7) 32 dX2_missingSpots_7 (by decide) (fun _ => ?_) (fun _ => ?_)
    · refine go_iload_n (pc := 32) dX2_missingSpots_32 rfl ?_
      exact go_ret dX2_missingSpots_33 rii rfl rfl
    · refine go_iload_n (pc := 10) dX2_missingSpots_10 rfl ?_
      refine go_aload_n (pc := 11) dX2_missingSpots_11 rfl ?_
      refine go_iload_n (pc := 12) dX2_missingSpots_12 rfl ?_
      refine go_callV (pc := 13) (a := t) (as := [.int v2]) (st := [.int v1]) (o_Co_missing t v2 ht M) ic_Co_missing ivX2_141 (rcvk ht (by decide) (by decide) rfl) rfl (by decide) (Nat.le_of_ble_eq_true rfl) dX2_missingSpots_13 (kRi fun r1 => ?_)
      refine go_ifle (pc := 16) 23 dX2_missingSpots_16 (by decide) (fun _ => ?_) (fun _ => ?_)
      · refine go_iconst (pc := 23) 0 dX2_missingSpots_23 ki_0 ?_
        refine go_iadd (pc := 24) dX2_missingSpots_24 ?_
        refine go_istore_nL (pc := 25) (L := fun x2 => [.ref t, .int x2, .int v2]) dX2_missingSpots_25 (Nat.le_of_ble_eq_true rfl) rfl (fun _ => rfl) (fun x2 => ?_)
        refine go_iincL (pc := 26) (L := fun x3 => [.ref t, .int x2, .int x3]) 1 dX2_missingSpots_26 rfl ki_1 (Nat.le_of_ble_eq_true rfl) rfl (fun _ => rfl) (fun x3 => ?_)
        refine go_goto (pc := 29) 4 dX2_missingSpots_29 (by decide) ?_
        exact ih x2 x3
      · refine go_iconst (pc := 19) 1 dX2_missingSpots_19 ki_1 ?_
        refine go_goto (pc := 20) 24 dX2_missingSpots_20 (by decide) ?_
        refine go_iadd (pc := 24) dX2_missingSpots_24 ?_
        refine go_istore_nL (pc := 25) (L := fun x4 => [.ref t, .int x4, .int v2]) dX2_missingSpots_25 (Nat.le_of_ble_eq_true rfl) rfl (fun _ => rfl) (fun x4 => ?_)
        refine go_iincL (pc := 26) (L := fun x5 => [.ref t, .int x4, .int x5]) 1 dX2_missingSpots_26 rfl ki_1 (Nat.le_of_ble_eq_true rfl) rfl (fun _ => rfl) (fun x5 => ?_)
        refine go_goto (pc := 29) 4 dX2_missingSpots_29 (by decide) ?_
        exact ih x4 x5
theorem o_Co_missingSpots (t : Nat) (ht : t % 131072 = 3) (M : Mem) : Ct sRC g_Co_missingSpots (fRi M) [.ref t] (f_Co_missingSpots t M) M := by
  refine ⟨Nat.le_of_ble_eq_true rfl, ?_⟩
  show Go sRC g_Co_missingSpots (fRi M) (f_Co_missingSpots t M) 0 [.ref t, .null, .null] [] M
  refine go_def (f_Co_missingSpots.eq_1 ..) ?_
  refine go_iconst (pc := 0) 0 dX2_missingSpots_0 ki_0 ?_
  refine go_istore_n (pc := 1) (ls' := [.ref t, .int 0, .null]) dX2_missingSpots_1 (Nat.le_of_ble_eq_true rfl) rfl rfl ?_
  refine go_iconst (pc := 2) 0 dX2_missingSpots_2 ki_0 ?_
  refine go_istore_n (pc := 3) (ls' := [.ref t, .int 0, .int 0]) dX2_missingSpots_3 (Nat.le_of_ble_eq_true rfl) rfl rfl ?_
  exact o_Co_missingSpots_l4 t ht M 200 0 0
def f_Co_fitsWhenCut_l2 (t : Nat) (M : Mem) : Nat → Int32 → Option Int32
  | 0, _ => none
  | n + 1, v1 => if 6 ≤ v1 then some 1 else gd (inR v1 6) (bd (f_Co_missing t v1 M) fun r1 => gd (mR M t 0 % 131072 = 6) (if ((mI M (t + 1310920) v1.toNatClampNeg) + r1) ≤ (mI M (mR M t 0) 3) then lt (v1 + 1) fun x3 => f_Co_fitsWhenCut_l2 t M n x3 else some 0))
def f_Co_fitsWhenCut (t : Nat) (M : Mem) : Option Int32 := f_Co_fitsWhenCut_l2 t M 200 0
theorem o_Co_fitsWhenCut_l2 (t : Nat) (ht : t % 131072 = 3) (M : Mem) : ∀ (n : Nat) (v1 : Int32), Go sRC g_Co_fitsWhenCut (fRi M) (f_Co_fitsWhenCut_l2 t M n v1) 2 [.ref t, .int v1] [] M := by
  intro n
  induction n with
  | zero =>
    intro v1
    exact go_def (f_Co_fitsWhenCut_l2.eq_1 ..) go_none
  | succ n ih =>
    intro v1
    refine go_def (f_Co_fitsWhenCut_l2.eq_2 ..) ?_
    refine go_iload_n (pc := 2) dX2_fitsWhenCut_2 rfl ?_
    refine go_bipush (pc := 3) 6 dX2_fitsWhenCut_3 kb_6 ?_
    refine go_icmpge (pc := 5) 38 dX2_fitsWhenCut_5 (by decide) (fun _ => ?_) (fun _ => ?_)
    · refine go_iconst (pc := 38) 1 dX2_fitsWhenCut_38 ki_1 ?_
      exact go_ret dX2_fitsWhenCut_39 (rbz (Or.inr rfl)) rfl rfl
    · refine go_aload_n (pc := 8) dX2_fitsWhenCut_8 rfl ?_
      refine go_getS (pc := 9) (t + 1310920) flX2_36 rfl (kd32 (t := 3) ht rfl) (sC_3_9 ht) (knz (by decide)) dX2_fitsWhenCut_9 ?_
      refine go_iload_n (pc := 12) dX2_fitsWhenCut_12 rfl ?_
      refine go_iald (pc := 13) (kd32 (t := 11) (kadd ht rfl) rfl) (kln (kadd ht rfl) rfl) dX2_fitsWhenCut_13 (fun _ => ?_)
      refine go_aload_n (pc := 14) dX2_fitsWhenCut_14 rfl ?_
      refine go_iload_n (pc := 15) dX2_fitsWhenCut_15 rfl ?_
      refine go_callV (pc := 16) (a := t) (as := [.int v1]) (st := [.int (mI M (t + 1310920) v1.toNatClampNeg)]) (o_Co_missing t v1 ht M) ic_Co_missing ivX2_141 (rcvk ht (by decide) (by decide) rfl) rfl (by decide) (Nat.le_of_ble_eq_true rfl) dX2_fitsWhenCut_16 (kRi fun r1 => ?_)
      refine go_iadd (pc := 19) dX2_fitsWhenCut_19 ?_
      refine go_aload_n (pc := 20) dX2_fitsWhenCut_20 rfl ?_
      refine go_getR (pc := 21) flX2_16 rfl (kd32 (t := 3) ht rfl) dX2_fitsWhenCut_21 ?_
      refine go_gd fun g2 => ?_
      refine go_getI (pc := 24) flX2_138 rfl (kd32 (t := 6) g2 rfl) dX2_fitsWhenCut_24 ?_
      refine go_icmple (pc := 27) 32 dX2_fitsWhenCut_27 (by decide) (fun _ => ?_) (fun _ => ?_)
      · refine go_iincL (pc := 32) (L := fun x3 => [.ref t, .int x3]) 1 dX2_fitsWhenCut_32 rfl ki_1 (Nat.le_of_ble_eq_true rfl) rfl (fun _ => rfl) (fun x3 => ?_)
        refine go_goto (pc := 35) 2 dX2_fitsWhenCut_35 (by decide) ?_
        exact ih x3
      · refine go_iconst (pc := 30) 0 dX2_fitsWhenCut_30 ki_0 ?_
        exact go_ret dX2_fitsWhenCut_31 (rbz (Or.inl rfl)) rfl rfl
theorem o_Co_fitsWhenCut (t : Nat) (ht : t % 131072 = 3) (M : Mem) : Ct sRC g_Co_fitsWhenCut (fRi M) [.ref t] (f_Co_fitsWhenCut t M) M := by
  refine ⟨Nat.le_of_ble_eq_true rfl, ?_⟩
  show Go sRC g_Co_fitsWhenCut (fRi M) (f_Co_fitsWhenCut t M) 0 [.ref t, .null] [] M
  refine go_def (f_Co_fitsWhenCut.eq_1 ..) ?_
  refine go_iconst (pc := 0) 0 dX2_fitsWhenCut_0 ki_0 ?_
  refine go_istore_n (pc := 1) (ls' := [.ref t, .int 0]) dX2_fitsWhenCut_1 (Nat.le_of_ble_eq_true rfl) rfl rfl ?_
  exact o_Co_fitsWhenCut_l2 t ht M 200 0
def f_Ar_fillI_l5 (p1 : Nat) : Nat → Int32 → Int32 → Int32 → Mem → Option Mem
  | 0, _, _, _, _ => none
  | n + 1, v1, v2, v3, M => if v3 ≤ v2 then some M else gd (inR v2 (lnA p1)) (lt (setI M p1 v2.toNatClampNeg v1) fun M2 => lt (v2 + 1) fun x3 => f_Ar_fillI_l5 p1 n v1 x3 v3 M2)
def f_Ar_fillI (p1 : Nat) (p2 : Int32) (M : Mem) : Option Mem := lt (Int32.ofNat (lnA p1)) fun x1 => f_Ar_fillI_l5 p1 200 p2 0 x1 M
theorem o_Ar_fillI_l5 (sR : Nat → Nat → Nat) (hz : dynZ sR) (p1 : Nat) (hp1 : p1 % 32 = 11) : ∀ (n : Nat) (v1 : Int32) (v2 : Int32) (v3 : Int32) (M : Mem), Go sR g_Ar_fillI fWv (f_Ar_fillI_l5 p1 n v1 v2 v3 M) 5 [.ref p1, .int v1, .int v2, .int v3] [] M := by
  intro n
  induction n with
  | zero =>
    intro v1 v2 v3 M
    exact go_def (f_Ar_fillI_l5.eq_1 ..) go_none
  | succ n ih =>
    intro v1 v2 v3 M
    refine go_def (f_Ar_fillI_l5.eq_2 ..) ?_
    refine go_iload_n (pc := 5) dJ7_fill_53178_5 rfl ?_
    refine go_iload_n (pc := 6) dJ7_fill_53178_6 rfl ?_
    refine go_icmpge (pc := 7) 20 dJ7_fill_53178_7 (by decide) (fun _ => ?_) (fun _ => ?_)
    · exact go_ret dJ7_fill_53178_20 rfl rfl rfl
    · refine go_aload_n (pc := 10) dJ7_fill_53178_10 rfl ?_
      refine go_iload_n (pc := 11) dJ7_fill_53178_11 rfl ?_
      refine go_iload_n (pc := 12) dJ7_fill_53178_12 rfl ?_
      refine go_iast (pc := 13) hp1 rfl dJ7_fill_53178_13 (fun _ M2 => ?_)
      refine go_iincL (pc := 14) (L := fun x3 => [.ref p1, .int v1, .int x3, .int v3]) 1 dJ7_fill_53178_14 rfl ki_1 (Nat.le_of_ble_eq_true rfl) rfl (fun _ => rfl) (fun x3 => ?_)
      refine go_goto (pc := 17) 5 dJ7_fill_53178_17 (by decide) ?_
      exact ih v1 x3 v3 M2
theorem o_Ar_fillI (sR : Nat → Nat → Nat) (hz : dynZ sR) (p1 : Nat) (p2 : Int32) (hp1 : p1 % 32 = 11) (M : Mem) : Ct sR g_Ar_fillI fWv [.ref p1, .int p2] (f_Ar_fillI p1 p2 M) M := by
  refine ⟨Nat.le_of_ble_eq_true rfl, ?_⟩
  show Go sR g_Ar_fillI fWv (f_Ar_fillI p1 p2 M) 0 [.ref p1, .int p2, .null, .null] [] M
  refine go_def (f_Ar_fillI.eq_1 ..) ?_
  refine go_iconst (pc := 0) 0 dJ7_fill_53178_0 ki_0 ?_
  refine go_istore_n (pc := 1) (ls' := [.ref p1, .int p2, .int 0, .null]) dJ7_fill_53178_1 (Nat.le_of_ble_eq_true rfl) rfl rfl ?_
  refine go_aload_n (pc := 2) dJ7_fill_53178_2 rfl ?_
  refine go_alen (pc := 3) (by have : p1 % 32 = 11 := hp1; omega) (by have : p1 % 32 = 11 := hp1; omega) rfl dJ7_fill_53178_3 ?_
  refine go_istore_nL (pc := 4) (L := fun x1 => [.ref p1, .int p2, .int 0, .int x1]) dJ7_fill_53178_4 (Nat.le_of_ble_eq_true rfl) rfl (fun _ => rfl) (fun x1 => ?_)
  exact o_Ar_fillI_l5 sR hz p1 hp1 200 p2 0 x1 M
def f_Dr_begin (t : Nat) (p1 : Int32) (p2 : Int32) (p3 : Int32) (M : Mem) : Option Mem := lt (setI M t 0 p1) fun M1 => lt (setI M1 t 1 p2) fun M2 => lt (setI M2 t 2 p3) fun M3 => lt (setI M3 t 3 0) fun M4 => lt (setI M4 t 4 0) fun M5 => bd (f_Ar_fillI (t + 131143) 50 M5) fun M6 => bd (f_Ar_fillI (t + 262215) 0 M6) fun M7 => bd (f_Ar_fillI (t + 393415) 4 M7) fun M8 => some M8
theorem o_Dr_begin (t : Nat) (p1 : Int32) (p2 : Int32) (p3 : Int32) (ht : t % 131072 = 4) (M : Mem) : Ct sRC g_Dr_begin fWv [.ref t, .int p1, .int p2, .int p3] (f_Dr_begin t p1 p2 p3 M) M := by
  refine ⟨Nat.le_of_ble_eq_true rfl, ?_⟩
  show Go sRC g_Dr_begin fWv (f_Dr_begin t p1 p2 p3 M) 0 [.ref t, .int p1, .int p2, .int p3] [] M
  refine go_def (f_Dr_begin.eq_1 ..) ?_
  refine go_aload_n (pc := 0) dX3_begin_0 rfl ?_
  refine go_iload_n (pc := 1) dX3_begin_1 rfl ?_
  refine go_putI (pc := 2) flX3_24 rfl (Or.inl rfl) ⟨rfl, rfl⟩ (kd32 (t := 4) ht rfl) dX3_begin_2 (fun M1 => ?_)
  refine go_aload_n (pc := 5) dX3_begin_5 rfl ?_
  refine go_iload_n (pc := 6) dX3_begin_6 rfl ?_
  refine go_putI (pc := 7) flX3_28 rfl (Or.inl rfl) ⟨rfl, rfl⟩ (kd32 (t := 4) ht rfl) dX3_begin_7 (fun M2 => ?_)
  refine go_aload_n (pc := 10) dX3_begin_10 rfl ?_
  refine go_iload_n (pc := 11) dX3_begin_11 rfl ?_
  refine go_putI (pc := 12) flX3_31 rfl (Or.inl rfl) ⟨rfl, rfl⟩ (kd32 (t := 4) ht rfl) dX3_begin_12 (fun M3 => ?_)
  refine go_aload_n (pc := 15) dX3_begin_15 rfl ?_
  refine go_iconst (pc := 16) 0 dX3_begin_16 ki_0 ?_
  refine go_putI (pc := 17) flX3_34 rfl (Or.inl rfl) ⟨rfl, rfl⟩ (kd32 (t := 4) ht rfl) dX3_begin_17 (fun M4 => ?_)
  refine go_aload_n (pc := 20) dX3_begin_20 rfl ?_
  refine go_iconst (pc := 21) 0 dX3_begin_21 ki_0 ?_
  refine go_putI (pc := 22) flX3_37 rfl (Or.inl rfl) ⟨rfl, rfl⟩ (kd32 (t := 4) ht rfl) dX3_begin_22 (fun M5 => ?_)
  refine go_aload_n (pc := 25) dX3_begin_25 rfl ?_
  refine go_getS (pc := 26) (t + 131143) flX3_9 rfl (kd32 (t := 4) ht rfl) (sC_4_5 ht) (knz (by decide)) dX3_begin_26 ?_
  refine go_bipush (pc := 29) 50 dX3_begin_29 kb_50 ?_
  refine go_callS (pc := 31) (as := [.ref (t + 131143), .int 50]) (st := []) (o_Ar_fillI sRC dzC (t + 131143) 50 (kd32 (t := 11) (kadd ht rfl) rfl) M5) ic_Ar_fillI ivX3_40 rfl (by decide) (Nat.le_of_ble_eq_true rfl) dX3_begin_31 (kWv fun M6 => ?_)
  refine go_aload_n (pc := 34) dX3_begin_34 rfl ?_
  refine go_getS (pc := 35) (t + 262215) flX3_15 rfl (kd32 (t := 4) ht rfl) (sC_4_6 ht) (knz (by decide)) dX3_begin_35 ?_
  refine go_iconst (pc := 38) 0 dX3_begin_38 ki_0 ?_
  refine go_callS (pc := 39) (as := [.ref (t + 262215), .int 0]) (st := []) (o_Ar_fillI sRC dzC (t + 262215) 0 (kd32 (t := 11) (kadd ht rfl) rfl) M6) ic_Ar_fillI ivX3_40 rfl (by decide) (Nat.le_of_ble_eq_true rfl) dX3_begin_39 (kWv fun M7 => ?_)
  refine go_aload_n (pc := 42) dX3_begin_42 rfl ?_
  refine go_getS (pc := 43) (t + 393415) flX3_18 rfl (kd32 (t := 4) ht rfl) (sC_4_7 ht) (knz (by decide)) dX3_begin_43 ?_
  refine go_iconst (pc := 46) 4 dX3_begin_46 ki_4 ?_
  refine go_callS (pc := 47) (as := [.ref (t + 393415), .int 4]) (st := []) (o_Ar_fillI sRC dzC (t + 393415) 4 (kd32 (t := 11) (kadd ht rfl) rfl) M7) ic_Ar_fillI ivX3_40 rfl (by decide) (Nat.le_of_ble_eq_true rfl) dX3_begin_47 (kWv fun M8 => ?_)
  exact go_ret dX3_begin_50 rfl rfl rfl
def f_Dr_cutMore (t : Nat) (p1 : Int32) (p2 : Int32) (M : Mem) : Option (Int32 × Mem) := gd (inR p1 6) (lt (mI M (t + 393415) p1.toNatClampNeg) fun x1 => gd (inR p1 6) (lt (setI M (t + 393415) p1.toNatClampNeg (mxI 0 (mnI 99 (x1 + p2)))) fun M2 => some (x1, M2)))
theorem o_Dr_cutMore (t : Nat) (p1 : Int32) (p2 : Int32) (ht : t % 131072 = 4) (M : Mem) : Ct sRC g_Dr_cutMore fWi [.ref t, .int p1, .int p2] (f_Dr_cutMore t p1 p2 M) M := by
  refine ⟨Nat.le_of_ble_eq_true rfl, ?_⟩
  show Go sRC g_Dr_cutMore fWi (f_Dr_cutMore t p1 p2 M) 0 [.ref t, .int p1, .int p2, .null] [] M
  refine go_def (f_Dr_cutMore.eq_1 ..) ?_
  refine go_aload_n (pc := 0) dX3_cutMore_0 rfl ?_
  refine go_getS (pc := 1) (t + 393415) flX3_18 rfl (kd32 (t := 4) ht rfl) (sC_4_7 ht) (knz (by decide)) dX3_cutMore_1 ?_
  refine go_iload_n (pc := 4) dX3_cutMore_4 rfl ?_
  refine go_iald (pc := 5) (kd32 (t := 11) (kadd ht rfl) rfl) (kln (kadd ht rfl) rfl) dX3_cutMore_5 (fun _ => ?_)
  refine go_istore_nL (pc := 6) (L := fun x1 => [.ref t, .int p1, .int p2, .int x1]) dX3_cutMore_6 (Nat.le_of_ble_eq_true rfl) rfl (fun _ => rfl) (fun x1 => ?_)
  refine go_aload_n (pc := 7) dX3_cutMore_7 rfl ?_
  refine go_getS (pc := 8) (t + 393415) flX3_18 rfl (kd32 (t := 4) ht rfl) (sC_4_7 ht) (knz (by decide)) dX3_cutMore_8 ?_
  refine go_iload_n (pc := 11) dX3_cutMore_11 rfl ?_
  refine go_iconst (pc := 12) 0 dX3_cutMore_12 ki_0 ?_
  refine go_bipush (pc := 13) 99 dX3_cutMore_13 kb_99 ?_
  refine go_iload_n (pc := 15) dX3_cutMore_15 rfl ?_
  refine go_iload_n (pc := 16) dX3_cutMore_16 rfl ?_
  refine go_iadd (pc := 17) dX3_cutMore_17 ?_
  refine go_min (pc := 18) (gT_of (mtb3 (mt64 (mt64 (mt16 (mt16 (mt4 (mt4 (mt4 (mt1 (List.Mem.head _)))))))))) rfl) mw_min1 mw_i mw_min2 (by decide) (Nat.le_of_ble_eq_true rfl) dX3_cutMore_18 ?_
  refine go_max (pc := 21) (gT_of (mtb2 (mt64 (mt64 (mt16 (List.Mem.head _))))) rfl) mw_max1 mw_i mw_max2 (by decide) (Nat.le_of_ble_eq_true rfl) dX3_cutMore_21 ?_
  refine go_iast (pc := 24) (kd32 (t := 11) (kadd ht rfl) rfl) (kln (kadd ht rfl) rfl) dX3_cutMore_24 (fun _ M2 => ?_)
  refine go_iload_n (pc := 25) dX3_cutMore_25 rfl ?_
  exact go_ret dX3_cutMore_26 rii rfl rfl
def f_Dr_packMore (t : Nat) (p1 : Int32) (M : Mem) : Option (Int32 × Mem) := lt (mI M t 4) fun x1 => lt (setI M t 4 (mnI 9 (x1 + p1))) fun M2 => some (x1, M2)
theorem o_Dr_packMore (t : Nat) (p1 : Int32) (ht : t % 131072 = 4) (M : Mem) : Ct sRC g_Dr_packMore fWi [.ref t, .int p1] (f_Dr_packMore t p1 M) M := by
  refine ⟨Nat.le_of_ble_eq_true rfl, ?_⟩
  show Go sRC g_Dr_packMore fWi (f_Dr_packMore t p1 M) 0 [.ref t, .int p1, .null] [] M
  refine go_def (f_Dr_packMore.eq_1 ..) ?_
  refine go_aload_n (pc := 0) dX3_packMore_0 rfl ?_
  refine go_getI (pc := 1) flX3_37 rfl (kd32 (t := 4) ht rfl) dX3_packMore_1 ?_
  refine go_istore_nL (pc := 4) (L := fun x1 => [.ref t, .int p1, .int x1]) dX3_packMore_4 (Nat.le_of_ble_eq_true rfl) rfl (fun _ => rfl) (fun x1 => ?_)
  refine go_aload_n (pc := 5) dX3_packMore_5 rfl ?_
  refine go_bipush (pc := 6) 9 dX3_packMore_6 kb_9 ?_
  refine go_iload_n (pc := 8) dX3_packMore_8 rfl ?_
  refine go_iload_n (pc := 9) dX3_packMore_9 rfl ?_
  refine go_iadd (pc := 10) dX3_packMore_10 ?_
  refine go_min (pc := 11) (gT_of (mtb3 (mt64 (mt64 (mt16 (mt16 (mt4 (mt4 (mt4 (mt1 (List.Mem.head _)))))))))) rfl) mw_min1 mw_i mw_min2 (by decide) (Nat.le_of_ble_eq_true rfl) dX3_packMore_11 ?_
  refine go_putI (pc := 14) flX3_37 rfl (Or.inl rfl) ⟨rfl, rfl⟩ (kd32 (t := 4) ht rfl) dX3_packMore_14 (fun M2 => ?_)
  refine go_iload_n (pc := 17) dX3_packMore_17 rfl ?_
  exact go_ret dX3_packMore_18 rii rfl rfl
def f_Dr_driveScrews (t : Nat) (M : Mem) : Option (Int32 × Mem) := lt (mI M t 3) fun x1 => lt (setI M t 3 0) fun M2 => some (x1, M2)
theorem o_Dr_driveScrews (t : Nat) (ht : t % 131072 = 4) (M : Mem) : Ct sRC g_Dr_driveScrews fWi [.ref t] (f_Dr_driveScrews t M) M := by
  refine ⟨Nat.le_of_ble_eq_true rfl, ?_⟩
  show Go sRC g_Dr_driveScrews fWi (f_Dr_driveScrews t M) 0 [.ref t, .null] [] M
  refine go_def (f_Dr_driveScrews.eq_1 ..) ?_
  refine go_aload_n (pc := 0) dX3_driveScrews_0 rfl ?_
  refine go_getI (pc := 1) flX3_34 rfl (kd32 (t := 4) ht rfl) dX3_driveScrews_1 ?_
  refine go_istore_nL (pc := 4) (L := fun x1 => [.ref t, .int x1]) dX3_driveScrews_4 (Nat.le_of_ble_eq_true rfl) rfl (fun _ => rfl) (fun x1 => ?_)
  refine go_aload_n (pc := 5) dX3_driveScrews_5 rfl ?_
  refine go_iconst (pc := 6) 0 dX3_driveScrews_6 ki_0 ?_
  refine go_putI (pc := 7) flX3_34 rfl (Or.inl rfl) ⟨rfl, rfl⟩ (kd32 (t := 4) ht rfl) dX3_driveScrews_7 (fun M2 => ?_)
  refine go_iload_n (pc := 10) dX3_driveScrews_10 rfl ?_
  exact go_ret dX3_driveScrews_11 rii rfl rfl
def f_Dr_paintSide (t : Nat) (p1 : Int32) (M : Mem) : Option (Int32 × Mem) := gd (inR p1 2) (lt (mI M (t + 262215) p1.toNatClampNeg) fun x1 => gd (inR p1 2) (lt (setI M (t + 262215) p1.toNatClampNeg 1) fun M2 => some (x1, M2)))
theorem o_Dr_paintSide (t : Nat) (p1 : Int32) (ht : t % 131072 = 4) (M : Mem) : Ct sRC g_Dr_paintSide fWi [.ref t, .int p1] (f_Dr_paintSide t p1 M) M := by
  refine ⟨Nat.le_of_ble_eq_true rfl, ?_⟩
  show Go sRC g_Dr_paintSide fWi (f_Dr_paintSide t p1 M) 0 [.ref t, .int p1, .null] [] M
  refine go_def (f_Dr_paintSide.eq_1 ..) ?_
  refine go_aload_n (pc := 0) dX3_paintSide_0 rfl ?_
  refine go_getS (pc := 1) (t + 262215) flX3_15 rfl (kd32 (t := 4) ht rfl) (sC_4_6 ht) (knz (by decide)) dX3_paintSide_1 ?_
  refine go_iload_n (pc := 4) dX3_paintSide_4 rfl ?_
  refine go_iald (pc := 5) (kd32 (t := 11) (kadd ht rfl) rfl) (kln (kadd ht rfl) rfl) dX3_paintSide_5 (fun _ => ?_)
  refine go_istore_nL (pc := 6) (L := fun x1 => [.ref t, .int p1, .int x1]) dX3_paintSide_6 (Nat.le_of_ble_eq_true rfl) rfl (fun _ => rfl) (fun x1 => ?_)
  refine go_aload_n (pc := 7) dX3_paintSide_7 rfl ?_
  refine go_getS (pc := 8) (t + 262215) flX3_15 rfl (kd32 (t := 4) ht rfl) (sC_4_6 ht) (knz (by decide)) dX3_paintSide_8 ?_
  refine go_iload_n (pc := 11) dX3_paintSide_11 rfl ?_
  refine go_iconst (pc := 12) 1 dX3_paintSide_12 ki_1 ?_
  refine go_iast (pc := 13) (kd32 (t := 11) (kadd ht rfl) rfl) (kln (kadd ht rfl) rfl) dX3_paintSide_13 (fun _ M2 => ?_)
  refine go_iload_n (pc := 14) dX3_paintSide_14 rfl ?_
  exact go_ret dX3_paintSide_15 rii rfl rfl
def f_Hm_init_l52 (t : Nat) : Nat → Int32 → Mem → Option Mem
  | 0, _, _ => none
  | n + 1, v1, M => if 4 ≤ v1 then some M else lt (nid M 4) fun a20 => lt (newM M 4 9) fun M21 => bd (f_Dr_init a20 M21) fun M23 => gd (mR M t 1 % 32 = 14) (gd (inR v1 (lnA (mR M t 1))) (lt (setR M23 (mR M t 1) v1.toNatClampNeg a20) fun M24 => lt (v1 + 1) fun x26 => f_Hm_init_l52 t n x26 M24))
def f_Hm_init (t : Nat) (M : Mem) : Option Mem := lt (nid M (12 * 32 + 11)) fun a1 => lt (newM M (12 * 32 + 11) (12)) fun M2 => lt (setR M2 t 0 a1) fun M4 => lt (nid M4 (4 * 32 + 14)) fun a5 => lt (newM M4 (4 * 32 + 14) (4)) fun M6 => lt (setR M6 t 1 a5) fun M8 => lt (setI M8 t 5 (-1)) fun M9 => lt (nid M9 (12 * 32 + 11)) fun a10 => lt (newM M9 (12 * 32 + 11) (12)) fun M11 => lt (setR M11 t 6 a10) fun M13 => lt (nid M13 (12 * 32 + 11)) fun a14 => lt (newM M13 (12 * 32 + 11) (12)) fun M15 => lt (setR M15 t 7 a14) fun M17 => gd (mR M17 t 0 % 32 = 11) (bd (f_Ar_fillI (mR M17 t 0) 50 M17) fun M19 => f_Hm_init_l52 t 200 0 M19)
theorem o_Hm_init_l52 (t : Nat) (ht : t % 131072 = 5) : ∀ (n : Nat) (v1 : Int32) (M : Mem), Go sR0 g_Hm_init fWv (f_Hm_init_l52 t n v1 M) 52 [.ref t, .int v1] [] M := by
  intro n
  induction n with
  | zero =>
    intro v1 M
    exact go_def (f_Hm_init_l52.eq_1 ..) go_none
  | succ n ih =>
    intro v1 M
    refine go_def (f_Hm_init_l52.eq_2 ..) ?_
    refine go_iload_n (pc := 52) dX4_init_52 rfl ?_
    refine go_iconst (pc := 53) 4 dX4_init_53 ki_4 ?_
    refine go_icmpge (pc := 54) 76 dX4_init_54 (by decide) (fun _ => ?_) (fun _ => ?_)
    · exact go_ret dX4_init_76 rfl rfl rfl
    · refine go_aload_n (pc := 57) dX4_init_57 rfl ?_
      refine go_getR (pc := 58) flX4_17 rfl (kd32 (t := 5) ht rfl) dX4_init_58 ?_
      refine go_iload_n (pc := 61) dX4_init_61 rfl ?_
      refine go_new (pc := 62) (t := 4) (by decide) (by decide) (fun _ _ => rfl) (gT_of (mtb1 (mt16 (mt16 (mt1 (List.Mem.head _))))) rfl) (gT_of (mtb1 (mt16 (mt16 (mt4 (mt1 (mt1 (List.Mem.head _))))))) rfl) (gT_of (mtb1 (mt4 (List.Mem.head _))) rfl) dX4_init_62 (fun a20 M21 k22 => ?_)
      refine go_dup (pc := 65) dX4_init_65 rfl ?_
      refine go_callIN (pc := 66) (a := a20) (as := []) (st := [.ref a20, .int v1, .ref (mR M t 1)]) (o_Dr_init a20 k22 M21) ic_Dr_init rfl ivX4_37 (rcvk k22 (by decide) (by decide) rfl) rfl (by decide) (Nat.le_of_ble_eq_true rfl) dX4_init_66 (kWv fun M23 => ?_)
      refine go_gd fun g25 => ?_
      refine go_aast (pc := 69) (by have : (mR M t 1) % 32 = 14 := g25; omega) (by have : (mR M t 1) % 32 = 14 := g25; omega) rfl (by have h1 : a20 % 32 = 4 := (kd32 (t := 4) k22 rfl); have h2 : (mR M t 1) % 32 = 14 := g25; rw [h1, h2]; rfl) (fun _ => rfl) dX4_init_69 (fun _ M24 => ?_)
      refine go_iincL (pc := 70) (L := fun x26 => [.ref t, .int x26]) 1 dX4_init_70 rfl ki_1 (Nat.le_of_ble_eq_true rfl) rfl (fun _ => rfl) (fun x26 => ?_)
      refine go_goto (pc := 73) 52 dX4_init_73 (by decide) ?_
      exact ih x26 M24
theorem o_Hm_init (t : Nat) (ht : t % 131072 = 5) (M : Mem) : Ct sR0 g_Hm_init fWv [.ref t] (f_Hm_init t M) M := by
  refine ⟨Nat.le_of_ble_eq_true rfl, ?_⟩
  show Go sR0 g_Hm_init fWv (f_Hm_init t M) 0 [.ref t, .null] [] M
  refine go_def (f_Hm_init.eq_1 ..) ?_
  refine go_aload_n (pc := 0) dX4_init_0 rfl ?_
  refine go_objInit (pc := 1) dX4_init_1 (by have : t % 32 = 5 := (kd32 (t := 5) ht rfl); omega) (by have : t % 32 = 5 := (kd32 (t := 5) ht rfl); omega) (gT_of (mtb1 (mt16 (mt16 (List.Mem.head _)))) rfl) oi1 oi2 (by decide) (Nat.le_of_ble_eq_true rfl) ?_
  refine go_aload_n (pc := 4) dX4_init_4 rfl ?_
  refine go_bipush (pc := 5) 12 dX4_init_5 kb_12 ?_
  refine go_newa (pc := 7) (t := 11) (N := 12) (by decide) (by decide) (by decide) (by decide) (fun _ _ => rfl) (gT_of (mtb1 (mt64 (mt16 (mt1 (mt1 (mt1 (List.Mem.head _))))))) rfl) dX4_init_7 (fun a1 M2 k3 => ?_)
  refine go_putR (pc := 9) flX4_9 rfl (Or.inr ⟨rfl, rfl, rfl⟩) (kd32 (t := 5) ht rfl) rfl dX4_init_9 (fun M4 => ?_)
  refine go_aload_n (pc := 12) dX4_init_12 rfl ?_
  refine go_iconst (pc := 13) 4 dX4_init_13 ki_4 ?_
  refine go_newq (pc := 14) (t := 14) (N := 4) (by decide) (by decide) (by decide) (by decide) (fun _ _ => rfl) (gT_of (mtb1 (mt16 (mt16 (mt1 (List.Mem.head _))))) rfl) dX4_init_14 (fun a5 M6 k7 => ?_)
  refine go_putR (pc := 17) flX4_17 rfl (Or.inr ⟨rfl, rfl, rfl⟩) (kd32 (t := 5) ht rfl) rfl dX4_init_17 (fun M8 => ?_)
  refine go_aload_n (pc := 20) dX4_init_20 rfl ?_
  refine go_iconst (pc := 21) (-1) dX4_init_21 ki_m1 ?_
  refine go_putI (pc := 22) flX4_21 rfl (Or.inl rfl) ⟨rfl, rfl⟩ (kd32 (t := 5) ht rfl) dX4_init_22 (fun M9 => ?_)
  refine go_aload_n (pc := 25) dX4_init_25 rfl ?_
  refine go_bipush (pc := 26) 12 dX4_init_26 kb_12 ?_
  refine go_newa (pc := 28) (t := 11) (N := 12) (by decide) (by decide) (by decide) (by decide) (fun _ _ => rfl) (gT_of (mtb1 (mt64 (mt16 (mt1 (mt1 (mt1 (List.Mem.head _))))))) rfl) dX4_init_28 (fun a10 M11 k12 => ?_)
  refine go_putR (pc := 30) flX4_25 rfl (Or.inr ⟨rfl, rfl, rfl⟩) (kd32 (t := 5) ht rfl) rfl dX4_init_30 (fun M13 => ?_)
  refine go_aload_n (pc := 33) dX4_init_33 rfl ?_
  refine go_bipush (pc := 34) 12 dX4_init_34 kb_12 ?_
  refine go_newa (pc := 36) (t := 11) (N := 12) (by decide) (by decide) (by decide) (by decide) (fun _ _ => rfl) (gT_of (mtb1 (mt64 (mt16 (mt1 (mt1 (mt1 (List.Mem.head _))))))) rfl) dX4_init_36 (fun a14 M15 k16 => ?_)
  refine go_putR (pc := 38) flX4_28 rfl (Or.inr ⟨rfl, rfl, rfl⟩) (kd32 (t := 5) ht rfl) rfl dX4_init_38 (fun M17 => ?_)
  refine go_aload_n (pc := 41) dX4_init_41 rfl ?_
  refine go_getR (pc := 42) flX4_9 rfl (kd32 (t := 5) ht rfl) dX4_init_42 ?_
  refine go_bipush (pc := 45) 50 dX4_init_45 kb_50 ?_
  refine go_gd fun g18 => ?_
  refine go_callS (pc := 47) (as := [.ref (mR M17 t 0), .int 50]) (st := []) (o_Ar_fillI sR0 dz0 (mR M17 t 0) 50 g18 M17) ic_Ar_fillI ivX4_31 rfl (by decide) (Nat.le_of_ble_eq_true rfl) dX4_init_47 (kWv fun M19 => ?_)
  refine go_iconst (pc := 50) 0 dX4_init_50 ki_0 ?_
  refine go_istore_n (pc := 51) (ls' := [.ref t, .int 0]) dX4_init_51 (Nat.le_of_ble_eq_true rfl) rfl rfl ?_
  exact o_Hm_init_l52 t ht 200 0 M19
def f_Hm_become_l17 (t : Nat) (p1 : Nat) : Nat → Int32 → Mem → Option Mem
  | 0, _, _ => none
  | n + 1, v2, M => if 4 ≤ v2 then lt (setI M t 2 (mI M p1 2)) fun M2 => lt (setI M2 t 3 (mI M2 p1 3)) fun M3 => lt (setI M3 t 4 (mI M3 p1 4)) fun M4 => lt (setI M4 t 5 (mI M4 p1 5)) fun M5 => gd (cpOK 0 0 12 (12) (12)) (lt (cpyI M5 (p1 + 393606) (0 : Int32).toNatClampNeg (t + 393606) (0 : Int32).toNatClampNeg (12 : Int32).toNatClampNeg) fun M6 => gd (cpOK 0 0 12 (12) (12)) (lt (cpyI M6 (p1 + 524678) (0 : Int32).toNatClampNeg (t + 524678) (0 : Int32).toNatClampNeg (12 : Int32).toNatClampNeg) fun M7 => lt (setI M7 t 8 (mI M7 p1 8)) fun M8 => some M8)) else gd (inR v2 4) (gd (inR v2 4) (bd (f_Dr_become ((t + 262281 + 393078) + 655360 * v2.toNatClampNeg) ((p1 + 262281 + 393078) + 655360 * v2.toNatClampNeg) M) fun M9 => lt (v2 + 1) fun x10 => f_Hm_become_l17 t p1 n x10 M9))
def f_Hm_become (t : Nat) (p1 : Nat) (M : Mem) : Option Mem := gd (cpOK 0 0 12 (12) (12)) (lt (cpyI M (p1 + 131462) (0 : Int32).toNatClampNeg (t + 131462) (0 : Int32).toNatClampNeg (12 : Int32).toNatClampNeg) fun M1 => f_Hm_become_l17 t p1 200 0 M1)
theorem o_Hm_become_l17 (t : Nat) (p1 : Nat) (ht : t % 131072 = 5) (hp1 : p1 % 131072 = 5) : ∀ (n : Nat) (v2 : Int32) (M : Mem), Go sRC g_Hm_become fWv (f_Hm_become_l17 t p1 n v2 M) 17 [.ref t, .ref p1, .int v2] [] M := by
  intro n
  induction n with
  | zero =>
    intro v2 M
    exact go_def (f_Hm_become_l17.eq_1 ..) go_none
  | succ n ih =>
    intro v2 M
    refine go_def (f_Hm_become_l17.eq_2 ..) ?_
    refine go_iload_n (pc := 17) dX4_become_17 rfl ?_
    refine go_iconst (pc := 18) 4 dX4_become_18 ki_4 ?_
    refine go_icmpge (pc := 19) 43 dX4_become_19 (by decide) (fun _ => ?_) (fun _ => ?_)
    · refine go_aload_n (pc := 43) dX4_become_43 rfl ?_
      refine go_aload_n (pc := 44) dX4_become_44 rfl ?_
      refine go_getI (pc := 45) flX4_48 rfl (kd32 (t := 5) hp1 rfl) dX4_become_45 ?_
      refine go_putI (pc := 48) flX4_48 rfl (Or.inl rfl) ⟨rfl, rfl⟩ (kd32 (t := 5) ht rfl) dX4_become_48 (fun M2 => ?_)
      refine go_aload_n (pc := 51) dX4_become_51 rfl ?_
      refine go_aload_n (pc := 52) dX4_become_52 rfl ?_
      refine go_getI (pc := 53) flX4_51 rfl (kd32 (t := 5) hp1 rfl) dX4_become_53 ?_
      refine go_putI (pc := 56) flX4_51 rfl (Or.inl rfl) ⟨rfl, rfl⟩ (kd32 (t := 5) ht rfl) dX4_become_56 (fun M3 => ?_)
      refine go_aload_n (pc := 59) dX4_become_59 rfl ?_
      refine go_aload_n (pc := 60) dX4_become_60 rfl ?_
      refine go_getI (pc := 61) flX4_54 rfl (kd32 (t := 5) hp1 rfl) dX4_become_61 ?_
      refine go_putI (pc := 64) flX4_54 rfl (Or.inl rfl) ⟨rfl, rfl⟩ (kd32 (t := 5) ht rfl) dX4_become_64 (fun M4 => ?_)
      refine go_aload_n (pc := 67) dX4_become_67 rfl ?_
      refine go_aload_n (pc := 68) dX4_become_68 rfl ?_
      refine go_getI (pc := 69) flX4_21 rfl (kd32 (t := 5) hp1 rfl) dX4_become_69 ?_
      refine go_putI (pc := 72) flX4_21 rfl (Or.inl rfl) ⟨rfl, rfl⟩ (kd32 (t := 5) ht rfl) dX4_become_72 (fun M5 => ?_)
      refine go_aload_n (pc := 75) dX4_become_75 rfl ?_
      refine go_getS (pc := 76) (p1 + 393606) flX4_25 rfl (kd32 (t := 5) hp1 rfl) (sC_5_6 hp1) (knz (by decide)) dX4_become_76 ?_
      refine go_iconst (pc := 79) 0 dX4_become_79 ki_0 ?_
      refine go_aload_n (pc := 80) dX4_become_80 rfl ?_
      refine go_getS (pc := 81) (t + 393606) flX4_25 rfl (kd32 (t := 5) ht rfl) (sC_5_6 ht) (knz (by decide)) dX4_become_81 ?_
      refine go_iconst (pc := 84) 0 dX4_become_84 ki_0 ?_
      refine go_bipush (pc := 85) 12 dX4_become_85 kb_12 ?_
      refine go_copyI (pc := 87) (kd32 (t := 11) (kadd hp1 rfl) rfl) (kd32 (t := 11) (kadd ht rfl) rfl) (kln (kadd hp1 rfl) rfl) (kln (kadd ht rfl) rfl) (gT_of (mtb4 (mt64 (mt16 (mt4 (List.Mem.head _))))) rfl) ac1 ac2 ac3 (by decide) (Nat.le_of_ble_eq_true rfl) dX4_become_87 (fun _ M6 => ?_)
      refine go_aload_n (pc := 90) dX4_become_90 rfl ?_
      refine go_getS (pc := 91) (p1 + 524678) flX4_28 rfl (kd32 (t := 5) hp1 rfl) (sC_5_7 hp1) (knz (by decide)) dX4_become_91 ?_
      refine go_iconst (pc := 94) 0 dX4_become_94 ki_0 ?_
      refine go_aload_n (pc := 95) dX4_become_95 rfl ?_
      refine go_getS (pc := 96) (t + 524678) flX4_28 rfl (kd32 (t := 5) ht rfl) (sC_5_7 ht) (knz (by decide)) dX4_become_96 ?_
      refine go_iconst (pc := 99) 0 dX4_become_99 ki_0 ?_
      refine go_bipush (pc := 100) 12 dX4_become_100 kb_12 ?_
      refine go_copyI (pc := 102) (kd32 (t := 11) (kadd hp1 rfl) rfl) (kd32 (t := 11) (kadd ht rfl) rfl) (kln (kadd hp1 rfl) rfl) (kln (kadd ht rfl) rfl) (gT_of (mtb4 (mt64 (mt16 (mt4 (List.Mem.head _))))) rfl) ac1 ac2 ac3 (by decide) (Nat.le_of_ble_eq_true rfl) dX4_become_102 (fun _ M7 => ?_)
      refine go_aload_n (pc := 105) dX4_become_105 rfl ?_
      refine go_aload_n (pc := 106) dX4_become_106 rfl ?_
      refine go_getI (pc := 107) flX4_57 rfl (kd32 (t := 5) hp1 rfl) dX4_become_107 ?_
      refine go_putI (pc := 110) flX4_57 rfl (Or.inl rfl) ⟨rfl, rfl⟩ (kd32 (t := 5) ht rfl) dX4_become_110 (fun M8 => ?_)
      exact go_ret dX4_become_113 rfl rfl rfl
    · refine go_aload_n (pc := 22) dX4_become_22 rfl ?_
      refine go_getS (pc := 23) (t + 262281) flX4_17 rfl (kd32 (t := 5) ht rfl) (sC_5_1 ht) (knz (by decide)) dX4_become_23 ?_
      refine go_iload_n (pc := 26) dX4_become_26 rfl ?_
      refine go_aaldS (pc := 27) (fun j => (t + 262281 + 393078) + 655360 * j) (by have : (t + 262281) % 32 = 14 := (kd32 (t := 14) (kadd ht rfl) rfl); omega) (by have : (t + 262281) % 32 = 14 := (kd32 (t := 14) (kadd ht rfl) rfl); omega) (kln (kadd ht rfl) rfl) (sCa_14 (kadd ht rfl)) dX4_become_27 (fun _ => ?_)
      refine go_aload_n (pc := 28) dX4_become_28 rfl ?_
      refine go_getS (pc := 29) (p1 + 262281) flX4_17 rfl (kd32 (t := 5) hp1 rfl) (sC_5_1 hp1) (knz (by decide)) dX4_become_29 ?_
      refine go_iload_n (pc := 32) dX4_become_32 rfl ?_
      refine go_aaldS (pc := 33) (fun j => (p1 + 262281 + 393078) + 655360 * j) (by have : (p1 + 262281) % 32 = 14 := (kd32 (t := 14) (kadd hp1 rfl) rfl); omega) (by have : (p1 + 262281) % 32 = 14 := (kd32 (t := 14) (kadd hp1 rfl) rfl); omega) (kln (kadd hp1 rfl) rfl) (sCa_14 (kadd hp1 rfl)) dX4_become_33 (fun _ => ?_)
      refine go_callV (pc := 34) (a := (t + 262281 + 393078) + 655360 * v2.toNatClampNeg) (as := [.ref ((p1 + 262281 + 393078) + 655360 * v2.toNatClampNeg)]) (st := []) (o_Dr_become ((t + 262281 + 393078) + 655360 * v2.toNatClampNeg) ((p1 + 262281 + 393078) + 655360 * v2.toNatClampNeg) (k5 (k := 4) (kadd (kadd ht rfl) rfl) _) (k5 (k := 4) (kadd (kadd hp1 rfl) rfl) _) M) ic_Dr_become ivX4_44 (rcvk (k5 (k := 4) (kadd (kadd ht rfl) rfl) _) (by decide) (by decide) rfl) rfl (by decide) (Nat.le_of_ble_eq_true rfl) dX4_become_34 (kWv fun M9 => ?_)
      refine go_iincL (pc := 37) (L := fun x10 => [.ref t, .ref p1, .int x10]) 1 dX4_become_37 rfl ki_1 (Nat.le_of_ble_eq_true rfl) rfl (fun _ => rfl) (fun x10 => ?_)
      refine go_goto (pc := 40) 17 dX4_become_40 (by decide) ?_
      exact ih x10 M9
theorem o_Hm_become (t : Nat) (p1 : Nat) (ht : t % 131072 = 5) (hp1 : p1 % 131072 = 5) (M : Mem) : Ct sRC g_Hm_become fWv [.ref t, .ref p1] (f_Hm_become t p1 M) M := by
  refine ⟨Nat.le_of_ble_eq_true rfl, ?_⟩
  show Go sRC g_Hm_become fWv (f_Hm_become t p1 M) 0 [.ref t, .ref p1, .null] [] M
  refine go_def (f_Hm_become.eq_1 ..) ?_
  refine go_aload_n (pc := 0) dX4_become_0 rfl ?_
  refine go_getS (pc := 1) (p1 + 131462) flX4_9 rfl (kd32 (t := 5) hp1 rfl) (sC_5_0 hp1) (knz (by decide)) dX4_become_1 ?_
  refine go_iconst (pc := 4) 0 dX4_become_4 ki_0 ?_
  refine go_aload_n (pc := 5) dX4_become_5 rfl ?_
  refine go_getS (pc := 6) (t + 131462) flX4_9 rfl (kd32 (t := 5) ht rfl) (sC_5_0 ht) (knz (by decide)) dX4_become_6 ?_
  refine go_iconst (pc := 9) 0 dX4_become_9 ki_0 ?_
  refine go_bipush (pc := 10) 12 dX4_become_10 kb_12 ?_
  refine go_copyI (pc := 12) (kd32 (t := 11) (kadd hp1 rfl) rfl) (kd32 (t := 11) (kadd ht rfl) rfl) (kln (kadd hp1 rfl) rfl) (kln (kadd ht rfl) rfl) (gT_of (mtb4 (mt64 (mt16 (mt4 (List.Mem.head _))))) rfl) ac1 ac2 ac3 (by decide) (Nat.le_of_ble_eq_true rfl) dX4_become_12 (fun _ M1 => ?_)
  refine go_iconst (pc := 15) 0 dX4_become_15 ki_0 ?_
  refine go_istore_n (pc := 16) (ls' := [.ref t, .ref p1, .int 0]) dX4_become_16 (Nat.le_of_ble_eq_true rfl) rfl rfl ?_
  exact o_Hm_become_l17 t p1 ht hp1 200 0 M1
def f_Tx_init (t : Nat) (M : Mem) : Option Mem := lt (nid M (100 * 32 + 11)) fun a1 => lt (newM M (100 * 32 + 11) (100)) fun M2 => lt (setR M2 t 1 a1) fun M4 => lt (nid M4 (10 * 32 + 16)) fun a5 => lt (newM M4 (10 * 32 + 16) (10)) fun M6 => lt (setR M6 t 3 a5) fun M8 => lt (nid M8 (100 * 32 + 11)) fun a9 => lt (newM M8 (100 * 32 + 11) (100)) fun M10 => lt (setR M10 t 5 a9) fun M12 => some M12
theorem o_Tx_init (t : Nat) (ht : t % 131072 = 7) (M : Mem) : Ct sR0 g_Tx_init fWv [.ref t] (f_Tx_init t M) M := by
  refine ⟨Nat.le_of_ble_eq_true rfl, ?_⟩
  show Go sR0 g_Tx_init fWv (f_Tx_init t M) 0 [.ref t] [] M
  refine go_def (f_Tx_init.eq_1 ..) ?_
  refine go_aload_n (pc := 0) dX6_init_0 rfl ?_
  refine go_objInit (pc := 1) dX6_init_1 (by have : t % 32 = 7 := (kd32 (t := 7) ht rfl); omega) (by have : t % 32 = 7 := (kd32 (t := 7) ht rfl); omega) (gT_of (mtb1 (mt64 (mt64 (mt1 (List.Mem.head _))))) rfl) oi1 oi2 (by decide) (Nat.le_of_ble_eq_true rfl) ?_
  refine go_aload_n (pc := 4) dX6_init_4 rfl ?_
  refine go_bipush (pc := 5) 100 dX6_init_5 kb_100 ?_
  refine go_newa (pc := 7) (t := 11) (N := 100) (by decide) (by decide) (by decide) (by decide) (fun _ _ => rfl) (gT_of (mtb1 (mt64 (mt16 (mt1 (mt1 (mt1 (List.Mem.head _))))))) rfl) dX6_init_7 (fun a1 M2 k3 => ?_)
  refine go_putR (pc := 9) flX6_9 rfl (Or.inr ⟨rfl, rfl, rfl⟩) (kd32 (t := 7) ht rfl) rfl dX6_init_9 (fun M4 => ?_)
  refine go_aload_n (pc := 12) dX6_init_12 rfl ?_
  refine go_bipush (pc := 13) 10 dX6_init_13 kb_10 ?_
  refine go_newq (pc := 15) (t := 16) (N := 10) (by decide) (by decide) (by decide) (by decide) (fun _ _ => rfl) (gT_of (mtb1 (mt64 (mt64 (mt1 (mt1 (List.Mem.head _)))))) rfl) dX6_init_15 (fun a5 M6 k7 => ?_)
  refine go_putR (pc := 18) flX6_15 rfl (Or.inr ⟨rfl, rfl, rfl⟩) (kd32 (t := 7) ht rfl) rfl dX6_init_18 (fun M8 => ?_)
  refine go_aload_n (pc := 21) dX6_init_21 rfl ?_
  refine go_bipush (pc := 22) 100 dX6_init_22 kb_100 ?_
  refine go_newa (pc := 24) (t := 11) (N := 100) (by decide) (by decide) (by decide) (by decide) (fun _ _ => rfl) (gT_of (mtb1 (mt64 (mt16 (mt1 (mt1 (mt1 (List.Mem.head _))))))) rfl) dX6_init_24 (fun a9 M10 k11 => ?_)
  refine go_putR (pc := 26) flX6_19 rfl (Or.inr ⟨rfl, rfl, rfl⟩) (kd32 (t := 7) ht rfl) rfl dX6_init_26 (fun M12 => ?_)
  exact go_ret dX6_init_29 rfl rfl rfl
def f_Tx_append (p1 : Int32) (M : Mem) : Option (Int32 × Mem) := if (mI M 6684679 0) < 100 then gd (inR (mI M 6684679 0) 100) (lt (setI M 6818955 (mI M 6684679 0).toNatClampNeg p1) fun M1 => lt (setI M1 6684679 0 ((mI M1 6684679 0) + 1)) fun M2 => some (1, M2)) else some (0, M)
theorem o_Tx_append (p1 : Int32) (M : Mem) : Ct sRC g_Tx_append fWi [.ref 6684679, .int p1] (f_Tx_append p1 M) M := by
  refine ⟨Nat.le_of_ble_eq_true rfl, ?_⟩
  show Go sRC g_Tx_append fWi (f_Tx_append p1 M) 0 [.ref 6684679, .int p1] [] M
  refine go_def (f_Tx_append.eq_1 ..) ?_
  refine go_aload_n (pc := 0) dX6_append_0 rfl ?_
  refine go_getI (pc := 1) flX6_22 rfl rfl dX6_append_1 ?_
  refine go_bipush (pc := 4) 100 dX6_append_4 kb_100 ?_
  refine go_icmplt (pc := 6) 11 dX6_append_6 (by decide) (fun _ => ?_) (fun _ => ?_)
  · refine go_aload_n (pc := 11) dX6_append_11 rfl ?_
    refine go_getS (pc := 12) 6818955 flX6_9 rfl rfl sC_7_1 (by decide) dX6_append_12 ?_
    refine go_aload_n (pc := 15) dX6_append_15 rfl ?_
    refine go_getI (pc := 16) flX6_22 rfl rfl dX6_append_16 ?_
    refine go_iload_n (pc := 19) dX6_append_19 rfl ?_
    refine go_iast (pc := 20) rfl rfl dX6_append_20 (fun _ M1 => ?_)
    refine go_aload_n (pc := 21) dX6_append_21 rfl ?_
    refine go_dup (pc := 22) dX6_append_22 rfl ?_
    refine go_getI (pc := 23) flX6_22 rfl rfl dX6_append_23 ?_
    refine go_iconst (pc := 26) 1 dX6_append_26 ki_1 ?_
    refine go_iadd (pc := 27) dX6_append_27 ?_
    refine go_putI (pc := 28) flX6_22 rfl (Or.inl rfl) ⟨rfl, rfl⟩ rfl dX6_append_28 (fun M2 => ?_)
    refine go_iconst (pc := 31) 1 dX6_append_31 ki_1 ?_
    exact go_ret dX6_append_32 (rbz (Or.inr rfl)) rfl rfl
  · refine go_iconst (pc := 9) 0 dX6_append_9 ki_0 ?_
    exact go_ret dX6_append_10 (rbz (Or.inl rfl)) rfl rfl
def f_Tx_takes_b29 (s0 : Int32) (M : Mem) : Option (Int32 × Mem) := if s0 = 0 then lt (setI M 6684679 2 ((mI M 6684679 2) + 0)) fun M1 => gd (s0 = 0 ∨ s0 = 1) (some (s0, M1)) else lt (setI M 6684679 2 ((mI M 6684679 2) + 1)) fun M3 => gd (s0 = 0 ∨ s0 = 1) (some (s0, M3))
def f_Tx_takes_b28 (M : Mem) : Option (Int32 × Mem) := f_Tx_takes_b29 0 M
def f_Tx_takes (p1 : Int32) (M : Mem) : Option (Int32 × Mem) := if (mI M 6684679 0) ≤ (mI M 6684679 2) then f_Tx_takes_b28 M else gd (inR (mI M 6684679 2) 100) (if (mI M 6818955 (mI M 6684679 2).toNatClampNeg) = p1 then f_Tx_takes_b29 1 M else f_Tx_takes_b28 M)
theorem o_Tx_takes_b29 (s0 : Int32) (M : Mem) : Go sRC g_Tx_takes fWi (f_Tx_takes_b29 s0 M) 29 [.ref 6684679, .null, .null] [.int s0] M := by
  refine go_def (f_Tx_takes_b29.eq_1 ..) ?_
  refine go_istore_n (pc := 29) (ls' := [.ref 6684679, .null, .int s0]) dX6_takes_29 (Nat.le_of_ble_eq_true rfl) rfl rfl ?_
  refine go_aload_n (pc := 30) dX6_takes_30 rfl ?_
  refine go_dup (pc := 31) dX6_takes_31 rfl ?_
  refine go_getI (pc := 32) flX6_26 rfl rfl dX6_takes_32 ?_
  refine go_iload_n (pc := 35) dX6_takes_35 rfl ?_
  refine go_ifeq (pc := 36) 43 dX6_takes_36 (by decide) (fun _ => ?_) (fun _ => ?_)
  · refine go_iconst (pc := 43) 0 dX6_takes_43 ki_0 ?_
    refine go_iadd (pc := 44) dX6_takes_44 ?_
    refine go_putI (pc := 45) flX6_26 rfl (Or.inl rfl) ⟨rfl, rfl⟩ rfl dX6_takes_45 (fun M1 => ?_)
    refine go_iload_n (pc := 48) dX6_takes_48 rfl ?_
    refine go_gd fun g2 => ?_
    exact go_ret dX6_takes_49 (rbz g2) rfl rfl
  · refine go_iconst (pc := 39) 1 dX6_takes_39 ki_1 ?_
    refine go_goto (pc := 40) 44 dX6_takes_40 (by decide) ?_
    refine go_iadd (pc := 44) dX6_takes_44 ?_
    refine go_putI (pc := 45) flX6_26 rfl (Or.inl rfl) ⟨rfl, rfl⟩ rfl dX6_takes_45 (fun M3 => ?_)
    refine go_iload_n (pc := 48) dX6_takes_48 rfl ?_
    refine go_gd fun g4 => ?_
    exact go_ret dX6_takes_49 (rbz g4) rfl rfl
theorem o_Tx_takes_b28 (M : Mem) : Go sRC g_Tx_takes fWi (f_Tx_takes_b28 M) 28 [.ref 6684679, .null, .null] [] M := by
  refine go_def (f_Tx_takes_b28.eq_1 ..) ?_
  refine go_iconst (pc := 28) 0 dX6_takes_28 ki_0 ?_
  exact o_Tx_takes_b29 0 M
theorem o_Tx_takes (p1 : Int32) (M : Mem) : Ct sRC g_Tx_takes fWi [.ref 6684679, .int p1] (f_Tx_takes p1 M) M := by
  refine ⟨Nat.le_of_ble_eq_true rfl, ?_⟩
  show Go sRC g_Tx_takes fWi (f_Tx_takes p1 M) 0 [.ref 6684679, .int p1, .null] [] M
  refine go_def (f_Tx_takes.eq_1 ..) ?_
  refine go_aload_n (pc := 0) dX6_takes_0 rfl ?_
  refine go_getI (pc := 1) flX6_26 rfl rfl dX6_takes_1 ?_
  refine go_aload_n (pc := 4) dX6_takes_4 rfl ?_
  refine go_getI (pc := 5) flX6_22 rfl rfl dX6_takes_5 ?_
  refine go_icmpge (pc := 8) 28 dX6_takes_8 (by decide) (fun _ => ?_) (fun _ => ?_)
  · refine go_sub (ls' := [.ref 6684679, .null, .null]) ⟨Or.inr rfl, Or.inl rfl, Or.inl rfl, trivial⟩ ?_
    exact o_Tx_takes_b28 M
  · refine go_aload_n (pc := 11) dX6_takes_11 rfl ?_
    refine go_getS (pc := 12) 6818955 flX6_9 rfl rfl sC_7_1 (by decide) dX6_takes_12 ?_
    refine go_aload_n (pc := 15) dX6_takes_15 rfl ?_
    refine go_getI (pc := 16) flX6_26 rfl rfl dX6_takes_16 ?_
    refine go_iald (pc := 19) rfl rfl dX6_takes_19 (fun _ => ?_)
    refine go_iload_n (pc := 20) dX6_takes_20 rfl ?_
    refine go_icmpne (pc := 21) 28 dX6_takes_21 (by decide) (fun _ => ?_) (fun _ => ?_)
    · refine go_iconst (pc := 24) 1 dX6_takes_24 ki_1 ?_
      refine go_goto (pc := 25) 29 dX6_takes_25 (by decide) ?_
      refine go_sub (ls' := [.ref 6684679, .null, .null]) ⟨Or.inr rfl, Or.inl rfl, Or.inl rfl, trivial⟩ ?_
      exact o_Tx_takes_b29 1 M
    · refine go_sub (ls' := [.ref 6684679, .null, .null]) ⟨Or.inr rfl, Or.inl rfl, Or.inl rfl, trivial⟩ ?_
      exact o_Tx_takes_b28 M
def f_Tx_wordOf (p1 : Int32) (M : Mem) : Nat := if p1 = 0 then 19 else if p1 = 1 then 131091 else if p1 = 2 then 262163 else 393235
theorem o_Tx_wordOf (p1 : Int32) (M : Mem) : Ct sRC g_Tx_wordOf (fRr M) [.int p1] (some (f_Tx_wordOf p1 M)) M := by
  refine ⟨Nat.le_of_ble_eq_true rfl, ?_⟩
  show Go sRC g_Tx_wordOf (fRr M) (some (f_Tx_wordOf p1 M)) 0 [.int p1] [] M
  refine go_def (congrArg some (f_Tx_wordOf.eq_1 ..)) ?_
  refine go_iload_n (pc := 0) dX6_wordOf_0 rfl ?_
  refine go_site ?_
  refine go_tswC (pc := 1) (v := 0) (off := 27) 28 dX6_wordOf_1 (by decide) (by decide) (by decide) (fun _ => ?_) (fun n1 => ?_)
  · refine go_ldcS (pc := 28) 0 (by decide) rfl dX6_wordOf_28 ?_
    exact go_ret dX6_wordOf_30 ⟨_, rfl, Or.inl ⟨_, rfl⟩⟩ rfl rfl
  refine go_site ?_
  refine go_tswC (pc := 1) (v := 1) (off := 30) 31 dX6_wordOf_1 (by decide) (by decide) (by decide) (fun _ => ?_) (fun n2 => ?_)
  · refine go_ldcS (pc := 31) 1 (by decide) rfl dX6_wordOf_31 ?_
    exact go_ret dX6_wordOf_33 ⟨_, rfl, Or.inl ⟨_, rfl⟩⟩ rfl rfl
  refine go_site ?_
  refine go_tswC (pc := 1) (v := 2) (off := 33) 34 dX6_wordOf_1 (by decide) (by decide) (by decide) (fun _ => ?_) (fun n3 => ?_)
  · refine go_ldcS (pc := 34) 2 (by decide) rfl dX6_wordOf_34 ?_
    exact go_ret dX6_wordOf_36 ⟨_, rfl, Or.inl ⟨_, rfl⟩⟩ rfl rfl
  refine go_tswD (pc := 1) 37 dX6_wordOf_1 (by have n1t := lv_neT n1 (show (0 : Int32).toInt = 0 by decide); have n2t := lv_neT n2 (show (1 : Int32).toInt = 1 by decide); have n3t := lv_neT n3 (show (2 : Int32).toInt = 2 by decide); rcases (show p1.toInt < 0 ∨ 2 < p1.toInt by omega) with h | h <;> first | exact Or.inl h | exact Or.inr (Or.inl h) | exact Or.inr (Or.inr (by rw [h]; decide))) (by decide) ?_
  refine go_ldcS (pc := 37) 3 (by decide) rfl dX6_wordOf_37 ?_
  exact go_ret dX6_wordOf_39 ⟨_, rfl, Or.inl ⟨_, rfl⟩⟩ rfl rfl
def f_St_coder (t : Nat) (M : Mem) : Int32 := if (1 : Int32) = 0 then 1 else 0
theorem o_St_coder (sR : Nat → Nat → Nat) (hz : dynZ sR) (t : Nat) (ht : t % 131072 = 19) (hti : t / 131072 < 6) (M : Mem) : Ct sR g_St_coder (fRi M) [.ref t] (some (f_St_coder t M)) M := by
  refine ⟨Nat.le_of_ble_eq_true rfl, ?_⟩
  show Go sR g_St_coder (fRi M) (some (f_St_coder t M)) 0 [.ref t] [] M
  refine go_def (congrArg some (f_St_coder.eq_1 ..)) ?_
  refine go_compact (pc := 0) (gT_of (mtb2 (mt64 (mt64 (mt64 (mt16 (mt16 (mt4 (List.Mem.head _)))))))) rfl) dJ0_coder_7d493_0 ?_
  refine go_site ?_
  refine go_ifeq (pc := 3) 13 dJ0_coder_7d493_3 (by decide) (fun _ => ?_) (fun _ => ?_)
  · refine go_iconst (pc := 13) 1 dJ0_coder_7d493_13 ki_1 ?_
    exact go_ret dJ0_coder_7d493_14 ⟨_, rfl, by decide +kernel⟩ rfl rfl
  · refine go_aload_n (pc := 6) dJ0_coder_7d493_6 rfl ?_
    refine go_scoder (pc := 7) ht hti (gT_of (mtb7 (mt16 (mt4 (mt4 (mt4 (mt1 (mt1 (List.Mem.head _)))))))) rfl) dJ0_coder_7d493_7 ?_
    refine go_goto (pc := 10) 14 dJ0_coder_7d493_10 (by decide) ?_
    exact go_ret dJ0_coder_7d493_14 ⟨_, rfl, by decide +kernel⟩ rfl rfl
def f_St_length (t : Nat) (M : Mem) : Int32 := (Int32.ofNat (sLen ((t + 1) / 131072))) >>> ((f_St_coder t M) &&& 31)
theorem o_St_length (sR : Nat → Nat → Nat) (hz : dynZ sR) (t : Nat) (ht : t % 131072 = 19) (hti : t / 131072 < 6) (M : Mem) : Ct sR g_St_length (fRi M) [.ref t] (some (f_St_length t M)) M := by
  refine ⟨Nat.le_of_ble_eq_true rfl, ?_⟩
  show Go sR g_St_length (fRi M) (some (f_St_length t M)) 0 [.ref t] [] M
  refine go_def (congrArg some (f_St_length.eq_1 ..)) ?_
  refine go_aload_n (pc := 0) dJ0_length_8abf5_0 rfl ?_
  refine go_sval (pc := 1) ht hti (gT_of (mtb7 (mt16 (mt4 (mt4 (mt4 (mt1 (List.Mem.head _))))))) rfl) dJ0_length_8abf5_1 ?_
  refine go_salen (pc := 4) (kadd ht rfl) (sb_i ht hti) dJ0_length_8abf5_4 ?_
  refine go_aload_n (pc := 5) dJ0_length_8abf5_5 rfl ?_
  refine go_T (v := f_St_coder t M) ?_
  refine go_callV (pc := 6) (a := t) (as := []) (st := [.int (Int32.ofNat (sLen ((t + 1) / 131072)))]) (o_St_coder sR hz t ht hti M) ic_St_coder ivJ0_335 (Or.inr ⟨ht, hti, rfl⟩) rfl (by decide) (Nat.le_of_ble_eq_true rfl) dJ0_length_8abf5_6 (kTi ?_)
  refine go_ishr (pc := 9) dJ0_length_8abf5_9 ?_
  exact go_ret dJ0_length_8abf5_10 rii rfl rfl
def f_St_isLatin1 (t : Nat) (M : Mem) : Int32 := if (1 : Int32) = 0 then 0 else if (0 : Int32) = 0 then 1 else 0
theorem o_St_isLatin1 (sR : Nat → Nat → Nat) (hz : dynZ sR) (t : Nat) (ht : t % 131072 = 19) (hti : t / 131072 < 6) (M : Mem) : Ct sR g_St_isLatin1 (fRi M) [.ref t] (some (f_St_isLatin1 t M)) M := by
  refine ⟨Nat.le_of_ble_eq_true rfl, ?_⟩
  show Go sR g_St_isLatin1 (fRi M) (some (f_St_isLatin1 t M)) 0 [.ref t] [] M
  refine go_def (congrArg some (f_St_isLatin1.eq_1 ..)) ?_
  refine go_compact (pc := 0) (gT_of (mtb2 (mt64 (mt64 (mt64 (mt16 (mt16 (mt4 (List.Mem.head _)))))))) rfl) dJ0_isLatin1_aae02_0 ?_
  refine go_site ?_
  refine go_ifeq (pc := 3) 17 dJ0_isLatin1_aae02_3 (by decide) (fun _ => ?_) (fun _ => ?_)
  · refine go_iconst (pc := 17) 0 dJ0_isLatin1_aae02_17 ki_0 ?_
    exact go_ret dJ0_isLatin1_aae02_18 (rbz (Or.inl rfl)) rfl rfl
  · refine go_aload_n (pc := 6) dJ0_isLatin1_aae02_6 rfl ?_
    refine go_scoder (pc := 7) ht hti (gT_of (mtb7 (mt16 (mt4 (mt4 (mt4 (mt1 (mt1 (List.Mem.head _)))))))) rfl) dJ0_isLatin1_aae02_7 ?_
    refine go_site ?_
    refine go_ifne (pc := 10) 17 dJ0_isLatin1_aae02_10 (by decide) (fun _ => ?_) (fun _ => ?_)
    · refine go_iconst (pc := 13) 1 dJ0_isLatin1_aae02_13 ki_1 ?_
      refine go_goto (pc := 14) 18 dJ0_isLatin1_aae02_14 (by decide) ?_
      exact go_ret dJ0_isLatin1_aae02_18 (rbz (Or.inr rfl)) rfl rfl
    · refine go_iconst (pc := 17) 0 dJ0_isLatin1_aae02_17 ki_0 ?_
      exact go_ret dJ0_isLatin1_aae02_18 (rbz (Or.inl rfl)) rfl rfl
theorem o_St_isLatin1_b (t : Nat) (M : Mem) : f_St_isLatin1 t M = 0 ∨ f_St_isLatin1 t M = 1 := by
  unfold f_St_isLatin1
  first | exact Or.inl rfl | (repeat' split) <;> first | exact Or.inl rfl | exact Or.inr rfl | assumption
def f_Pc_checkIndex (p1 : Int32) (p2 : Int32) (M : Mem) : Option Int32 := if p1 < 0 then none else if p1 < p2 then some p1 else none
theorem o_Pc_checkIndex (sR : Nat → Nat → Nat) (hz : dynZ sR) (p1 : Int32) (p2 : Int32) (M : Mem) : Ct sR g_Pc_checkIndex (fRi M) [.int p1, .int p2, .float 0] (f_Pc_checkIndex p1 p2 M) M := by
  refine ⟨Nat.le_of_ble_eq_true rfl, ?_⟩
  show Go sR g_Pc_checkIndex (fRi M) (f_Pc_checkIndex p1 p2 M) 0 [.int p1, .int p2, .float 0] [] M
  refine go_def (f_Pc_checkIndex.eq_1 ..) ?_
  refine go_iload_n (pc := 0) dJ3_checkIndex_8e157_0 rfl ?_
  refine go_iflt (pc := 1) 9 dJ3_checkIndex_8e157_1 (by decide) (fun _ => ?_) (fun _ => ?_)
  · exact go_none
  · refine go_iload_n (pc := 4) dJ3_checkIndex_8e157_4 rfl ?_
    refine go_iload_n (pc := 5) dJ3_checkIndex_8e157_5 rfl ?_
    refine go_icmplt (pc := 6) 16 dJ3_checkIndex_8e157_6 (by decide) (fun _ => ?_) (fun _ => ?_)
    · refine go_iload_n (pc := 16) dJ3_checkIndex_8e157_16 rfl ?_
      exact go_ret dJ3_checkIndex_8e157_17 rii rfl rfl
    · exact go_none
def f_St_checkIndex (p1 : Int32) (p2 : Int32) (M : Mem) : Option Unit := bd (f_Pc_checkIndex p1 p2 M) fun r1 => some ()
theorem o_St_checkIndex (sR : Nat → Nat → Nat) (hz : dynZ sR) (p1 : Int32) (p2 : Int32) (M : Mem) : Ct sR g_St_checkIndex (fRv M) [.int p1, .int p2] (f_St_checkIndex p1 p2 M) M := by
  refine ⟨Nat.le_of_ble_eq_true rfl, ?_⟩
  show Go sR g_St_checkIndex (fRv M) (f_St_checkIndex p1 p2 M) 0 [.int p1, .int p2] [] M
  refine go_def (f_St_checkIndex.eq_1 ..) ?_
  refine go_iload_n (pc := 0) dJ0_checkIndex_df160_0 rfl ?_
  refine go_iload_n (pc := 1) dJ0_checkIndex_df160_1 rfl ?_
  refine go_sioobe (pc := 2) (gT_of (mtb3 (mt4 (List.Mem.head _))) rfl) dJ0_checkIndex_df160_2 ?_
  refine go_callS (pc := 5) (as := [.int p1, .int p2, .float 0]) (st := []) (o_Pc_checkIndex sR hz p1 p2 M) ic_Pc_checkIndex ivJ0_1059 rfl (by decide) (Nat.le_of_ble_eq_true rfl) dJ0_checkIndex_df160_5 (kRi fun r1 => ?_)
  refine go_pop (pc := 8) dJ0_checkIndex_df160_8 rfl ?_
  exact go_ret dJ0_checkIndex_df160_9 rfl rfl rfl
def f_SL_charAt (p1 : Nat) (p2 : Int32) (M : Mem) : Option Int32 := bd (f_St_checkIndex p2 (Int32.ofNat (sLen ((p1) / 131072))) M) fun r1 => gd (inR p2 (sLen ((p1) / 131072))) (some ((((sByt ((p1) / 131072) p2.toNatClampNeg) &&& 255).toUInt32 % 65536).toInt32))
theorem o_SL_charAt (sR : Nat → Nat → Nat) (hz : dynZ sR) (p1 : Nat) (p2 : Int32) (hp1 : p1 % 131072 = 20) (hp1i : p1 / 131072 < 6) (M : Mem) : Ct sR g_SL_charAt (fRi M) [.ref p1, .int p2] (f_SL_charAt p1 p2 M) M := by
  refine ⟨Nat.le_of_ble_eq_true rfl, ?_⟩
  show Go sR g_SL_charAt (fRi M) (f_SL_charAt p1 p2 M) 0 [.ref p1, .int p2] [] M
  refine go_def (f_SL_charAt.eq_1 ..) ?_
  refine go_iload_n (pc := 0) dJ1_charAt_3b067_0 rfl ?_
  refine go_aload_n (pc := 1) dJ1_charAt_3b067_1 rfl ?_
  refine go_salen (pc := 2) hp1 hp1i dJ1_charAt_3b067_2 ?_
  refine go_callS (pc := 3) (as := [.int p2, .int (Int32.ofNat (sLen ((p1) / 131072)))]) (st := []) (o_St_checkIndex sR hz p2 (Int32.ofNat (sLen ((p1) / 131072))) M) ic_St_checkIndex ivJ1_9 rfl (by decide) (Nat.le_of_ble_eq_true rfl) dJ1_charAt_3b067_3 (kRv fun r1 => ?_)
  refine go_aload_n (pc := 6) dJ1_charAt_3b067_6 rfl ?_
  refine go_iload_n (pc := 7) dJ1_charAt_3b067_7 rfl ?_
  refine go_sbald (pc := 8) hp1 hp1i dJ1_charAt_3b067_8 (fun _ => ?_)
  refine go_sipush (pc := 9) 255 dJ1_charAt_3b067_9 ks_255 ?_
  refine go_iand (pc := 12) dJ1_charAt_3b067_12 ?_
  refine go_i2c (pc := 13) dJ1_charAt_3b067_13 ?_
  exact go_ret dJ1_charAt_3b067_14 ⟨_, rfl, pk_nc _⟩ rfl rfl
def f_St_charAt (t : Nat) (p1 : Int32) (M : Mem) : Option Int32 := if (f_St_isLatin1 t M) = 0 then none else bd (f_SL_charAt (t + 1) p1 M) fun r1 => gd (inR (r1) 65536) (some r1)
theorem o_St_charAt (sR : Nat → Nat → Nat) (hz : dynZ sR) (t : Nat) (p1 : Int32) (ht : t % 131072 = 19) (hti : t / 131072 < 6) (M : Mem) : Ct sR g_St_charAt (fRi M) [.ref t, .int p1] (f_St_charAt t p1 M) M := by
  refine ⟨Nat.le_of_ble_eq_true rfl, ?_⟩
  show Go sR g_St_charAt (fRi M) (f_St_charAt t p1 M) 0 [.ref t, .int p1] [] M
  refine go_def (f_St_charAt.eq_1 ..) ?_
  refine go_aload_n (pc := 0) dJ0_charAt_5068e_0 rfl ?_
  refine go_T (v := f_St_isLatin1 t M) ?_
  refine go_callV (pc := 1) (a := t) (as := []) (st := []) (o_St_isLatin1 sR hz t ht hti M) ic_St_isLatin1 ivJ0_492 (Or.inr ⟨ht, hti, rfl⟩) rfl (by decide) (Nat.le_of_ble_eq_true rfl) dJ0_charAt_5068e_1 (kTi ?_)
  refine go_ifeq (pc := 4) 16 dJ0_charAt_5068e_4 (by decide) (fun _ => ?_) (fun _ => ?_)
  · refine go_aload_n (pc := 16) dJ0_charAt_5068e_16 rfl ?_
    refine go_sval (pc := 17) ht hti (gT_of (mtb7 (mt16 (mt4 (mt4 (mt4 (mt1 (List.Mem.head _))))))) rfl) dJ0_charAt_5068e_17 ?_
    refine go_iload_n (pc := 20) dJ0_charAt_5068e_20 rfl ?_
    exact go_none
  · refine go_aload_n (pc := 7) dJ0_charAt_5068e_7 rfl ?_
    refine go_sval (pc := 8) ht hti (gT_of (mtb7 (mt16 (mt4 (mt4 (mt4 (mt1 (List.Mem.head _))))))) rfl) dJ0_charAt_5068e_8 ?_
    refine go_iload_n (pc := 11) dJ0_charAt_5068e_11 rfl ?_
    refine go_callS (pc := 12) (as := [.ref (t + 1), .int p1]) (st := []) (o_SL_charAt sR hz (t + 1) p1 (kadd ht rfl) (sb_i ht hti) M) ic_SL_charAt ivJ0_495 rfl (by decide) (Nat.le_of_ble_eq_true rfl) dJ0_charAt_5068e_12 (kRi fun r1 => ?_)
    refine go_gd fun g2 => ?_
    exact go_ret dJ0_charAt_5068e_15 (rcz g2) rfl rfl
def f_Tx_alikeWith_l2 (p1 : Nat) (M : Mem) : Nat → Int32 → Option Int32
  | 0, _ => none
  | n + 1, v2 => if (f_St_length p1 M) ≤ v2 then some v2 else if (mI M 6684679 0) ≤ ((mI M 6684679 2) + v2) then some v2 else gd (inR ((mI M 6684679 2) + v2) 100) (bd (f_St_charAt p1 v2 M) fun r1 => if (mI M 6818955 ((mI M 6684679 2) + v2).toNatClampNeg) = r1 then lt (v2 + 1) fun x2 => f_Tx_alikeWith_l2 p1 M n x2 else some v2)
def f_Tx_alikeWith (p1 : Nat) (M : Mem) : Option Int32 := f_Tx_alikeWith_l2 p1 M 200 0
theorem o_Tx_alikeWith_l2 (p1 : Nat) (hp1 : p1 % 131072 = 19) (hp1i : p1 / 131072 < 6) (M : Mem) : ∀ (n : Nat) (v2 : Int32), Go sRC g_Tx_alikeWith (fRi M) (f_Tx_alikeWith_l2 p1 M n v2) 2 [.ref 6684679, .ref p1, .int v2] [] M := by
  intro n
  induction n with
  | zero =>
    intro v2
    exact go_def (f_Tx_alikeWith_l2.eq_1 ..) go_none
  | succ n ih =>
    intro v2
    refine go_def (f_Tx_alikeWith_l2.eq_2 ..) ?_
    refine go_iload_n (pc := 2) dX6_alikeWith_2 rfl ?_
    refine go_aload_n (pc := 3) dX6_alikeWith_3 rfl ?_
    refine go_T (v := f_St_length p1 M) ?_
    refine go_callV (pc := 4) (a := p1) (as := []) (st := [.int v2]) (o_St_length sRC dzC p1 hp1 hp1i M) ic_St_length ivX6_109 (Or.inr ⟨hp1, hp1i, rfl⟩) rfl (by decide) (Nat.le_of_ble_eq_true rfl) dX6_alikeWith_4 (kTi ?_)
    refine go_icmpge (pc := 7) 48 dX6_alikeWith_7 (by decide) (fun _ => ?_) (fun _ => ?_)
    · refine go_iload_n (pc := 48) dX6_alikeWith_48 rfl ?_
      exact go_ret dX6_alikeWith_49 rii rfl rfl
    · refine go_aload_n (pc := 10) dX6_alikeWith_10 rfl ?_
      refine go_getI (pc := 11) flX6_26 rfl rfl dX6_alikeWith_11 ?_
      refine go_iload_n (pc := 14) dX6_alikeWith_14 rfl ?_
      refine go_iadd (pc := 15) dX6_alikeWith_15 ?_
      refine go_aload_n (pc := 16) dX6_alikeWith_16 rfl ?_
      refine go_getI (pc := 17) flX6_22 rfl rfl dX6_alikeWith_17 ?_
      refine go_icmpge (pc := 20) 48 dX6_alikeWith_20 (by decide) (fun _ => ?_) (fun _ => ?_)
      · refine go_iload_n (pc := 48) dX6_alikeWith_48 rfl ?_
        exact go_ret dX6_alikeWith_49 rii rfl rfl
      · refine go_aload_n (pc := 23) dX6_alikeWith_23 rfl ?_
        refine go_getS (pc := 24) 6818955 flX6_9 rfl rfl sC_7_1 (by decide) dX6_alikeWith_24 ?_
        refine go_aload_n (pc := 27) dX6_alikeWith_27 rfl ?_
        refine go_getI (pc := 28) flX6_26 rfl rfl dX6_alikeWith_28 ?_
        refine go_iload_n (pc := 31) dX6_alikeWith_31 rfl ?_
        refine go_iadd (pc := 32) dX6_alikeWith_32 ?_
        refine go_iald (pc := 33) rfl rfl dX6_alikeWith_33 (fun _ => ?_)
        refine go_aload_n (pc := 34) dX6_alikeWith_34 rfl ?_
        refine go_iload_n (pc := 35) dX6_alikeWith_35 rfl ?_
        refine go_callV (pc := 36) (a := p1) (as := [.int v2]) (st := [.int (mI M 6818955 ((mI M 6684679 2) + v2).toNatClampNeg)]) (o_St_charAt sRC dzC p1 v2 hp1 hp1i M) ic_St_charAt ivX6_111 (Or.inr ⟨hp1, hp1i, rfl⟩) rfl (by decide) (Nat.le_of_ble_eq_true rfl) dX6_alikeWith_36 (kRi fun r1 => ?_)
        refine go_icmpne (pc := 39) 48 dX6_alikeWith_39 (by decide) (fun _ => ?_) (fun _ => ?_)
        · refine go_iincL (pc := 42) (L := fun x2 => [.ref 6684679, .ref p1, .int x2]) 1 dX6_alikeWith_42 rfl ki_1 (Nat.le_of_ble_eq_true rfl) rfl (fun _ => rfl) (fun x2 => ?_)
          refine go_goto (pc := 45) 2 dX6_alikeWith_45 (by decide) ?_
          exact ih x2
        · refine go_iload_n (pc := 48) dX6_alikeWith_48 rfl ?_
          exact go_ret dX6_alikeWith_49 rii rfl rfl
theorem o_Tx_alikeWith (p1 : Nat) (hp1 : p1 % 131072 = 19) (hp1i : p1 / 131072 < 6) (M : Mem) : Ct sRC g_Tx_alikeWith (fRi M) [.ref 6684679, .ref p1] (f_Tx_alikeWith p1 M) M := by
  refine ⟨Nat.le_of_ble_eq_true rfl, ?_⟩
  show Go sRC g_Tx_alikeWith (fRi M) (f_Tx_alikeWith p1 M) 0 [.ref 6684679, .ref p1, .null] [] M
  refine go_def (f_Tx_alikeWith.eq_1 ..) ?_
  refine go_iconst (pc := 0) 0 dX6_alikeWith_0 ki_0 ?_
  refine go_istore_n (pc := 1) (ls' := [.ref 6684679, .ref p1, .int 0]) dX6_alikeWith_1 (Nat.le_of_ble_eq_true rfl) rfl rfl ?_
  exact o_Tx_alikeWith_l2 p1 hp1 hp1i M 200 0
def f_Tx_takenWord_l4 : Nat → Int32 → Int32 → Mem → Option (Int32 × Mem)
  | 0, _, _, _ => none
  | n + 1, v1, v2, M => if 4 ≤ v2 then lt (setI M 6684679 2 ((mI M 6684679 2) + v1)) fun M1 => some ((-1), M1) else lt (f_Tx_wordOf v2 M) fun x2 => gd (x2 % 131072 = 19 ∧ x2 / 131072 < 6) (bd (f_Tx_alikeWith x2 M) fun r4 => if r4 = (f_St_length x2 M) then lt (setI M 6684679 2 ((mI M 6684679 2) + r4)) fun M7 => some (v2, M7) else lt (mxI v1 r4) fun x5 => lt (v2 + 1) fun x6 => f_Tx_takenWord_l4 n x5 x6 M)
def f_Tx_takenWord (M : Mem) : Option (Int32 × Mem) := f_Tx_takenWord_l4 200 0 0 M
theorem o_Tx_takenWord_l4 : ∀ (n : Nat) (v1 : Int32) (v2 : Int32) (M : Mem), Go sRC g_Tx_takenWord fWi (f_Tx_takenWord_l4 n v1 v2 M) 4 [.ref 6684679, .int v1, .int v2, .null, .null] [] M := by
  intro n
  induction n with
  | zero =>
    intro v1 v2 M
    exact go_def (f_Tx_takenWord_l4.eq_1 ..) go_none
  | succ n ih =>
    intro v1 v2 M
    refine go_def (f_Tx_takenWord_l4.eq_2 ..) ?_
    refine go_iload_n (pc := 4) dX6_takenWord_4 rfl ?_
    refine go_iconst (pc := 5) 4 dX6_takenWord_5 ki_4 ?_
    refine go_icmpge (pc := 6) 56 dX6_takenWord_6 (by decide) (fun _ => ?_) (fun _ => ?_)
    · refine go_aload_n (pc := 56) dX6_takenWord_56 rfl ?_
      refine go_dup (pc := 57) dX6_takenWord_57 rfl ?_
      refine go_getI (pc := 58) flX6_26 rfl rfl dX6_takenWord_58 ?_
      refine go_iload_n (pc := 61) dX6_takenWord_61 rfl ?_
      refine go_iadd (pc := 62) dX6_takenWord_62 ?_
      refine go_putI (pc := 63) flX6_26 rfl (Or.inl rfl) ⟨rfl, rfl⟩ rfl dX6_takenWord_63 (fun M1 => ?_)
      refine go_iconst (pc := 66) (-1) dX6_takenWord_66 ki_m1 ?_
      exact go_ret dX6_takenWord_67 rii rfl rfl
    · refine go_iload_n (pc := 9) dX6_takenWord_9 rfl ?_
      refine go_T (v := f_Tx_wordOf v2 M) ?_
      refine go_callS (pc := 10) (as := [.int v2]) (st := []) (o_Tx_wordOf v2 M) ic_Tx_wordOf ivX6_102 rfl (by decide) (Nat.le_of_ble_eq_true rfl) dX6_takenWord_10 (kTr ?_)
      refine go_astore_nL (pc := 13) (L := fun x2 => [.ref 6684679, .int v1, .int v2, .ref x2, .null]) dX6_takenWord_13 (Nat.le_of_ble_eq_true rfl) rfl (fun _ => rfl) (fun x2 => ?_)
      refine go_aload_n (pc := 14) dX6_takenWord_14 rfl ?_
      refine go_aload_n (pc := 15) dX6_takenWord_15 rfl ?_
      refine go_gd fun g3 => ?_
      refine go_callV (pc := 16) (a := 6684679) (as := [.ref x2]) (st := []) (o_Tx_alikeWith x2 g3.1 g3.2 M) ic_Tx_alikeWith ivX6_106 (rcvk (a := 6684679) (t := 7) rfl (by decide) (by decide) rfl) rfl (by decide) (Nat.le_of_ble_eq_true rfl) dX6_takenWord_16 (kRi fun r4 => ?_)
      refine go_istore (pc := 19) (ls' := [.ref 6684679, .int v1, .int v2, .ref x2, .int r4]) dX6_takenWord_19 (Nat.le_of_ble_eq_true rfl) rfl rfl ?_
      refine go_iload (pc := 21) dX6_takenWord_21 rfl ?_
      refine go_aload_n (pc := 23) dX6_takenWord_23 rfl ?_
      refine go_T (v := f_St_length x2 M) ?_
      refine go_callV (pc := 24) (a := x2) (as := []) (st := [.int r4]) (o_St_length sRC dzC x2 g3.1 g3.2 M) ic_St_length ivX6_109 (Or.inr ⟨g3.1, g3.2, rfl⟩) rfl (by decide) (Nat.le_of_ble_eq_true rfl) dX6_takenWord_24 (kTi ?_)
      refine go_icmpne (pc := 27) 43 dX6_takenWord_27 (by decide) (fun _ => ?_) (fun _ => ?_)
      · refine go_aload_n (pc := 30) dX6_takenWord_30 rfl ?_
        refine go_dup (pc := 31) dX6_takenWord_31 rfl ?_
        refine go_getI (pc := 32) flX6_26 rfl rfl dX6_takenWord_32 ?_
        refine go_iload (pc := 35) dX6_takenWord_35 rfl ?_
        refine go_iadd (pc := 37) dX6_takenWord_37 ?_
        refine go_putI (pc := 38) flX6_26 rfl (Or.inl rfl) ⟨rfl, rfl⟩ rfl dX6_takenWord_38 (fun M7 => ?_)
        refine go_iload_n (pc := 41) dX6_takenWord_41 rfl ?_
        exact go_ret dX6_takenWord_42 rii rfl rfl
      · refine go_iload_n (pc := 43) dX6_takenWord_43 rfl ?_
        refine go_iload (pc := 44) dX6_takenWord_44 rfl ?_
        refine go_max (pc := 46) (gT_of (mtb3 (mt16 (mt4 (mt4 (mt4 (List.Mem.head _)))))) rfl) mw_max1 mw_i mw_max2 (by decide) (Nat.le_of_ble_eq_true rfl) dX6_takenWord_46 ?_
        refine go_istore_nL (pc := 49) (L := fun x5 => [.ref 6684679, .int x5, .int v2, .ref x2, .int r4]) dX6_takenWord_49 (Nat.le_of_ble_eq_true rfl) rfl (fun _ => rfl) (fun x5 => ?_)
        refine go_iincL (pc := 50) (L := fun x6 => [.ref 6684679, .int x5, .int x6, .ref x2, .int r4]) 1 dX6_takenWord_50 rfl ki_1 (Nat.le_of_ble_eq_true rfl) rfl (fun _ => rfl) (fun x6 => ?_)
        refine go_goto (pc := 53) 4 dX6_takenWord_53 (by decide) ?_
        refine go_sub (ls' := [.ref 6684679, .int x5, .int x6, .null, .null]) ⟨Or.inr rfl, Or.inr rfl, Or.inr rfl, Or.inl rfl, Or.inl rfl, trivial⟩ ?_
        exact ih x5 x6 M
theorem o_Tx_takenWord (M : Mem) : Ct sRC g_Tx_takenWord fWi [.ref 6684679] (f_Tx_takenWord M) M := by
  refine ⟨Nat.le_of_ble_eq_true rfl, ?_⟩
  show Go sRC g_Tx_takenWord fWi (f_Tx_takenWord M) 0 [.ref 6684679, .null, .null, .null, .null] [] M
  refine go_def (f_Tx_takenWord.eq_1 ..) ?_
  refine go_iconst (pc := 0) 0 dX6_takenWord_0 ki_0 ?_
  refine go_istore_n (pc := 1) (ls' := [.ref 6684679, .int 0, .null, .null, .null]) dX6_takenWord_1 (Nat.le_of_ble_eq_true rfl) rfl rfl ?_
  refine go_iconst (pc := 2) 0 dX6_takenWord_2 ki_0 ?_
  refine go_istore_n (pc := 3) (ls' := [.ref 6684679, .int 0, .int 0, .null, .null]) dX6_takenWord_3 (Nat.le_of_ble_eq_true rfl) rfl rfl ?_
  exact o_Tx_takenWord_l4 200 0 0 M
def f_Tx_takenNumber_l4 : Nat → Int32 → Int32 → Mem → Option (Int32 × Mem)
  | 0, _, _, _ => none
  | n + 1, v1, v2, M => if 2 ≤ v2 then some (v1, M) else if (mI M 6684679 0) ≤ (mI M 6684679 2) then some (v1, M) else gd (inR (mI M 6684679 2) 100) (if (mI M 6818955 (mI M 6684679 2).toNatClampNeg) < 48 then some (v1, M) else gd (inR (mI M 6684679 2) 100) (if 57 < (mI M 6818955 (mI M 6684679 2).toNatClampNeg) then some (v1, M) else gd (inR (mI M 6684679 2) 100) (lt ((((mxI 0 v1) * 10) + (mI M 6818955 (mI M 6684679 2).toNatClampNeg)) - 48) fun x1 => lt (setI M 6684679 2 ((mI M 6684679 2) + 1)) fun M2 => lt (v2 + 1) fun x3 => f_Tx_takenNumber_l4 n x1 x3 M2)))
def f_Tx_takenNumber (M : Mem) : Option (Int32 × Mem) := f_Tx_takenNumber_l4 200 (-1) 0 M
theorem o_Tx_takenNumber_l4 : ∀ (n : Nat) (v1 : Int32) (v2 : Int32) (M : Mem), Go sRC g_Tx_takenNumber fWi (f_Tx_takenNumber_l4 n v1 v2 M) 4 [.ref 6684679, .int v1, .int v2] [] M := by
  intro n
  induction n with
  | zero =>
    intro v1 v2 M
    exact go_def (f_Tx_takenNumber_l4.eq_1 ..) go_none
  | succ n ih =>
    intro v1 v2 M
    refine go_def (f_Tx_takenNumber_l4.eq_2 ..) ?_
    refine go_iload_n (pc := 4) dX6_takenNumber_4 rfl ?_
    refine go_iconst (pc := 5) 2 dX6_takenNumber_5 ki_2 ?_
    refine go_icmpge (pc := 6) 86 dX6_takenNumber_6 (by decide) (fun _ => ?_) (fun _ => ?_)
    · refine go_iload_n (pc := 86) dX6_takenNumber_86 rfl ?_
      exact go_ret dX6_takenNumber_87 rii rfl rfl
    · refine go_aload_n (pc := 9) dX6_takenNumber_9 rfl ?_
      refine go_getI (pc := 10) flX6_26 rfl rfl dX6_takenNumber_10 ?_
      refine go_aload_n (pc := 13) dX6_takenNumber_13 rfl ?_
      refine go_getI (pc := 14) flX6_22 rfl rfl dX6_takenNumber_14 ?_
      refine go_icmpge (pc := 17) 86 dX6_takenNumber_17 (by decide) (fun _ => ?_) (fun _ => ?_)
      · refine go_iload_n (pc := 86) dX6_takenNumber_86 rfl ?_
        exact go_ret dX6_takenNumber_87 rii rfl rfl
      · refine go_aload_n (pc := 20) dX6_takenNumber_20 rfl ?_
        refine go_getS (pc := 21) 6818955 flX6_9 rfl rfl sC_7_1 (by decide) dX6_takenNumber_21 ?_
        refine go_aload_n (pc := 24) dX6_takenNumber_24 rfl ?_
        refine go_getI (pc := 25) flX6_26 rfl rfl dX6_takenNumber_25 ?_
        refine go_iald (pc := 28) rfl rfl dX6_takenNumber_28 (fun _ => ?_)
        refine go_bipush (pc := 29) 48 dX6_takenNumber_29 kb_48 ?_
        refine go_icmplt (pc := 31) 86 dX6_takenNumber_31 (by decide) (fun _ => ?_) (fun _ => ?_)
        · refine go_iload_n (pc := 86) dX6_takenNumber_86 rfl ?_
          exact go_ret dX6_takenNumber_87 rii rfl rfl
        · refine go_aload_n (pc := 34) dX6_takenNumber_34 rfl ?_
          refine go_getS (pc := 35) 6818955 flX6_9 rfl rfl sC_7_1 (by decide) dX6_takenNumber_35 ?_
          refine go_aload_n (pc := 38) dX6_takenNumber_38 rfl ?_
          refine go_getI (pc := 39) flX6_26 rfl rfl dX6_takenNumber_39 ?_
          refine go_iald (pc := 42) rfl rfl dX6_takenNumber_42 (fun _ => ?_)
          refine go_bipush (pc := 43) 57 dX6_takenNumber_43 kb_57 ?_
          refine go_icmpgt (pc := 45) 86 dX6_takenNumber_45 (by decide) (fun _ => ?_) (fun _ => ?_)
          · refine go_iload_n (pc := 86) dX6_takenNumber_86 rfl ?_
            exact go_ret dX6_takenNumber_87 rii rfl rfl
          · refine go_iconst (pc := 48) 0 dX6_takenNumber_48 ki_0 ?_
            refine go_iload_n (pc := 49) dX6_takenNumber_49 rfl ?_
            refine go_max (pc := 50) (gT_of (mtb3 (mt16 (mt4 (mt4 (mt4 (List.Mem.head _)))))) rfl) mw_max1 mw_i mw_max2 (by decide) (Nat.le_of_ble_eq_true rfl) dX6_takenNumber_50 ?_
            refine go_bipush (pc := 53) 10 dX6_takenNumber_53 kb_10 ?_
            refine go_imul (pc := 55) dX6_takenNumber_55 ?_
            refine go_aload_n (pc := 56) dX6_takenNumber_56 rfl ?_
            refine go_getS (pc := 57) 6818955 flX6_9 rfl rfl sC_7_1 (by decide) dX6_takenNumber_57 ?_
            refine go_aload_n (pc := 60) dX6_takenNumber_60 rfl ?_
            refine go_getI (pc := 61) flX6_26 rfl rfl dX6_takenNumber_61 ?_
            refine go_iald (pc := 64) rfl rfl dX6_takenNumber_64 (fun _ => ?_)
            refine go_iadd (pc := 65) dX6_takenNumber_65 ?_
            refine go_bipush (pc := 66) 48 dX6_takenNumber_66 kb_48 ?_
            refine go_isub (pc := 68) dX6_takenNumber_68 ?_
            refine go_istore_nL (pc := 69) (L := fun x1 => [.ref 6684679, .int x1, .int v2]) dX6_takenNumber_69 (Nat.le_of_ble_eq_true rfl) rfl (fun _ => rfl) (fun x1 => ?_)
            refine go_aload_n (pc := 70) dX6_takenNumber_70 rfl ?_
            refine go_dup (pc := 71) dX6_takenNumber_71 rfl ?_
            refine go_getI (pc := 72) flX6_26 rfl rfl dX6_takenNumber_72 ?_
            refine go_iconst (pc := 75) 1 dX6_takenNumber_75 ki_1 ?_
            refine go_iadd (pc := 76) dX6_takenNumber_76 ?_
            refine go_putI (pc := 77) flX6_26 rfl (Or.inl rfl) ⟨rfl, rfl⟩ rfl dX6_takenNumber_77 (fun M2 => ?_)
            refine go_iincL (pc := 80) (L := fun x3 => [.ref 6684679, .int x1, .int x3]) 1 dX6_takenNumber_80 rfl ki_1 (Nat.le_of_ble_eq_true rfl) rfl (fun _ => rfl) (fun x3 => ?_)
            refine go_goto (pc := 83) 4 dX6_takenNumber_83 (by decide) ?_
            exact ih x1 x3 M2
theorem o_Tx_takenNumber (M : Mem) : Ct sRC g_Tx_takenNumber fWi [.ref 6684679] (f_Tx_takenNumber M) M := by
  refine ⟨Nat.le_of_ble_eq_true rfl, ?_⟩
  show Go sRC g_Tx_takenNumber fWi (f_Tx_takenNumber M) 0 [.ref 6684679, .null, .null] [] M
  refine go_def (f_Tx_takenNumber.eq_1 ..) ?_
  refine go_iconst (pc := 0) (-1) dX6_takenNumber_0 ki_m1 ?_
  refine go_istore_n (pc := 1) (ls' := [.ref 6684679, .int (-1), .null]) dX6_takenNumber_1 (Nat.le_of_ble_eq_true rfl) rfl rfl ?_
  refine go_iconst (pc := 2) 0 dX6_takenNumber_2 ki_0 ?_
  refine go_istore_n (pc := 3) (ls' := [.ref 6684679, .int (-1), .int 0]) dX6_takenNumber_3 (Nat.le_of_ble_eq_true rfl) rfl rfl ?_
  exact o_Tx_takenNumber_l4 200 (-1) 0 M
def f_SL_canEncode (p1 : Int32) (M : Mem) : Int32 := if p1 < 0 then 0 else if 255 < p1 then 0 else 1
theorem o_SL_canEncode (sR : Nat → Nat → Nat) (hz : dynZ sR) (p1 : Int32) (M : Mem) : Ct sR g_SL_canEncode (fRi M) [.int p1] (some (f_SL_canEncode p1 M)) M := by
  refine ⟨Nat.le_of_ble_eq_true rfl, ?_⟩
  show Go sR g_SL_canEncode (fRi M) (some (f_SL_canEncode p1 M)) 0 [.int p1] [] M
  refine go_def (congrArg some (f_SL_canEncode.eq_1 ..)) ?_
  refine go_iload_n (pc := 0) dJ1_canEncode_9a6ad_0 rfl ?_
  refine go_site ?_
  refine go_iflt (pc := 1) 15 dJ1_canEncode_9a6ad_1 (by decide) (fun _ => ?_) (fun _ => ?_)
  · refine go_iconst (pc := 15) 0 dJ1_canEncode_9a6ad_15 ki_0 ?_
    exact go_ret dJ1_canEncode_9a6ad_16 (rbz (Or.inl rfl)) rfl rfl
  · refine go_iload_n (pc := 4) dJ1_canEncode_9a6ad_4 rfl ?_
    refine go_sipush (pc := 5) 255 dJ1_canEncode_9a6ad_5 ks_255 ?_
    refine go_site ?_
    refine go_icmpgt (pc := 8) 15 dJ1_canEncode_9a6ad_8 (by decide) (fun _ => ?_) (fun _ => ?_)
    · refine go_iconst (pc := 15) 0 dJ1_canEncode_9a6ad_15 ki_0 ?_
      exact go_ret dJ1_canEncode_9a6ad_16 (rbz (Or.inl rfl)) rfl rfl
    · refine go_iconst (pc := 11) 1 dJ1_canEncode_9a6ad_11 ki_1 ?_
      refine go_goto (pc := 12) 16 dJ1_canEncode_9a6ad_12 (by decide) ?_
      exact go_ret dJ1_canEncode_9a6ad_16 (rbz (Or.inr rfl)) rfl rfl
theorem o_SL_canEncode_b (p1 : Int32) (M : Mem) : f_SL_canEncode p1 M = 0 ∨ f_SL_canEncode p1 M = 1 := by
  unfold f_SL_canEncode
  first | exact Or.inl rfl | (repeat' split) <;> first | exact Or.inl rfl | exact Or.inr rfl | assumption
def f_SL_indexOfChar_l7 (p1 : Nat) (M : Mem) : Nat → Int32 → Int32 → Int32 → Option Int32
  | 0, _, _, _ => none
  | n + 1, v3, v4, v5 => if v3 ≤ v5 then some (-1) else gd (inR v5 (sLen ((p1) / 131072))) (if (sByt ((p1) / 131072) v5.toNatClampNeg) = v4 then some v5 else lt (v5 + 1) fun x1 => f_SL_indexOfChar_l7 p1 M n v3 v4 x1)
def f_SL_indexOfChar (p1 : Nat) (p2 : Int32) (p3 : Int32) (p4 : Int32) (M : Mem) : Option Int32 := f_SL_indexOfChar_l7 p1 M 200 p4 p2.toInt8.toInt32 p3
theorem o_SL_indexOfChar_l7 (sR : Nat → Nat → Nat) (hz : dynZ sR) (p1 : Nat) (hp1 : p1 % 131072 = 20) (hp1i : p1 / 131072 < 6) (M : Mem) : ∀ (n : Nat) (v3 : Int32) (v4 : Int32) (v5 : Int32), Go sR g_SL_indexOfChar (fRi M) (f_SL_indexOfChar_l7 p1 M n v3 v4 v5) 7 [.ref p1, .null, .null, .int v3, .int v4, .int v5] [] M := by
  intro n
  induction n with
  | zero =>
    intro v3 v4 v5
    exact go_def (f_SL_indexOfChar_l7.eq_1 ..) go_none
  | succ n ih =>
    intro v3 v4 v5
    refine go_def (f_SL_indexOfChar_l7.eq_2 ..) ?_
    refine go_iload (pc := 7) dJ1_indexOfChar_4cfef_7 rfl ?_
    refine go_iload_n (pc := 9) dJ1_indexOfChar_4cfef_9 rfl ?_
    refine go_icmpge (pc := 10) 31 dJ1_indexOfChar_4cfef_10 (by decide) (fun _ => ?_) (fun _ => ?_)
    · refine go_iconst (pc := 31) (-1) dJ1_indexOfChar_4cfef_31 ki_m1 ?_
      exact go_ret dJ1_indexOfChar_4cfef_32 rii rfl rfl
    · refine go_aload_n (pc := 13) dJ1_indexOfChar_4cfef_13 rfl ?_
      refine go_iload (pc := 14) dJ1_indexOfChar_4cfef_14 rfl ?_
      refine go_sbald (pc := 16) hp1 hp1i dJ1_indexOfChar_4cfef_16 (fun _ => ?_)
      refine go_iload (pc := 17) dJ1_indexOfChar_4cfef_17 rfl ?_
      refine go_icmpne (pc := 19) 25 dJ1_indexOfChar_4cfef_19 (by decide) (fun _ => ?_) (fun _ => ?_)
      · refine go_iload (pc := 22) dJ1_indexOfChar_4cfef_22 rfl ?_
        exact go_ret dJ1_indexOfChar_4cfef_24 rii rfl rfl
      · refine go_iincL (pc := 25) (L := fun x1 => [.ref p1, .null, .null, .int v3, .int v4, .int x1]) 1 dJ1_indexOfChar_4cfef_25 rfl ki_1 (Nat.le_of_ble_eq_true rfl) rfl (fun _ => rfl) (fun x1 => ?_)
        refine go_goto (pc := 28) 7 dJ1_indexOfChar_4cfef_28 (by decide) ?_
        exact ih v3 v4 x1
theorem o_SL_indexOfChar (sR : Nat → Nat → Nat) (hz : dynZ sR) (p1 : Nat) (p2 : Int32) (p3 : Int32) (p4 : Int32) (hp1 : p1 % 131072 = 20) (hp1i : p1 / 131072 < 6) (M : Mem) : Ct sR g_SL_indexOfChar (fRi M) [.ref p1, .int p2, .int p3, .int p4] (f_SL_indexOfChar p1 p2 p3 p4 M) M := by
  refine ⟨Nat.le_of_ble_eq_true rfl, ?_⟩
  show Go sR g_SL_indexOfChar (fRi M) (f_SL_indexOfChar p1 p2 p3 p4 M) 0 [.ref p1, .int p2, .int p3, .int p4, .null, .null] [] M
  refine go_def (f_SL_indexOfChar.eq_1 ..) ?_
  refine go_iload_n (pc := 0) dJ1_indexOfChar_4cfef_0 rfl ?_
  refine go_i2b (pc := 1) dJ1_indexOfChar_4cfef_1 ?_
  refine go_istore (pc := 2) (ls' := [.ref p1, .int p2, .int p3, .int p4, .int p2.toInt8.toInt32, .null]) dJ1_indexOfChar_4cfef_2 (Nat.le_of_ble_eq_true rfl) rfl rfl ?_
  refine go_iload_n (pc := 4) dJ1_indexOfChar_4cfef_4 rfl ?_
  refine go_istore (pc := 5) (ls' := [.ref p1, .int p2, .int p3, .int p4, .int p2.toInt8.toInt32, .int p3]) dJ1_indexOfChar_4cfef_5 (Nat.le_of_ble_eq_true rfl) rfl rfl ?_
  refine go_sub (ls' := [.ref p1, .null, .null, .int p4, .int p2.toInt8.toInt32, .int p3]) ⟨Or.inr rfl, Or.inl rfl, Or.inl rfl, Or.inr rfl, Or.inr rfl, Or.inr rfl, trivial⟩ ?_
  exact o_SL_indexOfChar_l7 sR hz p1 hp1 hp1i M 200 p4 p2.toInt8.toInt32 p3
def f_SL_indexOf (p1 : Nat) (p2 : Int32) (p3 : Int32) (p4 : Int32) (M : Mem) : Option Int32 := if (f_SL_canEncode p2 M) = 0 then some (-1) else lt (mxI p3 0) fun x1 => lt (mnI p4 (Int32.ofNat (sLen ((p1) / 131072)))) fun x2 => if x1 < x2 then bd (f_SL_indexOfChar p1 p2 x1 x2 M) fun r3 => some r3 else some (-1)
theorem o_SL_indexOf (sR : Nat → Nat → Nat) (hz : dynZ sR) (p1 : Nat) (p2 : Int32) (p3 : Int32) (p4 : Int32) (hp1 : p1 % 131072 = 20) (hp1i : p1 / 131072 < 6) (M : Mem) : Ct sR g_SL_indexOf (fRi M) [.ref p1, .int p2, .int p3, .int p4] (f_SL_indexOf p1 p2 p3 p4 M) M := by
  refine ⟨Nat.le_of_ble_eq_true rfl, ?_⟩
  show Go sR g_SL_indexOf (fRi M) (f_SL_indexOf p1 p2 p3 p4 M) 0 [.ref p1, .int p2, .int p3, .int p4] [] M
  refine go_def (f_SL_indexOf.eq_1 ..) ?_
  refine go_iload_n (pc := 0) dJ1_indexOf_4cfef_0 rfl ?_
  refine go_T (v := f_SL_canEncode p2 M) ?_
  refine go_callS (pc := 1) (as := [.int p2]) (st := []) (o_SL_canEncode sR hz p2 M) ic_SL_canEncode ivJ1_88 rfl (by decide) (Nat.le_of_ble_eq_true rfl) dJ1_indexOf_4cfef_1 (kTi ?_)
  refine go_ifne (pc := 4) 9 dJ1_indexOf_4cfef_4 (by decide) (fun _ => ?_) (fun _ => ?_)
  · refine go_iconst (pc := 7) (-1) dJ1_indexOf_4cfef_7 ki_m1 ?_
    exact go_ret dJ1_indexOf_4cfef_8 rii rfl rfl
  · refine go_iload_n (pc := 9) dJ1_indexOf_4cfef_9 rfl ?_
    refine go_iconst (pc := 10) 0 dJ1_indexOf_4cfef_10 ki_0 ?_
    refine go_max (pc := 11) (gT_of (mtb3 (mt64 (mt4 (mt1 (List.Mem.head _))))) rfl) mw_max1 mw_i mw_max2 (by decide) (Nat.le_of_ble_eq_true rfl) dJ1_indexOf_4cfef_11 ?_
    refine go_istore_nL (pc := 14) (L := fun x1 => [.ref p1, .int p2, .int x1, .int p4]) dJ1_indexOf_4cfef_14 (Nat.le_of_ble_eq_true rfl) rfl (fun _ => rfl) (fun x1 => ?_)
    refine go_iload_n (pc := 15) dJ1_indexOf_4cfef_15 rfl ?_
    refine go_aload_n (pc := 16) dJ1_indexOf_4cfef_16 rfl ?_
    refine go_salen (pc := 17) hp1 hp1i dJ1_indexOf_4cfef_17 ?_
    refine go_min (pc := 18) (gT_of (mtb3 (mt64 (mt4 (mt1 (mt1 (List.Mem.head _)))))) rfl) mw_min1 mw_i mw_min2 (by decide) (Nat.le_of_ble_eq_true rfl) dJ1_indexOf_4cfef_18 ?_
    refine go_istore_nL (pc := 21) (L := fun x2 => [.ref p1, .int p2, .int x1, .int x2]) dJ1_indexOf_4cfef_21 (Nat.le_of_ble_eq_true rfl) rfl (fun _ => rfl) (fun x2 => ?_)
    refine go_iload_n (pc := 22) dJ1_indexOf_4cfef_22 rfl ?_
    refine go_iload_n (pc := 23) dJ1_indexOf_4cfef_23 rfl ?_
    refine go_icmplt (pc := 24) 29 dJ1_indexOf_4cfef_24 (by decide) (fun _ => ?_) (fun _ => ?_)
    · refine go_aload_n (pc := 29) dJ1_indexOf_4cfef_29 rfl ?_
      refine go_iload_n (pc := 30) dJ1_indexOf_4cfef_30 rfl ?_
      refine go_iload_n (pc := 31) dJ1_indexOf_4cfef_31 rfl ?_
      refine go_iload_n (pc := 32) dJ1_indexOf_4cfef_32 rfl ?_
      refine go_callS (pc := 33) (as := [.ref p1, .int p2, .int x1, .int x2]) (st := []) (o_SL_indexOfChar sR hz p1 p2 x1 x2 hp1 hp1i M) ic_SL_indexOfChar ivJ1_95 rfl (by decide) (Nat.le_of_ble_eq_true rfl) dJ1_indexOf_4cfef_33 (kRi fun r3 => ?_)
      exact go_ret dJ1_indexOf_4cfef_36 rii rfl rfl
    · refine go_iconst (pc := 27) (-1) dJ1_indexOf_4cfef_27 ki_m1 ?_
      exact go_ret dJ1_indexOf_4cfef_28 rii rfl rfl
def f_St_indexOf2 (t : Nat) (p1 : Int32) (p2 : Int32) (M : Mem) : Option Int32 := if (f_St_isLatin1 t M) = 0 then none else bd (f_SL_indexOf (t + 1) p1 p2 (f_St_length t M) M) fun r1 => some r1
theorem o_St_indexOf2 (sR : Nat → Nat → Nat) (hz : dynZ sR) (t : Nat) (p1 : Int32) (p2 : Int32) (ht : t % 131072 = 19) (hti : t / 131072 < 6) (M : Mem) : Ct sR g_St_indexOf2 (fRi M) [.ref t, .int p1, .int p2] (f_St_indexOf2 t p1 p2 M) M := by
  refine ⟨Nat.le_of_ble_eq_true rfl, ?_⟩
  show Go sR g_St_indexOf2 (fRi M) (f_St_indexOf2 t p1 p2 M) 0 [.ref t, .int p1, .int p2] [] M
  refine go_def (f_St_indexOf2.eq_1 ..) ?_
  refine go_aload_n (pc := 0) dJ0_indexOf_7cf53_0 rfl ?_
  refine go_T (v := f_St_isLatin1 t M) ?_
  refine go_callV (pc := 1) (a := t) (as := []) (st := []) (o_St_isLatin1 sR hz t ht hti M) ic_St_isLatin1 ivJ0_492 (Or.inr ⟨ht, hti, rfl⟩) rfl (by decide) (Nat.le_of_ble_eq_true rfl) dJ0_indexOf_7cf53_1 (kTi ?_)
  refine go_ifeq (pc := 4) 23 dJ0_indexOf_7cf53_4 (by decide) (fun _ => ?_) (fun _ => ?_)
  · refine go_aload_n (pc := 23) dJ0_indexOf_7cf53_23 rfl ?_
    refine go_sval (pc := 24) ht hti (gT_of (mtb7 (mt16 (mt4 (mt4 (mt4 (mt1 (List.Mem.head _))))))) rfl) dJ0_indexOf_7cf53_24 ?_
    refine go_iload_n (pc := 27) dJ0_indexOf_7cf53_27 rfl ?_
    refine go_iload_n (pc := 28) dJ0_indexOf_7cf53_28 rfl ?_
    refine go_aload_n (pc := 29) dJ0_indexOf_7cf53_29 rfl ?_
    refine go_T (v := f_St_length t M) ?_
    refine go_callV (pc := 30) (a := t) (as := []) (st := [.int p2, .int p1, .ref (t + 1)]) (o_St_length sR hz t ht hti M) ic_St_length ivJ0_505 (Or.inr ⟨ht, hti, rfl⟩) rfl (by decide) (Nat.le_of_ble_eq_true rfl) dJ0_indexOf_7cf53_30 (kTi ?_)
    exact go_none
  · refine go_aload_n (pc := 7) dJ0_indexOf_7cf53_7 rfl ?_
    refine go_sval (pc := 8) ht hti (gT_of (mtb7 (mt16 (mt4 (mt4 (mt4 (mt1 (List.Mem.head _))))))) rfl) dJ0_indexOf_7cf53_8 ?_
    refine go_iload_n (pc := 11) dJ0_indexOf_7cf53_11 rfl ?_
    refine go_iload_n (pc := 12) dJ0_indexOf_7cf53_12 rfl ?_
    refine go_aload_n (pc := 13) dJ0_indexOf_7cf53_13 rfl ?_
    refine go_T (v := f_St_length t M) ?_
    refine go_callV (pc := 14) (a := t) (as := []) (st := [.int p2, .int p1, .ref (t + 1)]) (o_St_length sR hz t ht hti M) ic_St_length ivJ0_505 (Or.inr ⟨ht, hti, rfl⟩) rfl (by decide) (Nat.le_of_ble_eq_true rfl) dJ0_indexOf_7cf53_14 (kTi ?_)
    refine go_callS (pc := 17) (as := [.ref (t + 1), .int p1, .int p2, .int (f_St_length t M)]) (st := []) (o_SL_indexOf sR hz (t + 1) p1 p2 (f_St_length t M) (kadd ht rfl) (sb_i ht hti) M) ic_SL_indexOf ivJ0_637 rfl (by decide) (Nat.le_of_ble_eq_true rfl) dJ0_indexOf_7cf53_17 (kRi fun r1 => ?_)
    refine go_goto (pc := 20) 36 dJ0_indexOf_7cf53_20 (by decide) ?_
    exact go_ret dJ0_indexOf_7cf53_36 rii rfl rfl
def f_St_indexOf (t : Nat) (p1 : Int32) (M : Mem) : Option Int32 := bd (f_St_indexOf2 t p1 0 M) fun r1 => some r1
theorem o_St_indexOf (sR : Nat → Nat → Nat) (hz : dynZ sR) (t : Nat) (p1 : Int32) (ht : t % 131072 = 19) (hti : t / 131072 < 6) (M : Mem) : Ct sR g_St_indexOf (fRi M) [.ref t, .int p1] (f_St_indexOf t p1 M) M := by
  refine ⟨Nat.le_of_ble_eq_true rfl, ?_⟩
  show Go sR g_St_indexOf (fRi M) (f_St_indexOf t p1 M) 0 [.ref t, .int p1] [] M
  refine go_def (f_St_indexOf.eq_1 ..) ?_
  refine go_aload_n (pc := 0) dJ0_indexOf_0f7a4_0 rfl ?_
  refine go_iload_n (pc := 1) dJ0_indexOf_0f7a4_1 rfl ?_
  refine go_iconst (pc := 2) 0 dJ0_indexOf_0f7a4_2 ki_0 ?_
  refine go_callV (pc := 3) (a := t) (as := [.int p1, .int 0]) (st := []) (o_St_indexOf2 sR hz t p1 0 ht hti M) ic_St_indexOf2 ivJ0_633 (Or.inr ⟨ht, hti, rfl⟩) rfl (by decide) (Nat.le_of_ble_eq_true rfl) dJ0_indexOf_0f7a4_3 (kRi fun r1 => ?_)
  exact go_ret dJ0_indexOf_0f7a4_6 rii rfl rfl
def f_Tx_takenOneOf_b29 (p1 : Nat) (s0 : Int32) (M : Mem) : Option (Int32 × Mem) := if 0 ≤ s0 then lt (setI M 6684679 2 ((mI M 6684679 2) + 1)) fun M2 => some (s0, M2) else lt (setI M 6684679 2 ((mI M 6684679 2) + 0)) fun M3 => some (s0, M3)
def f_Tx_takenOneOf (p1 : Nat) (M : Mem) : Option (Int32 × Mem) := if (mI M 6684679 0) ≤ (mI M 6684679 2) then f_Tx_takenOneOf_b29 p1 (-1) M else gd (inR (mI M 6684679 2) 100) (bd (f_St_indexOf p1 (((mI M 6818955 (mI M 6684679 2).toNatClampNeg).toUInt32 % 65536).toInt32) M) fun r1 => f_Tx_takenOneOf_b29 p1 r1 M)
theorem o_Tx_takenOneOf_b29 (p1 : Nat) (hp1 : p1 % 131072 = 19) (hp1i : p1 / 131072 < 6) (s0 : Int32) (M : Mem) : Go sRC g_Tx_takenOneOf fWi (f_Tx_takenOneOf_b29 p1 s0 M) 29 [.ref 6684679, .ref p1, .null] [.int s0] M := by
  refine go_def (f_Tx_takenOneOf_b29.eq_1 ..) ?_
  refine go_istore_n (pc := 29) (ls' := [.ref 6684679, .ref p1, .int s0]) dX6_takenOneOf_29 (Nat.le_of_ble_eq_true rfl) rfl rfl ?_
  refine go_aload_n (pc := 30) dX6_takenOneOf_30 rfl ?_
  refine go_dup (pc := 31) dX6_takenOneOf_31 rfl ?_
  refine go_getI (pc := 32) flX6_26 rfl rfl dX6_takenOneOf_32 ?_
  refine go_iload_n (pc := 35) dX6_takenOneOf_35 rfl ?_
  refine go_ifge (pc := 36) 43 dX6_takenOneOf_36 (by decide) (fun _ => ?_) (fun _ => ?_)
  · refine go_iconst (pc := 43) 1 dX6_takenOneOf_43 ki_1 ?_
    refine go_iadd (pc := 44) dX6_takenOneOf_44 ?_
    refine go_putI (pc := 45) flX6_26 rfl (Or.inl rfl) ⟨rfl, rfl⟩ rfl dX6_takenOneOf_45 (fun M2 => ?_)
    refine go_iload_n (pc := 48) dX6_takenOneOf_48 rfl ?_
    exact go_ret dX6_takenOneOf_49 rii rfl rfl
  · refine go_iconst (pc := 39) 0 dX6_takenOneOf_39 ki_0 ?_
    refine go_goto (pc := 40) 44 dX6_takenOneOf_40 (by decide) ?_
    refine go_iadd (pc := 44) dX6_takenOneOf_44 ?_
    refine go_putI (pc := 45) flX6_26 rfl (Or.inl rfl) ⟨rfl, rfl⟩ rfl dX6_takenOneOf_45 (fun M3 => ?_)
    refine go_iload_n (pc := 48) dX6_takenOneOf_48 rfl ?_
    exact go_ret dX6_takenOneOf_49 rii rfl rfl
theorem o_Tx_takenOneOf (p1 : Nat) (hp1 : p1 % 131072 = 19) (hp1i : p1 / 131072 < 6) (M : Mem) : Ct sRC g_Tx_takenOneOf fWi [.ref 6684679, .ref p1] (f_Tx_takenOneOf p1 M) M := by
  refine ⟨Nat.le_of_ble_eq_true rfl, ?_⟩
  show Go sRC g_Tx_takenOneOf fWi (f_Tx_takenOneOf p1 M) 0 [.ref 6684679, .ref p1, .null] [] M
  refine go_def (f_Tx_takenOneOf.eq_1 ..) ?_
  refine go_aload_n (pc := 0) dX6_takenOneOf_0 rfl ?_
  refine go_getI (pc := 1) flX6_26 rfl rfl dX6_takenOneOf_1 ?_
  refine go_aload_n (pc := 4) dX6_takenOneOf_4 rfl ?_
  refine go_getI (pc := 5) flX6_22 rfl rfl dX6_takenOneOf_5 ?_
  refine go_icmpge (pc := 8) 28 dX6_takenOneOf_8 (by decide) (fun _ => ?_) (fun _ => ?_)
  · refine go_iconst (pc := 28) (-1) dX6_takenOneOf_28 ki_m1 ?_
    exact o_Tx_takenOneOf_b29 p1 hp1 hp1i (-1) M
  · refine go_aload_n (pc := 11) dX6_takenOneOf_11 rfl ?_
    refine go_aload_n (pc := 12) dX6_takenOneOf_12 rfl ?_
    refine go_getS (pc := 13) 6818955 flX6_9 rfl rfl sC_7_1 (by decide) dX6_takenOneOf_13 ?_
    refine go_aload_n (pc := 16) dX6_takenOneOf_16 rfl ?_
    refine go_getI (pc := 17) flX6_26 rfl rfl dX6_takenOneOf_17 ?_
    refine go_iald (pc := 20) rfl rfl dX6_takenOneOf_20 (fun _ => ?_)
    refine go_i2c (pc := 21) dX6_takenOneOf_21 ?_
    refine go_callV (pc := 22) (a := p1) (as := [.int (((mI M 6818955 (mI M 6684679 2).toNatClampNeg).toUInt32 % 65536).toInt32)]) (st := []) (o_St_indexOf sRC dzC p1 (((mI M 6818955 (mI M 6684679 2).toNatClampNeg).toUInt32 % 65536).toInt32) hp1 hp1i M) ic_St_indexOf ivX6_90 (Or.inr ⟨hp1, hp1i, rfl⟩) rfl (by decide) (Nat.le_of_ble_eq_true rfl) dX6_takenOneOf_22 (kRi fun r1 => ?_)
    refine go_goto (pc := 25) 29 dX6_takenOneOf_25 (by decide) ?_
    exact o_Tx_takenOneOf_b29 p1 hp1 hp1i r1 M
def f_Tx_addCode (p1 : Int32) (M : Mem) : Option Mem := if 100 ≤ (mI M 6684679 6) then some M else gd (inR (mI M 6684679 6) 100) (lt (setI M 7081099 (mI M 6684679 6).toNatClampNeg p1) fun M1 => lt (setI M1 6684679 6 ((mI M1 6684679 6) + 1)) fun M2 => some M2)
theorem o_Tx_addCode (p1 : Int32) (M : Mem) : Ct sRC g_Tx_addCode fWv [.ref 6684679, .int p1] (f_Tx_addCode p1 M) M := by
  refine ⟨Nat.le_of_ble_eq_true rfl, ?_⟩
  show Go sRC g_Tx_addCode fWv (f_Tx_addCode p1 M) 0 [.ref 6684679, .int p1] [] M
  refine go_def (f_Tx_addCode.eq_1 ..) ?_
  refine go_aload_n (pc := 0) dX6_addCode_0 rfl ?_
  refine go_getI (pc := 1) flX6_43 rfl rfl dX6_addCode_1 ?_
  refine go_bipush (pc := 4) 100 dX6_addCode_4 kb_100 ?_
  refine go_icmpge (pc := 6) 29 dX6_addCode_6 (by decide) (fun _ => ?_) (fun _ => ?_)
  · exact go_ret dX6_addCode_29 rfl rfl rfl
  · refine go_aload_n (pc := 9) dX6_addCode_9 rfl ?_
    refine go_getS (pc := 10) 7081099 flX6_19 rfl rfl sC_7_5 (by decide) dX6_addCode_10 ?_
    refine go_aload_n (pc := 13) dX6_addCode_13 rfl ?_
    refine go_getI (pc := 14) flX6_43 rfl rfl dX6_addCode_14 ?_
    refine go_iload_n (pc := 17) dX6_addCode_17 rfl ?_
    refine go_iast (pc := 18) rfl rfl dX6_addCode_18 (fun _ M1 => ?_)
    refine go_aload_n (pc := 19) dX6_addCode_19 rfl ?_
    refine go_dup (pc := 20) dX6_addCode_20 rfl ?_
    refine go_getI (pc := 21) flX6_43 rfl rfl dX6_addCode_21 ?_
    refine go_iconst (pc := 24) 1 dX6_addCode_24 ki_1 ?_
    refine go_iadd (pc := 25) dX6_addCode_25 ?_
    refine go_putI (pc := 26) flX6_43 rfl (Or.inl rfl) ⟨rfl, rfl⟩ rfl dX6_addCode_26 (fun M2 => ?_)
    exact go_ret dX6_addCode_29 rfl rfl rfl
def f_Tx_takesTest_b34 (v1 : Int32) (v2 : Int32) (s0 : Int32) (M : Mem) : Option (Int32 × Mem) := if 0 ≤ s0 then bd (f_Tx_addCode (f_Cl_codeOfTest v1 v2 s0 M) M) fun M7 => some (1, M7) else some (0, M)
def f_Tx_takesTest_b21 (v1 : Int32) (s0 : Int32) (M : Mem) : Option (Int32 × Mem) := if 0 ≤ s0 then b2 (f_Tx_takenNumber M) fun r6 M5 => f_Tx_takesTest_b34 v1 s0 r6 M5 else f_Tx_takesTest_b34 v1 s0 (-1) M
def f_Tx_takesTest (M : Mem) : Option (Int32 × Mem) := b2 (f_Tx_takenOneOf 524307 M) fun r2 M1 => if 0 ≤ r2 then b2 (f_Tx_takenOneOf 655379 M1) fun r4 M3 => f_Tx_takesTest_b21 r2 r4 M3 else f_Tx_takesTest_b21 r2 (-1) M1
theorem o_Tx_takesTest_b34 (v1 : Int32) (v2 : Int32) (s0 : Int32) (M : Mem) : Go sRC g_Tx_takesTest fWi (f_Tx_takesTest_b34 v1 v2 s0 M) 34 [.ref 6684679, .int v1, .int v2, .null] [.int s0] M := by
  refine go_def (f_Tx_takesTest_b34.eq_1 ..) ?_
  refine go_istore_n (pc := 34) (ls' := [.ref 6684679, .int v1, .int v2, .int s0]) dX6_takesTest_34 (Nat.le_of_ble_eq_true rfl) rfl rfl ?_
  refine go_iload_n (pc := 35) dX6_takesTest_35 rfl ?_
  refine go_ifge (pc := 36) 41 dX6_takesTest_36 (by decide) (fun _ => ?_) (fun _ => ?_)
  · refine go_aload_n (pc := 41) dX6_takesTest_41 rfl ?_
    refine go_iload_n (pc := 42) dX6_takesTest_42 rfl ?_
    refine go_iload_n (pc := 43) dX6_takesTest_43 rfl ?_
    refine go_iload_n (pc := 44) dX6_takesTest_44 rfl ?_
    refine go_T (v := f_Cl_codeOfTest v1 v2 s0 M) ?_
    refine go_callS (pc := 45) (as := [.int v1, .int v2, .int s0]) (st := [.ref 6684679]) (o_Cl_codeOfTest v1 v2 s0 M) ic_Cl_codeOfTest ivX6_86 rfl (by decide) (Nat.le_of_ble_eq_true rfl) dX6_takesTest_45 (kTi ?_)
    refine go_callV (pc := 48) (a := 6684679) (as := [.int (f_Cl_codeOfTest v1 v2 s0 M)]) (st := []) (o_Tx_addCode (f_Cl_codeOfTest v1 v2 s0 M) M) ic_Tx_addCode ivX6_67 (rcvk (a := 6684679) (t := 7) rfl (by decide) (by decide) rfl) rfl (by decide) (Nat.le_of_ble_eq_true rfl) dX6_takesTest_48 (kWv fun M7 => ?_)
    refine go_iconst (pc := 51) 1 dX6_takesTest_51 ki_1 ?_
    exact go_ret dX6_takesTest_52 (rbz (Or.inr rfl)) rfl rfl
  · refine go_iconst (pc := 39) 0 dX6_takesTest_39 ki_0 ?_
    exact go_ret dX6_takesTest_40 (rbz (Or.inl rfl)) rfl rfl
theorem o_Tx_takesTest_b21 (v1 : Int32) (s0 : Int32) (M : Mem) : Go sRC g_Tx_takesTest fWi (f_Tx_takesTest_b21 v1 s0 M) 21 [.ref 6684679, .int v1, .null, .null] [.int s0] M := by
  refine go_def (f_Tx_takesTest_b21.eq_1 ..) ?_
  refine go_istore_n (pc := 21) (ls' := [.ref 6684679, .int v1, .int s0, .null]) dX6_takesTest_21 (Nat.le_of_ble_eq_true rfl) rfl rfl ?_
  refine go_iload_n (pc := 22) dX6_takesTest_22 rfl ?_
  refine go_ifge (pc := 23) 30 dX6_takesTest_23 (by decide) (fun _ => ?_) (fun _ => ?_)
  · refine go_aload_n (pc := 30) dX6_takesTest_30 rfl ?_
    refine go_callV (pc := 31) (a := 6684679) (as := []) (st := []) (o_Tx_takenNumber M) ic_Tx_takenNumber ivX6_40 (rcvk (a := 6684679) (t := 7) rfl (by decide) (by decide) rfl) rfl (by decide) (Nat.le_of_ble_eq_true rfl) dX6_takesTest_31 (kWi fun r6 M5 => ?_)
    exact o_Tx_takesTest_b34 v1 s0 r6 M5
  · refine go_iconst (pc := 26) (-1) dX6_takesTest_26 ki_m1 ?_
    refine go_goto (pc := 27) 34 dX6_takesTest_27 (by decide) ?_
    exact o_Tx_takesTest_b34 v1 s0 (-1) M
theorem o_Tx_takesTest (M : Mem) : Ct sRC g_Tx_takesTest fWi [.ref 6684679] (f_Tx_takesTest M) M := by
  refine ⟨Nat.le_of_ble_eq_true rfl, ?_⟩
  show Go sRC g_Tx_takesTest fWi (f_Tx_takesTest M) 0 [.ref 6684679, .null, .null, .null] [] M
  refine go_def (f_Tx_takesTest.eq_1 ..) ?_
  refine go_aload_n (pc := 0) dX6_takesTest_0 rfl ?_
  refine go_ldcS (pc := 1) 4 (by decide) rfl dX6_takesTest_1 ?_
  refine go_callV (pc := 3) (a := 6684679) (as := [.ref 524307]) (st := []) (o_Tx_takenOneOf 524307 rfl (by decide) M) ic_Tx_takenOneOf ivX6_80 (rcvk (a := 6684679) (t := 7) rfl (by decide) (by decide) rfl) rfl (by decide) (Nat.le_of_ble_eq_true rfl) dX6_takesTest_3 (kWi fun r2 M1 => ?_)
  refine go_istore_n (pc := 6) (ls' := [.ref 6684679, .int r2, .null, .null]) dX6_takesTest_6 (Nat.le_of_ble_eq_true rfl) rfl rfl ?_
  refine go_iload_n (pc := 7) dX6_takesTest_7 rfl ?_
  refine go_ifge (pc := 8) 15 dX6_takesTest_8 (by decide) (fun _ => ?_) (fun _ => ?_)
  · refine go_aload_n (pc := 15) dX6_takesTest_15 rfl ?_
    refine go_ldcS (pc := 16) 5 (by decide) rfl dX6_takesTest_16 ?_
    refine go_callV (pc := 18) (a := 6684679) (as := [.ref 655379]) (st := []) (o_Tx_takenOneOf 655379 rfl (by decide) M1) ic_Tx_takenOneOf ivX6_80 (rcvk (a := 6684679) (t := 7) rfl (by decide) (by decide) rfl) rfl (by decide) (Nat.le_of_ble_eq_true rfl) dX6_takesTest_18 (kWi fun r4 M3 => ?_)
    exact o_Tx_takesTest_b21 r2 r4 M3
  · refine go_iconst (pc := 11) (-1) dX6_takesTest_11 ki_m1 ?_
    refine go_goto (pc := 12) 21 dX6_takesTest_12 (by decide) ?_
    exact o_Tx_takesTest_b21 r2 (-1) M1
def f_Tx_takesFactor_l71 (rec : Nat → Int32 → Mem → Option (Int32 × Mem)) : Nat → Int32 → Int32 → Int32 → Mem → Option (Int32 × Mem)
  | 0, _, _, _, _ => none
  | n + 1, v2, v3, v4, M => if v2 ≤ v4 then gd (v3 = 0 ∨ v3 = 1) (some (v3, M)) else bd (f_Tx_addCode (-1) M) fun M13 => lt (v4 + 1) fun x14 => f_Tx_takesFactor_l71 rec n v2 v3 x14 M13
def f_Tx_takesFactor_b67 (rec : Nat → Int32 → Mem → Option (Int32 × Mem)) (v1 : Int32) (v2 : Int32) (s0 : Int32) (M : Mem) : Option (Int32 × Mem) := f_Tx_takesFactor_l71 rec 200 v2 s0 v1 M
def f_Tx_takesFactor_b63 (rec : Nat → Int32 → Mem → Option (Int32 × Mem)) (v1 : Int32) (v2 : Int32) (M : Mem) : Option (Int32 × Mem) := b2 (f_Tx_takesTest M) fun r11 M10 => f_Tx_takesFactor_b67 rec v1 v2 r11 M10
def f_Tx_takesFactor_b59 (rec : Nat → Int32 → Mem → Option (Int32 × Mem)) (v1 : Int32) (v2 : Int32) (M : Mem) : Option (Int32 × Mem) := f_Tx_takesFactor_b67 rec v1 v2 0 M
def f_Tx_takesFactor_b22 (rec : Nat → Int32 → Mem → Option (Int32 × Mem)) (v1 : Int32) (v2 : Int32) (M : Mem) : Option (Int32 × Mem) := if 4 ≤ v2 then f_Tx_takesFactor_b63 rec v1 v2 M else b2 (f_Tx_takes 40 M) fun r5 M4 => if r5 = 0 then f_Tx_takesFactor_b63 rec v1 v2 M4 else b2 (rec 0 (v2 + 1) M4) fun r7 M6 => if r7 = 0 then f_Tx_takesFactor_b59 rec v1 v2 M6 else b2 (f_Tx_takes 41 M6) fun r9 M8 => if r9 = 0 then f_Tx_takesFactor_b59 rec v1 v2 M8 else f_Tx_takesFactor_b67 rec v1 v2 1 M8
def f_Tx_takesFactor_l2 (rec : Nat → Int32 → Mem → Option (Int32 × Mem)) : Nat → Int32 → Int32 → Mem → Option (Int32 × Mem)
  | 0, _, _, _ => none
  | n + 1, v1, v2, M => if 4 ≤ v2 then f_Tx_takesFactor_b22 rec v1 v2 M else b2 (f_Tx_takes 33 M) fun r2 M1 => if r2 = 0 then f_Tx_takesFactor_b22 rec v1 v2 M1 else lt (v2 + 1) fun x3 => f_Tx_takesFactor_l2 rec n v1 x3 M1
def f_Tx_takesFactor (rec : Nat → Int32 → Mem → Option (Int32 × Mem)) (p1 : Int32) (M : Mem) : Option (Int32 × Mem) := f_Tx_takesFactor_l2 rec 200 p1 p1 M
theorem o_Tx_takesFactor_l71 (rn : Nat) (rec : Nat → Int32 → Mem → Option (Int32 × Mem)) (hrec : ∀ (sel : Nat) (p1 : Int32) (M : Mem), Ct sRC (grec_takes sel rn) fWi [.ref 6684679, .int p1] (rec sel p1 M) M) : ∀ (n : Nat) (v2 : Int32) (v3 : Int32) (v4 : Int32) (M : Mem), Go sRC (g_Tx_takesFactor (rn + 1)) fWi (f_Tx_takesFactor_l71 rec n v2 v3 v4 M) 71 [.ref 6684679, .null, .int v2, .int v3, .int v4] [] M := by
  intro n
  induction n with
  | zero =>
    intro v2 v3 v4 M
    exact go_def (f_Tx_takesFactor_l71.eq_1 ..) go_none
  | succ n ih =>
    intro v2 v3 v4 M
    refine go_def (f_Tx_takesFactor_l71.eq_2 ..) ?_
    refine go_iload (pc := 71) dX6_takesFactor_71 rfl ?_
    refine go_iload_n (pc := 73) dX6_takesFactor_73 rfl ?_
    refine go_icmpge (pc := 74) 88 dX6_takesFactor_74 (by decide) (fun _ => ?_) (fun _ => ?_)
    · refine go_iload_n (pc := 88) dX6_takesFactor_88 rfl ?_
      refine go_gd fun g12 => ?_
      exact go_ret dX6_takesFactor_89 (rbz g12) rfl rfl
    · refine go_aload_n (pc := 77) dX6_takesFactor_77 rfl ?_
      refine go_iconst (pc := 78) (-1) dX6_takesFactor_78 ki_m1 ?_
      refine go_callV (pc := 79) (a := 6684679) (as := [.int (-1)]) (st := []) (o_Tx_addCode (-1) M) ic_Tx_addCode ivX6_67 (rcvk (a := 6684679) (t := 7) rfl (by decide) (by decide) rfl) rfl (show 2 + 1 ≤ 8 + (rn + 1) by omega) (Nat.le_of_ble_eq_true rfl) dX6_takesFactor_79 (kWv fun M13 => ?_)
      refine go_iincL (pc := 82) (L := fun x14 => [.ref 6684679, .null, .int v2, .int v3, .int x14]) 1 dX6_takesFactor_82 rfl ki_1 (Nat.le_of_ble_eq_true rfl) rfl (fun _ => rfl) (fun x14 => ?_)
      refine go_goto (pc := 85) 71 dX6_takesFactor_85 (by decide) ?_
      exact ih v2 v3 x14 M13
theorem o_Tx_takesFactor_b67 (rn : Nat) (rec : Nat → Int32 → Mem → Option (Int32 × Mem)) (hrec : ∀ (sel : Nat) (p1 : Int32) (M : Mem), Ct sRC (grec_takes sel rn) fWi [.ref 6684679, .int p1] (rec sel p1 M) M) (v1 : Int32) (v2 : Int32) (s0 : Int32) (M : Mem) : Go sRC (g_Tx_takesFactor (rn + 1)) fWi (f_Tx_takesFactor_b67 rec v1 v2 s0 M) 67 [.ref 6684679, .int v1, .int v2, .null, .null] [.int s0] M := by
  refine go_def (f_Tx_takesFactor_b67.eq_1 ..) ?_
  refine go_istore_n (pc := 67) (ls' := [.ref 6684679, .int v1, .int v2, .int s0, .null]) dX6_takesFactor_67 (Nat.le_of_ble_eq_true rfl) rfl rfl ?_
  refine go_iload_n (pc := 68) dX6_takesFactor_68 rfl ?_
  refine go_istore (pc := 69) (ls' := [.ref 6684679, .int v1, .int v2, .int s0, .int v1]) dX6_takesFactor_69 (Nat.le_of_ble_eq_true rfl) rfl rfl ?_
  refine go_sub (ls' := [.ref 6684679, .null, .int v2, .int s0, .int v1]) ⟨Or.inr rfl, Or.inl rfl, Or.inr rfl, Or.inr rfl, Or.inr rfl, trivial⟩ ?_
  exact o_Tx_takesFactor_l71 rn rec hrec 200 v2 s0 v1 M
theorem o_Tx_takesFactor_b63 (rn : Nat) (rec : Nat → Int32 → Mem → Option (Int32 × Mem)) (hrec : ∀ (sel : Nat) (p1 : Int32) (M : Mem), Ct sRC (grec_takes sel rn) fWi [.ref 6684679, .int p1] (rec sel p1 M) M) (v1 : Int32) (v2 : Int32) (M : Mem) : Go sRC (g_Tx_takesFactor (rn + 1)) fWi (f_Tx_takesFactor_b63 rec v1 v2 M) 63 [.ref 6684679, .int v1, .int v2, .null, .null] [] M := by
  refine go_def (f_Tx_takesFactor_b63.eq_1 ..) ?_
  refine go_aload_n (pc := 63) dX6_takesFactor_63 rfl ?_
  refine go_callV (pc := 64) (a := 6684679) (as := []) (st := []) (o_Tx_takesTest M) ic_Tx_takesTest ivX6_74 (rcvk (a := 6684679) (t := 7) rfl (by decide) (by decide) rfl) rfl (show 7 + 1 ≤ 8 + (rn + 1) by omega) (Nat.le_of_ble_eq_true rfl) dX6_takesFactor_64 (kWi fun r11 M10 => ?_)
  exact o_Tx_takesFactor_b67 rn rec hrec v1 v2 r11 M10
theorem o_Tx_takesFactor_b59 (rn : Nat) (rec : Nat → Int32 → Mem → Option (Int32 × Mem)) (hrec : ∀ (sel : Nat) (p1 : Int32) (M : Mem), Ct sRC (grec_takes sel rn) fWi [.ref 6684679, .int p1] (rec sel p1 M) M) (v1 : Int32) (v2 : Int32) (M : Mem) : Go sRC (g_Tx_takesFactor (rn + 1)) fWi (f_Tx_takesFactor_b59 rec v1 v2 M) 59 [.ref 6684679, .int v1, .int v2, .null, .null] [] M := by
  refine go_def (f_Tx_takesFactor_b59.eq_1 ..) ?_
  refine go_iconst (pc := 59) 0 dX6_takesFactor_59 ki_0 ?_
  refine go_goto (pc := 60) 67 dX6_takesFactor_60 (by decide) ?_
  exact o_Tx_takesFactor_b67 rn rec hrec v1 v2 0 M
theorem o_Tx_takesFactor_b22 (rn : Nat) (rec : Nat → Int32 → Mem → Option (Int32 × Mem)) (hrec : ∀ (sel : Nat) (p1 : Int32) (M : Mem), Ct sRC (grec_takes sel rn) fWi [.ref 6684679, .int p1] (rec sel p1 M) M) (v1 : Int32) (v2 : Int32) (M : Mem) : Go sRC (g_Tx_takesFactor (rn + 1)) fWi (f_Tx_takesFactor_b22 rec v1 v2 M) 22 [.ref 6684679, .int v1, .int v2, .null, .null] [] M := by
  refine go_def (f_Tx_takesFactor_b22.eq_1 ..) ?_
  refine go_iload_n (pc := 22) dX6_takesFactor_22 rfl ?_
  refine go_iconst (pc := 23) 4 dX6_takesFactor_23 ki_4 ?_
  refine go_icmpge (pc := 24) 63 dX6_takesFactor_24 (by decide) (fun _ => ?_) (fun _ => ?_)
  · exact o_Tx_takesFactor_b63 rn rec hrec v1 v2 M
  · refine go_aload_n (pc := 27) dX6_takesFactor_27 rfl ?_
    refine go_bipush (pc := 28) 40 dX6_takesFactor_28 kb_40 ?_
    refine go_callV (pc := 30) (a := 6684679) (as := [.int 40]) (st := []) (o_Tx_takes 40 M) ic_Tx_takes ivX6_32 (rcvk (a := 6684679) (t := 7) rfl (by decide) (by decide) rfl) rfl (show 2 + 1 ≤ 8 + (rn + 1) by omega) (Nat.le_of_ble_eq_true rfl) dX6_takesFactor_30 (kWi fun r5 M4 => ?_)
    refine go_ifeq (pc := 33) 63 dX6_takesFactor_33 (by decide) (fun _ => ?_) (fun _ => ?_)
    · exact o_Tx_takesFactor_b63 rn rec hrec v1 v2 M4
    · refine go_aload_n (pc := 36) dX6_takesFactor_36 rfl ?_
      refine go_iload_n (pc := 37) dX6_takesFactor_37 rfl ?_
      refine go_iconst (pc := 38) 1 dX6_takesFactor_38 ki_1 ?_
      refine go_iadd (pc := 39) dX6_takesFactor_39 ?_
      refine go_callV (pc := 40) (a := 6684679) (as := [.int (v2 + 1)]) (st := []) (hrec 0 (v2 + 1) M4) (ic_Tx_takesAnyOf _) ivX6_46 (rcvk (a := 6684679) (t := 7) rfl (by decide) (by decide) rfl) rfl (show 8 + rn + 1 ≤ 8 + (rn + 1) by omega) (Nat.le_of_ble_eq_true rfl) dX6_takesFactor_40 (kWi fun r7 M6 => ?_)
      refine go_ifeq (pc := 43) 59 dX6_takesFactor_43 (by decide) (fun _ => ?_) (fun _ => ?_)
      · exact o_Tx_takesFactor_b59 rn rec hrec v1 v2 M6
      · refine go_aload_n (pc := 46) dX6_takesFactor_46 rfl ?_
        refine go_bipush (pc := 47) 41 dX6_takesFactor_47 kb_41 ?_
        refine go_callV (pc := 49) (a := 6684679) (as := [.int 41]) (st := []) (o_Tx_takes 41 M6) ic_Tx_takes ivX6_32 (rcvk (a := 6684679) (t := 7) rfl (by decide) (by decide) rfl) rfl (show 2 + 1 ≤ 8 + (rn + 1) by omega) (Nat.le_of_ble_eq_true rfl) dX6_takesFactor_49 (kWi fun r9 M8 => ?_)
        refine go_ifeq (pc := 52) 59 dX6_takesFactor_52 (by decide) (fun _ => ?_) (fun _ => ?_)
        · exact o_Tx_takesFactor_b59 rn rec hrec v1 v2 M8
        · refine go_iconst (pc := 55) 1 dX6_takesFactor_55 ki_1 ?_
          refine go_goto (pc := 56) 67 dX6_takesFactor_56 (by decide) ?_
          exact o_Tx_takesFactor_b67 rn rec hrec v1 v2 1 M8
theorem o_Tx_takesFactor_l2 (rn : Nat) (rec : Nat → Int32 → Mem → Option (Int32 × Mem)) (hrec : ∀ (sel : Nat) (p1 : Int32) (M : Mem), Ct sRC (grec_takes sel rn) fWi [.ref 6684679, .int p1] (rec sel p1 M) M) : ∀ (n : Nat) (v1 : Int32) (v2 : Int32) (M : Mem), Go sRC (g_Tx_takesFactor (rn + 1)) fWi (f_Tx_takesFactor_l2 rec n v1 v2 M) 2 [.ref 6684679, .int v1, .int v2, .null, .null] [] M := by
  intro n
  induction n with
  | zero =>
    intro v1 v2 M
    exact go_def (f_Tx_takesFactor_l2.eq_1 ..) go_none
  | succ n ih =>
    intro v1 v2 M
    refine go_def (f_Tx_takesFactor_l2.eq_2 ..) ?_
    refine go_iload_n (pc := 2) dX6_takesFactor_2 rfl ?_
    refine go_iconst (pc := 3) 4 dX6_takesFactor_3 ki_4 ?_
    refine go_icmpge (pc := 4) 22 dX6_takesFactor_4 (by decide) (fun _ => ?_) (fun _ => ?_)
    · exact o_Tx_takesFactor_b22 rn rec hrec v1 v2 M
    · refine go_aload_n (pc := 7) dX6_takesFactor_7 rfl ?_
      refine go_bipush (pc := 8) 33 dX6_takesFactor_8 kb_33 ?_
      refine go_callV (pc := 10) (a := 6684679) (as := [.int 33]) (st := []) (o_Tx_takes 33 M) ic_Tx_takes ivX6_32 (rcvk (a := 6684679) (t := 7) rfl (by decide) (by decide) rfl) rfl (show 2 + 1 ≤ 8 + (rn + 1) by omega) (Nat.le_of_ble_eq_true rfl) dX6_takesFactor_10 (kWi fun r2 M1 => ?_)
      refine go_ifeq (pc := 13) 22 dX6_takesFactor_13 (by decide) (fun _ => ?_) (fun _ => ?_)
      · exact o_Tx_takesFactor_b22 rn rec hrec v1 v2 M1
      · refine go_iincL (pc := 16) (L := fun x3 => [.ref 6684679, .int v1, .int x3, .null, .null]) 1 dX6_takesFactor_16 rfl ki_1 (Nat.le_of_ble_eq_true rfl) rfl (fun _ => rfl) (fun x3 => ?_)
        refine go_goto (pc := 19) 2 dX6_takesFactor_19 (by decide) ?_
        exact ih v1 x3 M1
theorem o_Tx_takesFactor (rn : Nat) (rec : Nat → Int32 → Mem → Option (Int32 × Mem)) (hrec : ∀ (sel : Nat) (p1 : Int32) (M : Mem), Ct sRC (grec_takes sel rn) fWi [.ref 6684679, .int p1] (rec sel p1 M) M) (p1 : Int32) (M : Mem) : Ct sRC (g_Tx_takesFactor (rn + 1)) fWi [.ref 6684679, .int p1] (f_Tx_takesFactor rec p1 M) M := by
  refine ⟨Nat.le_of_ble_eq_true rfl, ?_⟩
  show Go sRC (g_Tx_takesFactor (rn + 1)) fWi (f_Tx_takesFactor rec p1 M) 0 [.ref 6684679, .int p1, .null, .null, .null] [] M
  refine go_def (f_Tx_takesFactor.eq_1 ..) ?_
  refine go_iload_n (pc := 0) dX6_takesFactor_0 rfl ?_
  refine go_istore_n (pc := 1) (ls' := [.ref 6684679, .int p1, .int p1, .null, .null]) dX6_takesFactor_1 (Nat.le_of_ble_eq_true rfl) rfl rfl ?_
  exact o_Tx_takesFactor_l2 rn rec hrec 200 p1 p1 M
def f_Tx_takesAllOf_l12 (rec : Nat → Int32 → Mem → Option (Int32 × Mem)) : Nat → Int32 → Int32 → Mem → Option (Int32 × Mem)
  | 0, _, _, _ => none
  | n + 1, v1, v2, M => if 100 ≤ v2 then some (1, M) else b2 (f_Tx_takes 38 M) fun r4 M3 => if r4 = 0 then some (1, M3) else b2 (rec 2 v1 M3) fun r6 M5 => if r6 = 0 then some (0, M5) else bd (f_Tx_addCode (-2) M5) fun M7 => lt (v2 + 1) fun x8 => f_Tx_takesAllOf_l12 rec n v1 x8 M7
def f_Tx_takesAllOf (rec : Nat → Int32 → Mem → Option (Int32 × Mem)) (p1 : Int32) (M : Mem) : Option (Int32 × Mem) := b2 (rec 2 p1 M) fun r2 M1 => if r2 = 0 then some (0, M1) else f_Tx_takesAllOf_l12 rec 200 p1 0 M1
theorem o_Tx_takesAllOf_l12 (rn : Nat) (rec : Nat → Int32 → Mem → Option (Int32 × Mem)) (hrec : ∀ (sel : Nat) (p1 : Int32) (M : Mem), Ct sRC (grec_takes sel rn) fWi [.ref 6684679, .int p1] (rec sel p1 M) M) : ∀ (n : Nat) (v1 : Int32) (v2 : Int32) (M : Mem), Go sRC (g_Tx_takesAllOf (rn + 1)) fWi (f_Tx_takesAllOf_l12 rec n v1 v2 M) 12 [.ref 6684679, .int v1, .int v2] [] M := by
  intro n
  induction n with
  | zero =>
    intro v1 v2 M
    exact go_def (f_Tx_takesAllOf_l12.eq_1 ..) go_none
  | succ n ih =>
    intro v1 v2 M
    refine go_def (f_Tx_takesAllOf_l12.eq_2 ..) ?_
    refine go_iload_n (pc := 12) dX6_takesAllOf_12 rfl ?_
    refine go_bipush (pc := 13) 100 dX6_takesAllOf_13 kb_100 ?_
    refine go_icmpge (pc := 15) 49 dX6_takesAllOf_15 (by decide) (fun _ => ?_) (fun _ => ?_)
    · refine go_iconst (pc := 49) 1 dX6_takesAllOf_49 ki_1 ?_
      exact go_ret dX6_takesAllOf_50 (rbz (Or.inr rfl)) rfl rfl
    · refine go_aload_n (pc := 18) dX6_takesAllOf_18 rfl ?_
      refine go_bipush (pc := 19) 38 dX6_takesAllOf_19 kb_38 ?_
      refine go_callV (pc := 21) (a := 6684679) (as := [.int 38]) (st := []) (o_Tx_takes 38 M) ic_Tx_takes ivX6_32 (rcvk (a := 6684679) (t := 7) rfl (by decide) (by decide) rfl) rfl (show 2 + 1 ≤ 8 + (rn + 1) by omega) (Nat.le_of_ble_eq_true rfl) dX6_takesAllOf_21 (kWi fun r4 M3 => ?_)
      refine go_ifeq (pc := 24) 49 dX6_takesAllOf_24 (by decide) (fun _ => ?_) (fun _ => ?_)
      · refine go_iconst (pc := 49) 1 dX6_takesAllOf_49 ki_1 ?_
        exact go_ret dX6_takesAllOf_50 (rbz (Or.inr rfl)) rfl rfl
      · refine go_aload_n (pc := 27) dX6_takesAllOf_27 rfl ?_
        refine go_iload_n (pc := 28) dX6_takesAllOf_28 rfl ?_
        refine go_callV (pc := 29) (a := 6684679) (as := [.int v1]) (st := []) (hrec 2 v1 M3) (ic_Tx_takesFactor _) ivX6_71 (rcvk (a := 6684679) (t := 7) rfl (by decide) (by decide) rfl) rfl (show 8 + rn + 1 ≤ 8 + (rn + 1) by omega) (Nat.le_of_ble_eq_true rfl) dX6_takesAllOf_29 (kWi fun r6 M5 => ?_)
        refine go_ifne (pc := 32) 37 dX6_takesAllOf_32 (by decide) (fun _ => ?_) (fun _ => ?_)
        · refine go_iconst (pc := 35) 0 dX6_takesAllOf_35 ki_0 ?_
          exact go_ret dX6_takesAllOf_36 (rbz (Or.inl rfl)) rfl rfl
        · refine go_aload_n (pc := 37) dX6_takesAllOf_37 rfl ?_
          refine go_bipush (pc := 38) (-2) dX6_takesAllOf_38 kb_m2 ?_
          refine go_callV (pc := 40) (a := 6684679) (as := [.int (-2)]) (st := []) (o_Tx_addCode (-2) M5) ic_Tx_addCode ivX6_67 (rcvk (a := 6684679) (t := 7) rfl (by decide) (by decide) rfl) rfl (show 2 + 1 ≤ 8 + (rn + 1) by omega) (Nat.le_of_ble_eq_true rfl) dX6_takesAllOf_40 (kWv fun M7 => ?_)
          refine go_iincL (pc := 43) (L := fun x8 => [.ref 6684679, .int v1, .int x8]) 1 dX6_takesAllOf_43 rfl ki_1 (Nat.le_of_ble_eq_true rfl) rfl (fun _ => rfl) (fun x8 => ?_)
          refine go_goto (pc := 46) 12 dX6_takesAllOf_46 (by decide) ?_
          exact ih v1 x8 M7
theorem o_Tx_takesAllOf (rn : Nat) (rec : Nat → Int32 → Mem → Option (Int32 × Mem)) (hrec : ∀ (sel : Nat) (p1 : Int32) (M : Mem), Ct sRC (grec_takes sel rn) fWi [.ref 6684679, .int p1] (rec sel p1 M) M) (p1 : Int32) (M : Mem) : Ct sRC (g_Tx_takesAllOf (rn + 1)) fWi [.ref 6684679, .int p1] (f_Tx_takesAllOf rec p1 M) M := by
  refine ⟨Nat.le_of_ble_eq_true rfl, ?_⟩
  show Go sRC (g_Tx_takesAllOf (rn + 1)) fWi (f_Tx_takesAllOf rec p1 M) 0 [.ref 6684679, .int p1, .null] [] M
  refine go_def (f_Tx_takesAllOf.eq_1 ..) ?_
  refine go_aload_n (pc := 0) dX6_takesAllOf_0 rfl ?_
  refine go_iload_n (pc := 1) dX6_takesAllOf_1 rfl ?_
  refine go_callV (pc := 2) (a := 6684679) (as := [.int p1]) (st := []) (hrec 2 p1 M) (ic_Tx_takesFactor _) ivX6_71 (rcvk (a := 6684679) (t := 7) rfl (by decide) (by decide) rfl) rfl (show 8 + rn + 1 ≤ 8 + (rn + 1) by omega) (Nat.le_of_ble_eq_true rfl) dX6_takesAllOf_2 (kWi fun r2 M1 => ?_)
  refine go_ifne (pc := 5) 10 dX6_takesAllOf_5 (by decide) (fun _ => ?_) (fun _ => ?_)
  · refine go_iconst (pc := 8) 0 dX6_takesAllOf_8 ki_0 ?_
    exact go_ret dX6_takesAllOf_9 (rbz (Or.inl rfl)) rfl rfl
  · refine go_iconst (pc := 10) 0 dX6_takesAllOf_10 ki_0 ?_
    refine go_istore_n (pc := 11) (ls' := [.ref 6684679, .int p1, .int 0]) dX6_takesAllOf_11 (Nat.le_of_ble_eq_true rfl) rfl rfl ?_
    exact o_Tx_takesAllOf_l12 rn rec hrec 200 p1 0 M1
def f_Tx_takesAnyOf_l12 (rec : Nat → Int32 → Mem → Option (Int32 × Mem)) : Nat → Int32 → Int32 → Mem → Option (Int32 × Mem)
  | 0, _, _, _ => none
  | n + 1, v1, v2, M => if 100 ≤ v2 then some (1, M) else b2 (f_Tx_takes 124 M) fun r4 M3 => if r4 = 0 then some (1, M3) else b2 (rec 1 v1 M3) fun r6 M5 => if r6 = 0 then some (0, M5) else bd (f_Tx_addCode (-3) M5) fun M7 => lt (v2 + 1) fun x8 => f_Tx_takesAnyOf_l12 rec n v1 x8 M7
def f_Tx_takesAnyOf (rec : Nat → Int32 → Mem → Option (Int32 × Mem)) (p1 : Int32) (M : Mem) : Option (Int32 × Mem) := b2 (rec 1 p1 M) fun r2 M1 => if r2 = 0 then some (0, M1) else f_Tx_takesAnyOf_l12 rec 200 p1 0 M1
theorem o_Tx_takesAnyOf_l12 (rn : Nat) (rec : Nat → Int32 → Mem → Option (Int32 × Mem)) (hrec : ∀ (sel : Nat) (p1 : Int32) (M : Mem), Ct sRC (grec_takes sel rn) fWi [.ref 6684679, .int p1] (rec sel p1 M) M) : ∀ (n : Nat) (v1 : Int32) (v2 : Int32) (M : Mem), Go sRC (g_Tx_takesAnyOf (rn + 1)) fWi (f_Tx_takesAnyOf_l12 rec n v1 v2 M) 12 [.ref 6684679, .int v1, .int v2] [] M := by
  intro n
  induction n with
  | zero =>
    intro v1 v2 M
    exact go_def (f_Tx_takesAnyOf_l12.eq_1 ..) go_none
  | succ n ih =>
    intro v1 v2 M
    refine go_def (f_Tx_takesAnyOf_l12.eq_2 ..) ?_
    refine go_iload_n (pc := 12) dX6_takesAnyOf_12 rfl ?_
    refine go_bipush (pc := 13) 100 dX6_takesAnyOf_13 kb_100 ?_
    refine go_icmpge (pc := 15) 49 dX6_takesAnyOf_15 (by decide) (fun _ => ?_) (fun _ => ?_)
    · refine go_iconst (pc := 49) 1 dX6_takesAnyOf_49 ki_1 ?_
      exact go_ret dX6_takesAnyOf_50 (rbz (Or.inr rfl)) rfl rfl
    · refine go_aload_n (pc := 18) dX6_takesAnyOf_18 rfl ?_
      refine go_bipush (pc := 19) 124 dX6_takesAnyOf_19 kb_124 ?_
      refine go_callV (pc := 21) (a := 6684679) (as := [.int 124]) (st := []) (o_Tx_takes 124 M) ic_Tx_takes ivX6_32 (rcvk (a := 6684679) (t := 7) rfl (by decide) (by decide) rfl) rfl (show 2 + 1 ≤ 8 + (rn + 1) by omega) (Nat.le_of_ble_eq_true rfl) dX6_takesAnyOf_21 (kWi fun r4 M3 => ?_)
      refine go_ifeq (pc := 24) 49 dX6_takesAnyOf_24 (by decide) (fun _ => ?_) (fun _ => ?_)
      · refine go_iconst (pc := 49) 1 dX6_takesAnyOf_49 ki_1 ?_
        exact go_ret dX6_takesAnyOf_50 (rbz (Or.inr rfl)) rfl rfl
      · refine go_aload_n (pc := 27) dX6_takesAnyOf_27 rfl ?_
        refine go_iload_n (pc := 28) dX6_takesAnyOf_28 rfl ?_
        refine go_callV (pc := 29) (a := 6684679) (as := [.int v1]) (st := []) (hrec 1 v1 M3) (ic_Tx_takesAllOf _) ivX6_64 (rcvk (a := 6684679) (t := 7) rfl (by decide) (by decide) rfl) rfl (show 8 + rn + 1 ≤ 8 + (rn + 1) by omega) (Nat.le_of_ble_eq_true rfl) dX6_takesAnyOf_29 (kWi fun r6 M5 => ?_)
        refine go_ifne (pc := 32) 37 dX6_takesAnyOf_32 (by decide) (fun _ => ?_) (fun _ => ?_)
        · refine go_iconst (pc := 35) 0 dX6_takesAnyOf_35 ki_0 ?_
          exact go_ret dX6_takesAnyOf_36 (rbz (Or.inl rfl)) rfl rfl
        · refine go_aload_n (pc := 37) dX6_takesAnyOf_37 rfl ?_
          refine go_bipush (pc := 38) (-3) dX6_takesAnyOf_38 kb_m3 ?_
          refine go_callV (pc := 40) (a := 6684679) (as := [.int (-3)]) (st := []) (o_Tx_addCode (-3) M5) ic_Tx_addCode ivX6_67 (rcvk (a := 6684679) (t := 7) rfl (by decide) (by decide) rfl) rfl (show 2 + 1 ≤ 8 + (rn + 1) by omega) (Nat.le_of_ble_eq_true rfl) dX6_takesAnyOf_40 (kWv fun M7 => ?_)
          refine go_iincL (pc := 43) (L := fun x8 => [.ref 6684679, .int v1, .int x8]) 1 dX6_takesAnyOf_43 rfl ki_1 (Nat.le_of_ble_eq_true rfl) rfl (fun _ => rfl) (fun x8 => ?_)
          refine go_goto (pc := 46) 12 dX6_takesAnyOf_46 (by decide) ?_
          exact ih v1 x8 M7
theorem o_Tx_takesAnyOf (rn : Nat) (rec : Nat → Int32 → Mem → Option (Int32 × Mem)) (hrec : ∀ (sel : Nat) (p1 : Int32) (M : Mem), Ct sRC (grec_takes sel rn) fWi [.ref 6684679, .int p1] (rec sel p1 M) M) (p1 : Int32) (M : Mem) : Ct sRC (g_Tx_takesAnyOf (rn + 1)) fWi [.ref 6684679, .int p1] (f_Tx_takesAnyOf rec p1 M) M := by
  refine ⟨Nat.le_of_ble_eq_true rfl, ?_⟩
  show Go sRC (g_Tx_takesAnyOf (rn + 1)) fWi (f_Tx_takesAnyOf rec p1 M) 0 [.ref 6684679, .int p1, .null] [] M
  refine go_def (f_Tx_takesAnyOf.eq_1 ..) ?_
  refine go_aload_n (pc := 0) dX6_takesAnyOf_0 rfl ?_
  refine go_iload_n (pc := 1) dX6_takesAnyOf_1 rfl ?_
  refine go_callV (pc := 2) (a := 6684679) (as := [.int p1]) (st := []) (hrec 1 p1 M) (ic_Tx_takesAllOf _) ivX6_64 (rcvk (a := 6684679) (t := 7) rfl (by decide) (by decide) rfl) rfl (show 8 + rn + 1 ≤ 8 + (rn + 1) by omega) (Nat.le_of_ble_eq_true rfl) dX6_takesAnyOf_2 (kWi fun r2 M1 => ?_)
  refine go_ifne (pc := 5) 10 dX6_takesAnyOf_5 (by decide) (fun _ => ?_) (fun _ => ?_)
  · refine go_iconst (pc := 8) 0 dX6_takesAnyOf_8 ki_0 ?_
    exact go_ret dX6_takesAnyOf_9 (rbz (Or.inl rfl)) rfl rfl
  · refine go_iconst (pc := 10) 0 dX6_takesAnyOf_10 ki_0 ?_
    refine go_istore_n (pc := 11) (ls' := [.ref 6684679, .int p1, .int 0]) dX6_takesAnyOf_11 (Nat.le_of_ble_eq_true rfl) rfl rfl ?_
    exact o_Tx_takesAnyOf_l12 rn rec hrec 200 p1 0 M1
def f_rec_takes : Nat → Nat → Int32 → Mem → Option (Int32 × Mem)
  | 0, _, _, _ => none
  | n + 1, 0, p1, M => f_Tx_takesAnyOf (f_rec_takes n) p1 M
  | n + 1, 1, p1, M => f_Tx_takesAllOf (f_rec_takes n) p1 M
  | n + 1, _, p1, M => f_Tx_takesFactor (f_rec_takes n) p1 M
theorem o_rec_takes : ∀ (n sel : Nat) (p1 : Int32) (M : Mem), Ct sRC (grec_takes sel n) fWi [.ref 6684679, .int p1] (f_rec_takes n sel p1 M) M := by
  intro n
  induction n with
  | zero =>
    intro sel p1 M
    have e : f_rec_takes 0 sel p1 M = none := by unfold f_rec_takes; rfl
    rw [e]
    refine ⟨?_, go_none⟩
    match sel with
    | 0 => exact Nat.le_of_ble_eq_true rfl
    | 1 => exact Nat.le_of_ble_eq_true rfl
    | j + 2 => exact Nat.le_of_ble_eq_true rfl
  | succ n ih =>
    intro sel p1 M
    match sel with
    | 0 => exact o_Tx_takesAnyOf n (f_rec_takes n) ih p1 M
    | 1 => exact o_Tx_takesAllOf n (f_rec_takes n) ih p1 M
    | j + 2 => exact o_Tx_takesFactor n (f_rec_takes n) ih p1 M
def f_Ar_copyOf (p1 : Nat) (p2 : Int32) (M : Mem) : Option (Nat × Mem) := if p2 = (Int32.ofNat (lnA p1)) then none else gd (inR p2 4096) (lt (nid M (p2.toNatClampNeg * 32 + 11)) fun a1 => lt (newM M (p2.toNatClampNeg * 32 + 11) (p2.toNatClampNeg)) fun M2 => gd (cpOK 0 0 (mnI (Int32.ofNat (lnA p1)) p2) (lnA p1) (lnA a1)) (lt (cpyI M2 p1 (0 : Int32).toNatClampNeg a1 (0 : Int32).toNatClampNeg (mnI (Int32.ofNat (lnA p1)) p2).toNatClampNeg) fun M5 => some (a1, M5)))
theorem o_Ar_copyOf (sR : Nat → Nat → Nat) (hz : dynZ sR) (p1 : Nat) (p2 : Int32) (hp1 : p1 % 32 = 11) (M : Mem) : Ct sR g_Ar_copyOf fWr [.ref p1, .int p2] (f_Ar_copyOf p1 p2 M) M := by
  refine ⟨Nat.le_of_ble_eq_true rfl, ?_⟩
  show Go sR g_Ar_copyOf fWr (f_Ar_copyOf p1 p2 M) 0 [.ref p1, .int p2, .null] [] M
  refine go_def (f_Ar_copyOf.eq_1 ..) ?_
  refine go_iload_n (pc := 0) dJ7_copyOf_59c91_0 rfl ?_
  refine go_aload_n (pc := 1) dJ7_copyOf_59c91_1 rfl ?_
  refine go_alen (pc := 2) (by have : p1 % 32 = 11 := hp1; omega) (by have : p1 % 32 = 11 := hp1; omega) rfl dJ7_copyOf_59c91_2 ?_
  refine go_icmpne (pc := 3) 14 dJ7_copyOf_59c91_3 (by decide) (fun _ => ?_) (fun _ => ?_)
  · refine go_aload_n (pc := 6) dJ7_copyOf_59c91_6 rfl ?_
    exact go_none
  · refine go_iload_n (pc := 14) dJ7_copyOf_59c91_14 rfl ?_
    refine go_gd fun g4 => ?_
    refine go_newa (pc := 15) (t := 11) (N := p2.toNatClampNeg) (by decide) (by decide) g4 rfl (fun _ _ => hz _ _ (by omega)) (gT_of (mtb1 (mt64 (mt16 (mt1 (mt1 (mt1 (List.Mem.head _))))))) rfl) dJ7_copyOf_59c91_15 (fun a1 M2 k3 => ?_)
    refine go_astore_n (pc := 17) (ls' := [.ref p1, .int p2, .ref a1]) dJ7_copyOf_59c91_17 (Nat.le_of_ble_eq_true rfl) rfl rfl ?_
    refine go_aload_n (pc := 18) dJ7_copyOf_59c91_18 rfl ?_
    refine go_iconst (pc := 19) 0 dJ7_copyOf_59c91_19 ki_0 ?_
    refine go_aload_n (pc := 20) dJ7_copyOf_59c91_20 rfl ?_
    refine go_iconst (pc := 21) 0 dJ7_copyOf_59c91_21 ki_0 ?_
    refine go_aload_n (pc := 22) dJ7_copyOf_59c91_22 rfl ?_
    refine go_alen (pc := 23) (by have : p1 % 32 = 11 := hp1; omega) (by have : p1 % 32 = 11 := hp1; omega) rfl dJ7_copyOf_59c91_23 ?_
    refine go_iload_n (pc := 24) dJ7_copyOf_59c91_24 rfl ?_
    refine go_min (pc := 25) (gT_of (mtb3 (mt64 (mt64 (mt1 (mt1 (List.Mem.head _)))))) rfl) mw_min1 mw_i mw_min2 (by decide) (Nat.le_of_ble_eq_true rfl) dJ7_copyOf_59c91_25 ?_
    refine go_copyI (pc := 28) hp1 (ktag k3 (by decide)) rfl rfl (gT_of (mtb3 (mt64 (mt64 (mt1 (mt1 (mt1 (List.Mem.head _))))))) rfl) ac1 ac2 ac3 (by decide) (Nat.le_of_ble_eq_true rfl) dJ7_copyOf_59c91_28 (fun _ M5 => ?_)
    refine go_aload_n (pc := 31) dJ7_copyOf_59c91_31 rfl ?_
    exact go_ret dJ7_copyOf_59c91_32 ⟨_, rfl, Or.inr ⟨_, rfl⟩⟩ rfl rfl
def f_Tx_parse_b99 (K12 : Int32 → Mem → Option (Int32 × Mem)) (v1 : Int32) (v2 : Int32) (v3 : Int32) (M : Mem) : Option (Int32 × Mem) := lt (nid M 2) fun a14 => lt (newM M 2 3) fun M15 => b2 (f_Ar_copyOf 7081099 (mI M15 6684679 6) M15) fun r18 M17 => gd (r18 % 32 = 11) (bd (f_Cl_init a14 v2 v3 r18 M17) fun M20 => gd (inR v1 10) (lt (setR M20 6947152 v1.toNatClampNeg a14) fun M21 => lt (setI M21 6684679 4 (v1 + 1)) fun M22 => if (mI M22 6684679 2) < (mI M22 6684679 0) then lt (v1 + 1) fun x23 => K12 x23 M22 else some ((-1), M22)))
def f_Tx_parse_b77 (K12 : Int32 → Mem → Option (Int32 × Mem)) (v1 : Int32) (v2 : Int32) (v3 : Int32) (M : Mem) : Option (Int32 × Mem) := b2 (f_Tx_takes 32 M) fun r11 M10 => if r11 = 0 then some (mI M10 6684679 2, M10) else b2 (f_rec_takes 24 0 0 M10) fun r13 M12 => if r13 = 0 then some (mI M12 6684679 2, M12) else f_Tx_parse_b99 K12 v1 v2 v3 M12
def f_Tx_parse_b53 (K12 : Int32 → Mem → Option (Int32 × Mem)) (v1 : Int32) (v2 : Int32) (s0 : Int32) (M : Mem) : Option (Int32 × Mem) := if 0 ≤ s0 then lt (setI M 6684679 6 0) fun M9 => if v2 = 0 then f_Tx_parse_b77 K12 v1 v2 s0 M9 else if v2 = 1 then f_Tx_parse_b77 K12 v1 v2 s0 M9 else f_Tx_parse_b99 K12 v1 v2 s0 M9 else some (mI M 6684679 2, M)
def f_Tx_parse_b36 (K12 : Int32 → Mem → Option (Int32 × Mem)) (v1 : Int32) (M : Mem) : Option (Int32 × Mem) := b2 (f_Tx_takenWord M) fun r6 M5 => if 0 ≤ r6 then b2 (f_Tx_takenNumber M5) fun r8 M7 => f_Tx_parse_b53 K12 v1 r6 r8 M7 else f_Tx_parse_b53 K12 v1 r6 (-1) M5
def f_Tx_parse_l12 : Nat → Int32 → Mem → Option (Int32 × Mem)
  | 0, _, _ => none
  | n + 1, v1, M => if 10 ≤ v1 then some (mI M 6684679 2, M) else if v1 ≤ 0 then f_Tx_parse_b36 (f_Tx_parse_l12 n) v1 M else b2 (f_Tx_takes 59 M) fun r4 M3 => if r4 = 0 then some (mI M3 6684679 2, M3) else f_Tx_parse_b36 (f_Tx_parse_l12 n) v1 M3
def f_Tx_parse (M : Mem) : Option (Int32 × Mem) := lt (setI M 6684679 2 0) fun M1 => lt (setI M1 6684679 4 0) fun M2 => f_Tx_parse_l12 200 0 M2
theorem o_Tx_parse_b99 (K12 : Int32 → Mem → Option (Int32 × Mem)) (hK12 : ∀ (y1 : Int32) (M : Mem), Go sRC g_Tx_parse fWi (K12 y1 M) 12 [.ref 6684679, .int y1, .null, .null] [] M) (v1 : Int32) (v2 : Int32) (v3 : Int32) (M : Mem) : Go sRC g_Tx_parse fWi (f_Tx_parse_b99 K12 v1 v2 v3 M) 99 [.ref 6684679, .int v1, .int v2, .int v3] [] M := by
  refine go_def (f_Tx_parse_b99.eq_1 ..) ?_
  refine go_aload_n (pc := 99) dX6_parse_99 rfl ?_
  refine go_getS (pc := 100) 6947152 flX6_15 rfl rfl sC_7_3 (by decide) dX6_parse_100 ?_
  refine go_iload_n (pc := 103) dX6_parse_103 rfl ?_
  refine go_new (pc := 104) (t := 2) (by decide) (by decide) (fun _ _ => dzC _ _ (by omega)) (gT_of (mtb1 (mt64 (mt64 (mt1 (mt1 (List.Mem.head _)))))) rfl) (gT_of (mtb3 (mt64 (mt16 (mt16 (mt16 (mt4 (mt1 (mt1 (mt1 (List.Mem.head _)))))))))) rfl) (gT_of (mtb1 (mt4 (mt4 (mt4 (List.Mem.head _))))) rfl) dX6_parse_104 (fun a14 M15 k16 => ?_)
  refine go_dup (pc := 107) dX6_parse_107 rfl ?_
  refine go_iload_n (pc := 108) dX6_parse_108 rfl ?_
  refine go_iload_n (pc := 109) dX6_parse_109 rfl ?_
  refine go_aload_n (pc := 110) dX6_parse_110 rfl ?_
  refine go_getS (pc := 111) 7081099 flX6_19 rfl rfl sC_7_5 (by decide) dX6_parse_111 ?_
  refine go_aload_n (pc := 114) dX6_parse_114 rfl ?_
  refine go_getI (pc := 115) flX6_43 rfl rfl dX6_parse_115 ?_
  refine go_callS (pc := 118) (as := [.ref 7081099, .int (mI M15 6684679 6)]) (st := [.int v3, .int v2, .ref a14, .ref a14, .int v1, .ref 6947152]) (o_Ar_copyOf sRC dzC 7081099 (mI M15 6684679 6) rfl M15) ic_Ar_copyOf ivX6_50 rfl (by decide) (Nat.le_of_ble_eq_true rfl) dX6_parse_118 (kWr fun r18 M17 => ?_)
  refine go_gd fun g19 => ?_
  refine go_callI (pc := 121) (a := a14) (as := [.int v2, .int v3, .ref r18]) (st := [.ref a14, .int v1, .ref 6947152]) (o_Cl_init sRC dzC a14 v2 v3 r18 k16 g19 M17) ic_Cl_init rfl ivX6_56 (rcvk k16 (by decide) (by decide) rfl) rfl (by decide) (Nat.le_of_ble_eq_true rfl) dX6_parse_121 (kWv fun M20 => ?_)
  refine go_aast (pc := 124) (by decide) (by decide) rfl (by have h1 : a14 % 32 = 2 := (kd32 (t := 2) k16 rfl); have h2 : 6947152 % 32 = 16 := rfl; rw [h1, h2]; rfl) (fun j => dzC _ _ (by have : 6947152 % 32 = 16 := rfl; omega)) dX6_parse_124 (fun _ M21 => ?_)
  refine go_aload_n (pc := 125) dX6_parse_125 rfl ?_
  refine go_iload_n (pc := 126) dX6_parse_126 rfl ?_
  refine go_iconst (pc := 127) 1 dX6_parse_127 ki_1 ?_
  refine go_iadd (pc := 128) dX6_parse_128 ?_
  refine go_putI (pc := 129) flX6_29 rfl (Or.inl rfl) ⟨rfl, rfl⟩ rfl dX6_parse_129 (fun M22 => ?_)
  refine go_aload_n (pc := 132) dX6_parse_132 rfl ?_
  refine go_getI (pc := 133) flX6_26 rfl rfl dX6_parse_133 ?_
  refine go_aload_n (pc := 136) dX6_parse_136 rfl ?_
  refine go_getI (pc := 137) flX6_22 rfl rfl dX6_parse_137 ?_
  refine go_icmplt (pc := 140) 145 dX6_parse_140 (by decide) (fun _ => ?_) (fun _ => ?_)
  · refine go_iincL (pc := 145) (L := fun x23 => [.ref 6684679, .int x23, .int v2, .int v3]) 1 dX6_parse_145 rfl ki_1 (Nat.le_of_ble_eq_true rfl) rfl (fun _ => rfl) (fun x23 => ?_)
    refine go_goto (pc := 148) 12 dX6_parse_148 (by decide) ?_
    refine go_sub (ls' := [.ref 6684679, .int x23, .null, .null]) ⟨Or.inr rfl, Or.inr rfl, Or.inl rfl, Or.inl rfl, trivial⟩ ?_
    exact hK12 x23 M22
  · refine go_iconst (pc := 143) (-1) dX6_parse_143 ki_m1 ?_
    exact go_ret dX6_parse_144 rii rfl rfl
theorem o_Tx_parse_b77 (K12 : Int32 → Mem → Option (Int32 × Mem)) (hK12 : ∀ (y1 : Int32) (M : Mem), Go sRC g_Tx_parse fWi (K12 y1 M) 12 [.ref 6684679, .int y1, .null, .null] [] M) (v1 : Int32) (v2 : Int32) (v3 : Int32) (M : Mem) : Go sRC g_Tx_parse fWi (f_Tx_parse_b77 K12 v1 v2 v3 M) 77 [.ref 6684679, .int v1, .int v2, .int v3] [] M := by
  refine go_def (f_Tx_parse_b77.eq_1 ..) ?_
  refine go_aload_n (pc := 77) dX6_parse_77 rfl ?_
  refine go_bipush (pc := 78) 32 dX6_parse_78 kb_32 ?_
  refine go_callV (pc := 80) (a := 6684679) (as := [.int 32]) (st := []) (o_Tx_takes 32 M) ic_Tx_takes ivX6_32 (rcvk (a := 6684679) (t := 7) rfl (by decide) (by decide) rfl) rfl (by decide) (Nat.le_of_ble_eq_true rfl) dX6_parse_80 (kWi fun r11 M10 => ?_)
  refine go_ifeq (pc := 83) 94 dX6_parse_83 (by decide) (fun _ => ?_) (fun _ => ?_)
  · refine go_aload_n (pc := 94) dX6_parse_94 rfl ?_
    refine go_getI (pc := 95) flX6_26 rfl rfl dX6_parse_95 ?_
    exact go_ret dX6_parse_98 rii rfl rfl
  · refine go_aload_n (pc := 86) dX6_parse_86 rfl ?_
    refine go_iconst (pc := 87) 0 dX6_parse_87 ki_0 ?_
    refine go_callV (pc := 88) (a := 6684679) (as := [.int 0]) (st := []) (o_rec_takes 24 0 0 M10) (ic_Tx_takesAnyOf 24) ivX6_46 (rcvk (a := 6684679) (t := 7) rfl (by decide) (by decide) rfl) rfl (by decide) (Nat.le_of_ble_eq_true rfl) dX6_parse_88 (kWi fun r13 M12 => ?_)
    refine go_ifne (pc := 91) 99 dX6_parse_91 (by decide) (fun _ => ?_) (fun _ => ?_)
    · refine go_aload_n (pc := 94) dX6_parse_94 rfl ?_
      refine go_getI (pc := 95) flX6_26 rfl rfl dX6_parse_95 ?_
      exact go_ret dX6_parse_98 rii rfl rfl
    · exact o_Tx_parse_b99 K12 hK12 v1 v2 v3 M12
theorem o_Tx_parse_b53 (K12 : Int32 → Mem → Option (Int32 × Mem)) (hK12 : ∀ (y1 : Int32) (M : Mem), Go sRC g_Tx_parse fWi (K12 y1 M) 12 [.ref 6684679, .int y1, .null, .null] [] M) (v1 : Int32) (v2 : Int32) (s0 : Int32) (M : Mem) : Go sRC g_Tx_parse fWi (f_Tx_parse_b53 K12 v1 v2 s0 M) 53 [.ref 6684679, .int v1, .int v2, .null] [.int s0] M := by
  refine go_def (f_Tx_parse_b53.eq_1 ..) ?_
  refine go_istore_n (pc := 53) (ls' := [.ref 6684679, .int v1, .int v2, .int s0]) dX6_parse_53 (Nat.le_of_ble_eq_true rfl) rfl rfl ?_
  refine go_iload_n (pc := 54) dX6_parse_54 rfl ?_
  refine go_ifge (pc := 55) 63 dX6_parse_55 (by decide) (fun _ => ?_) (fun _ => ?_)
  · refine go_aload_n (pc := 63) dX6_parse_63 rfl ?_
    refine go_iconst (pc := 64) 0 dX6_parse_64 ki_0 ?_
    refine go_putI (pc := 65) flX6_43 rfl (Or.inl rfl) ⟨rfl, rfl⟩ rfl dX6_parse_65 (fun M9 => ?_)
    refine go_iload_n (pc := 68) dX6_parse_68 rfl ?_
    refine go_ifeq (pc := 69) 77 dX6_parse_69 (by decide) (fun _ => ?_) (fun _ => ?_)
    · exact o_Tx_parse_b77 K12 hK12 v1 v2 s0 M9
    · refine go_iload_n (pc := 72) dX6_parse_72 rfl ?_
      refine go_iconst (pc := 73) 1 dX6_parse_73 ki_1 ?_
      refine go_icmpne (pc := 74) 99 dX6_parse_74 (by decide) (fun _ => ?_) (fun _ => ?_)
      · exact o_Tx_parse_b77 K12 hK12 v1 v2 s0 M9
      · exact o_Tx_parse_b99 K12 hK12 v1 v2 s0 M9
  · refine go_aload_n (pc := 58) dX6_parse_58 rfl ?_
    refine go_getI (pc := 59) flX6_26 rfl rfl dX6_parse_59 ?_
    exact go_ret dX6_parse_62 rii rfl rfl
theorem o_Tx_parse_b36 (K12 : Int32 → Mem → Option (Int32 × Mem)) (hK12 : ∀ (y1 : Int32) (M : Mem), Go sRC g_Tx_parse fWi (K12 y1 M) 12 [.ref 6684679, .int y1, .null, .null] [] M) (v1 : Int32) (M : Mem) : Go sRC g_Tx_parse fWi (f_Tx_parse_b36 K12 v1 M) 36 [.ref 6684679, .int v1, .null, .null] [] M := by
  refine go_def (f_Tx_parse_b36.eq_1 ..) ?_
  refine go_aload_n (pc := 36) dX6_parse_36 rfl ?_
  refine go_callV (pc := 37) (a := 6684679) (as := []) (st := []) (o_Tx_takenWord M) ic_Tx_takenWord ivX6_36 (rcvk (a := 6684679) (t := 7) rfl (by decide) (by decide) rfl) rfl (by decide) (Nat.le_of_ble_eq_true rfl) dX6_parse_37 (kWi fun r6 M5 => ?_)
  refine go_istore_n (pc := 40) (ls' := [.ref 6684679, .int v1, .int r6, .null]) dX6_parse_40 (Nat.le_of_ble_eq_true rfl) rfl rfl ?_
  refine go_iload_n (pc := 41) dX6_parse_41 rfl ?_
  refine go_ifge (pc := 42) 49 dX6_parse_42 (by decide) (fun _ => ?_) (fun _ => ?_)
  · refine go_aload_n (pc := 49) dX6_parse_49 rfl ?_
    refine go_callV (pc := 50) (a := 6684679) (as := []) (st := []) (o_Tx_takenNumber M5) ic_Tx_takenNumber ivX6_40 (rcvk (a := 6684679) (t := 7) rfl (by decide) (by decide) rfl) rfl (by decide) (Nat.le_of_ble_eq_true rfl) dX6_parse_50 (kWi fun r8 M7 => ?_)
    exact o_Tx_parse_b53 K12 hK12 v1 r6 r8 M7
  · refine go_iconst (pc := 45) (-1) dX6_parse_45 ki_m1 ?_
    refine go_goto (pc := 46) 53 dX6_parse_46 (by decide) ?_
    exact o_Tx_parse_b53 K12 hK12 v1 r6 (-1) M5
theorem o_Tx_parse_l12 : ∀ (n : Nat) (v1 : Int32) (M : Mem), Go sRC g_Tx_parse fWi (f_Tx_parse_l12 n v1 M) 12 [.ref 6684679, .int v1, .null, .null] [] M := by
  intro n
  induction n with
  | zero =>
    intro v1 M
    exact go_def (f_Tx_parse_l12.eq_1 ..) go_none
  | succ n ih =>
    intro v1 M
    refine go_def (f_Tx_parse_l12.eq_2 ..) ?_
    refine go_iload_n (pc := 12) dX6_parse_12 rfl ?_
    refine go_bipush (pc := 13) 10 dX6_parse_13 kb_10 ?_
    refine go_icmpge (pc := 15) 151 dX6_parse_15 (by decide) (fun _ => ?_) (fun _ => ?_)
    · refine go_aload_n (pc := 151) dX6_parse_151 rfl ?_
      refine go_getI (pc := 152) flX6_26 rfl rfl dX6_parse_152 ?_
      exact go_ret dX6_parse_155 rii rfl rfl
    · refine go_iload_n (pc := 18) dX6_parse_18 rfl ?_
      refine go_ifle (pc := 19) 36 dX6_parse_19 (by decide) (fun _ => ?_) (fun _ => ?_)
      · exact o_Tx_parse_b36 (f_Tx_parse_l12 n) ih v1 M
      · refine go_aload_n (pc := 22) dX6_parse_22 rfl ?_
        refine go_bipush (pc := 23) 59 dX6_parse_23 kb_59 ?_
        refine go_callV (pc := 25) (a := 6684679) (as := [.int 59]) (st := []) (o_Tx_takes 59 M) ic_Tx_takes ivX6_32 (rcvk (a := 6684679) (t := 7) rfl (by decide) (by decide) rfl) rfl (by decide) (Nat.le_of_ble_eq_true rfl) dX6_parse_25 (kWi fun r4 M3 => ?_)
        refine go_ifne (pc := 28) 36 dX6_parse_28 (by decide) (fun _ => ?_) (fun _ => ?_)
        · refine go_aload_n (pc := 31) dX6_parse_31 rfl ?_
          refine go_getI (pc := 32) flX6_26 rfl rfl dX6_parse_32 ?_
          exact go_ret dX6_parse_35 rii rfl rfl
        · exact o_Tx_parse_b36 (f_Tx_parse_l12 n) ih v1 M3
theorem o_Tx_parse (M : Mem) : Ct sRC g_Tx_parse fWi [.ref 6684679] (f_Tx_parse M) M := by
  refine ⟨Nat.le_of_ble_eq_true rfl, ?_⟩
  show Go sRC g_Tx_parse fWi (f_Tx_parse M) 0 [.ref 6684679, .null, .null, .null] [] M
  refine go_def (f_Tx_parse.eq_1 ..) ?_
  refine go_aload_n (pc := 0) dX6_parse_0 rfl ?_
  refine go_iconst (pc := 1) 0 dX6_parse_1 ki_0 ?_
  refine go_putI (pc := 2) flX6_26 rfl (Or.inl rfl) ⟨rfl, rfl⟩ rfl dX6_parse_2 (fun M1 => ?_)
  refine go_aload_n (pc := 5) dX6_parse_5 rfl ?_
  refine go_iconst (pc := 6) 0 dX6_parse_6 ki_0 ?_
  refine go_putI (pc := 7) flX6_29 rfl (Or.inl rfl) ⟨rfl, rfl⟩ rfl dX6_parse_7 (fun M2 => ?_)
  refine go_iconst (pc := 10) 0 dX6_parse_10 ki_0 ?_
  refine go_istore_n (pc := 11) (ls' := [.ref 6684679, .int 0, .null, .null]) dX6_parse_11 (Nat.le_of_ble_eq_true rfl) rfl rfl ?_
  exact o_Tx_parse_l12 200 0 M2
def f_Tx_built_l10 : Nat → Nat → Int32 → Mem → Option (Nat × Mem)
  | 0, _, _, _ => none
  | n + 1, v1, v2, M => if (mI M 6684679 4) ≤ v2 then lt (nid M 6) fun a5 => lt (newM M 6 4) fun M6 => gd (v1 % 32 = 16) (bd (f_Hs_init a5 v1 M6) fun M9 => some (a5, M9)) else gd (inR v2 (10)) (gd (v1 % 32 = 16) (gd (mR M 6947152 v2.toNatClampNeg % 131072 = 2) (gd (inR v2 (lnA v1)) (lt (setR M v1 v2.toNatClampNeg (mR M 6947152 v2.toNatClampNeg)) fun M10 => lt (v2 + 1) fun x13 => f_Tx_built_l10 n v1 x13 M10))))
def f_Tx_built (M : Mem) : Option (Nat × Mem) := gd (inR (mI M 6684679 4) 4096) (lt (nid M ((mI M 6684679 4).toNatClampNeg * 32 + 16)) fun a1 => lt (newM M ((mI M 6684679 4).toNatClampNeg * 32 + 16) ((mI M 6684679 4).toNatClampNeg)) fun M2 => f_Tx_built_l10 200 a1 0 M2)
theorem o_Tx_built_l10 : ∀ (n : Nat) (v1 : Nat) (v2 : Int32) (M : Mem), Go sRC g_Tx_built fWr (f_Tx_built_l10 n v1 v2 M) 10 [.ref 6684679, .ref v1, .int v2] [] M := by
  intro n
  induction n with
  | zero =>
    intro v1 v2 M
    exact go_def (f_Tx_built_l10.eq_1 ..) go_none
  | succ n ih =>
    intro v1 v2 M
    refine go_def (f_Tx_built_l10.eq_2 ..) ?_
    refine go_iload_n (pc := 10) dX6_built_10 rfl ?_
    refine go_aload_n (pc := 11) dX6_built_11 rfl ?_
    refine go_getI (pc := 12) flX6_29 rfl rfl dX6_built_12 ?_
    refine go_icmpge (pc := 15) 33 dX6_built_15 (by decide) (fun _ => ?_) (fun _ => ?_)
    · refine go_new (pc := 33) (t := 6) (by decide) (by decide) (fun _ _ => dzC _ _ (by omega)) (gT_of (mtb3 (mt64 (mt64 (mt16 (mt4 (mt4 (mt1 (List.Mem.head _)))))))) rfl) (gT_of (mtb1 (mt64 (mt64 (mt16 (mt4 (mt4 (mt4 (List.Mem.head _)))))))) rfl) (gT_of (mtb1 (mt4 (mt1 (mt1 (List.Mem.head _))))) rfl) dX6_built_33 (fun a5 M6 k7 => ?_)
      refine go_dup (pc := 36) dX6_built_36 rfl ?_
      refine go_aload_n (pc := 37) dX6_built_37 rfl ?_
      refine go_gd fun g8 => ?_
      refine go_callI (pc := 38) (a := a5) (as := [.ref v1]) (st := [.ref a5]) (o_Hs_init sRC dzC a5 v1 k7 g8 M6) ic_Hs_init rfl ivX6_61 (rcvk k7 (by decide) (by decide) rfl) rfl (by decide) (Nat.le_of_ble_eq_true rfl) dX6_built_38 (kWv fun M9 => ?_)
      exact go_ret dX6_built_41 ⟨_, rfl, Or.inl ⟨_, rfl⟩⟩ rfl rfl
    · refine go_aload_n (pc := 18) dX6_built_18 rfl ?_
      refine go_iload_n (pc := 19) dX6_built_19 rfl ?_
      refine go_aload_n (pc := 20) dX6_built_20 rfl ?_
      refine go_getS (pc := 21) 6947152 flX6_15 rfl rfl sC_7_3 (by decide) dX6_built_21 ?_
      refine go_iload_n (pc := 24) dX6_built_24 rfl ?_
      refine go_aaldR (pc := 25) (by decide) (by decide) rfl dX6_built_25 (fun _ => ?_)
      refine go_gd fun g11 => ?_
      refine go_gd fun g12 => ?_
      refine go_aast (pc := 26) (by have : v1 % 32 = 16 := g11; omega) (by have : v1 % 32 = 16 := g11; omega) rfl (by have h1 : (mR M 6947152 v2.toNatClampNeg) % 32 = 2 := (kd32 (t := 2) g12 rfl); have h2 : v1 % 32 = 16 := g11; rw [h1, h2]; rfl) (fun j => dzC _ _ (by have : v1 % 32 = 16 := g11; omega)) dX6_built_26 (fun _ M10 => ?_)
      refine go_iincL (pc := 27) (L := fun x13 => [.ref 6684679, .ref v1, .int x13]) 1 dX6_built_27 rfl ki_1 (Nat.le_of_ble_eq_true rfl) rfl (fun _ => rfl) (fun x13 => ?_)
      refine go_goto (pc := 30) 10 dX6_built_30 (by decide) ?_
      exact ih v1 x13 M10
theorem o_Tx_built (M : Mem) : Ct sRC g_Tx_built fWr [.ref 6684679] (f_Tx_built M) M := by
  refine ⟨Nat.le_of_ble_eq_true rfl, ?_⟩
  show Go sRC g_Tx_built fWr (f_Tx_built M) 0 [.ref 6684679, .null, .null] [] M
  refine go_def (f_Tx_built.eq_1 ..) ?_
  refine go_aload_n (pc := 0) dX6_built_0 rfl ?_
  refine go_getI (pc := 1) flX6_29 rfl rfl dX6_built_1 ?_
  refine go_gd fun g4 => ?_
  refine go_newq (pc := 4) (t := 16) (N := (mI M 6684679 4).toNatClampNeg) (by decide) (by decide) g4 rfl (fun _ _ => dzC _ _ (by omega)) (gT_of (mtb1 (mt64 (mt64 (mt1 (mt1 (List.Mem.head _)))))) rfl) dX6_built_4 (fun a1 M2 k3 => ?_)
  refine go_astore_n (pc := 7) (ls' := [.ref 6684679, .ref a1, .null]) dX6_built_7 (Nat.le_of_ble_eq_true rfl) rfl rfl ?_
  refine go_iconst (pc := 8) 0 dX6_built_8 ki_0 ?_
  refine go_istore_n (pc := 9) (ls' := [.ref 6684679, .ref a1, .int 0]) dX6_built_9 (Nat.le_of_ble_eq_true rfl) rfl rfl ?_
  exact o_Tx_built_l10 200 a1 0 M2
def f_Tp_init (t : Nat) (M : Mem) : Option Mem := lt (setI M t 0 (-1)) fun M1 => lt (nid M1 (60 * 32 + 12)) fun a2 => lt (newM M1 (60 * 32 + 12) (60)) fun M3 => lt (setR M3 t 2 a2) fun M5 => some M5
theorem o_Tp_init (t : Nat) (ht : t % 131072 = 8) (M : Mem) : Ct sR0 g_Tp_init fWv [.ref t] (f_Tp_init t M) M := by
  refine ⟨Nat.le_of_ble_eq_true rfl, ?_⟩
  show Go sR0 g_Tp_init fWv (f_Tp_init t M) 0 [.ref t] [] M
  refine go_def (f_Tp_init.eq_1 ..) ?_
  refine go_aload_n (pc := 0) dX7_init_0 rfl ?_
  refine go_objInit (pc := 1) dX7_init_1 (by have : t % 32 = 8 := (kd32 (t := 8) ht rfl); omega) (by have : t % 32 = 8 := (kd32 (t := 8) ht rfl); omega) (gT_of (mtb2 (mt16 (mt4 (List.Mem.head _)))) rfl) oi1 oi2 (by decide) (Nat.le_of_ble_eq_true rfl) ?_
  refine go_aload_n (pc := 4) dX7_init_4 rfl ?_
  refine go_iconst (pc := 5) (-1) dX7_init_5 ki_m1 ?_
  refine go_putI (pc := 6) flX7_9 rfl (Or.inl rfl) ⟨rfl, rfl⟩ (kd32 (t := 8) ht rfl) dX7_init_6 (fun M1 => ?_)
  refine go_aload_n (pc := 9) dX7_init_9 rfl ?_
  refine go_bipush (pc := 10) 60 dX7_init_10 kb_60 ?_
  refine go_newa (pc := 12) (t := 12) (N := 60) (by decide) (by decide) (by decide) (by decide) (fun _ _ => rfl) (gT_of (mtb2 (mt16 (mt16 (mt1 (List.Mem.head _))))) rfl) dX7_init_12 (fun a2 M3 k4 => ?_)
  refine go_putR (pc := 14) flX7_13 rfl (Or.inr ⟨rfl, rfl, rfl⟩) (kd32 (t := 8) ht rfl) rfl dX7_init_14 (fun M5 => ?_)
  exact go_ret dX7_init_17 rfl rfl rfl
def f_Ar_fillL_l6 (p1 : Nat) : Nat → Int64 → Int32 → Int32 → Mem → Option Mem
  | 0, _, _, _, _ => none
  | n + 1, v1, v3, v4, M => if v4 ≤ v3 then some M else gd (inR v3 (lnA p1)) (lt (setL M p1 v3.toNatClampNeg v1) fun M2 => lt (v3 + 1) fun x3 => f_Ar_fillL_l6 p1 n v1 x3 v4 M2)
def f_Ar_fillL (p1 : Nat) (p2 : Int64) (M : Mem) : Option Mem := lt (Int32.ofNat (lnA p1)) fun x1 => f_Ar_fillL_l6 p1 200 p2 0 x1 M
theorem o_Ar_fillL_l6 (sR : Nat → Nat → Nat) (hz : dynZ sR) (p1 : Nat) (hp1 : p1 % 32 = 12) : ∀ (n : Nat) (v1 : Int64) (v3 : Int32) (v4 : Int32) (M : Mem), Go sR g_Ar_fillL fWv (f_Ar_fillL_l6 p1 n v1 v3 v4 M) 6 [.ref p1, .long v1, .null, .int v3, .int v4] [] M := by
  intro n
  induction n with
  | zero =>
    intro v1 v3 v4 M
    exact go_def (f_Ar_fillL_l6.eq_1 ..) go_none
  | succ n ih =>
    intro v1 v3 v4 M
    refine go_def (f_Ar_fillL_l6.eq_2 ..) ?_
    refine go_iload_n (pc := 6) dJ7_fill_d0a16_6 rfl ?_
    refine go_iload (pc := 7) dJ7_fill_d0a16_7 rfl ?_
    refine go_icmpge (pc := 9) 22 dJ7_fill_d0a16_9 (by decide) (fun _ => ?_) (fun _ => ?_)
    · exact go_ret dJ7_fill_d0a16_22 rfl rfl rfl
    · refine go_aload_n (pc := 12) dJ7_fill_d0a16_12 rfl ?_
      refine go_iload_n (pc := 13) dJ7_fill_d0a16_13 rfl ?_
      refine go_lload_n (pc := 14) dJ7_fill_d0a16_14 rfl ?_
      refine go_last (pc := 15) hp1 rfl dJ7_fill_d0a16_15 (fun _ M2 => ?_)
      refine go_iincL (pc := 16) (L := fun x3 => [.ref p1, .long v1, .null, .int x3, .int v4]) 1 dJ7_fill_d0a16_16 rfl ki_1 (Nat.le_of_ble_eq_true rfl) rfl (fun _ => rfl) (fun x3 => ?_)
      refine go_goto (pc := 19) 6 dJ7_fill_d0a16_19 (by decide) ?_
      exact ih v1 x3 v4 M2
theorem o_Ar_fillL (sR : Nat → Nat → Nat) (hz : dynZ sR) (p1 : Nat) (p2 : Int64) (hp1 : p1 % 32 = 12) (M : Mem) : Ct sR g_Ar_fillL fWv [.ref p1, .long p2] (f_Ar_fillL p1 p2 M) M := by
  refine ⟨Nat.le_of_ble_eq_true rfl, ?_⟩
  show Go sR g_Ar_fillL fWv (f_Ar_fillL p1 p2 M) 0 [.ref p1, .long p2, .null, .null, .null] [] M
  refine go_def (f_Ar_fillL.eq_1 ..) ?_
  refine go_iconst (pc := 0) 0 dJ7_fill_d0a16_0 ki_0 ?_
  refine go_istore_n (pc := 1) (ls' := [.ref p1, .long p2, .null, .int 0, .null]) dJ7_fill_d0a16_1 (Nat.le_of_ble_eq_true rfl) rfl rfl ?_
  refine go_aload_n (pc := 2) dJ7_fill_d0a16_2 rfl ?_
  refine go_alen (pc := 3) (by have : p1 % 32 = 12 := hp1; omega) (by have : p1 % 32 = 12 := hp1; omega) rfl dJ7_fill_d0a16_3 ?_
  refine go_istoreL (pc := 4) (L := fun x1 => [.ref p1, .long p2, .null, .int 0, .int x1]) dJ7_fill_d0a16_4 (Nat.le_of_ble_eq_true rfl) rfl (fun _ => rfl) (fun x1 => ?_)
  exact o_Ar_fillL_l6 sR hz p1 hp1 200 p2 0 x1 M
def f_Tp_becomeRow (t : Nat) (p1 : Int32) (p2 : Int32) (M : Mem) : Option Mem := lt (setI M t 0 p1) fun M1 => lt (setI M1 t 1 p2) fun M2 => bd (f_Ar_fillL (t + 132996) 0 M2) fun M3 => some M3
theorem o_Tp_becomeRow (t : Nat) (p1 : Int32) (p2 : Int32) (ht : t % 131072 = 8) (M : Mem) : Ct sRC g_Tp_becomeRow fWv [.ref t, .int p1, .int p2] (f_Tp_becomeRow t p1 p2 M) M := by
  refine ⟨Nat.le_of_ble_eq_true rfl, ?_⟩
  show Go sRC g_Tp_becomeRow fWv (f_Tp_becomeRow t p1 p2 M) 0 [.ref t, .int p1, .int p2] [] M
  refine go_def (f_Tp_becomeRow.eq_1 ..) ?_
  refine go_aload_n (pc := 0) dX7_becomeRow_0 rfl ?_
  refine go_iload_n (pc := 1) dX7_becomeRow_1 rfl ?_
  refine go_putI (pc := 2) flX7_9 rfl (Or.inl rfl) ⟨rfl, rfl⟩ (kd32 (t := 8) ht rfl) dX7_becomeRow_2 (fun M1 => ?_)
  refine go_aload_n (pc := 5) dX7_becomeRow_5 rfl ?_
  refine go_iload_n (pc := 6) dX7_becomeRow_6 rfl ?_
  refine go_putI (pc := 7) flX7_17 rfl (Or.inl rfl) ⟨rfl, rfl⟩ (kd32 (t := 8) ht rfl) dX7_becomeRow_7 (fun M2 => ?_)
  refine go_aload_n (pc := 10) dX7_becomeRow_10 rfl ?_
  refine go_getS (pc := 11) (t + 132996) flX7_13 rfl (kd32 (t := 8) ht rfl) (sC_8_2 ht) (knz (by decide)) dX7_becomeRow_11 ?_
  refine go_lconst (pc := 14) 0 dX7_becomeRow_14 (by decide) ?_
  refine go_callS (pc := 15) (as := [.ref (t + 132996), .long 0]) (st := []) (o_Ar_fillL sRC dzC (t + 132996) 0 (kd32 (t := 12) (kadd ht rfl) rfl) M2) ic_Ar_fillL ivX7_20 rfl (by decide) (Nat.le_of_ble_eq_true rfl) dX7_becomeRow_15 (kWv fun M3 => ?_)
  exact go_ret dX7_becomeRow_18 rfl rfl rfl
def f_Tp_hasPlace (t : Nat) (p1 : Int32) (M : Mem) : Int32 := f_D_within p1 0 ((mI M t 1) - 1) M
theorem o_Tp_hasPlace (t : Nat) (p1 : Int32) (ht : t % 131072 = 8) (M : Mem) : Ct sRC g_Tp_hasPlace (fRi M) [.ref t, .int p1] (some (f_Tp_hasPlace t p1 M)) M := by
  refine ⟨Nat.le_of_ble_eq_true rfl, ?_⟩
  show Go sRC g_Tp_hasPlace (fRi M) (some (f_Tp_hasPlace t p1 M)) 0 [.ref t, .int p1] [] M
  refine go_def (congrArg some (f_Tp_hasPlace.eq_1 ..)) ?_
  refine go_iload_n (pc := 0) dX7_hasPlace_0 rfl ?_
  refine go_iconst (pc := 1) 0 dX7_hasPlace_1 ki_0 ?_
  refine go_aload_n (pc := 2) dX7_hasPlace_2 rfl ?_
  refine go_getI (pc := 3) flX7_17 rfl (kd32 (t := 8) ht rfl) dX7_hasPlace_3 ?_
  refine go_iconst (pc := 6) 1 dX7_hasPlace_6 ki_1 ?_
  refine go_isub (pc := 7) dX7_hasPlace_7 ?_
  refine go_T (v := f_D_within p1 0 ((mI M t 1) - 1) M) ?_
  refine go_callSN (pc := 8) (as := [.int p1, .int 0, .int ((mI M t 1) - 1)]) (st := []) (o_D_within p1 0 ((mI M t 1) - 1) M) ic_D_within ivX7_26 rfl (by decide) (Nat.le_of_ble_eq_true rfl) dX7_hasPlace_8 (kTi ?_)
  exact go_ret dX7_hasPlace_11 (rbz (o_D_within_b p1 0 ((mI M t 1) - 1) M)) rfl rfl
theorem o_Tp_hasPlace_b (t : Nat) (p1 : Int32) (M : Mem) : f_Tp_hasPlace t p1 M = 0 ∨ f_Tp_hasPlace t p1 M = 1 := by
  unfold f_Tp_hasPlace
  first | exact o_D_within_b p1 0 ((mI M t 1) - 1) M | (repeat' split) <;> first | exact Or.inl rfl | exact Or.inr rfl | assumption | exact o_D_within_b ..
def f_Tp_hasPlaces (t : Nat) (p1 : Int32) (p2 : Int32) (M : Mem) : Int32 := if p1 < 0 then 0 else if p2 < 0 then 0 else if 0 < (lg_cmp (p1.toInt64 + p2.toInt64) ((mI M t 1).toInt64)) then 0 else 1
theorem o_Tp_hasPlaces (t : Nat) (p1 : Int32) (p2 : Int32) (ht : t % 131072 = 8) (M : Mem) : Ct sRC g_Tp_hasPlaces (fRi M) [.ref t, .int p1, .int p2] (some (f_Tp_hasPlaces t p1 p2 M)) M := by
  refine ⟨Nat.le_of_ble_eq_true rfl, ?_⟩
  show Go sRC g_Tp_hasPlaces (fRi M) (some (f_Tp_hasPlaces t p1 p2 M)) 0 [.ref t, .int p1, .int p2] [] M
  refine go_def (congrArg some (f_Tp_hasPlaces.eq_1 ..)) ?_
  refine go_iload_n (pc := 0) dX7_hasPlaces_0 rfl ?_
  refine go_site ?_
  refine go_iflt (pc := 1) 26 dX7_hasPlaces_1 (by decide) (fun _ => ?_) (fun _ => ?_)
  · refine go_iconst (pc := 26) 0 dX7_hasPlaces_26 ki_0 ?_
    exact go_ret dX7_hasPlaces_27 (rbz (Or.inl rfl)) rfl rfl
  · refine go_iload_n (pc := 4) dX7_hasPlaces_4 rfl ?_
    refine go_site ?_
    refine go_iflt (pc := 5) 26 dX7_hasPlaces_5 (by decide) (fun _ => ?_) (fun _ => ?_)
    · refine go_iconst (pc := 26) 0 dX7_hasPlaces_26 ki_0 ?_
      exact go_ret dX7_hasPlaces_27 (rbz (Or.inl rfl)) rfl rfl
    · refine go_iload_n (pc := 8) dX7_hasPlaces_8 rfl ?_
      refine go_i2l (pc := 9) dX7_hasPlaces_9 ?_
      refine go_iload_n (pc := 10) dX7_hasPlaces_10 rfl ?_
      refine go_i2l (pc := 11) dX7_hasPlaces_11 ?_
      refine go_ladd (pc := 12) dX7_hasPlaces_12 ?_
      refine go_aload_n (pc := 13) dX7_hasPlaces_13 rfl ?_
      refine go_getI (pc := 14) flX7_17 rfl (kd32 (t := 8) ht rfl) dX7_hasPlaces_14 ?_
      refine go_i2l (pc := 17) dX7_hasPlaces_17 ?_
      refine go_lcmp (pc := 18) dX7_hasPlaces_18 ?_
      refine go_site ?_
      refine go_ifgt (pc := 19) 26 dX7_hasPlaces_19 (by decide) (fun _ => ?_) (fun _ => ?_)
      · refine go_iconst (pc := 26) 0 dX7_hasPlaces_26 ki_0 ?_
        exact go_ret dX7_hasPlaces_27 (rbz (Or.inl rfl)) rfl rfl
      · refine go_iconst (pc := 22) 1 dX7_hasPlaces_22 ki_1 ?_
        refine go_goto (pc := 23) 27 dX7_hasPlaces_23 (by decide) ?_
        exact go_ret dX7_hasPlaces_27 (rbz (Or.inr rfl)) rfl rfl
theorem o_Tp_hasPlaces_b (t : Nat) (p1 : Int32) (p2 : Int32) (M : Mem) : f_Tp_hasPlaces t p1 p2 M = 0 ∨ f_Tp_hasPlaces t p1 p2 M = 1 := by
  unfold f_Tp_hasPlaces
  first | exact Or.inl rfl | (repeat' split) <;> first | exact Or.inl rfl | exact Or.inr rfl | assumption
def f_Tp_narrowed (t : Nat) (p1 : Int64) (M : Mem) : Int64 := if (mI M t 0) = 0 then p1.toInt32.toInt8.toInt32.toInt64 else if (mI M t 0) = 1 then p1.toInt32.toInt16.toInt32.toInt64 else if (mI M t 0) = 2 then p1.toInt32.toInt64 else if (mI M t 0) = 4 then if (lg_cmp p1 0) = 0 then 0 else 1 else p1
theorem o_Tp_narrowed (t : Nat) (p1 : Int64) (ht : t % 131072 = 8) (M : Mem) : Ct sRC g_Tp_narrowed (fRl M) [.ref t, .long p1] (some (f_Tp_narrowed t p1 M)) M := by
  refine ⟨Nat.le_of_ble_eq_true rfl, ?_⟩
  show Go sRC g_Tp_narrowed (fRl M) (some (f_Tp_narrowed t p1 M)) 0 [.ref t, .long p1, .null] [] M
  refine go_def (congrArg some (f_Tp_narrowed.eq_1 ..)) ?_
  refine go_aload_n (pc := 0) dX7_narrowed_0 rfl ?_
  refine go_getI (pc := 1) flX7_9 rfl (kd32 (t := 8) ht rfl) dX7_narrowed_1 ?_
  refine go_site ?_
  refine go_tswC (pc := 4) (v := 0) (off := 36) 40 dX7_narrowed_4 (by decide) (by decide) (by decide) (fun _ => ?_) (fun n1 => ?_)
  · refine go_lload_n (pc := 40) dX7_narrowed_40 rfl ?_
    refine go_l2i (pc := 41) dX7_narrowed_41 ?_
    refine go_i2b (pc := 42) dX7_narrowed_42 ?_
    refine go_i2l (pc := 43) dX7_narrowed_43 ?_
    exact go_ret dX7_narrowed_44 rfl rfl rfl
  refine go_site ?_
  refine go_tswC (pc := 4) (v := 1) (off := 41) 45 dX7_narrowed_4 (by decide) (by decide) (by decide) (fun _ => ?_) (fun n2 => ?_)
  · refine go_lload_n (pc := 45) dX7_narrowed_45 rfl ?_
    refine go_l2i (pc := 46) dX7_narrowed_46 ?_
    refine go_i2s (pc := 47) dX7_narrowed_47 ?_
    refine go_i2l (pc := 48) dX7_narrowed_48 ?_
    exact go_ret dX7_narrowed_49 rfl rfl rfl
  refine go_site ?_
  refine go_tswC (pc := 4) (v := 2) (off := 46) 50 dX7_narrowed_4 (by decide) (by decide) (by decide) (fun _ => ?_) (fun n3 => ?_)
  · refine go_lload_n (pc := 50) dX7_narrowed_50 rfl ?_
    refine go_l2i (pc := 51) dX7_narrowed_51 ?_
    refine go_i2l (pc := 52) dX7_narrowed_52 ?_
    exact go_ret dX7_narrowed_53 rfl rfl rfl
  refine go_site ?_
  refine go_tswC (pc := 4) (v := 4) (off := 50) 54 dX7_narrowed_4 (by decide) (by decide) (by decide) (fun _ => ?_) (fun n4 => ?_)
  · refine go_lload_n (pc := 54) dX7_narrowed_54 rfl ?_
    refine go_lconst (pc := 55) 0 dX7_narrowed_55 (by decide) ?_
    refine go_lcmp (pc := 56) dX7_narrowed_56 ?_
    refine go_site ?_
    refine go_ifeq (pc := 57) 64 dX7_narrowed_57 (by decide) (fun _ => ?_) (fun _ => ?_)
    · refine go_lconst (pc := 64) 0 dX7_narrowed_64 (by decide) ?_
      exact go_ret dX7_narrowed_65 rfl rfl rfl
    · refine go_lconst (pc := 60) 1 dX7_narrowed_60 (by decide) ?_
      refine go_goto (pc := 61) 65 dX7_narrowed_61 (by decide) ?_
      exact go_ret dX7_narrowed_65 rfl rfl rfl
  refine go_tswD (pc := 4) 66 dX7_narrowed_4 (by have n1t := lv_neT n1 (show (0 : Int32).toInt = 0 by decide); have n2t := lv_neT n2 (show (1 : Int32).toInt = 1 by decide); have n3t := lv_neT n3 (show (2 : Int32).toInt = 2 by decide); have n4t := lv_neT n4 (show (4 : Int32).toInt = 4 by decide); rcases (show (mI M t 0).toInt < 0 ∨ 4 < (mI M t 0).toInt ∨ (mI M t 0).toInt = 3 by omega) with h | h | h <;> first | exact Or.inl h | exact Or.inr (Or.inl h) | exact Or.inr (Or.inr (by rw [h]; decide))) (by decide) ?_
  refine go_lload_n (pc := 66) dX7_narrowed_66 rfl ?_
  exact go_ret dX7_narrowed_67 rfl rfl rfl
