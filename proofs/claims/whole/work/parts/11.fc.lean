/-! functions read off the bytecode, and that the code runs so (written by program) -/
def f_Acts_init (t : Nat) (M : Mem) : Option Mem := lt (nid M (20 * 32 + 11)) fun a1 => lt (newM M (20 * 32 + 11) (20)) fun M2 => lt (setR M2 t 0 a1) fun M4 => some M4
theorem o_Acts_init (t : Nat) (ht : t % 131072 = 1) (M : Mem) : Ct sR0 g_Acts_init fWv [.ref t] (f_Acts_init t M) M := by
  refine ⟨Nat.le_of_ble_eq_true rfl, ?_⟩
  show Go sR0 g_Acts_init fWv (f_Acts_init t M) 0 [.ref t] [] M
  refine go_def (f_Acts_init.eq_1 ..) ?_
  refine go_aload_n (pc := 0) dX0_init_0 rfl ?_
  refine go_objInit (pc := 1) dX0_init_1 (by have : t % 32 = 1 := (kd32 (t := 1) ht rfl); omega) (by have : t % 32 = 1 := (kd32 (t := 1) ht rfl); omega) (gT_of (mtb1 (mt64 (mt64 (mt64 (mt16 (mt16 (mt4 (mt4 (mt1 (mt1 (mt1 (List.Mem.head _)))))))))))) rfl) oi1 oi2 (by decide) (Nat.le_of_ble_eq_true rfl) ?_
  refine go_aload_n (pc := 4) dX0_init_4 rfl ?_
  refine go_bipush (pc := 5) 20 dX0_init_5 kb_20 ?_
  refine go_newa (pc := 7) (t := 11) (N := 20) (by decide) (by decide) (by decide) (by decide) (fun _ _ => rfl) (gT_of (mtb1 (mt64 (mt16 (mt1 (mt1 (mt1 (List.Mem.head _))))))) rfl) dX0_init_7 (fun a1 M2 k3 => ?_)
  refine go_putR (pc := 9) flX0_11 rfl (Or.inr ⟨rfl, rfl, rfl⟩) (kd32 (t := 1) ht rfl) rfl dX0_init_9 (fun M4 => ?_)
  exact go_ret dX0_init_12 rfl rfl rfl
def f_Acts_forget (M : Mem) : Option Mem := lt (setI M 10485761 1 0) fun M1 => some M1
theorem o_Acts_forget (M : Mem) : Ct sRC g_Acts_forget fWv [.ref 10485761] (f_Acts_forget M) M := by
  refine ⟨Nat.le_of_ble_eq_true rfl, ?_⟩
  show Go sRC g_Acts_forget fWv (f_Acts_forget M) 0 [.ref 10485761] [] M
  refine go_def (f_Acts_forget.eq_1 ..) ?_
  refine go_aload_n (pc := 0) dX0_forget_0 rfl ?_
  refine go_iconst (pc := 1) 0 dX0_forget_1 ki_0 ?_
  refine go_putI (pc := 2) flX0_15 rfl (Or.inl rfl) ⟨rfl, rfl⟩ rfl dX0_forget_2 (fun M1 => ?_)
  exact go_ret dX0_forget_5 rfl rfl rfl
def f_Acts_keptCount (M : Mem) : Int32 := mnI (mI M 10485761 1) 20
theorem o_Acts_keptCount (M : Mem) : Ct sRC g_Acts_keptCount (fRi M) [.ref 10485761] (some (f_Acts_keptCount M)) M := by
  refine ⟨Nat.le_of_ble_eq_true rfl, ?_⟩
  show Go sRC g_Acts_keptCount (fRi M) (some (f_Acts_keptCount M)) 0 [.ref 10485761] [] M
  refine go_def (congrArg some (f_Acts_keptCount.eq_1 ..)) ?_
  refine go_aload_n (pc := 0) dX0_keptCount_0 rfl ?_
  refine go_getI (pc := 1) flX0_15 rfl rfl dX0_keptCount_1 ?_
  refine go_bipush (pc := 4) 20 dX0_keptCount_4 kb_20 ?_
  refine go_min (pc := 6) (gT_of (mtb4 (mt64 (mt64 (mt1 (List.Mem.head _))))) rfl) mw_min1 mw_i mw_min2 (by decide) (Nat.le_of_ble_eq_true rfl) dX0_keptCount_6 ?_
  exact go_ret dX0_keptCount_9 rii rfl rfl
def f_Acts_began (p1 : Int32) (M : Mem) : Option Mem := if 20 ≤ (mI M 10485761 1) then lt (setI M 10485761 1 ((mI M 10485761 1) + 1)) fun M1 => some M1 else gd (inR (mI M 10485761 1) 20) (lt (setI M 10617483 (mI M 10485761 1).toNatClampNeg p1) fun M2 => lt (setI M2 10485761 1 ((mI M2 10485761 1) + 1)) fun M3 => some M3)
theorem o_Acts_began (p1 : Int32) (M : Mem) : Ct sRC g_Acts_began fWv [.ref 10485761, .int p1] (f_Acts_began p1 M) M := by
  refine ⟨Nat.le_of_ble_eq_true rfl, ?_⟩
  show Go sRC g_Acts_began fWv (f_Acts_began p1 M) 0 [.ref 10485761, .int p1] [] M
  refine go_def (f_Acts_began.eq_1 ..) ?_
  refine go_aload_n (pc := 0) dX0_began_0 rfl ?_
  refine go_getI (pc := 1) flX0_15 rfl rfl dX0_began_1 ?_
  refine go_bipush (pc := 4) 20 dX0_began_4 kb_20 ?_
  refine go_icmpge (pc := 6) 19 dX0_began_6 (by decide) (fun _ => ?_) (fun _ => ?_)
  · refine go_aload_n (pc := 19) dX0_began_19 rfl ?_
    refine go_dup (pc := 20) dX0_began_20 rfl ?_
    refine go_getI (pc := 21) flX0_15 rfl rfl dX0_began_21 ?_
    refine go_iconst (pc := 24) 1 dX0_began_24 ki_1 ?_
    refine go_iadd (pc := 25) dX0_began_25 ?_
    refine go_putI (pc := 26) flX0_15 rfl (Or.inl rfl) ⟨rfl, rfl⟩ rfl dX0_began_26 (fun M1 => ?_)
    exact go_ret dX0_began_29 rfl rfl rfl
  · refine go_aload_n (pc := 9) dX0_began_9 rfl ?_
    refine go_getS (pc := 10) 10617483 flX0_11 rfl rfl sC_1_0 (by decide) dX0_began_10 ?_
    refine go_aload_n (pc := 13) dX0_began_13 rfl ?_
    refine go_getI (pc := 14) flX0_15 rfl rfl dX0_began_14 ?_
    refine go_iload_n (pc := 17) dX0_began_17 rfl ?_
    refine go_iast (pc := 18) rfl rfl dX0_began_18 (fun _ M2 => ?_)
    refine go_aload_n (pc := 19) dX0_began_19 rfl ?_
    refine go_dup (pc := 20) dX0_began_20 rfl ?_
    refine go_getI (pc := 21) flX0_15 rfl rfl dX0_began_21 ?_
    refine go_iconst (pc := 24) 1 dX0_began_24 ki_1 ?_
    refine go_iadd (pc := 25) dX0_began_25 ?_
    refine go_putI (pc := 26) flX0_15 rfl (Or.inl rfl) ⟨rfl, rfl⟩ rfl dX0_began_26 (fun M3 => ?_)
    exact go_ret dX0_began_29 rfl rfl rfl
def f_D_within (p1 : Int32) (p2 : Int32) (p3 : Int32) (M : Mem) : Int32 := if p1 < p2 then 0 else if p3 < p1 then 0 else 1
theorem o_D_within (p1 : Int32) (p2 : Int32) (p3 : Int32) (M : Mem) : Ct sRC g_D_within (fRi M) [.int p1, .int p2, .int p3] (some (f_D_within p1 p2 p3 M)) M := by
  refine ⟨Nat.le_of_ble_eq_true rfl, ?_⟩
  show Go sRC g_D_within (fRi M) (some (f_D_within p1 p2 p3 M)) 0 [.int p1, .int p2, .int p3] [] M
  refine go_def (congrArg some (f_D_within.eq_1 ..)) ?_
  refine go_iload_n (pc := 0) dX8_within_0 rfl ?_
  refine go_iload_n (pc := 1) dX8_within_1 rfl ?_
  refine go_site ?_
  refine go_icmpgt (pc := 2) 14 dX8_within_2 (by decide) (fun _ => ?_) (fun _ => ?_)
  · refine go_iconst (pc := 14) 0 dX8_within_14 ki_0 ?_
    exact go_ret dX8_within_15 (rbz (Or.inl rfl)) rfl rfl
  · refine go_iload_n (pc := 5) dX8_within_5 rfl ?_
    refine go_iload_n (pc := 6) dX8_within_6 rfl ?_
    refine go_site ?_
    refine go_icmpgt (pc := 7) 14 dX8_within_7 (by decide) (fun _ => ?_) (fun _ => ?_)
    · refine go_iconst (pc := 14) 0 dX8_within_14 ki_0 ?_
      exact go_ret dX8_within_15 (rbz (Or.inl rfl)) rfl rfl
    · refine go_iconst (pc := 10) 1 dX8_within_10 ki_1 ?_
      refine go_goto (pc := 11) 15 dX8_within_11 (by decide) ?_
      exact go_ret dX8_within_15 (rbz (Or.inr rfl)) rfl rfl
theorem o_D_within_b (p1 : Int32) (p2 : Int32) (p3 : Int32) (M : Mem) : f_D_within p1 p2 p3 M = 0 ∨ f_D_within p1 p2 p3 M = 1 := by
  unfold f_D_within
  first | exact Or.inl rfl | (repeat' split) <;> first | exact Or.inl rfl | exact Or.inr rfl | assumption
def f_Acts_above (p1 : Int32) (M : Mem) : Option Int32 := if (f_D_within p1 1 6 M) = 0 then some 0 else gd (inR p1 7) (some (aBv p1.toNatClampNeg))
theorem o_Acts_above (p1 : Int32) (M : Mem) : Ct sRC g_Acts_above (fRi M) [.int p1] (f_Acts_above p1 M) M := by
  refine ⟨Nat.le_of_ble_eq_true rfl, ?_⟩
  show Go sRC g_Acts_above (fRi M) (f_Acts_above p1 M) 0 [.int p1] [] M
  refine go_def (f_Acts_above.eq_1 ..) ?_
  refine go_iload_n (pc := 0) dX0_above_0 rfl ?_
  refine go_iconst (pc := 1) 1 dX0_above_1 ki_1 ?_
  refine go_bipush (pc := 2) 6 dX0_above_2 kb_6 ?_
  refine go_T (v := f_D_within p1 1 6 M) ?_
  refine go_callSN (pc := 4) (as := [.int p1, .int 1, .int 6]) (st := []) (o_D_within p1 1 6 M) ic_D_within ivX0_49 rfl (by decide) (Nat.le_of_ble_eq_true rfl) dX0_above_4 (kTi ?_)
  refine go_ifeq (pc := 7) 18 dX0_above_7 (by decide) (fun _ => ?_) (fun _ => ?_)
  · refine go_iconst (pc := 18) 0 dX0_above_18 ki_0 ?_
    exact go_ret dX0_above_19 rii rfl rfl
  · refine go_aboveN (pc := 10) (host := "DoorSticks") (nW_of (mtb4 (mt64 (mt16 (mt16 (mt16 (mt1 (List.Mem.head _))))))) rfl) dX0_above_10 ?_
    refine go_iload_n (pc := 13) dX0_above_13 rfl ?_
    refine go_iald_above (pc := 14) dX0_above_14 (fun _ => ?_)
    refine go_goto (pc := 15) 19 dX0_above_15 (by decide) ?_
    exact go_ret dX0_above_19 rii rfl rfl
def f_Acts_swells_b131 (rec : Nat → Int32 → Int32 → Int32 → Mem → Option (Int32 × Mem)) (v1 : Int32) (v2 : Int32) (v3 : Int32) (M : Mem) : Option (Int32 × Mem) := bd (f_Acts_above v1 M) fun r18 => b2 (rec 0 r18 v2 (v3 + 1) M) fun r20 M19 => some (r20, M19)
def f_Acts_swells (rec : Nat → Int32 → Int32 → Int32 → Mem → Option (Int32 × Mem)) (p1 : Int32) (p2 : Int32) (p3 : Int32) (M : Mem) : Option (Int32 × Mem) := if p3 ≤ 40 then if p1 = 0 then bd (f_Acts_began 10 M) fun M1 => some (p2 + (mI M1 10485761 4), M1) else if p1 = 2 then bd (f_Acts_began 30 M) fun M2 => bd (f_Acts_above 2 M2) fun r3 => b2 (rec 0 r3 (p2 * 3) (p3 + 1) M2) fun r5 M4 => some (r5, M4) else if p1 = 4 then bd (f_Acts_began 50 M) fun M6 => bd (f_Acts_above 4 M6) fun r7 => b2 (rec 0 r7 p2 (p3 + 1) M6) fun r9 M8 => some (-r9, M8) else if p1 = 6 then bd (f_Acts_began 71 M) fun M10 => bd (f_Acts_above 6 M10) fun r11 => b2 (rec 0 r11 p2 (p3 + 1) M10) fun r13 M12 => some (r13 ^^^ (mI M12 10485761 3), M12) else f_Acts_swells_b131 rec p1 p2 p3 M else some (0, M)
theorem o_Acts_swells_b131 (rn : Nat) (rec : Nat → Int32 → Int32 → Int32 → Mem → Option (Int32 × Mem)) (hrec : ∀ (sel : Nat) (p1 : Int32) (p2 : Int32) (p3 : Int32) (M : Mem), Ct sRC (grec_swells sel rn) fWi [.ref 10485761, .int p1, .int p2, .int p3] (rec sel p1 p2 p3 M) M) (v1 : Int32) (v2 : Int32) (v3 : Int32) (M : Mem) : Go sRC (g_Acts_swells (rn + 1)) fWi (f_Acts_swells_b131 rec v1 v2 v3 M) 131 [.ref 10485761, .int v1, .int v2, .int v3] [] M := by
  refine go_def (f_Acts_swells_b131.eq_1 ..) ?_
  refine go_aload_n (pc := 131) dX0_swells_131 rfl ?_
  refine go_iload_n (pc := 132) dX0_swells_132 rfl ?_
  refine go_callS (pc := 133) (as := [.int v1]) (st := [.ref 10485761]) (o_Acts_above v1 M) ic_Acts_above ivX0_60 rfl (show 3 + 1 ≤ 4 + (rn + 1) by omega) (Nat.le_of_ble_eq_true rfl) dX0_swells_133 (kRi fun r18 => ?_)
  refine go_iload_n (pc := 136) dX0_swells_136 rfl ?_
  refine go_iload_n (pc := 137) dX0_swells_137 rfl ?_
  refine go_iconst (pc := 138) 1 dX0_swells_138 ki_1 ?_
  refine go_iadd (pc := 139) dX0_swells_139 ?_
  refine go_callS (pc := 140) (as := [.ref 10485761, .int r18, .int v2, .int (v3 + 1)]) (st := []) (hrec 0 r18 v2 (v3 + 1) M) (ic_Acts_swells _) ivX0_39 rfl (show 4 + rn + 1 ≤ 4 + (rn + 1) by omega) (Nat.le_of_ble_eq_true rfl) dX0_swells_140 (kWi fun r20 M19 => ?_)
  exact go_ret dX0_swells_143 rii rfl rfl
theorem o_Acts_swells (rn : Nat) (rec : Nat → Int32 → Int32 → Int32 → Mem → Option (Int32 × Mem)) (hrec : ∀ (sel : Nat) (p1 : Int32) (p2 : Int32) (p3 : Int32) (M : Mem), Ct sRC (grec_swells sel rn) fWi [.ref 10485761, .int p1, .int p2, .int p3] (rec sel p1 p2 p3 M) M) (p1 : Int32) (p2 : Int32) (p3 : Int32) (M : Mem) : Ct sRC (g_Acts_swells (rn + 1)) fWi [.ref 10485761, .int p1, .int p2, .int p3] (f_Acts_swells rec p1 p2 p3 M) M := by
  refine ⟨Nat.le_of_ble_eq_true rfl, ?_⟩
  show Go sRC (g_Acts_swells (rn + 1)) fWi (f_Acts_swells rec p1 p2 p3 M) 0 [.ref 10485761, .int p1, .int p2, .int p3] [] M
  refine go_def (f_Acts_swells.eq_1 ..) ?_
  refine go_iload_n (pc := 0) dX0_swells_0 rfl ?_
  refine go_bipush (pc := 1) 40 dX0_swells_1 kb_40 ?_
  refine go_icmple (pc := 3) 8 dX0_swells_3 (by decide) (fun _ => ?_) (fun _ => ?_)
  · refine go_iload_n (pc := 8) dX0_swells_8 rfl ?_
    refine go_tswC (pc := 9) (v := 0) (off := 43) 52 dX0_swells_9 (by decide) (by decide) (by decide) (fun _ => ?_) (fun n14 => ?_)
    · refine go_aload_n (pc := 52) dX0_swells_52 rfl ?_
      refine go_bipush (pc := 53) 10 dX0_swells_53 kb_10 ?_
      refine go_callV (pc := 55) (a := 10485761) (as := [.int 10]) (st := []) (o_Acts_began 10 M) ic_Acts_began ivX0_56 (rcvk (a := 10485761) (t := 1) rfl (by decide) (by decide) rfl) rfl (show 2 + 1 ≤ 4 + (rn + 1) by omega) (Nat.le_of_ble_eq_true rfl) dX0_swells_55 (kWv fun M1 => ?_)
      refine go_iload_n (pc := 58) dX0_swells_58 rfl ?_
      refine go_aload_n (pc := 59) dX0_swells_59 rfl ?_
      refine go_getI (pc := 60) flX0_38 rfl rfl dX0_swells_60 ?_
      refine go_iadd (pc := 63) dX0_swells_63 ?_
      exact go_ret dX0_swells_64 rii rfl rfl
    refine go_tswC (pc := 9) (v := 2) (off := 56) 65 dX0_swells_9 (by decide) (by decide) (by decide) (fun _ => ?_) (fun n15 => ?_)
    · refine go_aload_n (pc := 65) dX0_swells_65 rfl ?_
      refine go_bipush (pc := 66) 30 dX0_swells_66 kb_30 ?_
      refine go_callV (pc := 68) (a := 10485761) (as := [.int 30]) (st := []) (o_Acts_began 30 M) ic_Acts_began ivX0_56 (rcvk (a := 10485761) (t := 1) rfl (by decide) (by decide) rfl) rfl (show 2 + 1 ≤ 4 + (rn + 1) by omega) (Nat.le_of_ble_eq_true rfl) dX0_swells_68 (kWv fun M2 => ?_)
      refine go_aload_n (pc := 71) dX0_swells_71 rfl ?_
      refine go_iconst (pc := 72) 2 dX0_swells_72 ki_2 ?_
      refine go_callS (pc := 73) (as := [.int 2]) (st := [.ref 10485761]) (o_Acts_above 2 M2) ic_Acts_above ivX0_60 rfl (show 3 + 1 ≤ 4 + (rn + 1) by omega) (Nat.le_of_ble_eq_true rfl) dX0_swells_73 (kRi fun r3 => ?_)
      refine go_iload_n (pc := 76) dX0_swells_76 rfl ?_
      refine go_iconst (pc := 77) 3 dX0_swells_77 ki_3 ?_
      refine go_imul (pc := 78) dX0_swells_78 ?_
      refine go_iload_n (pc := 79) dX0_swells_79 rfl ?_
      refine go_iconst (pc := 80) 1 dX0_swells_80 ki_1 ?_
      refine go_iadd (pc := 81) dX0_swells_81 ?_
      refine go_callS (pc := 82) (as := [.ref 10485761, .int r3, .int (p2 * 3), .int (p3 + 1)]) (st := []) (hrec 0 r3 (p2 * 3) (p3 + 1) M2) (ic_Acts_swells _) ivX0_39 rfl (show 4 + rn + 1 ≤ 4 + (rn + 1) by omega) (Nat.le_of_ble_eq_true rfl) dX0_swells_82 (kWi fun r5 M4 => ?_)
      exact go_ret dX0_swells_85 rii rfl rfl
    refine go_tswC (pc := 9) (v := 4) (off := 77) 86 dX0_swells_9 (by decide) (by decide) (by decide) (fun _ => ?_) (fun n16 => ?_)
    · refine go_aload_n (pc := 86) dX0_swells_86 rfl ?_
      refine go_bipush (pc := 87) 50 dX0_swells_87 kb_50 ?_
      refine go_callV (pc := 89) (a := 10485761) (as := [.int 50]) (st := []) (o_Acts_began 50 M) ic_Acts_began ivX0_56 (rcvk (a := 10485761) (t := 1) rfl (by decide) (by decide) rfl) rfl (show 2 + 1 ≤ 4 + (rn + 1) by omega) (Nat.le_of_ble_eq_true rfl) dX0_swells_89 (kWv fun M6 => ?_)
      refine go_aload_n (pc := 92) dX0_swells_92 rfl ?_
      refine go_iconst (pc := 93) 4 dX0_swells_93 ki_4 ?_
      refine go_callS (pc := 94) (as := [.int 4]) (st := [.ref 10485761]) (o_Acts_above 4 M6) ic_Acts_above ivX0_60 rfl (show 3 + 1 ≤ 4 + (rn + 1) by omega) (Nat.le_of_ble_eq_true rfl) dX0_swells_94 (kRi fun r7 => ?_)
      refine go_iload_n (pc := 97) dX0_swells_97 rfl ?_
      refine go_iload_n (pc := 98) dX0_swells_98 rfl ?_
      refine go_iconst (pc := 99) 1 dX0_swells_99 ki_1 ?_
      refine go_iadd (pc := 100) dX0_swells_100 ?_
      refine go_callS (pc := 101) (as := [.ref 10485761, .int r7, .int p2, .int (p3 + 1)]) (st := []) (hrec 0 r7 p2 (p3 + 1) M6) (ic_Acts_swells _) ivX0_39 rfl (show 4 + rn + 1 ≤ 4 + (rn + 1) by omega) (Nat.le_of_ble_eq_true rfl) dX0_swells_101 (kWi fun r9 M8 => ?_)
      refine go_ineg (pc := 104) dX0_swells_104 ?_
      exact go_ret dX0_swells_105 rii rfl rfl
    refine go_tswC (pc := 9) (v := 6) (off := 97) 106 dX0_swells_9 (by decide) (by decide) (by decide) (fun _ => ?_) (fun n17 => ?_)
    · refine go_aload_n (pc := 106) dX0_swells_106 rfl ?_
      refine go_bipush (pc := 107) 71 dX0_swells_107 kb_71 ?_
      refine go_callV (pc := 109) (a := 10485761) (as := [.int 71]) (st := []) (o_Acts_began 71 M) ic_Acts_began ivX0_56 (rcvk (a := 10485761) (t := 1) rfl (by decide) (by decide) rfl) rfl (show 2 + 1 ≤ 4 + (rn + 1) by omega) (Nat.le_of_ble_eq_true rfl) dX0_swells_109 (kWv fun M10 => ?_)
      refine go_aload_n (pc := 112) dX0_swells_112 rfl ?_
      refine go_bipush (pc := 113) 6 dX0_swells_113 kb_6 ?_
      refine go_callS (pc := 115) (as := [.int 6]) (st := [.ref 10485761]) (o_Acts_above 6 M10) ic_Acts_above ivX0_60 rfl (show 3 + 1 ≤ 4 + (rn + 1) by omega) (Nat.le_of_ble_eq_true rfl) dX0_swells_115 (kRi fun r11 => ?_)
      refine go_iload_n (pc := 118) dX0_swells_118 rfl ?_
      refine go_iload_n (pc := 119) dX0_swells_119 rfl ?_
      refine go_iconst (pc := 120) 1 dX0_swells_120 ki_1 ?_
      refine go_iadd (pc := 121) dX0_swells_121 ?_
      refine go_callS (pc := 122) (as := [.ref 10485761, .int r11, .int p2, .int (p3 + 1)]) (st := []) (hrec 0 r11 p2 (p3 + 1) M10) (ic_Acts_swells _) ivX0_39 rfl (show 4 + rn + 1 ≤ 4 + (rn + 1) by omega) (Nat.le_of_ble_eq_true rfl) dX0_swells_122 (kWi fun r13 M12 => ?_)
      refine go_aload_n (pc := 125) dX0_swells_125 rfl ?_
      refine go_getI (pc := 126) flX0_34 rfl rfl dX0_swells_126 ?_
      refine go_ixor (pc := 129) dX0_swells_129 ?_
      exact go_ret dX0_swells_130 rii rfl rfl
    refine go_tswD (pc := 9) 131 dX0_swells_9 (by have n14t := lv_neT n14 (show (0 : Int32).toInt = 0 by decide); have n15t := lv_neT n15 (show (2 : Int32).toInt = 2 by decide); have n16t := lv_neT n16 (show (4 : Int32).toInt = 4 by decide); have n17t := lv_neT n17 (show (6 : Int32).toInt = 6 by decide); rcases (show p1.toInt < 0 ∨ 6 < p1.toInt ∨ p1.toInt = 1 ∨ p1.toInt = 3 ∨ p1.toInt = 5 by omega) with h | h | h | h | h <;> first | exact Or.inl h | exact Or.inr (Or.inl h) | exact Or.inr (Or.inr (by rw [h]; decide))) (by decide) ?_
    exact o_Acts_swells_b131 rn rec hrec p1 p2 p3 M
  · refine go_iconst (pc := 6) 0 dX0_swells_6 ki_0 ?_
    exact go_ret dX0_swells_7 rii rfl rfl
def f_rec_swells : Nat → Nat → Int32 → Int32 → Int32 → Mem → Option (Int32 × Mem)
  | 0, _, _, _, _, _ => none
  | n + 1, _, p1, p2, p3, M => f_Acts_swells (f_rec_swells n) p1 p2 p3 M
theorem o_rec_swells : ∀ (n sel : Nat) (p1 : Int32) (p2 : Int32) (p3 : Int32) (M : Mem), Ct sRC (grec_swells sel n) fWi [.ref 10485761, .int p1, .int p2, .int p3] (f_rec_swells n sel p1 p2 p3 M) M := by
  intro n
  induction n with
  | zero =>
    intro sel p1 p2 p3 M
    have e : f_rec_swells 0 sel p1 p2 p3 M = none := by unfold f_rec_swells; rfl
    rw [e]
    refine ⟨?_, go_none⟩
    match sel with
    | j + 0 => exact Nat.le_of_ble_eq_true rfl
  | succ n ih =>
    intro sel p1 p2 p3 M
    match sel with
    | j + 0 => exact o_Acts_swells n (f_rec_swells n) ih p1 p2 p3 M
def f_Acts_hangs_b153 (rec : Nat → Int32 → Int32 → Int32 → Mem → Option (Int32 × Mem)) (v1 : Int32) (v2 : Int32) (v3 : Int32) (M : Mem) : Option (Int32 × Mem) := bd (f_Acts_above v1 M) fun r23 => b2 (rec 0 r23 v2 (v3 + 1) M) fun r25 M24 => some (r25, M24)
def f_Acts_hangs (rec : Nat → Int32 → Int32 → Int32 → Mem → Option (Int32 × Mem)) (p1 : Int32) (p2 : Int32) (p3 : Int32) (M : Mem) : Option (Int32 × Mem) := if p3 ≤ 40 then if p1 = 0 then bd (f_Acts_began 11 M) fun M1 => b2 (f_rec_swells 12 0 (mI M1 10485761 2) p2 (p3 + 1) M1) fun r3 M2 => some (r3 - (mI M2 10485761 3), M2) else if p1 = 1 then bd (f_Acts_began 20 M) fun M4 => bd (f_Acts_above 1 M4) fun r5 => b2 (rec 0 r5 p2 (p3 + 1) M4) fun r7 M6 => some (r7 ^^^ 6, M6) else if p1 = 4 then bd (f_Acts_began 51 M) fun M8 => bd (f_Acts_above 4 M8) fun r9 => b2 (rec 0 r9 (p2 + 1) (p3 + 1) M8) fun r11 M10 => some (r11, M10) else if p1 = 6 then bd (f_Acts_began 70 M) fun M12 => bd (f_Acts_above 6 M12) fun r13 => b2 (rec 0 r13 p2 (p3 + 1) M12) fun r15 M14 => bd (f_Acts_above 6 M14) fun r16 => b2 (f_rec_swells 12 0 r16 2 (p3 + 1) M14) fun r18 M17 => some (r15 + r18, M17) else f_Acts_hangs_b153 rec p1 p2 p3 M else some (0, M)
theorem o_Acts_hangs_b153 (rn : Nat) (rec : Nat → Int32 → Int32 → Int32 → Mem → Option (Int32 × Mem)) (hrec : ∀ (sel : Nat) (p1 : Int32) (p2 : Int32) (p3 : Int32) (M : Mem), Ct sRC (grec_hangs sel rn) fWi [.ref 10485761, .int p1, .int p2, .int p3] (rec sel p1 p2 p3 M) M) (v1 : Int32) (v2 : Int32) (v3 : Int32) (M : Mem) : Go sRC (g_Acts_hangs (rn + 1)) fWi (f_Acts_hangs_b153 rec v1 v2 v3 M) 153 [.ref 10485761, .int v1, .int v2, .int v3] [] M := by
  refine go_def (f_Acts_hangs_b153.eq_1 ..) ?_
  refine go_aload_n (pc := 153) dX0_hangs_153 rfl ?_
  refine go_iload_n (pc := 154) dX0_hangs_154 rfl ?_
  refine go_callS (pc := 155) (as := [.int v1]) (st := [.ref 10485761]) (o_Acts_above v1 M) ic_Acts_above ivX0_60 rfl (show 3 + 1 ≤ 17 + (rn + 1) by omega) (Nat.le_of_ble_eq_true rfl) dX0_hangs_155 (kRi fun r23 => ?_)
  refine go_iload_n (pc := 158) dX0_hangs_158 rfl ?_
  refine go_iload_n (pc := 159) dX0_hangs_159 rfl ?_
  refine go_iconst (pc := 160) 1 dX0_hangs_160 ki_1 ?_
  refine go_iadd (pc := 161) dX0_hangs_161 ?_
  refine go_callS (pc := 162) (as := [.ref 10485761, .int r23, .int v2, .int (v3 + 1)]) (st := []) (hrec 0 r23 v2 (v3 + 1) M) (ic_Acts_hangs _) ivX0_43 rfl (show 17 + rn + 1 ≤ 17 + (rn + 1) by omega) (Nat.le_of_ble_eq_true rfl) dX0_hangs_162 (kWi fun r25 M24 => ?_)
  exact go_ret dX0_hangs_165 rii rfl rfl
theorem o_Acts_hangs (rn : Nat) (rec : Nat → Int32 → Int32 → Int32 → Mem → Option (Int32 × Mem)) (hrec : ∀ (sel : Nat) (p1 : Int32) (p2 : Int32) (p3 : Int32) (M : Mem), Ct sRC (grec_hangs sel rn) fWi [.ref 10485761, .int p1, .int p2, .int p3] (rec sel p1 p2 p3 M) M) (p1 : Int32) (p2 : Int32) (p3 : Int32) (M : Mem) : Ct sRC (g_Acts_hangs (rn + 1)) fWi [.ref 10485761, .int p1, .int p2, .int p3] (f_Acts_hangs rec p1 p2 p3 M) M := by
  refine ⟨Nat.le_of_ble_eq_true rfl, ?_⟩
  show Go sRC (g_Acts_hangs (rn + 1)) fWi (f_Acts_hangs rec p1 p2 p3 M) 0 [.ref 10485761, .int p1, .int p2, .int p3] [] M
  refine go_def (f_Acts_hangs.eq_1 ..) ?_
  refine go_iload_n (pc := 0) dX0_hangs_0 rfl ?_
  refine go_bipush (pc := 1) 40 dX0_hangs_1 kb_40 ?_
  refine go_icmple (pc := 3) 8 dX0_hangs_3 (by decide) (fun _ => ?_) (fun _ => ?_)
  · refine go_iload_n (pc := 8) dX0_hangs_8 rfl ?_
    refine go_tswC (pc := 9) (v := 0) (off := 43) 52 dX0_hangs_9 (by decide) (by decide) (by decide) (fun _ => ?_) (fun n19 => ?_)
    · refine go_aload_n (pc := 52) dX0_hangs_52 rfl ?_
      refine go_bipush (pc := 53) 11 dX0_hangs_53 kb_11 ?_
      refine go_callV (pc := 55) (a := 10485761) (as := [.int 11]) (st := []) (o_Acts_began 11 M) ic_Acts_began ivX0_56 (rcvk (a := 10485761) (t := 1) rfl (by decide) (by decide) rfl) rfl (show 2 + 1 ≤ 17 + (rn + 1) by omega) (Nat.le_of_ble_eq_true rfl) dX0_hangs_55 (kWv fun M1 => ?_)
      refine go_aload_n (pc := 58) dX0_hangs_58 rfl ?_
      refine go_aload_n (pc := 59) dX0_hangs_59 rfl ?_
      refine go_getI (pc := 60) flX0_30 rfl rfl dX0_hangs_60 ?_
      refine go_iload_n (pc := 63) dX0_hangs_63 rfl ?_
      refine go_iload_n (pc := 64) dX0_hangs_64 rfl ?_
      refine go_iconst (pc := 65) 1 dX0_hangs_65 ki_1 ?_
      refine go_iadd (pc := 66) dX0_hangs_66 ?_
      refine go_callS (pc := 67) (as := [.ref 10485761, .int (mI M1 10485761 2), .int p2, .int (p3 + 1)]) (st := []) (o_rec_swells 12 0 (mI M1 10485761 2) p2 (p3 + 1) M1) (ic_Acts_swells 12) ivX0_39 rfl (show 16 + 1 ≤ 17 + (rn + 1) by omega) (Nat.le_of_ble_eq_true rfl) dX0_hangs_67 (kWi fun r3 M2 => ?_)
      refine go_aload_n (pc := 70) dX0_hangs_70 rfl ?_
      refine go_getI (pc := 71) flX0_34 rfl rfl dX0_hangs_71 ?_
      refine go_isub (pc := 74) dX0_hangs_74 ?_
      exact go_ret dX0_hangs_75 rii rfl rfl
    refine go_tswC (pc := 9) (v := 1) (off := 67) 76 dX0_hangs_9 (by decide) (by decide) (by decide) (fun _ => ?_) (fun n20 => ?_)
    · refine go_aload_n (pc := 76) dX0_hangs_76 rfl ?_
      refine go_bipush (pc := 77) 20 dX0_hangs_77 kb_20 ?_
      refine go_callV (pc := 79) (a := 10485761) (as := [.int 20]) (st := []) (o_Acts_began 20 M) ic_Acts_began ivX0_56 (rcvk (a := 10485761) (t := 1) rfl (by decide) (by decide) rfl) rfl (show 2 + 1 ≤ 17 + (rn + 1) by omega) (Nat.le_of_ble_eq_true rfl) dX0_hangs_79 (kWv fun M4 => ?_)
      refine go_aload_n (pc := 82) dX0_hangs_82 rfl ?_
      refine go_iconst (pc := 83) 1 dX0_hangs_83 ki_1 ?_
      refine go_callS (pc := 84) (as := [.int 1]) (st := [.ref 10485761]) (o_Acts_above 1 M4) ic_Acts_above ivX0_60 rfl (show 3 + 1 ≤ 17 + (rn + 1) by omega) (Nat.le_of_ble_eq_true rfl) dX0_hangs_84 (kRi fun r5 => ?_)
      refine go_iload_n (pc := 87) dX0_hangs_87 rfl ?_
      refine go_iload_n (pc := 88) dX0_hangs_88 rfl ?_
      refine go_iconst (pc := 89) 1 dX0_hangs_89 ki_1 ?_
      refine go_iadd (pc := 90) dX0_hangs_90 ?_
      refine go_callS (pc := 91) (as := [.ref 10485761, .int r5, .int p2, .int (p3 + 1)]) (st := []) (hrec 0 r5 p2 (p3 + 1) M4) (ic_Acts_hangs _) ivX0_43 rfl (show 17 + rn + 1 ≤ 17 + (rn + 1) by omega) (Nat.le_of_ble_eq_true rfl) dX0_hangs_91 (kWi fun r7 M6 => ?_)
      refine go_bipush (pc := 94) 6 dX0_hangs_94 kb_6 ?_
      refine go_ixor (pc := 96) dX0_hangs_96 ?_
      exact go_ret dX0_hangs_97 rii rfl rfl
    refine go_tswC (pc := 9) (v := 4) (off := 89) 98 dX0_hangs_9 (by decide) (by decide) (by decide) (fun _ => ?_) (fun n21 => ?_)
    · refine go_aload_n (pc := 98) dX0_hangs_98 rfl ?_
      refine go_bipush (pc := 99) 51 dX0_hangs_99 kb_51 ?_
      refine go_callV (pc := 101) (a := 10485761) (as := [.int 51]) (st := []) (o_Acts_began 51 M) ic_Acts_began ivX0_56 (rcvk (a := 10485761) (t := 1) rfl (by decide) (by decide) rfl) rfl (show 2 + 1 ≤ 17 + (rn + 1) by omega) (Nat.le_of_ble_eq_true rfl) dX0_hangs_101 (kWv fun M8 => ?_)
      refine go_aload_n (pc := 104) dX0_hangs_104 rfl ?_
      refine go_iconst (pc := 105) 4 dX0_hangs_105 ki_4 ?_
      refine go_callS (pc := 106) (as := [.int 4]) (st := [.ref 10485761]) (o_Acts_above 4 M8) ic_Acts_above ivX0_60 rfl (show 3 + 1 ≤ 17 + (rn + 1) by omega) (Nat.le_of_ble_eq_true rfl) dX0_hangs_106 (kRi fun r9 => ?_)
      refine go_iload_n (pc := 109) dX0_hangs_109 rfl ?_
      refine go_iconst (pc := 110) 1 dX0_hangs_110 ki_1 ?_
      refine go_iadd (pc := 111) dX0_hangs_111 ?_
      refine go_iload_n (pc := 112) dX0_hangs_112 rfl ?_
      refine go_iconst (pc := 113) 1 dX0_hangs_113 ki_1 ?_
      refine go_iadd (pc := 114) dX0_hangs_114 ?_
      refine go_callS (pc := 115) (as := [.ref 10485761, .int r9, .int (p2 + 1), .int (p3 + 1)]) (st := []) (hrec 0 r9 (p2 + 1) (p3 + 1) M8) (ic_Acts_hangs _) ivX0_43 rfl (show 17 + rn + 1 ≤ 17 + (rn + 1) by omega) (Nat.le_of_ble_eq_true rfl) dX0_hangs_115 (kWi fun r11 M10 => ?_)
      exact go_ret dX0_hangs_118 rii rfl rfl
    refine go_tswC (pc := 9) (v := 6) (off := 110) 119 dX0_hangs_9 (by decide) (by decide) (by decide) (fun _ => ?_) (fun n22 => ?_)
    · refine go_aload_n (pc := 119) dX0_hangs_119 rfl ?_
      refine go_bipush (pc := 120) 70 dX0_hangs_120 kb_70 ?_
      refine go_callV (pc := 122) (a := 10485761) (as := [.int 70]) (st := []) (o_Acts_began 70 M) ic_Acts_began ivX0_56 (rcvk (a := 10485761) (t := 1) rfl (by decide) (by decide) rfl) rfl (show 2 + 1 ≤ 17 + (rn + 1) by omega) (Nat.le_of_ble_eq_true rfl) dX0_hangs_122 (kWv fun M12 => ?_)
      refine go_aload_n (pc := 125) dX0_hangs_125 rfl ?_
      refine go_bipush (pc := 126) 6 dX0_hangs_126 kb_6 ?_
      refine go_callS (pc := 128) (as := [.int 6]) (st := [.ref 10485761]) (o_Acts_above 6 M12) ic_Acts_above ivX0_60 rfl (show 3 + 1 ≤ 17 + (rn + 1) by omega) (Nat.le_of_ble_eq_true rfl) dX0_hangs_128 (kRi fun r13 => ?_)
      refine go_iload_n (pc := 131) dX0_hangs_131 rfl ?_
      refine go_iload_n (pc := 132) dX0_hangs_132 rfl ?_
      refine go_iconst (pc := 133) 1 dX0_hangs_133 ki_1 ?_
      refine go_iadd (pc := 134) dX0_hangs_134 ?_
      refine go_callS (pc := 135) (as := [.ref 10485761, .int r13, .int p2, .int (p3 + 1)]) (st := []) (hrec 0 r13 p2 (p3 + 1) M12) (ic_Acts_hangs _) ivX0_43 rfl (show 17 + rn + 1 ≤ 17 + (rn + 1) by omega) (Nat.le_of_ble_eq_true rfl) dX0_hangs_135 (kWi fun r15 M14 => ?_)
      refine go_aload_n (pc := 138) dX0_hangs_138 rfl ?_
      refine go_bipush (pc := 139) 6 dX0_hangs_139 kb_6 ?_
      refine go_callS (pc := 141) (as := [.int 6]) (st := [.ref 10485761, .int r15]) (o_Acts_above 6 M14) ic_Acts_above ivX0_60 rfl (show 3 + 1 ≤ 17 + (rn + 1) by omega) (Nat.le_of_ble_eq_true rfl) dX0_hangs_141 (kRi fun r16 => ?_)
      refine go_iconst (pc := 144) 2 dX0_hangs_144 ki_2 ?_
      refine go_iload_n (pc := 145) dX0_hangs_145 rfl ?_
      refine go_iconst (pc := 146) 1 dX0_hangs_146 ki_1 ?_
      refine go_iadd (pc := 147) dX0_hangs_147 ?_
      refine go_callS (pc := 148) (as := [.ref 10485761, .int r16, .int 2, .int (p3 + 1)]) (st := [.int r15]) (o_rec_swells 12 0 r16 2 (p3 + 1) M14) (ic_Acts_swells 12) ivX0_39 rfl (show 16 + 1 ≤ 17 + (rn + 1) by omega) (Nat.le_of_ble_eq_true rfl) dX0_hangs_148 (kWi fun r18 M17 => ?_)
      refine go_iadd (pc := 151) dX0_hangs_151 ?_
      exact go_ret dX0_hangs_152 rii rfl rfl
    refine go_tswD (pc := 9) 153 dX0_hangs_9 (by have n19t := lv_neT n19 (show (0 : Int32).toInt = 0 by decide); have n20t := lv_neT n20 (show (1 : Int32).toInt = 1 by decide); have n21t := lv_neT n21 (show (4 : Int32).toInt = 4 by decide); have n22t := lv_neT n22 (show (6 : Int32).toInt = 6 by decide); rcases (show p1.toInt < 0 ∨ 6 < p1.toInt ∨ p1.toInt = 2 ∨ p1.toInt = 3 ∨ p1.toInt = 5 by omega) with h | h | h | h | h <;> first | exact Or.inl h | exact Or.inr (Or.inl h) | exact Or.inr (Or.inr (by rw [h]; decide))) (by decide) ?_
    exact o_Acts_hangs_b153 rn rec hrec p1 p2 p3 M
  · refine go_iconst (pc := 6) 0 dX0_hangs_6 ki_0 ?_
    exact go_ret dX0_hangs_7 rii rfl rfl
def f_rec_hangs : Nat → Nat → Int32 → Int32 → Int32 → Mem → Option (Int32 × Mem)
  | 0, _, _, _, _, _ => none
  | n + 1, _, p1, p2, p3, M => f_Acts_hangs (f_rec_hangs n) p1 p2 p3 M
theorem o_rec_hangs : ∀ (n sel : Nat) (p1 : Int32) (p2 : Int32) (p3 : Int32) (M : Mem), Ct sRC (grec_hangs sel n) fWi [.ref 10485761, .int p1, .int p2, .int p3] (f_rec_hangs n sel p1 p2 p3 M) M := by
  intro n
  induction n with
  | zero =>
    intro sel p1 p2 p3 M
    have e : f_rec_hangs 0 sel p1 p2 p3 M = none := by unfold f_rec_hangs; rfl
    rw [e]
    refine ⟨?_, go_none⟩
    match sel with
    | j + 0 => exact Nat.le_of_ble_eq_true rfl
  | succ n ih =>
    intro sel p1 p2 p3 M
    match sel with
    | j + 0 => exact o_Acts_hangs n (f_rec_hangs n) ih p1 p2 p3 M
def f_Acts_tells (rec : Nat → Int32 → Int32 → Int32 → Mem → Option (Int32 × Mem)) (p1 : Int32) (p2 : Int32) (p3 : Int32) (M : Mem) : Option (Int32 × Mem) := if p3 ≤ 40 then if p1 = 0 then bd (f_Acts_began 12 M) fun M1 => b2 (f_rec_hangs 12 0 (mI M1 10485761 2) p2 (p3 + 1) M1) fun r3 M2 => some (r3 * 2, M2) else if p1 = 3 then bd (f_Acts_began 40 M) fun M4 => bd (f_Acts_above 3 M4) fun r5 => b2 (rec 0 r5 p2 (p3 + 1) M4) fun r7 M6 => b2 (f_rec_hangs 12 0 (mI M6 10485761 2) 1 (p3 + 1) M6) fun r9 M8 => some (r7 + r9, M8) else if p1 = 5 then bd (f_Acts_began 60 M) fun M10 => bd (f_Acts_above 5 M10) fun r11 => b2 (rec 0 r11 (p2 - (mI M10 10485761 4)) (p3 + 1) M10) fun r13 M12 => some (r13, M12) else bd (f_Acts_above p1 M) fun r14 => b2 (rec 0 r14 p2 (p3 + 1) M) fun r16 M15 => some (r16, M15) else some (0, M)
theorem o_Acts_tells (rn : Nat) (rec : Nat → Int32 → Int32 → Int32 → Mem → Option (Int32 × Mem)) (hrec : ∀ (sel : Nat) (p1 : Int32) (p2 : Int32) (p3 : Int32) (M : Mem), Ct sRC (grec_tells sel rn) fWi [.ref 10485761, .int p1, .int p2, .int p3] (rec sel p1 p2 p3 M) M) (p1 : Int32) (p2 : Int32) (p3 : Int32) (M : Mem) : Ct sRC (g_Acts_tells (rn + 1)) fWi [.ref 10485761, .int p1, .int p2, .int p3] (f_Acts_tells rec p1 p2 p3 M) M := by
  refine ⟨Nat.le_of_ble_eq_true rfl, ?_⟩
  show Go sRC (g_Acts_tells (rn + 1)) fWi (f_Acts_tells rec p1 p2 p3 M) 0 [.ref 10485761, .int p1, .int p2, .int p3] [] M
  refine go_def (f_Acts_tells.eq_1 ..) ?_
  refine go_iload_n (pc := 0) dX0_tells_0 rfl ?_
  refine go_bipush (pc := 1) 40 dX0_tells_1 kb_40 ?_
  refine go_icmple (pc := 3) 8 dX0_tells_3 (by decide) (fun _ => ?_) (fun _ => ?_)
  · refine go_iload_n (pc := 8) dX0_tells_8 rfl ?_
    refine go_lswC (pc := 9) (v := 0) (off := 35) 44 dX0_tells_9 (by decide) (by decide) (by decide) (fun _ => ?_) (fun n17 => ?_)
    · refine go_aload_n (pc := 44) dX0_tells_44 rfl ?_
      refine go_bipush (pc := 45) 12 dX0_tells_45 kb_12 ?_
      refine go_callV (pc := 47) (a := 10485761) (as := [.int 12]) (st := []) (o_Acts_began 12 M) ic_Acts_began ivX0_56 (rcvk (a := 10485761) (t := 1) rfl (by decide) (by decide) rfl) rfl (show 2 + 1 ≤ 30 + (rn + 1) by omega) (Nat.le_of_ble_eq_true rfl) dX0_tells_47 (kWv fun M1 => ?_)
      refine go_aload_n (pc := 50) dX0_tells_50 rfl ?_
      refine go_aload_n (pc := 51) dX0_tells_51 rfl ?_
      refine go_getI (pc := 52) flX0_30 rfl rfl dX0_tells_52 ?_
      refine go_iload_n (pc := 55) dX0_tells_55 rfl ?_
      refine go_iload_n (pc := 56) dX0_tells_56 rfl ?_
      refine go_iconst (pc := 57) 1 dX0_tells_57 ki_1 ?_
      refine go_iadd (pc := 58) dX0_tells_58 ?_
      refine go_callS (pc := 59) (as := [.ref 10485761, .int (mI M1 10485761 2), .int p2, .int (p3 + 1)]) (st := []) (o_rec_hangs 12 0 (mI M1 10485761 2) p2 (p3 + 1) M1) (ic_Acts_hangs 12) ivX0_43 rfl (show 29 + 1 ≤ 30 + (rn + 1) by omega) (Nat.le_of_ble_eq_true rfl) dX0_tells_59 (kWi fun r3 M2 => ?_)
      refine go_iconst (pc := 62) 2 dX0_tells_62 ki_2 ?_
      refine go_imul (pc := 63) dX0_tells_63 ?_
      exact go_ret dX0_tells_64 rii rfl rfl
    refine go_lswC (pc := 9) (v := 3) (off := 56) 65 dX0_tells_9 (by decide) (by decide) (by decide) (fun _ => ?_) (fun n18 => ?_)
    · refine go_aload_n (pc := 65) dX0_tells_65 rfl ?_
      refine go_bipush (pc := 66) 40 dX0_tells_66 kb_40 ?_
      refine go_callV (pc := 68) (a := 10485761) (as := [.int 40]) (st := []) (o_Acts_began 40 M) ic_Acts_began ivX0_56 (rcvk (a := 10485761) (t := 1) rfl (by decide) (by decide) rfl) rfl (show 2 + 1 ≤ 30 + (rn + 1) by omega) (Nat.le_of_ble_eq_true rfl) dX0_tells_68 (kWv fun M4 => ?_)
      refine go_aload_n (pc := 71) dX0_tells_71 rfl ?_
      refine go_iconst (pc := 72) 3 dX0_tells_72 ki_3 ?_
      refine go_callS (pc := 73) (as := [.int 3]) (st := [.ref 10485761]) (o_Acts_above 3 M4) ic_Acts_above ivX0_60 rfl (show 3 + 1 ≤ 30 + (rn + 1) by omega) (Nat.le_of_ble_eq_true rfl) dX0_tells_73 (kRi fun r5 => ?_)
      refine go_iload_n (pc := 76) dX0_tells_76 rfl ?_
      refine go_iload_n (pc := 77) dX0_tells_77 rfl ?_
      refine go_iconst (pc := 78) 1 dX0_tells_78 ki_1 ?_
      refine go_iadd (pc := 79) dX0_tells_79 ?_
      refine go_callS (pc := 80) (as := [.ref 10485761, .int r5, .int p2, .int (p3 + 1)]) (st := []) (hrec 0 r5 p2 (p3 + 1) M4) (ic_Acts_tells _) ivX0_46 rfl (show 30 + rn + 1 ≤ 30 + (rn + 1) by omega) (Nat.le_of_ble_eq_true rfl) dX0_tells_80 (kWi fun r7 M6 => ?_)
      refine go_aload_n (pc := 83) dX0_tells_83 rfl ?_
      refine go_aload_n (pc := 84) dX0_tells_84 rfl ?_
      refine go_getI (pc := 85) flX0_30 rfl rfl dX0_tells_85 ?_
      refine go_iconst (pc := 88) 1 dX0_tells_88 ki_1 ?_
      refine go_iload_n (pc := 89) dX0_tells_89 rfl ?_
      refine go_iconst (pc := 90) 1 dX0_tells_90 ki_1 ?_
      refine go_iadd (pc := 91) dX0_tells_91 ?_
      refine go_callS (pc := 92) (as := [.ref 10485761, .int (mI M6 10485761 2), .int 1, .int (p3 + 1)]) (st := [.int r7]) (o_rec_hangs 12 0 (mI M6 10485761 2) 1 (p3 + 1) M6) (ic_Acts_hangs 12) ivX0_43 rfl (show 29 + 1 ≤ 30 + (rn + 1) by omega) (Nat.le_of_ble_eq_true rfl) dX0_tells_92 (kWi fun r9 M8 => ?_)
      refine go_iadd (pc := 95) dX0_tells_95 ?_
      exact go_ret dX0_tells_96 rii rfl rfl
    refine go_lswC (pc := 9) (v := 5) (off := 88) 97 dX0_tells_9 (by decide) (by decide) (by decide) (fun _ => ?_) (fun n19 => ?_)
    · refine go_aload_n (pc := 97) dX0_tells_97 rfl ?_
      refine go_bipush (pc := 98) 60 dX0_tells_98 kb_60 ?_
      refine go_callV (pc := 100) (a := 10485761) (as := [.int 60]) (st := []) (o_Acts_began 60 M) ic_Acts_began ivX0_56 (rcvk (a := 10485761) (t := 1) rfl (by decide) (by decide) rfl) rfl (show 2 + 1 ≤ 30 + (rn + 1) by omega) (Nat.le_of_ble_eq_true rfl) dX0_tells_100 (kWv fun M10 => ?_)
      refine go_aload_n (pc := 103) dX0_tells_103 rfl ?_
      refine go_iconst (pc := 104) 5 dX0_tells_104 ki_5 ?_
      refine go_callS (pc := 105) (as := [.int 5]) (st := [.ref 10485761]) (o_Acts_above 5 M10) ic_Acts_above ivX0_60 rfl (show 3 + 1 ≤ 30 + (rn + 1) by omega) (Nat.le_of_ble_eq_true rfl) dX0_tells_105 (kRi fun r11 => ?_)
      refine go_iload_n (pc := 108) dX0_tells_108 rfl ?_
      refine go_aload_n (pc := 109) dX0_tells_109 rfl ?_
      refine go_getI (pc := 110) flX0_38 rfl rfl dX0_tells_110 ?_
      refine go_isub (pc := 113) dX0_tells_113 ?_
      refine go_iload_n (pc := 114) dX0_tells_114 rfl ?_
      refine go_iconst (pc := 115) 1 dX0_tells_115 ki_1 ?_
      refine go_iadd (pc := 116) dX0_tells_116 ?_
      refine go_callS (pc := 117) (as := [.ref 10485761, .int r11, .int (p2 - (mI M10 10485761 4)), .int (p3 + 1)]) (st := []) (hrec 0 r11 (p2 - (mI M10 10485761 4)) (p3 + 1) M10) (ic_Acts_tells _) ivX0_46 rfl (show 30 + rn + 1 ≤ 30 + (rn + 1) by omega) (Nat.le_of_ble_eq_true rfl) dX0_tells_117 (kWi fun r13 M12 => ?_)
      exact go_ret dX0_tells_120 rii rfl rfl
    refine go_lswD (pc := 9) 121 dX0_tells_9 (by decide) (by show Op.lookupswitch.offset ([(0, 35), (3, 56), (5, 88)] : List (Int × Int)) _ _ = _; rw [lv_osw n17 (show (0 : Int32).toInt = 0 by decide), lv_osw n18 (show (3 : Int32).toInt = 3 by decide), lv_osw n19 (show (5 : Int32).toInt = 5 by decide)]; rfl) (by decide) ?_
    refine go_aload_n (pc := 121) dX0_tells_121 rfl ?_
    refine go_iload_n (pc := 122) dX0_tells_122 rfl ?_
    refine go_callS (pc := 123) (as := [.int p1]) (st := [.ref 10485761]) (o_Acts_above p1 M) ic_Acts_above ivX0_60 rfl (show 3 + 1 ≤ 30 + (rn + 1) by omega) (Nat.le_of_ble_eq_true rfl) dX0_tells_123 (kRi fun r14 => ?_)
    refine go_iload_n (pc := 126) dX0_tells_126 rfl ?_
    refine go_iload_n (pc := 127) dX0_tells_127 rfl ?_
    refine go_iconst (pc := 128) 1 dX0_tells_128 ki_1 ?_
    refine go_iadd (pc := 129) dX0_tells_129 ?_
    refine go_callS (pc := 130) (as := [.ref 10485761, .int r14, .int p2, .int (p3 + 1)]) (st := []) (hrec 0 r14 p2 (p3 + 1) M) (ic_Acts_tells _) ivX0_46 rfl (show 30 + rn + 1 ≤ 30 + (rn + 1) by omega) (Nat.le_of_ble_eq_true rfl) dX0_tells_130 (kWi fun r16 M15 => ?_)
    exact go_ret dX0_tells_133 rii rfl rfl
  · refine go_iconst (pc := 6) 0 dX0_tells_6 ki_0 ?_
    exact go_ret dX0_tells_7 rii rfl rfl
def f_rec_tells : Nat → Nat → Int32 → Int32 → Int32 → Mem → Option (Int32 × Mem)
  | 0, _, _, _, _, _ => none
  | n + 1, _, p1, p2, p3, M => f_Acts_tells (f_rec_tells n) p1 p2 p3 M
theorem o_rec_tells : ∀ (n sel : Nat) (p1 : Int32) (p2 : Int32) (p3 : Int32) (M : Mem), Ct sRC (grec_tells sel n) fWi [.ref 10485761, .int p1, .int p2, .int p3] (f_rec_tells n sel p1 p2 p3 M) M := by
  intro n
  induction n with
  | zero =>
    intro sel p1 p2 p3 M
    have e : f_rec_tells 0 sel p1 p2 p3 M = none := by unfold f_rec_tells; rfl
    rw [e]
    refine ⟨?_, go_none⟩
    match sel with
    | j + 0 => exact Nat.le_of_ble_eq_true rfl
  | succ n ih =>
    intro sel p1 p2 p3 M
    match sel with
    | j + 0 => exact o_Acts_tells n (f_rec_tells n) ih p1 p2 p3 M
def f_Acts_perform (p1 : Nat) (p2 : Int32) (p3 : Int32) (M : Mem) : Option (Int32 × Mem) := lt (setI M 10485761 2 (mI M p1 1)) fun M1 => lt (setI M1 10485761 3 (mI M1 p1 2)) fun M2 => lt (setI M2 10485761 4 (mI M2 p1 0)) fun M3 => if p2 = 0 then b2 (f_rec_swells 12 0 (mI M3 10485761 2) p3 0 M3) fun r5 M4 => some (r5, M4) else if p2 = 1 then b2 (f_rec_hangs 12 0 (mI M3 10485761 2) p3 0 M3) fun r7 M6 => some (r7, M6) else if p2 = 2 then b2 (f_rec_tells 12 0 (mI M3 10485761 2) p3 0 M3) fun r9 M8 => some (r9, M8) else some (0, M3)
theorem o_Acts_perform (p1 : Nat) (p2 : Int32) (p3 : Int32) (hp1 : p1 % 131072 = 4) (M : Mem) : Ct sRC g_Acts_perform fWi [.ref 10485761, .ref p1, .int p2, .int p3] (f_Acts_perform p1 p2 p3 M) M := by
  refine ⟨Nat.le_of_ble_eq_true rfl, ?_⟩
  show Go sRC g_Acts_perform fWi (f_Acts_perform p1 p2 p3 M) 0 [.ref 10485761, .ref p1, .int p2, .int p3] [] M
  refine go_def (f_Acts_perform.eq_1 ..) ?_
  refine go_aload_n (pc := 0) dX0_perform_0 rfl ?_
  refine go_aload_n (pc := 1) dX0_perform_1 rfl ?_
  refine go_getI (pc := 2) flX0_25 rfl (kd32 (t := 4) hp1 rfl) dX0_perform_2 ?_
  refine go_putI (pc := 5) flX0_30 rfl (Or.inl rfl) ⟨rfl, rfl⟩ rfl dX0_perform_5 (fun M1 => ?_)
  refine go_aload_n (pc := 8) dX0_perform_8 rfl ?_
  refine go_aload_n (pc := 9) dX0_perform_9 rfl ?_
  refine go_getI (pc := 10) flX0_31 rfl (kd32 (t := 4) hp1 rfl) dX0_perform_10 ?_
  refine go_putI (pc := 13) flX0_34 rfl (Or.inl rfl) ⟨rfl, rfl⟩ rfl dX0_perform_13 (fun M2 => ?_)
  refine go_aload_n (pc := 16) dX0_perform_16 rfl ?_
  refine go_aload_n (pc := 17) dX0_perform_17 rfl ?_
  refine go_getI (pc := 18) flX0_35 rfl (kd32 (t := 4) hp1 rfl) dX0_perform_18 ?_
  refine go_putI (pc := 21) flX0_38 rfl (Or.inl rfl) ⟨rfl, rfl⟩ rfl dX0_perform_21 (fun M3 => ?_)
  refine go_iload_n (pc := 24) dX0_perform_24 rfl ?_
  refine go_tswC (pc := 25) (v := 0) (off := 27) 52 dX0_perform_25 (by decide) (by decide) (by decide) (fun _ => ?_) (fun n10 => ?_)
  · refine go_aload_n (pc := 52) dX0_perform_52 rfl ?_
    refine go_aload_n (pc := 53) dX0_perform_53 rfl ?_
    refine go_getI (pc := 54) flX0_30 rfl rfl dX0_perform_54 ?_
    refine go_iload_n (pc := 57) dX0_perform_57 rfl ?_
    refine go_iconst (pc := 58) 0 dX0_perform_58 ki_0 ?_
    refine go_callS (pc := 59) (as := [.ref 10485761, .int (mI M3 10485761 2), .int p3, .int 0]) (st := []) (o_rec_swells 12 0 (mI M3 10485761 2) p3 0 M3) (ic_Acts_swells 12) ivX0_39 rfl (by decide) (Nat.le_of_ble_eq_true rfl) dX0_perform_59 (kWi fun r5 M4 => ?_)
    exact go_ret dX0_perform_62 rii rfl rfl
  refine go_tswC (pc := 25) (v := 1) (off := 38) 63 dX0_perform_25 (by decide) (by decide) (by decide) (fun _ => ?_) (fun n11 => ?_)
  · refine go_aload_n (pc := 63) dX0_perform_63 rfl ?_
    refine go_aload_n (pc := 64) dX0_perform_64 rfl ?_
    refine go_getI (pc := 65) flX0_30 rfl rfl dX0_perform_65 ?_
    refine go_iload_n (pc := 68) dX0_perform_68 rfl ?_
    refine go_iconst (pc := 69) 0 dX0_perform_69 ki_0 ?_
    refine go_callS (pc := 70) (as := [.ref 10485761, .int (mI M3 10485761 2), .int p3, .int 0]) (st := []) (o_rec_hangs 12 0 (mI M3 10485761 2) p3 0 M3) (ic_Acts_hangs 12) ivX0_43 rfl (by decide) (Nat.le_of_ble_eq_true rfl) dX0_perform_70 (kWi fun r7 M6 => ?_)
    exact go_ret dX0_perform_73 rii rfl rfl
  refine go_tswC (pc := 25) (v := 2) (off := 49) 74 dX0_perform_25 (by decide) (by decide) (by decide) (fun _ => ?_) (fun n12 => ?_)
  · refine go_aload_n (pc := 74) dX0_perform_74 rfl ?_
    refine go_aload_n (pc := 75) dX0_perform_75 rfl ?_
    refine go_getI (pc := 76) flX0_30 rfl rfl dX0_perform_76 ?_
    refine go_iload_n (pc := 79) dX0_perform_79 rfl ?_
    refine go_iconst (pc := 80) 0 dX0_perform_80 ki_0 ?_
    refine go_callS (pc := 81) (as := [.ref 10485761, .int (mI M3 10485761 2), .int p3, .int 0]) (st := []) (o_rec_tells 12 0 (mI M3 10485761 2) p3 0 M3) (ic_Acts_tells 12) ivX0_46 rfl (by decide) (Nat.le_of_ble_eq_true rfl) dX0_perform_81 (kWi fun r9 M8 => ?_)
    exact go_ret dX0_perform_84 rii rfl rfl
  refine go_tswD (pc := 25) 85 dX0_perform_25 (by have n10t := lv_neT n10 (show (0 : Int32).toInt = 0 by decide); have n11t := lv_neT n11 (show (1 : Int32).toInt = 1 by decide); have n12t := lv_neT n12 (show (2 : Int32).toInt = 2 by decide); rcases (show p2.toInt < 0 ∨ 2 < p2.toInt by omega) with h | h <;> first | exact Or.inl h | exact Or.inr (Or.inl h) | exact Or.inr (Or.inr (by rw [h]; decide))) (by decide) ?_
  refine go_iconst (pc := 85) 0 dX0_perform_85 ki_0 ?_
  exact go_ret dX0_perform_86 rii rfl rfl
def f_Cl_init (t : Nat) (p1 : Int32) (p2 : Int32) (p3 : Nat) (M : Mem) : Option Mem := lt (setI M t 0 p1) fun M1 => lt (setI M1 t 1 p2) fun M2 => lt (setR M2 t 2 p3) fun M3 => some M3
theorem o_Cl_init (sR : Nat → Nat → Nat) (hz : dynZ sR) (t : Nat) (p1 : Int32) (p2 : Int32) (p3 : Nat) (ht : t % 131072 = 2) (hp3 : p3 % 32 = 11) (M : Mem) : Ct sR g_Cl_init fWv [.ref t, .int p1, .int p2, .ref p3] (f_Cl_init t p1 p2 p3 M) M := by
  refine ⟨Nat.le_of_ble_eq_true rfl, ?_⟩
  show Go sR g_Cl_init fWv (f_Cl_init t p1 p2 p3 M) 0 [.ref t, .int p1, .int p2, .ref p3] [] M
  refine go_def (f_Cl_init.eq_1 ..) ?_
  refine go_aload_n (pc := 0) dX1_init_0 rfl ?_
  refine go_objInit (pc := 1) dX1_init_1 (by have : t % 32 = 2 := (kd32 (t := 2) ht rfl); omega) (by have : t % 32 = 2 := (kd32 (t := 2) ht rfl); omega) (gT_of (mtb3 (mt64 (mt64 (mt4 (mt1 (mt1 (mt1 (List.Mem.head _)))))))) rfl) oi1 oi2 (by decide) (Nat.le_of_ble_eq_true rfl) ?_
  refine go_aload_n (pc := 4) dX1_init_4 rfl ?_
  refine go_iload_n (pc := 5) dX1_init_5 rfl ?_
  refine go_putI (pc := 6) flX1_7 rfl (Or.inr ⟨rfl, rfl, rfl⟩) ⟨rfl, rfl⟩ (kd32 (t := 2) ht rfl) dX1_init_6 (fun M1 => ?_)
  refine go_aload_n (pc := 9) dX1_init_9 rfl ?_
  refine go_iload_n (pc := 10) dX1_init_10 rfl ?_
  refine go_putI (pc := 11) flX1_13 rfl (Or.inr ⟨rfl, rfl, rfl⟩) ⟨rfl, rfl⟩ (kd32 (t := 2) ht rfl) dX1_init_11 (fun M2 => ?_)
  refine go_aload_n (pc := 14) dX1_init_14 rfl ?_
  refine go_aload_n (pc := 15) dX1_init_15 rfl ?_
  refine go_putR (pc := 16) flX1_16 rfl (Or.inr ⟨rfl, rfl, rfl⟩) (kd32 (t := 2) ht rfl) (hz _ _ (by have : t % 131072 = 2 := ht; omega)) dX1_init_16 (fun M3 => ?_)
  exact go_ret dX1_init_19 rfl rfl rfl
def f_Cl_codeOfTest (p1 : Int32) (p2 : Int32) (p3 : Int32) (M : Mem) : Int32 := (((p1 * 3) + p2) * 100) + p3
theorem o_Cl_codeOfTest (p1 : Int32) (p2 : Int32) (p3 : Int32) (M : Mem) : Ct sRC g_Cl_codeOfTest (fRi M) [.int p1, .int p2, .int p3] (some (f_Cl_codeOfTest p1 p2 p3 M)) M := by
  refine ⟨Nat.le_of_ble_eq_true rfl, ?_⟩
  show Go sRC g_Cl_codeOfTest (fRi M) (some (f_Cl_codeOfTest p1 p2 p3 M)) 0 [.int p1, .int p2, .int p3] [] M
  refine go_def (congrArg some (f_Cl_codeOfTest.eq_1 ..)) ?_
  refine go_iload_n (pc := 0) dX1_codeOfTest_0 rfl ?_
  refine go_iconst (pc := 1) 3 dX1_codeOfTest_1 ki_3 ?_
  refine go_imul (pc := 2) dX1_codeOfTest_2 ?_
  refine go_iload_n (pc := 3) dX1_codeOfTest_3 rfl ?_
  refine go_iadd (pc := 4) dX1_codeOfTest_4 ?_
  refine go_bipush (pc := 5) 100 dX1_codeOfTest_5 kb_100 ?_
  refine go_imul (pc := 7) dX1_codeOfTest_7 ?_
  refine go_iload_n (pc := 8) dX1_codeOfTest_8 rfl ?_
  refine go_iadd (pc := 9) dX1_codeOfTest_9 ?_
  exact go_ret dX1_codeOfTest_10 rii rfl rfl
def f_Cl_testHolds (p1 : Int32) (p2 : Nat) (M : Mem) : Option Int32 := lt (p1 / 300) fun x1 => if x1 < 0 then some 0 else if x1 < (Int32.ofNat (lnA p2)) then lt ((p1 / 100) - (p1 / 100) / 3 * 3) fun x2 => lt (p1 - p1 / 100 * 100) fun x3 => if x2 = 0 then gd (inR x1 (lnA p2)) (if x3 ≤ (mI M p2 x1.toNatClampNeg) then some 0 else some 1) else if x2 = 1 then gd (inR x1 (lnA p2)) (if (mI M p2 x1.toNatClampNeg) = x3 then some 1 else some 0) else gd (inR x1 (lnA p2)) (if (mI M p2 x1.toNatClampNeg) ≤ x3 then some 0 else some 1) else some 0
theorem o_Cl_testHolds (p1 : Int32) (p2 : Nat) (hp2 : p2 % 32 = 11) (M : Mem) : Ct sRC g_Cl_testHolds (fRi M) [.int p1, .ref p2] (f_Cl_testHolds p1 p2 M) M := by
  refine ⟨Nat.le_of_ble_eq_true rfl, ?_⟩
  show Go sRC g_Cl_testHolds (fRi M) (f_Cl_testHolds p1 p2 M) 0 [.int p1, .ref p2, .null, .null, .null] [] M
  refine go_def (f_Cl_testHolds.eq_1 ..) ?_
  refine go_iload_n (pc := 0) dX1_testHolds_0 rfl ?_
  refine go_sipush (pc := 1) 300 dX1_testHolds_1 ks_300 ?_
  refine go_idiv' (pc := 4) (by decide) dX1_testHolds_4 ?_
  refine go_istore_nL (pc := 5) (L := fun x1 => [.int p1, .ref p2, .int x1, .null, .null]) dX1_testHolds_5 (Nat.le_of_ble_eq_true rfl) rfl (fun _ => rfl) (fun x1 => ?_)
  refine go_iload_n (pc := 6) dX1_testHolds_6 rfl ?_
  refine go_iflt (pc := 7) 16 dX1_testHolds_7 (by decide) (fun _ => ?_) (fun _ => ?_)
  · refine go_iconst (pc := 16) 0 dX1_testHolds_16 ki_0 ?_
    exact go_ret dX1_testHolds_17 (rbz (Or.inl rfl)) rfl rfl
  · refine go_iload_n (pc := 10) dX1_testHolds_10 rfl ?_
    refine go_aload_n (pc := 11) dX1_testHolds_11 rfl ?_
    refine go_alen (pc := 12) (by have : p2 % 32 = 11 := hp2; omega) (by have : p2 % 32 = 11 := hp2; omega) rfl dX1_testHolds_12 ?_
    refine go_icmplt (pc := 13) 18 dX1_testHolds_13 (by decide) (fun _ => ?_) (fun _ => ?_)
    · refine go_iload_n (pc := 18) dX1_testHolds_18 rfl ?_
      refine go_bipush (pc := 19) 100 dX1_testHolds_19 kb_100 ?_
      refine go_idiv' (pc := 21) (by decide) dX1_testHolds_21 ?_
      refine go_iconst (pc := 22) 3 dX1_testHolds_22 ki_3 ?_
      refine go_irem' (pc := 23) (by decide) dX1_testHolds_23 ?_
      refine go_istore_nL (pc := 24) (L := fun x2 => [.int p1, .ref p2, .int x1, .int x2, .null]) dX1_testHolds_24 (Nat.le_of_ble_eq_true rfl) rfl (fun _ => rfl) (fun x2 => ?_)
      refine go_iload_n (pc := 25) dX1_testHolds_25 rfl ?_
      refine go_bipush (pc := 26) 100 dX1_testHolds_26 kb_100 ?_
      refine go_irem' (pc := 28) (by decide) dX1_testHolds_28 ?_
      refine go_istoreL (pc := 29) (L := fun x3 => [.int p1, .ref p2, .int x1, .int x2, .int x3]) dX1_testHolds_29 (Nat.le_of_ble_eq_true rfl) rfl (fun _ => rfl) (fun x3 => ?_)
      refine go_iload_n (pc := 31) dX1_testHolds_31 rfl ?_
      refine go_ifne (pc := 32) 49 dX1_testHolds_32 (by decide) (fun _ => ?_) (fun _ => ?_)
      · refine go_aload_n (pc := 35) dX1_testHolds_35 rfl ?_
        refine go_iload_n (pc := 36) dX1_testHolds_36 rfl ?_
        refine go_iald (pc := 37) hp2 rfl dX1_testHolds_37 (fun _ => ?_)
        refine go_iload (pc := 38) dX1_testHolds_38 rfl ?_
        refine go_icmpge (pc := 40) 47 dX1_testHolds_40 (by decide) (fun _ => ?_) (fun _ => ?_)
        · refine go_iconst (pc := 47) 0 dX1_testHolds_47 ki_0 ?_
          exact go_ret dX1_testHolds_48 (rbz (Or.inl rfl)) rfl rfl
        · refine go_iconst (pc := 43) 1 dX1_testHolds_43 ki_1 ?_
          refine go_goto (pc := 44) 48 dX1_testHolds_44 (by decide) ?_
          exact go_ret dX1_testHolds_48 (rbz (Or.inr rfl)) rfl rfl
      · refine go_iload_n (pc := 49) dX1_testHolds_49 rfl ?_
        refine go_iconst (pc := 50) 1 dX1_testHolds_50 ki_1 ?_
        refine go_icmpne (pc := 51) 70 dX1_testHolds_51 (by decide) (fun _ => ?_) (fun _ => ?_)
        · refine go_aload_n (pc := 54) dX1_testHolds_54 rfl ?_
          refine go_iload_n (pc := 55) dX1_testHolds_55 rfl ?_
          refine go_iald (pc := 56) hp2 rfl dX1_testHolds_56 (fun _ => ?_)
          refine go_iload (pc := 57) dX1_testHolds_57 rfl ?_
          refine go_icmpne (pc := 59) 66 dX1_testHolds_59 (by decide) (fun _ => ?_) (fun _ => ?_)
          · refine go_iconst (pc := 62) 1 dX1_testHolds_62 ki_1 ?_
            refine go_goto (pc := 63) 83 dX1_testHolds_63 (by decide) ?_
            exact go_ret dX1_testHolds_83 (rbz (Or.inr rfl)) rfl rfl
          · refine go_iconst (pc := 66) 0 dX1_testHolds_66 ki_0 ?_
            refine go_goto (pc := 67) 83 dX1_testHolds_67 (by decide) ?_
            exact go_ret dX1_testHolds_83 (rbz (Or.inl rfl)) rfl rfl
        · refine go_aload_n (pc := 70) dX1_testHolds_70 rfl ?_
          refine go_iload_n (pc := 71) dX1_testHolds_71 rfl ?_
          refine go_iald (pc := 72) hp2 rfl dX1_testHolds_72 (fun _ => ?_)
          refine go_iload (pc := 73) dX1_testHolds_73 rfl ?_
          refine go_icmple (pc := 75) 82 dX1_testHolds_75 (by decide) (fun _ => ?_) (fun _ => ?_)
          · refine go_iconst (pc := 82) 0 dX1_testHolds_82 ki_0 ?_
            exact go_ret dX1_testHolds_83 (rbz (Or.inl rfl)) rfl rfl
          · refine go_iconst (pc := 78) 1 dX1_testHolds_78 ki_1 ?_
            refine go_goto (pc := 79) 83 dX1_testHolds_79 (by decide) ?_
            exact go_ret dX1_testHolds_83 (rbz (Or.inr rfl)) rfl rfl
    · refine go_iconst (pc := 16) 0 dX1_testHolds_16 ki_0 ?_
      exact go_ret dX1_testHolds_17 (rbz (Or.inl rfl)) rfl rfl
def f_Cl_holds_l16 (t : Nat) (p1 : Nat) (M : Mem) : Nat → Int64 → Nat → Int32 → Int32 → Option Int32
  | 0, _, _, _, _ => none
  | n + 1, v2, v4, v5, v6 => if v5 ≤ v6 then if (lg_cmp (v2 &&& 1) 0) = 0 then some 0 else some 1 else gd (v4 % 32 = 11) (gd (inR v6 (lnA v4)) (lt (mI M v4 v6.toNatClampNeg) fun x5 => if x5 = (-3) then lt (((v2.toUInt64 >>> ((1 : Int32).toInt64.toUInt64 &&& Int64.toUInt64 63)).toInt64) ||| (v2 &&& 1)) fun x6 => lt (v6 + 1) fun x7 => f_Cl_holds_l16 t p1 M n x6 v4 v5 x7 else if x5 = (-2) then lt (((v2.toUInt64 >>> ((1 : Int32).toInt64.toUInt64 &&& Int64.toUInt64 63)).toInt64) &&& (v2 ||| (-2))) fun x8 => lt (v6 + 1) fun x9 => f_Cl_holds_l16 t p1 M n x8 v4 v5 x9 else if x5 = (-1) then lt (v2 ^^^ 1) fun x10 => lt (v6 + 1) fun x11 => f_Cl_holds_l16 t p1 M n x10 v4 v5 x11 else bd (f_Cl_testHolds x5 p1 M) fun r12 => if r12 = 0 then lt ((v2 <<< ((1 : Int32).toInt64 &&& 63)) ||| ((0 : Int32).toInt64)) fun x13 => lt (v6 + 1) fun x14 => f_Cl_holds_l16 t p1 M n x13 v4 v5 x14 else lt ((v2 <<< ((1 : Int32).toInt64 &&& 63)) ||| ((1 : Int32).toInt64)) fun x15 => lt (v6 + 1) fun x16 => f_Cl_holds_l16 t p1 M n x15 v4 v5 x16))
def f_Cl_holds (t : Nat) (p1 : Nat) (M : Mem) : Option Int32 := lt (mR M t 2) fun x1 => gd (11 ≤ x1 % 32 ∧ x1 % 32 ≤ 17) (lt (Int32.ofNat (lnA x1)) fun x3 => f_Cl_holds_l16 t p1 M 200 0 x1 x3 0)
theorem o_Cl_holds_l16 (t : Nat) (p1 : Nat) (ht : t % 131072 = 2) (hp1 : p1 % 32 = 11) (M : Mem) : ∀ (n : Nat) (v2 : Int64) (v4 : Nat) (v5 : Int32) (v6 : Int32), Go sRC g_Cl_holds (fRi M) (f_Cl_holds_l16 t p1 M n v2 v4 v5 v6) 16 [.ref t, .ref p1, .long v2, .null, .ref v4, .int v5, .int v6, .null] [] M := by
  intro n
  induction n with
  | zero =>
    intro v2 v4 v5 v6
    exact go_def (f_Cl_holds_l16.eq_1 ..) go_none
  | succ n ih =>
    intro v2 v4 v5 v6
    refine go_def (f_Cl_holds_l16.eq_2 ..) ?_
    refine go_iload (pc := 16) dX1_holds_16 rfl ?_
    refine go_iload (pc := 18) dX1_holds_18 rfl ?_
    refine go_icmpge (pc := 20) 117 dX1_holds_20 (by decide) (fun _ => ?_) (fun _ => ?_)
    · refine go_lload_n (pc := 117) dX1_holds_117 rfl ?_
      refine go_lconst (pc := 118) 1 dX1_holds_118 (by decide) ?_
      refine go_land (pc := 119) dX1_holds_119 ?_
      refine go_lconst (pc := 120) 0 dX1_holds_120 (by decide) ?_
      refine go_lcmp (pc := 121) dX1_holds_121 ?_
      refine go_ifeq (pc := 122) 129 dX1_holds_122 (by decide) (fun _ => ?_) (fun _ => ?_)
      · refine go_iconst (pc := 129) 0 dX1_holds_129 ki_0 ?_
        exact go_ret dX1_holds_130 (rbz (Or.inl rfl)) rfl rfl
      · refine go_iconst (pc := 125) 1 dX1_holds_125 ki_1 ?_
        refine go_goto (pc := 126) 130 dX1_holds_126 (by decide) ?_
        exact go_ret dX1_holds_130 (rbz (Or.inr rfl)) rfl rfl
    · refine go_aload (pc := 23) dX1_holds_23 rfl ?_
      refine go_iload (pc := 25) dX1_holds_25 rfl ?_
      refine go_gd fun g4 => ?_
      refine go_iald (pc := 27) g4 rfl dX1_holds_27 (fun _ => ?_)
      refine go_istoreL (pc := 28) (L := fun x5 => [.ref t, .ref p1, .long v2, .null, .ref v4, .int v5, .int v6, .int x5]) dX1_holds_28 (Nat.le_of_ble_eq_true rfl) rfl (fun _ => rfl) (fun x5 => ?_)
      refine go_iload (pc := 30) dX1_holds_30 rfl ?_
      refine go_tswC (pc := 32) (v := (-3)) (off := 48) 80 dX1_holds_32 (by decide) (by decide) (by decide) (fun _ => ?_) (fun n17 => ?_)
      · refine go_lload_n (pc := 80) dX1_holds_80 rfl ?_
        refine go_iconst (pc := 81) 1 dX1_holds_81 ki_1 ?_
        refine go_lushr (pc := 82) dX1_holds_82 ?_
        refine go_lload_n (pc := 83) dX1_holds_83 rfl ?_
        refine go_lconst (pc := 84) 1 dX1_holds_84 (by decide) ?_
        refine go_land (pc := 85) dX1_holds_85 ?_
        refine go_lor (pc := 86) dX1_holds_86 ?_
        refine go_lstore_nL (pc := 87) (L := fun x6 => [.ref t, .ref p1, .long x6, .null, .ref v4, .int v5, .int v6, .int x5]) dX1_holds_87 (Nat.le_of_ble_eq_true rfl) rfl (fun _ => rfl) (fun x6 => ?_)
        refine go_goto (pc := 88) 111 dX1_holds_88 (by decide) ?_
        refine go_iincL (pc := 111) (L := fun x7 => [.ref t, .ref p1, .long x6, .null, .ref v4, .int v5, .int x7, .int x5]) 1 dX1_holds_111 rfl ki_1 (Nat.le_of_ble_eq_true rfl) rfl (fun _ => rfl) (fun x7 => ?_)
        refine go_goto (pc := 114) 16 dX1_holds_114 (by decide) ?_
        refine go_sub (ls' := [.ref t, .ref p1, .long x6, .null, .ref v4, .int v5, .int x7, .null]) ⟨Or.inr rfl, Or.inr rfl, Or.inr rfl, Or.inl rfl, Or.inr rfl, Or.inr rfl, Or.inr rfl, Or.inl rfl, trivial⟩ ?_
        exact ih x6 v4 v5 x7
      refine go_tswC (pc := 32) (v := (-2)) (off := 35) 67 dX1_holds_32 (by decide) (by decide) (by decide) (fun _ => ?_) (fun n18 => ?_)
      · refine go_lload_n (pc := 67) dX1_holds_67 rfl ?_
        refine go_iconst (pc := 68) 1 dX1_holds_68 ki_1 ?_
        refine go_lushr (pc := 69) dX1_holds_69 ?_
        refine go_lload_n (pc := 70) dX1_holds_70 rfl ?_
        refine go_ldc2 (pc := 71) (v := (-2)) (gT_of (mtb2 (mt64 (mt64 (mt4 (mt4 (List.Mem.head _)))))) rfl) dX1_holds_71 ?_
        refine go_lor (pc := 74) dX1_holds_74 ?_
        refine go_land (pc := 75) dX1_holds_75 ?_
        refine go_lstore_nL (pc := 76) (L := fun x8 => [.ref t, .ref p1, .long x8, .null, .ref v4, .int v5, .int v6, .int x5]) dX1_holds_76 (Nat.le_of_ble_eq_true rfl) rfl (fun _ => rfl) (fun x8 => ?_)
        refine go_goto (pc := 77) 111 dX1_holds_77 (by decide) ?_
        refine go_iincL (pc := 111) (L := fun x9 => [.ref t, .ref p1, .long x8, .null, .ref v4, .int v5, .int x9, .int x5]) 1 dX1_holds_111 rfl ki_1 (Nat.le_of_ble_eq_true rfl) rfl (fun _ => rfl) (fun x9 => ?_)
        refine go_goto (pc := 114) 16 dX1_holds_114 (by decide) ?_
        refine go_sub (ls' := [.ref t, .ref p1, .long x8, .null, .ref v4, .int v5, .int x9, .null]) ⟨Or.inr rfl, Or.inr rfl, Or.inr rfl, Or.inl rfl, Or.inr rfl, Or.inr rfl, Or.inr rfl, Or.inl rfl, trivial⟩ ?_
        exact ih x8 v4 v5 x9
      refine go_tswC (pc := 32) (v := (-1)) (off := 28) 60 dX1_holds_32 (by decide) (by decide) (by decide) (fun _ => ?_) (fun n19 => ?_)
      · refine go_lload_n (pc := 60) dX1_holds_60 rfl ?_
        refine go_lconst (pc := 61) 1 dX1_holds_61 (by decide) ?_
        refine go_lxor (pc := 62) dX1_holds_62 ?_
        refine go_lstore_nL (pc := 63) (L := fun x10 => [.ref t, .ref p1, .long x10, .null, .ref v4, .int v5, .int v6, .int x5]) dX1_holds_63 (Nat.le_of_ble_eq_true rfl) rfl (fun _ => rfl) (fun x10 => ?_)
        refine go_goto (pc := 64) 111 dX1_holds_64 (by decide) ?_
        refine go_iincL (pc := 111) (L := fun x11 => [.ref t, .ref p1, .long x10, .null, .ref v4, .int v5, .int x11, .int x5]) 1 dX1_holds_111 rfl ki_1 (Nat.le_of_ble_eq_true rfl) rfl (fun _ => rfl) (fun x11 => ?_)
        refine go_goto (pc := 114) 16 dX1_holds_114 (by decide) ?_
        refine go_sub (ls' := [.ref t, .ref p1, .long x10, .null, .ref v4, .int v5, .int x11, .null]) ⟨Or.inr rfl, Or.inr rfl, Or.inr rfl, Or.inl rfl, Or.inr rfl, Or.inr rfl, Or.inr rfl, Or.inl rfl, trivial⟩ ?_
        exact ih x10 v4 v5 x11
      refine go_tswD (pc := 32) 91 dX1_holds_32 (by have n17t := lv_neT n17 (show ((-3) : Int32).toInt = (-3) by decide); have n18t := lv_neT n18 (show ((-2) : Int32).toInt = (-2) by decide); have n19t := lv_neT n19 (show ((-1) : Int32).toInt = (-1) by decide); rcases (show x5.toInt < (-3) ∨ (-1) < x5.toInt by omega) with h | h <;> first | exact Or.inl h | exact Or.inr (Or.inl h) | exact Or.inr (Or.inr (by rw [h]; decide))) (by decide) ?_
      refine go_lload_n (pc := 91) dX1_holds_91 rfl ?_
      refine go_iconst (pc := 92) 1 dX1_holds_92 ki_1 ?_
      refine go_lshl (pc := 93) dX1_holds_93 ?_
      refine go_iload (pc := 94) dX1_holds_94 rfl ?_
      refine go_aload_n (pc := 96) dX1_holds_96 rfl ?_
      refine go_callS (pc := 97) (as := [.int x5, .ref p1]) (st := [.long (v2 <<< ((1 : Int32).toInt64 &&& 63))]) (o_Cl_testHolds x5 p1 hp1 M) ic_Cl_testHolds ivX1_22 rfl (by decide) (Nat.le_of_ble_eq_true rfl) dX1_holds_97 (kRi fun r12 => ?_)
      refine go_ifeq (pc := 100) 107 dX1_holds_100 (by decide) (fun _ => ?_) (fun _ => ?_)
      · refine go_iconst (pc := 107) 0 dX1_holds_107 ki_0 ?_
        refine go_i2l (pc := 108) dX1_holds_108 ?_
        refine go_lor (pc := 109) dX1_holds_109 ?_
        refine go_lstore_nL (pc := 110) (L := fun x13 => [.ref t, .ref p1, .long x13, .null, .ref v4, .int v5, .int v6, .int x5]) dX1_holds_110 (Nat.le_of_ble_eq_true rfl) rfl (fun _ => rfl) (fun x13 => ?_)
        refine go_iincL (pc := 111) (L := fun x14 => [.ref t, .ref p1, .long x13, .null, .ref v4, .int v5, .int x14, .int x5]) 1 dX1_holds_111 rfl ki_1 (Nat.le_of_ble_eq_true rfl) rfl (fun _ => rfl) (fun x14 => ?_)
        refine go_goto (pc := 114) 16 dX1_holds_114 (by decide) ?_
        refine go_sub (ls' := [.ref t, .ref p1, .long x13, .null, .ref v4, .int v5, .int x14, .null]) ⟨Or.inr rfl, Or.inr rfl, Or.inr rfl, Or.inl rfl, Or.inr rfl, Or.inr rfl, Or.inr rfl, Or.inl rfl, trivial⟩ ?_
        exact ih x13 v4 v5 x14
      · refine go_iconst (pc := 103) 1 dX1_holds_103 ki_1 ?_
        refine go_goto (pc := 104) 108 dX1_holds_104 (by decide) ?_
        refine go_i2l (pc := 108) dX1_holds_108 ?_
        refine go_lor (pc := 109) dX1_holds_109 ?_
        refine go_lstore_nL (pc := 110) (L := fun x15 => [.ref t, .ref p1, .long x15, .null, .ref v4, .int v5, .int v6, .int x5]) dX1_holds_110 (Nat.le_of_ble_eq_true rfl) rfl (fun _ => rfl) (fun x15 => ?_)
        refine go_iincL (pc := 111) (L := fun x16 => [.ref t, .ref p1, .long x15, .null, .ref v4, .int v5, .int x16, .int x5]) 1 dX1_holds_111 rfl ki_1 (Nat.le_of_ble_eq_true rfl) rfl (fun _ => rfl) (fun x16 => ?_)
        refine go_goto (pc := 114) 16 dX1_holds_114 (by decide) ?_
        refine go_sub (ls' := [.ref t, .ref p1, .long x15, .null, .ref v4, .int v5, .int x16, .null]) ⟨Or.inr rfl, Or.inr rfl, Or.inr rfl, Or.inl rfl, Or.inr rfl, Or.inr rfl, Or.inr rfl, Or.inl rfl, trivial⟩ ?_
        exact ih x15 v4 v5 x16
theorem o_Cl_holds (t : Nat) (p1 : Nat) (ht : t % 131072 = 2) (hp1 : p1 % 32 = 11) (M : Mem) : Ct sRC g_Cl_holds (fRi M) [.ref t, .ref p1] (f_Cl_holds t p1 M) M := by
  refine ⟨Nat.le_of_ble_eq_true rfl, ?_⟩
  show Go sRC g_Cl_holds (fRi M) (f_Cl_holds t p1 M) 0 [.ref t, .ref p1, .null, .null, .null, .null, .null, .null] [] M
  refine go_def (f_Cl_holds.eq_1 ..) ?_
  refine go_lconst (pc := 0) 0 dX1_holds_0 (by decide) ?_
  refine go_lstore_n (pc := 1) (ls' := [.ref t, .ref p1, .long 0, .null, .null, .null, .null, .null]) dX1_holds_1 (Nat.le_of_ble_eq_true rfl) rfl rfl ?_
  refine go_aload_n (pc := 2) dX1_holds_2 rfl ?_
  refine go_getR (pc := 3) flX1_16 rfl (kd32 (t := 2) ht rfl) dX1_holds_3 ?_
  refine go_astoreL (pc := 6) (L := fun x1 => [.ref t, .ref p1, .long 0, .null, .ref x1, .null, .null, .null]) dX1_holds_6 (Nat.le_of_ble_eq_true rfl) rfl (fun _ => rfl) (fun x1 => ?_)
  refine go_aload (pc := 8) dX1_holds_8 rfl ?_
  refine go_gd fun g2 => ?_
  refine go_alen (pc := 10) g2.1 g2.2 rfl dX1_holds_10 ?_
  refine go_istoreL (pc := 11) (L := fun x3 => [.ref t, .ref p1, .long 0, .null, .ref x1, .int x3, .null, .null]) dX1_holds_11 (Nat.le_of_ble_eq_true rfl) rfl (fun _ => rfl) (fun x3 => ?_)
  refine go_iconst (pc := 13) 0 dX1_holds_13 ki_0 ?_
  refine go_istore (pc := 14) (ls' := [.ref t, .ref p1, .long 0, .null, .ref x1, .int x3, .int 0, .null]) dX1_holds_14 (Nat.le_of_ble_eq_true rfl) rfl rfl ?_
  exact o_Cl_holds_l16 t p1 ht hp1 M 200 0 x1 x3 0
def f_Hs_init_b78 (t : Nat) (p1 : Nat) (K28 : Int32 → Int32 → Int32 → Nat → Int32 → Int32 → Mem → Option Mem) (v2 : Int32) (v4 : Int32) (v5 : Nat) (v6 : Int32) (v7 : Int32) (v8 : Nat) (s0 : Int32) (M : Mem) : Option Mem := gd (v8 % 131072 = 2) (if (mI M v8 0) = 3 then lt (mI M v8 1) fun x13 => lt (v7 + 1) fun x14 => K28 v2 s0 x13 v5 v6 x14 M else lt (v7 + 1) fun x12 => K28 v2 s0 v4 v5 v6 x12 M)
def f_Hs_init_b59 (t : Nat) (p1 : Nat) (K28 : Int32 → Int32 → Int32 → Nat → Int32 → Int32 → Mem → Option Mem) (v3 : Int32) (v4 : Int32) (v5 : Nat) (v6 : Int32) (v7 : Int32) (v8 : Nat) (s0 : Int32) (M : Mem) : Option Mem := gd (v8 % 131072 = 2) (if (mI M v8 0) = 2 then f_Hs_init_b78 t p1 K28 s0 v4 v5 v6 v7 v8 (mI M v8 1) M else f_Hs_init_b78 t p1 K28 s0 v4 v5 v6 v7 v8 v3 M)
def f_Hs_init_b54 (t : Nat) (p1 : Nat) (K28 : Int32 → Int32 → Int32 → Nat → Int32 → Int32 → Mem → Option Mem) (v3 : Int32) (v4 : Int32) (v5 : Nat) (v6 : Int32) (v7 : Int32) (v8 : Nat) (M : Mem) : Option Mem := f_Hs_init_b59 t p1 K28 v3 v4 v5 v6 v7 v8 1 M
def f_Hs_init_l28 (t : Nat) (p1 : Nat) : Nat → Int32 → Int32 → Int32 → Nat → Int32 → Int32 → Mem → Option Mem
  | 0, _, _, _, _, _, _, _ => none
  | n + 1, v2, v3, v4, v5, v6, v7, M => if v6 ≤ v7 then gd (v2 = 0 ∨ v2 = 1) (lt (setI M t 1 v2) fun M3 => lt (setI M3 t 2 v3) fun M5 => lt (setI M5 t 3 v4) fun M6 => some M6) else gd (v5 % 32 = 16) (gd (inR v7 (lnA v5)) (lt (mR M v5 v7.toNatClampNeg) fun x8 => if v2 = 0 then gd (x8 % 131072 = 2) (if (mI M x8 0) = 0 then f_Hs_init_b54 t p1 (f_Hs_init_l28 t p1 n) v3 v4 v5 v6 v7 x8 M else f_Hs_init_b59 t p1 (f_Hs_init_l28 t p1 n) v3 v4 v5 v6 v7 x8 0 M) else f_Hs_init_b54 t p1 (f_Hs_init_l28 t p1 n) v3 v4 v5 v6 v7 x8 M))
def f_Hs_init (t : Nat) (p1 : Nat) (M : Mem) : Option Mem := lt (setR M t 0 p1) fun M1 => lt (Int32.ofNat (lnA p1)) fun x2 => f_Hs_init_l28 t p1 200 0 0 9 p1 x2 0 M1
theorem o_Hs_init_b78 (sR : Nat → Nat → Nat) (hz : dynZ sR) (t : Nat) (p1 : Nat) (ht : t % 131072 = 6) (hp1 : p1 % 32 = 16) (K28 : Int32 → Int32 → Int32 → Nat → Int32 → Int32 → Mem → Option Mem) (hK28 : ∀ (y2 : Int32) (y3 : Int32) (y4 : Int32) (y5 : Nat) (y6 : Int32) (y7 : Int32) (M : Mem), Go sR g_Hs_init fWv (K28 y2 y3 y4 y5 y6 y7 M) 28 [.ref t, .ref p1, .int y2, .int y3, .int y4, .ref y5, .int y6, .int y7, .null] [] M) (v2 : Int32) (v4 : Int32) (v5 : Nat) (v6 : Int32) (v7 : Int32) (v8 : Nat) (s0 : Int32) (M : Mem) : Go sR g_Hs_init fWv (f_Hs_init_b78 t p1 K28 v2 v4 v5 v6 v7 v8 s0 M) 78 [.ref t, .ref p1, .int v2, .null, .int v4, .ref v5, .int v6, .int v7, .ref v8] [.int s0] M := by
  refine go_def (f_Hs_init_b78.eq_1 ..) ?_
  refine go_istore_n (pc := 78) (ls' := [.ref t, .ref p1, .int v2, .int s0, .int v4, .ref v5, .int v6, .int v7, .ref v8]) dX5_init_78 (Nat.le_of_ble_eq_true rfl) rfl rfl ?_
  refine go_aload (pc := 79) dX5_init_79 rfl ?_
  refine go_gd fun g11 => ?_
  refine go_getI (pc := 81) flX5_13 rfl (kd32 (t := 2) g11 rfl) dX5_init_81 ?_
  refine go_iconst (pc := 84) 3 dX5_init_84 ki_3 ?_
  refine go_icmpne (pc := 85) 96 dX5_init_85 (by decide) (fun _ => ?_) (fun _ => ?_)
  · refine go_aload (pc := 88) dX5_init_88 rfl ?_
    refine go_getI (pc := 90) flX5_21 rfl (kd32 (t := 2) g11 rfl) dX5_init_90 ?_
    refine go_goto (pc := 93) 98 dX5_init_93 (by decide) ?_
    refine go_istoreL (pc := 98) (L := fun x13 => [.ref t, .ref p1, .int v2, .int s0, .int x13, .ref v5, .int v6, .int v7, .ref v8]) dX5_init_98 (Nat.le_of_ble_eq_true rfl) rfl (fun _ => rfl) (fun x13 => ?_)
    refine go_iincL (pc := 100) (L := fun x14 => [.ref t, .ref p1, .int v2, .int s0, .int x13, .ref v5, .int v6, .int x14, .ref v8]) 1 dX5_init_100 rfl ki_1 (Nat.le_of_ble_eq_true rfl) rfl (fun _ => rfl) (fun x14 => ?_)
    refine go_goto (pc := 103) 28 dX5_init_103 (by decide) ?_
    refine go_sub (ls' := [.ref t, .ref p1, .int v2, .int s0, .int x13, .ref v5, .int v6, .int x14, .null]) ⟨Or.inr rfl, Or.inr rfl, Or.inr rfl, Or.inr rfl, Or.inr rfl, Or.inr rfl, Or.inr rfl, Or.inr rfl, Or.inl rfl, trivial⟩ ?_
    exact hK28 v2 s0 x13 v5 v6 x14 M
  · refine go_iload (pc := 96) dX5_init_96 rfl ?_
    refine go_istore (pc := 98) (ls' := [.ref t, .ref p1, .int v2, .int s0, .int v4, .ref v5, .int v6, .int v7, .ref v8]) dX5_init_98 (Nat.le_of_ble_eq_true rfl) rfl rfl ?_
    refine go_iincL (pc := 100) (L := fun x12 => [.ref t, .ref p1, .int v2, .int s0, .int v4, .ref v5, .int v6, .int x12, .ref v8]) 1 dX5_init_100 rfl ki_1 (Nat.le_of_ble_eq_true rfl) rfl (fun _ => rfl) (fun x12 => ?_)
    refine go_goto (pc := 103) 28 dX5_init_103 (by decide) ?_
    refine go_sub (ls' := [.ref t, .ref p1, .int v2, .int s0, .int v4, .ref v5, .int v6, .int x12, .null]) ⟨Or.inr rfl, Or.inr rfl, Or.inr rfl, Or.inr rfl, Or.inr rfl, Or.inr rfl, Or.inr rfl, Or.inr rfl, Or.inl rfl, trivial⟩ ?_
    exact hK28 v2 s0 v4 v5 v6 x12 M
theorem o_Hs_init_b59 (sR : Nat → Nat → Nat) (hz : dynZ sR) (t : Nat) (p1 : Nat) (ht : t % 131072 = 6) (hp1 : p1 % 32 = 16) (K28 : Int32 → Int32 → Int32 → Nat → Int32 → Int32 → Mem → Option Mem) (hK28 : ∀ (y2 : Int32) (y3 : Int32) (y4 : Int32) (y5 : Nat) (y6 : Int32) (y7 : Int32) (M : Mem), Go sR g_Hs_init fWv (K28 y2 y3 y4 y5 y6 y7 M) 28 [.ref t, .ref p1, .int y2, .int y3, .int y4, .ref y5, .int y6, .int y7, .null] [] M) (v3 : Int32) (v4 : Int32) (v5 : Nat) (v6 : Int32) (v7 : Int32) (v8 : Nat) (s0 : Int32) (M : Mem) : Go sR g_Hs_init fWv (f_Hs_init_b59 t p1 K28 v3 v4 v5 v6 v7 v8 s0 M) 59 [.ref t, .ref p1, .null, .int v3, .int v4, .ref v5, .int v6, .int v7, .ref v8] [.int s0] M := by
  refine go_def (f_Hs_init_b59.eq_1 ..) ?_
  refine go_istore_n (pc := 59) (ls' := [.ref t, .ref p1, .int s0, .int v3, .int v4, .ref v5, .int v6, .int v7, .ref v8]) dX5_init_59 (Nat.le_of_ble_eq_true rfl) rfl rfl ?_
  refine go_aload (pc := 60) dX5_init_60 rfl ?_
  refine go_gd fun g10 => ?_
  refine go_getI (pc := 62) flX5_13 rfl (kd32 (t := 2) g10 rfl) dX5_init_62 ?_
  refine go_iconst (pc := 65) 2 dX5_init_65 ki_2 ?_
  refine go_icmpne (pc := 66) 77 dX5_init_66 (by decide) (fun _ => ?_) (fun _ => ?_)
  · refine go_aload (pc := 69) dX5_init_69 rfl ?_
    refine go_getI (pc := 71) flX5_21 rfl (kd32 (t := 2) g10 rfl) dX5_init_71 ?_
    refine go_goto (pc := 74) 78 dX5_init_74 (by decide) ?_
    refine go_sub (ls' := [.ref t, .ref p1, .int s0, .null, .int v4, .ref v5, .int v6, .int v7, .ref v8]) ⟨Or.inr rfl, Or.inr rfl, Or.inr rfl, Or.inl rfl, Or.inr rfl, Or.inr rfl, Or.inr rfl, Or.inr rfl, Or.inr rfl, trivial⟩ ?_
    exact o_Hs_init_b78 sR hz t p1 ht hp1 K28 hK28 s0 v4 v5 v6 v7 v8 (mI M v8 1) M
  · refine go_iload_n (pc := 77) dX5_init_77 rfl ?_
    refine go_sub (ls' := [.ref t, .ref p1, .int s0, .null, .int v4, .ref v5, .int v6, .int v7, .ref v8]) ⟨Or.inr rfl, Or.inr rfl, Or.inr rfl, Or.inl rfl, Or.inr rfl, Or.inr rfl, Or.inr rfl, Or.inr rfl, Or.inr rfl, trivial⟩ ?_
    exact o_Hs_init_b78 sR hz t p1 ht hp1 K28 hK28 s0 v4 v5 v6 v7 v8 v3 M
theorem o_Hs_init_b54 (sR : Nat → Nat → Nat) (hz : dynZ sR) (t : Nat) (p1 : Nat) (ht : t % 131072 = 6) (hp1 : p1 % 32 = 16) (K28 : Int32 → Int32 → Int32 → Nat → Int32 → Int32 → Mem → Option Mem) (hK28 : ∀ (y2 : Int32) (y3 : Int32) (y4 : Int32) (y5 : Nat) (y6 : Int32) (y7 : Int32) (M : Mem), Go sR g_Hs_init fWv (K28 y2 y3 y4 y5 y6 y7 M) 28 [.ref t, .ref p1, .int y2, .int y3, .int y4, .ref y5, .int y6, .int y7, .null] [] M) (v3 : Int32) (v4 : Int32) (v5 : Nat) (v6 : Int32) (v7 : Int32) (v8 : Nat) (M : Mem) : Go sR g_Hs_init fWv (f_Hs_init_b54 t p1 K28 v3 v4 v5 v6 v7 v8 M) 54 [.ref t, .ref p1, .null, .int v3, .int v4, .ref v5, .int v6, .int v7, .ref v8] [] M := by
  refine go_def (f_Hs_init_b54.eq_1 ..) ?_
  refine go_iconst (pc := 54) 1 dX5_init_54 ki_1 ?_
  refine go_goto (pc := 55) 59 dX5_init_55 (by decide) ?_
  exact o_Hs_init_b59 sR hz t p1 ht hp1 K28 hK28 v3 v4 v5 v6 v7 v8 1 M
theorem o_Hs_init_l28 (sR : Nat → Nat → Nat) (hz : dynZ sR) (t : Nat) (p1 : Nat) (ht : t % 131072 = 6) (hp1 : p1 % 32 = 16) : ∀ (n : Nat) (v2 : Int32) (v3 : Int32) (v4 : Int32) (v5 : Nat) (v6 : Int32) (v7 : Int32) (M : Mem), Go sR g_Hs_init fWv (f_Hs_init_l28 t p1 n v2 v3 v4 v5 v6 v7 M) 28 [.ref t, .ref p1, .int v2, .int v3, .int v4, .ref v5, .int v6, .int v7, .null] [] M := by
  intro n
  induction n with
  | zero =>
    intro v2 v3 v4 v5 v6 v7 M
    exact go_def (f_Hs_init_l28.eq_1 ..) go_none
  | succ n ih =>
    intro v2 v3 v4 v5 v6 v7 M
    refine go_def (f_Hs_init_l28.eq_2 ..) ?_
    refine go_iload (pc := 28) dX5_init_28 rfl ?_
    refine go_iload (pc := 30) dX5_init_30 rfl ?_
    refine go_icmpge (pc := 32) 106 dX5_init_32 (by decide) (fun _ => ?_) (fun _ => ?_)
    · refine go_aload_n (pc := 106) dX5_init_106 rfl ?_
      refine go_iload_n (pc := 107) dX5_init_107 rfl ?_
      refine go_gd fun g4 => ?_
      refine go_putI (pc := 108) flX5_24 rfl (Or.inr ⟨rfl, rfl, rfl⟩) (nbz g4) (kd32 (t := 6) ht rfl) dX5_init_108 (fun M3 => ?_)
      refine go_aload_n (pc := 111) dX5_init_111 rfl ?_
      refine go_iload_n (pc := 112) dX5_init_112 rfl ?_
      refine go_putI (pc := 113) flX5_28 rfl (Or.inr ⟨rfl, rfl, rfl⟩) ⟨rfl, rfl⟩ (kd32 (t := 6) ht rfl) dX5_init_113 (fun M5 => ?_)
      refine go_aload_n (pc := 116) dX5_init_116 rfl ?_
      refine go_iload (pc := 117) dX5_init_117 rfl ?_
      refine go_putI (pc := 119) flX5_31 rfl (Or.inr ⟨rfl, rfl, rfl⟩) ⟨rfl, rfl⟩ (kd32 (t := 6) ht rfl) dX5_init_119 (fun M6 => ?_)
      exact go_ret dX5_init_122 rfl rfl rfl
    · refine go_aload (pc := 35) dX5_init_35 rfl ?_
      refine go_iload (pc := 37) dX5_init_37 rfl ?_
      refine go_gd fun g7 => ?_
      refine go_aaldR (pc := 39) (by have : v5 % 32 = 16 := g7; omega) (by have : v5 % 32 = 16 := g7; omega) rfl dX5_init_39 (fun _ => ?_)
      refine go_astoreL (pc := 40) (L := fun x8 => [.ref t, .ref p1, .int v2, .int v3, .int v4, .ref v5, .int v6, .int v7, .ref x8]) dX5_init_40 (Nat.le_of_ble_eq_true rfl) rfl (fun _ => rfl) (fun x8 => ?_)
      refine go_iload_n (pc := 42) dX5_init_42 rfl ?_
      refine go_ifne (pc := 43) 54 dX5_init_43 (by decide) (fun _ => ?_) (fun _ => ?_)
      · refine go_aload (pc := 46) dX5_init_46 rfl ?_
        refine go_gd fun g9 => ?_
        refine go_getI (pc := 48) flX5_13 rfl (kd32 (t := 2) g9 rfl) dX5_init_48 ?_
        refine go_ifne (pc := 51) 58 dX5_init_51 (by decide) (fun _ => ?_) (fun _ => ?_)
        · refine go_sub (ls' := [.ref t, .ref p1, .null, .int v3, .int v4, .ref v5, .int v6, .int v7, .ref x8]) ⟨Or.inr rfl, Or.inr rfl, Or.inl rfl, Or.inr rfl, Or.inr rfl, Or.inr rfl, Or.inr rfl, Or.inr rfl, Or.inr rfl, trivial⟩ ?_
          exact o_Hs_init_b54 sR hz t p1 ht hp1 (f_Hs_init_l28 t p1 n) ih v3 v4 v5 v6 v7 x8 M
        · refine go_iconst (pc := 58) 0 dX5_init_58 ki_0 ?_
          refine go_sub (ls' := [.ref t, .ref p1, .null, .int v3, .int v4, .ref v5, .int v6, .int v7, .ref x8]) ⟨Or.inr rfl, Or.inr rfl, Or.inl rfl, Or.inr rfl, Or.inr rfl, Or.inr rfl, Or.inr rfl, Or.inr rfl, Or.inr rfl, trivial⟩ ?_
          exact o_Hs_init_b59 sR hz t p1 ht hp1 (f_Hs_init_l28 t p1 n) ih v3 v4 v5 v6 v7 x8 0 M
      · refine go_sub (ls' := [.ref t, .ref p1, .null, .int v3, .int v4, .ref v5, .int v6, .int v7, .ref x8]) ⟨Or.inr rfl, Or.inr rfl, Or.inl rfl, Or.inr rfl, Or.inr rfl, Or.inr rfl, Or.inr rfl, Or.inr rfl, Or.inr rfl, trivial⟩ ?_
        exact o_Hs_init_b54 sR hz t p1 ht hp1 (f_Hs_init_l28 t p1 n) ih v3 v4 v5 v6 v7 x8 M
theorem o_Hs_init (sR : Nat → Nat → Nat) (hz : dynZ sR) (t : Nat) (p1 : Nat) (ht : t % 131072 = 6) (hp1 : p1 % 32 = 16) (M : Mem) : Ct sR g_Hs_init fWv [.ref t, .ref p1] (f_Hs_init t p1 M) M := by
  refine ⟨Nat.le_of_ble_eq_true rfl, ?_⟩
  show Go sR g_Hs_init fWv (f_Hs_init t p1 M) 0 [.ref t, .ref p1, .null, .null, .null, .null, .null, .null, .null] [] M
  refine go_def (f_Hs_init.eq_1 ..) ?_
  refine go_aload_n (pc := 0) dX5_init_0 rfl ?_
  refine go_objInit (pc := 1) dX5_init_1 (by have : t % 32 = 6 := (kd32 (t := 6) ht rfl); omega) (by have : t % 32 = 6 := (kd32 (t := 6) ht rfl); omega) (gT_of (mtb1 (mt64 (mt64 (mt16 (mt16 (mt1 (List.Mem.head _))))))) rfl) oi1 oi2 (by decide) (Nat.le_of_ble_eq_true rfl) ?_
  refine go_aload_n (pc := 4) dX5_init_4 rfl ?_
  refine go_aload_n (pc := 5) dX5_init_5 rfl ?_
  refine go_putR (pc := 6) flX5_7 rfl (Or.inr ⟨rfl, rfl, rfl⟩) (kd32 (t := 6) ht rfl) (hz _ _ (by have : t % 131072 = 6 := ht; omega)) dX5_init_6 (fun M1 => ?_)
  refine go_iconst (pc := 9) 0 dX5_init_9 ki_0 ?_
  refine go_istore_n (pc := 10) (ls' := [.ref t, .ref p1, .int 0, .null, .null, .null, .null, .null, .null]) dX5_init_10 (Nat.le_of_ble_eq_true rfl) rfl rfl ?_
  refine go_iconst (pc := 11) 0 dX5_init_11 ki_0 ?_
  refine go_istore_n (pc := 12) (ls' := [.ref t, .ref p1, .int 0, .int 0, .null, .null, .null, .null, .null]) dX5_init_12 (Nat.le_of_ble_eq_true rfl) rfl rfl ?_
  refine go_bipush (pc := 13) 9 dX5_init_13 kb_9 ?_
  refine go_istore (pc := 15) (ls' := [.ref t, .ref p1, .int 0, .int 0, .int 9, .null, .null, .null, .null]) dX5_init_15 (Nat.le_of_ble_eq_true rfl) rfl rfl ?_
  refine go_aload_n (pc := 17) dX5_init_17 rfl ?_
  refine go_astore (pc := 18) (ls' := [.ref t, .ref p1, .int 0, .int 0, .int 9, .ref p1, .null, .null, .null]) dX5_init_18 (Nat.le_of_ble_eq_true rfl) rfl rfl ?_
  refine go_aload (pc := 20) dX5_init_20 rfl ?_
  refine go_alen (pc := 22) (by have : p1 % 32 = 16 := hp1; omega) (by have : p1 % 32 = 16 := hp1; omega) rfl dX5_init_22 ?_
  refine go_istoreL (pc := 23) (L := fun x2 => [.ref t, .ref p1, .int 0, .int 0, .int 9, .ref p1, .int x2, .null, .null]) dX5_init_23 (Nat.le_of_ble_eq_true rfl) rfl (fun _ => rfl) (fun x2 => ?_)
  refine go_iconst (pc := 25) 0 dX5_init_25 ki_0 ?_
  refine go_istore (pc := 26) (ls' := [.ref t, .ref p1, .int 0, .int 0, .int 9, .ref p1, .int x2, .int 0, .null]) dX5_init_26 (Nat.le_of_ble_eq_true rfl) rfl rfl ?_
  exact o_Hs_init_l28 sR hz t p1 ht hp1 200 0 0 9 p1 x2 0 M1
def f_Dr_init (t : Nat) (M : Mem) : Option Mem := lt (nid M (2 * 32 + 11)) fun a1 => lt (newM M (2 * 32 + 11) (2)) fun M2 => lt (setR M2 t 5 a1) fun M4 => lt (nid M4 (2 * 32 + 11)) fun a5 => lt (newM M4 (2 * 32 + 11) (2)) fun M6 => lt (setR M6 t 6 a5) fun M8 => lt (nid M8 (6 * 32 + 11)) fun a9 => lt (newM M8 (6 * 32 + 11) (6)) fun M10 => lt (setR M10 t 7 a9) fun M12 => lt (nid M12 (6 * 32 + 11)) fun a13 => lt (newM M12 (6 * 32 + 11) (6)) fun M14 => lt (setR M14 t 8 a13) fun M16 => some M16
theorem o_Dr_init (t : Nat) (ht : t % 131072 = 4) (M : Mem) : Ct sR0 g_Dr_init fWv [.ref t] (f_Dr_init t M) M := by
  refine ⟨Nat.le_of_ble_eq_true rfl, ?_⟩
  show Go sR0 g_Dr_init fWv (f_Dr_init t M) 0 [.ref t] [] M
  refine go_def (f_Dr_init.eq_1 ..) ?_
  refine go_aload_n (pc := 0) dX3_init_0 rfl ?_
  refine go_objInit (pc := 1) dX3_init_1 (by have : t % 32 = 4 := (kd32 (t := 4) ht rfl); omega) (by have : t % 32 = 4 := (kd32 (t := 4) ht rfl); omega) (gT_of (mtb1 (mt16 (mt16 (mt4 (mt4 (mt1 (mt1 (List.Mem.head _)))))))) rfl) oi1 oi2 (by decide) (Nat.le_of_ble_eq_true rfl) ?_
  refine go_aload_n (pc := 4) dX3_init_4 rfl ?_
  refine go_iconst (pc := 5) 2 dX3_init_5 ki_2 ?_
  refine go_newa (pc := 6) (t := 11) (N := 2) (by decide) (by decide) (by decide) (by decide) (fun _ _ => rfl) (gT_of (mtb1 (mt64 (mt16 (mt1 (mt1 (mt1 (List.Mem.head _))))))) rfl) dX3_init_6 (fun a1 M2 k3 => ?_)
  refine go_putR (pc := 8) flX3_9 rfl (Or.inr ⟨rfl, rfl, rfl⟩) (kd32 (t := 4) ht rfl) rfl dX3_init_8 (fun M4 => ?_)
  refine go_aload_n (pc := 11) dX3_init_11 rfl ?_
  refine go_iconst (pc := 12) 2 dX3_init_12 ki_2 ?_
  refine go_newa (pc := 13) (t := 11) (N := 2) (by decide) (by decide) (by decide) (by decide) (fun _ _ => rfl) (gT_of (mtb1 (mt64 (mt16 (mt1 (mt1 (mt1 (List.Mem.head _))))))) rfl) dX3_init_13 (fun a5 M6 k7 => ?_)
  refine go_putR (pc := 15) flX3_15 rfl (Or.inr ⟨rfl, rfl, rfl⟩) (kd32 (t := 4) ht rfl) rfl dX3_init_15 (fun M8 => ?_)
  refine go_aload_n (pc := 18) dX3_init_18 rfl ?_
  refine go_bipush (pc := 19) 6 dX3_init_19 kb_6 ?_
  refine go_newa (pc := 21) (t := 11) (N := 6) (by decide) (by decide) (by decide) (by decide) (fun _ _ => rfl) (gT_of (mtb1 (mt64 (mt16 (mt1 (mt1 (mt1 (List.Mem.head _))))))) rfl) dX3_init_21 (fun a9 M10 k11 => ?_)
  refine go_putR (pc := 23) flX3_18 rfl (Or.inr ⟨rfl, rfl, rfl⟩) (kd32 (t := 4) ht rfl) rfl dX3_init_23 (fun M12 => ?_)
  refine go_aload_n (pc := 26) dX3_init_26 rfl ?_
  refine go_bipush (pc := 27) 6 dX3_init_27 kb_6 ?_
  refine go_newa (pc := 29) (t := 11) (N := 6) (by decide) (by decide) (by decide) (by decide) (fun _ _ => rfl) (gT_of (mtb1 (mt64 (mt16 (mt1 (mt1 (mt1 (List.Mem.head _))))))) rfl) dX3_init_29 (fun a13 M14 k15 => ?_)
  refine go_putR (pc := 31) flX3_21 rfl (Or.inr ⟨rfl, rfl, rfl⟩) (kd32 (t := 4) ht rfl) rfl dX3_init_31 (fun M16 => ?_)
  exact go_ret dX3_init_34 rfl rfl rfl
def f_Co_init (t : Nat) (M : Mem) : Option Mem := lt (nid M 6) fun a1 => lt (newM M 6 4) fun M2 => lt (nid M2 (0 * 32 + 16)) fun a4 => lt (newM M2 (0 * 32 + 16) (0)) fun M5 => bd (f_Hs_init a1 a4 M5) fun M7 => lt (setR M7 t 0 a1) fun M8 => lt (nid M8 4) fun a9 => lt (newM M8 4 9) fun M10 => bd (f_Dr_init a9 M10) fun M12 => lt (setR M12 t 1 a9) fun M13 => lt (nid M13 (12 * 32 + 11)) fun a14 => lt (newM M13 (12 * 32 + 11) (12)) fun M15 => lt (setR M15 t 2 a14) fun M17 => lt (nid M17 (6 * 32 + 11)) fun a18 => lt (newM M17 (6 * 32 + 11) (6)) fun M19 => lt (setR M19 t 8 a18) fun M21 => lt (nid M21 (6 * 32 + 11)) fun a22 => lt (newM M21 (6 * 32 + 11) (6)) fun M23 => lt (setR M23 t 9 a22) fun M25 => some M25
theorem o_Co_init (t : Nat) (ht : t % 131072 = 3) (M : Mem) : Ct sR0 g_Co_init fWv [.ref t] (f_Co_init t M) M := by
  refine ⟨Nat.le_of_ble_eq_true rfl, ?_⟩
  show Go sR0 g_Co_init fWv (f_Co_init t M) 0 [.ref t] [] M
  refine go_def (f_Co_init.eq_1 ..) ?_
  refine go_aload_n (pc := 0) dX2_init_0 rfl ?_
  refine go_objInit (pc := 1) dX2_init_1 (by have : t % 32 = 3 := (kd32 (t := 3) ht rfl); omega) (by have : t % 32 = 3 := (kd32 (t := 3) ht rfl); omega) (gT_of (mtb1 (mt64 (mt64 (mt16 (mt16 (mt16 (mt4 (mt4 (mt1 (mt1 (List.Mem.head _))))))))))) rfl) oi1 oi2 (by decide) (Nat.le_of_ble_eq_true rfl) ?_
  refine go_aload_n (pc := 4) dX2_init_4 rfl ?_
  refine go_new (pc := 5) (t := 6) (by decide) (by decide) (fun _ _ => rfl) (gT_of (mtb1 (mt64 (mt64 (mt16 (mt16 (mt16 (mt4 (mt4 (mt1 (mt1 (mt1 (List.Mem.head _)))))))))))) rfl) (gT_of (mtb1 (mt64 (mt64 (mt16 (mt4 (mt4 (mt4 (List.Mem.head _)))))))) rfl) (gT_of (mtb1 (mt4 (mt1 (mt1 (List.Mem.head _))))) rfl) dX2_init_5 (fun a1 M2 k3 => ?_)
  refine go_dup (pc := 8) dX2_init_8 rfl ?_
  refine go_iconst (pc := 9) 0 dX2_init_9 ki_0 ?_
  refine go_newq (pc := 10) (t := 16) (N := 0) (by decide) (by decide) (by decide) (by decide) (fun _ _ => rfl) (gT_of (mtb1 (mt64 (mt64 (mt16 (mt16 (mt16 (mt4 (mt4 (mt4 (List.Mem.head _)))))))))) rfl) dX2_init_10 (fun a4 M5 k6 => ?_)
  refine go_callI (pc := 13) (a := a1) (as := [.ref a4]) (st := [.ref a1, .ref t]) (o_Hs_init sR0 dz0 a1 a4 k3 (kd32 (t := 16) k6 rfl) M5) ic_Hs_init rfl ivX2_13 (rcvk k3 (by decide) (by decide) rfl) rfl (by decide) (Nat.le_of_ble_eq_true rfl) dX2_init_13 (kWv fun M7 => ?_)
  refine go_putR (pc := 16) flX2_16 rfl (Or.inl rfl) (kd32 (t := 3) ht rfl) rfl dX2_init_16 (fun M8 => ?_)
  refine go_aload_n (pc := 19) dX2_init_19 rfl ?_
  refine go_new (pc := 20) (t := 4) (by decide) (by decide) (fun _ _ => rfl) (gT_of (mtb1 (mt64 (mt64 (mt16 (mt16 (mt16 (mt4 (mt4 (mt4 (mt1 (mt1 (List.Mem.head _)))))))))))) rfl) (gT_of (mtb1 (mt16 (mt16 (mt4 (mt1 (mt1 (List.Mem.head _))))))) rfl) (gT_of (mtb1 (mt4 (List.Mem.head _))) rfl) dX2_init_20 (fun a9 M10 k11 => ?_)
  refine go_dup (pc := 23) dX2_init_23 rfl ?_
  refine go_callIN (pc := 24) (a := a9) (as := []) (st := [.ref a9, .ref t]) (o_Dr_init a9 k11 M10) ic_Dr_init rfl ivX2_24 (rcvk k11 (by decide) (by decide) rfl) rfl (by decide) (Nat.le_of_ble_eq_true rfl) dX2_init_24 (kWv fun M12 => ?_)
  refine go_putR (pc := 27) flX2_25 rfl (Or.inr ⟨rfl, rfl, rfl⟩) (kd32 (t := 3) ht rfl) rfl dX2_init_27 (fun M13 => ?_)
  refine go_aload_n (pc := 30) dX2_init_30 rfl ?_
  refine go_bipush (pc := 31) 12 dX2_init_31 kb_12 ?_
  refine go_newa (pc := 33) (t := 11) (N := 12) (by decide) (by decide) (by decide) (by decide) (fun _ _ => rfl) (gT_of (mtb1 (mt64 (mt16 (mt1 (mt1 (mt1 (List.Mem.head _))))))) rfl) dX2_init_33 (fun a14 M15 k16 => ?_)
  refine go_putR (pc := 35) flX2_29 rfl (Or.inr ⟨rfl, rfl, rfl⟩) (kd32 (t := 3) ht rfl) rfl dX2_init_35 (fun M17 => ?_)
  refine go_aload_n (pc := 38) dX2_init_38 rfl ?_
  refine go_bipush (pc := 39) 6 dX2_init_39 kb_6 ?_
  refine go_newa (pc := 41) (t := 11) (N := 6) (by decide) (by decide) (by decide) (by decide) (fun _ _ => rfl) (gT_of (mtb1 (mt64 (mt16 (mt1 (mt1 (mt1 (List.Mem.head _))))))) rfl) dX2_init_41 (fun a18 M19 k20 => ?_)
  refine go_putR (pc := 43) flX2_33 rfl (Or.inr ⟨rfl, rfl, rfl⟩) (kd32 (t := 3) ht rfl) rfl dX2_init_43 (fun M21 => ?_)
  refine go_aload_n (pc := 46) dX2_init_46 rfl ?_
  refine go_bipush (pc := 47) 6 dX2_init_47 kb_6 ?_
  refine go_newa (pc := 49) (t := 11) (N := 6) (by decide) (by decide) (by decide) (by decide) (fun _ _ => rfl) (gT_of (mtb1 (mt64 (mt16 (mt1 (mt1 (mt1 (List.Mem.head _))))))) rfl) dX2_init_49 (fun a22 M23 k24 => ?_)
  refine go_putR (pc := 51) flX2_36 rfl (Or.inr ⟨rfl, rfl, rfl⟩) (kd32 (t := 3) ht rfl) rfl dX2_init_51 (fun M25 => ?_)
  exact go_ret dX2_init_54 rfl rfl rfl
def f_Dr_become (t : Nat) (p1 : Nat) (M : Mem) : Option Mem := lt (setI M t 0 (mI M p1 0)) fun M1 => lt (setI M1 t 1 (mI M1 p1 1)) fun M2 => lt (setI M2 t 2 (mI M2 p1 2)) fun M3 => lt (setI M3 t 3 (mI M3 p1 3)) fun M4 => lt (setI M4 t 4 (mI M4 p1 4)) fun M5 => gd (cpOK 0 0 2 (2) (2)) (lt (cpyI M5 (p1 + 131143) (0 : Int32).toNatClampNeg (t + 131143) (0 : Int32).toNatClampNeg (2 : Int32).toNatClampNeg) fun M6 => gd (cpOK 0 0 2 (2) (2)) (lt (cpyI M6 (p1 + 262215) (0 : Int32).toNatClampNeg (t + 262215) (0 : Int32).toNatClampNeg (2 : Int32).toNatClampNeg) fun M7 => gd (cpOK 0 0 6 (6) (6)) (lt (cpyI M7 (p1 + 393415) (0 : Int32).toNatClampNeg (t + 393415) (0 : Int32).toNatClampNeg (6 : Int32).toNatClampNeg) fun M8 => some M8)))
theorem o_Dr_become (t : Nat) (p1 : Nat) (ht : t % 131072 = 4) (hp1 : p1 % 131072 = 4) (M : Mem) : Ct sRC g_Dr_become fWv [.ref t, .ref p1] (f_Dr_become t p1 M) M := by
  refine ⟨Nat.le_of_ble_eq_true rfl, ?_⟩
  show Go sRC g_Dr_become fWv (f_Dr_become t p1 M) 0 [.ref t, .ref p1] [] M
  refine go_def (f_Dr_become.eq_1 ..) ?_
  refine go_aload_n (pc := 0) dX3_become_0 rfl ?_
  refine go_aload_n (pc := 1) dX3_become_1 rfl ?_
  refine go_getI (pc := 2) flX3_24 rfl (kd32 (t := 4) hp1 rfl) dX3_become_2 ?_
  refine go_putI (pc := 5) flX3_24 rfl (Or.inl rfl) ⟨rfl, rfl⟩ (kd32 (t := 4) ht rfl) dX3_become_5 (fun M1 => ?_)
  refine go_aload_n (pc := 8) dX3_become_8 rfl ?_
  refine go_aload_n (pc := 9) dX3_become_9 rfl ?_
  refine go_getI (pc := 10) flX3_28 rfl (kd32 (t := 4) hp1 rfl) dX3_become_10 ?_
  refine go_putI (pc := 13) flX3_28 rfl (Or.inl rfl) ⟨rfl, rfl⟩ (kd32 (t := 4) ht rfl) dX3_become_13 (fun M2 => ?_)
  refine go_aload_n (pc := 16) dX3_become_16 rfl ?_
  refine go_aload_n (pc := 17) dX3_become_17 rfl ?_
  refine go_getI (pc := 18) flX3_31 rfl (kd32 (t := 4) hp1 rfl) dX3_become_18 ?_
  refine go_putI (pc := 21) flX3_31 rfl (Or.inl rfl) ⟨rfl, rfl⟩ (kd32 (t := 4) ht rfl) dX3_become_21 (fun M3 => ?_)
  refine go_aload_n (pc := 24) dX3_become_24 rfl ?_
  refine go_aload_n (pc := 25) dX3_become_25 rfl ?_
  refine go_getI (pc := 26) flX3_34 rfl (kd32 (t := 4) hp1 rfl) dX3_become_26 ?_
  refine go_putI (pc := 29) flX3_34 rfl (Or.inl rfl) ⟨rfl, rfl⟩ (kd32 (t := 4) ht rfl) dX3_become_29 (fun M4 => ?_)
  refine go_aload_n (pc := 32) dX3_become_32 rfl ?_
  refine go_aload_n (pc := 33) dX3_become_33 rfl ?_
  refine go_getI (pc := 34) flX3_37 rfl (kd32 (t := 4) hp1 rfl) dX3_become_34 ?_
  refine go_putI (pc := 37) flX3_37 rfl (Or.inl rfl) ⟨rfl, rfl⟩ (kd32 (t := 4) ht rfl) dX3_become_37 (fun M5 => ?_)
  refine go_aload_n (pc := 40) dX3_become_40 rfl ?_
  refine go_getS (pc := 41) (p1 + 131143) flX3_9 rfl (kd32 (t := 4) hp1 rfl) (sC_4_5 hp1) (knz (by decide)) dX3_become_41 ?_
  refine go_iconst (pc := 44) 0 dX3_become_44 ki_0 ?_
  refine go_aload_n (pc := 45) dX3_become_45 rfl ?_
  refine go_getS (pc := 46) (t + 131143) flX3_9 rfl (kd32 (t := 4) ht rfl) (sC_4_5 ht) (knz (by decide)) dX3_become_46 ?_
  refine go_iconst (pc := 49) 0 dX3_become_49 ki_0 ?_
  refine go_iconst (pc := 50) 2 dX3_become_50 ki_2 ?_
  refine go_copyI (pc := 51) (kd32 (t := 11) (kadd hp1 rfl) rfl) (kd32 (t := 11) (kadd ht rfl) rfl) (kln (kadd hp1 rfl) rfl) (kln (kadd ht rfl) rfl) (gT_of (mtb2 (mt64 (mt16 (mt16 (mt16 (List.Mem.head _)))))) rfl) ac1 ac2 ac3 (by decide) (Nat.le_of_ble_eq_true rfl) dX3_become_51 (fun _ M6 => ?_)
  refine go_aload_n (pc := 54) dX3_become_54 rfl ?_
  refine go_getS (pc := 55) (p1 + 262215) flX3_15 rfl (kd32 (t := 4) hp1 rfl) (sC_4_6 hp1) (knz (by decide)) dX3_become_55 ?_
  refine go_iconst (pc := 58) 0 dX3_become_58 ki_0 ?_
  refine go_aload_n (pc := 59) dX3_become_59 rfl ?_
  refine go_getS (pc := 60) (t + 262215) flX3_15 rfl (kd32 (t := 4) ht rfl) (sC_4_6 ht) (knz (by decide)) dX3_become_60 ?_
  refine go_iconst (pc := 63) 0 dX3_become_63 ki_0 ?_
  refine go_iconst (pc := 64) 2 dX3_become_64 ki_2 ?_
  refine go_copyI (pc := 65) (kd32 (t := 11) (kadd hp1 rfl) rfl) (kd32 (t := 11) (kadd ht rfl) rfl) (kln (kadd hp1 rfl) rfl) (kln (kadd ht rfl) rfl) (gT_of (mtb2 (mt64 (mt16 (mt16 (mt16 (List.Mem.head _)))))) rfl) ac1 ac2 ac3 (by decide) (Nat.le_of_ble_eq_true rfl) dX3_become_65 (fun _ M7 => ?_)
  refine go_aload_n (pc := 68) dX3_become_68 rfl ?_
  refine go_getS (pc := 69) (p1 + 393415) flX3_18 rfl (kd32 (t := 4) hp1 rfl) (sC_4_7 hp1) (knz (by decide)) dX3_become_69 ?_
  refine go_iconst (pc := 72) 0 dX3_become_72 ki_0 ?_
  refine go_aload_n (pc := 73) dX3_become_73 rfl ?_
  refine go_getS (pc := 74) (t + 393415) flX3_18 rfl (kd32 (t := 4) ht rfl) (sC_4_7 ht) (knz (by decide)) dX3_become_74 ?_
  refine go_iconst (pc := 77) 0 dX3_become_77 ki_0 ?_
  refine go_bipush (pc := 78) 6 dX3_become_78 kb_6 ?_
  refine go_copyI (pc := 80) (kd32 (t := 11) (kadd hp1 rfl) rfl) (kd32 (t := 11) (kadd ht rfl) rfl) (kln (kadd hp1 rfl) rfl) (kln (kadd ht rfl) rfl) (gT_of (mtb2 (mt64 (mt16 (mt16 (mt16 (List.Mem.head _)))))) rfl) ac1 ac2 ac3 (by decide) (Nat.le_of_ble_eq_true rfl) dX3_become_80 (fun _ M8 => ?_)
  exact go_ret dX3_become_83 rfl rfl rfl
def f_Dr_dampness (t : Nat) (M : Mem) : Int32 := ((mI M (t + 131143) 0) + (mI M (t + 131143) 1)) / 2
theorem o_Dr_dampness (t : Nat) (ht : t % 131072 = 4) (M : Mem) : Ct sRC g_Dr_dampness (fRi M) [.ref t] (some (f_Dr_dampness t M)) M := by
  refine ⟨Nat.le_of_ble_eq_true rfl, ?_⟩
  show Go sRC g_Dr_dampness (fRi M) (some (f_Dr_dampness t M)) 0 [.ref t] [] M
  refine go_def (congrArg some (f_Dr_dampness.eq_1 ..)) ?_
  refine go_aload_n (pc := 0) dX3_dampness_0 rfl ?_
  refine go_getS (pc := 1) (t + 131143) flX3_9 rfl (kd32 (t := 4) ht rfl) (sC_4_5 ht) (knz (by decide)) dX3_dampness_1 ?_
  refine go_iconst (pc := 4) 0 dX3_dampness_4 ki_0 ?_
  refine go_iald' (pc := 5) 0 (by decide) (by decide) (kd32 (t := 11) (kadd ht rfl) rfl) (kln (kadd ht rfl) rfl) dX3_dampness_5 ?_
  refine go_aload_n (pc := 6) dX3_dampness_6 rfl ?_
  refine go_getS (pc := 7) (t + 131143) flX3_9 rfl (kd32 (t := 4) ht rfl) (sC_4_5 ht) (knz (by decide)) dX3_dampness_7 ?_
  refine go_iconst (pc := 10) 1 dX3_dampness_10 ki_1 ?_
  refine go_iald' (pc := 11) 1 (by decide) (by decide) (kd32 (t := 11) (kadd ht rfl) rfl) (kln (kadd ht rfl) rfl) dX3_dampness_11 ?_
  refine go_iadd (pc := 12) dX3_dampness_12 ?_
  refine go_iconst (pc := 13) 2 dX3_dampness_13 ki_2 ?_
  refine go_idiv' (pc := 14) (by decide) dX3_dampness_14 ?_
  exact go_ret dX3_dampness_15 rii rfl rfl
def f_Dr_factsIn (t : Nat) (p1 : Int32) (M : Mem) : Option (Nat × Mem) := lt (setI M (t + 524487) 0 (mI M t 1)) fun M1 => lt (setI M1 (t + 524487) 1 (mI M1 t 0)) fun M2 => lt (setI M2 (t + 524487) 2 ((f_Dr_dampness t M2) / 10)) fun M3 => lt (setI M3 (t + 524487) 3 (mI M3 t 3)) fun M4 => lt (setI M4 (t + 524487) 4 ((mI M4 (t + 262215) 0) + (mI M4 (t + 262215) 1))) fun M5 => lt (setI M5 (t + 524487) 5 (p1 - p1 / 12 * 12)) fun M6 => some (t + 524487, M6)
theorem o_Dr_factsIn (t : Nat) (p1 : Int32) (ht : t % 131072 = 4) (M : Mem) : Ct sRC g_Dr_factsIn fWr [.ref t, .int p1] (f_Dr_factsIn t p1 M) M := by
  refine ⟨Nat.le_of_ble_eq_true rfl, ?_⟩
  show Go sRC g_Dr_factsIn fWr (f_Dr_factsIn t p1 M) 0 [.ref t, .int p1] [] M
  refine go_def (f_Dr_factsIn.eq_1 ..) ?_
  refine go_aload_n (pc := 0) dX3_factsIn_0 rfl ?_
  refine go_getS (pc := 1) (t + 524487) flX3_21 rfl (kd32 (t := 4) ht rfl) (sC_4_8 ht) (knz (by decide)) dX3_factsIn_1 ?_
  refine go_iconst (pc := 4) 0 dX3_factsIn_4 ki_0 ?_
  refine go_aload_n (pc := 5) dX3_factsIn_5 rfl ?_
  refine go_getI (pc := 6) flX3_28 rfl (kd32 (t := 4) ht rfl) dX3_factsIn_6 ?_
  refine go_iast' (pc := 9) 0 (by decide) (by decide) (kd32 (t := 11) (kadd ht rfl) rfl) (kln (kadd ht rfl) rfl) dX3_factsIn_9 (fun M1 => ?_)
  refine go_aload_n (pc := 10) dX3_factsIn_10 rfl ?_
  refine go_getS (pc := 11) (t + 524487) flX3_21 rfl (kd32 (t := 4) ht rfl) (sC_4_8 ht) (knz (by decide)) dX3_factsIn_11 ?_
  refine go_iconst (pc := 14) 1 dX3_factsIn_14 ki_1 ?_
  refine go_aload_n (pc := 15) dX3_factsIn_15 rfl ?_
  refine go_getI (pc := 16) flX3_24 rfl (kd32 (t := 4) ht rfl) dX3_factsIn_16 ?_
  refine go_iast' (pc := 19) 1 (by decide) (by decide) (kd32 (t := 11) (kadd ht rfl) rfl) (kln (kadd ht rfl) rfl) dX3_factsIn_19 (fun M2 => ?_)
  refine go_aload_n (pc := 20) dX3_factsIn_20 rfl ?_
  refine go_getS (pc := 21) (t + 524487) flX3_21 rfl (kd32 (t := 4) ht rfl) (sC_4_8 ht) (knz (by decide)) dX3_factsIn_21 ?_
  refine go_iconst (pc := 24) 2 dX3_factsIn_24 ki_2 ?_
  refine go_aload_n (pc := 25) dX3_factsIn_25 rfl ?_
  refine go_T (v := f_Dr_dampness t M2) ?_
  refine go_callV (pc := 26) (a := t) (as := []) (st := [.int 2, .ref (t + 524487)]) (o_Dr_dampness t ht M2) ic_Dr_dampness ivX3_52 (rcvk ht (by decide) (by decide) rfl) rfl (by decide) (Nat.le_of_ble_eq_true rfl) dX3_factsIn_26 (kTi ?_)
  refine go_bipush (pc := 29) 10 dX3_factsIn_29 kb_10 ?_
  refine go_idiv' (pc := 31) (by decide) dX3_factsIn_31 ?_
  refine go_iast' (pc := 32) 2 (by decide) (by decide) (kd32 (t := 11) (kadd ht rfl) rfl) (kln (kadd ht rfl) rfl) dX3_factsIn_32 (fun M3 => ?_)
  refine go_aload_n (pc := 33) dX3_factsIn_33 rfl ?_
  refine go_getS (pc := 34) (t + 524487) flX3_21 rfl (kd32 (t := 4) ht rfl) (sC_4_8 ht) (knz (by decide)) dX3_factsIn_34 ?_
  refine go_iconst (pc := 37) 3 dX3_factsIn_37 ki_3 ?_
  refine go_aload_n (pc := 38) dX3_factsIn_38 rfl ?_
  refine go_getI (pc := 39) flX3_34 rfl (kd32 (t := 4) ht rfl) dX3_factsIn_39 ?_
  refine go_iast' (pc := 42) 3 (by decide) (by decide) (kd32 (t := 11) (kadd ht rfl) rfl) (kln (kadd ht rfl) rfl) dX3_factsIn_42 (fun M4 => ?_)
  refine go_aload_n (pc := 43) dX3_factsIn_43 rfl ?_
  refine go_getS (pc := 44) (t + 524487) flX3_21 rfl (kd32 (t := 4) ht rfl) (sC_4_8 ht) (knz (by decide)) dX3_factsIn_44 ?_
  refine go_iconst (pc := 47) 4 dX3_factsIn_47 ki_4 ?_
  refine go_aload_n (pc := 48) dX3_factsIn_48 rfl ?_
  refine go_getS (pc := 49) (t + 262215) flX3_15 rfl (kd32 (t := 4) ht rfl) (sC_4_6 ht) (knz (by decide)) dX3_factsIn_49 ?_
  refine go_iconst (pc := 52) 0 dX3_factsIn_52 ki_0 ?_
  refine go_iald' (pc := 53) 0 (by decide) (by decide) (kd32 (t := 11) (kadd ht rfl) rfl) (kln (kadd ht rfl) rfl) dX3_factsIn_53 ?_
  refine go_aload_n (pc := 54) dX3_factsIn_54 rfl ?_
  refine go_getS (pc := 55) (t + 262215) flX3_15 rfl (kd32 (t := 4) ht rfl) (sC_4_6 ht) (knz (by decide)) dX3_factsIn_55 ?_
  refine go_iconst (pc := 58) 1 dX3_factsIn_58 ki_1 ?_
  refine go_iald' (pc := 59) 1 (by decide) (by decide) (kd32 (t := 11) (kadd ht rfl) rfl) (kln (kadd ht rfl) rfl) dX3_factsIn_59 ?_
  refine go_iadd (pc := 60) dX3_factsIn_60 ?_
  refine go_iast' (pc := 61) 4 (by decide) (by decide) (kd32 (t := 11) (kadd ht rfl) rfl) (kln (kadd ht rfl) rfl) dX3_factsIn_61 (fun M5 => ?_)
  refine go_aload_n (pc := 62) dX3_factsIn_62 rfl ?_
  refine go_getS (pc := 63) (t + 524487) flX3_21 rfl (kd32 (t := 4) ht rfl) (sC_4_8 ht) (knz (by decide)) dX3_factsIn_63 ?_
  refine go_iconst (pc := 66) 5 dX3_factsIn_66 ki_5 ?_
  refine go_iload_n (pc := 67) dX3_factsIn_67 rfl ?_
  refine go_bipush (pc := 68) 12 dX3_factsIn_68 kb_12 ?_
  refine go_irem' (pc := 70) (by decide) dX3_factsIn_70 ?_
  refine go_iast' (pc := 71) 5 (by decide) (by decide) (kd32 (t := 11) (kadd ht rfl) rfl) (kln (kadd ht rfl) rfl) dX3_factsIn_71 (fun M6 => ?_)
  refine go_aload_n (pc := 72) dX3_factsIn_72 rfl ?_
  refine go_getS (pc := 73) (t + 524487) flX3_21 rfl (kd32 (t := 4) ht rfl) (sC_4_8 ht) (knz (by decide)) dX3_factsIn_73 ?_
  exact go_ret dX3_factsIn_76 ⟨_, rfl, Or.inr ⟨_, rfl⟩⟩ rfl rfl
def f_Hs_total_l16 (t : Nat) (p2 : Nat) (M : Mem) : Nat → Int32 → Int32 → Nat → Int32 → Int32 → Option Int32
  | 0, _, _, _, _, _ => none
  | n + 1, v1, v3, v4, v5, v6 => if v5 ≤ v6 then some v3 else gd (v4 % 32 = 16) (gd (inR v6 (lnA v4)) (lt (mR M v4 v6.toNatClampNeg) fun x5 => gd (x5 % 131072 = 2) (if (mI M x5 0) = v1 then bd (f_Cl_holds x5 p2 M) fun r8 => if r8 = 0 then lt (v6 + 1) fun x9 => f_Hs_total_l16 t p2 M n v1 v3 v4 v5 x9 else lt (v3 + (mI M x5 1)) fun x10 => lt (v6 + 1) fun x11 => f_Hs_total_l16 t p2 M n v1 x10 v4 v5 x11 else lt (v6 + 1) fun x7 => f_Hs_total_l16 t p2 M n v1 v3 v4 v5 x7)))
def f_Hs_total (t : Nat) (p1 : Int32) (p2 : Nat) (M : Mem) : Option Int32 := lt (mR M t 0) fun x1 => gd (11 ≤ x1 % 32 ∧ x1 % 32 ≤ 17) (lt (Int32.ofNat (lnA x1)) fun x3 => f_Hs_total_l16 t p2 M 200 p1 0 x1 x3 0)
theorem o_Hs_total_l16 (t : Nat) (p2 : Nat) (ht : t % 131072 = 6) (hp2 : p2 % 32 = 11) (M : Mem) : ∀ (n : Nat) (v1 : Int32) (v3 : Int32) (v4 : Nat) (v5 : Int32) (v6 : Int32), Go sRC g_Hs_total (fRi M) (f_Hs_total_l16 t p2 M n v1 v3 v4 v5 v6) 16 [.ref t, .int v1, .ref p2, .int v3, .ref v4, .int v5, .int v6, .null] [] M := by
  intro n
  induction n with
  | zero =>
    intro v1 v3 v4 v5 v6
    exact go_def (f_Hs_total_l16.eq_1 ..) go_none
  | succ n ih =>
    intro v1 v3 v4 v5 v6
    refine go_def (f_Hs_total_l16.eq_2 ..) ?_
    refine go_iload (pc := 16) dX5_total_16 rfl ?_
    refine go_iload (pc := 18) dX5_total_18 rfl ?_
    refine go_icmpge (pc := 20) 62 dX5_total_20 (by decide) (fun _ => ?_) (fun _ => ?_)
    · refine go_iload_n (pc := 62) dX5_total_62 rfl ?_
      exact go_ret dX5_total_63 rii rfl rfl
    · refine go_aload (pc := 23) dX5_total_23 rfl ?_
      refine go_iload (pc := 25) dX5_total_25 rfl ?_
      refine go_gd fun g4 => ?_
      refine go_aaldR (pc := 27) (by have : v4 % 32 = 16 := g4; omega) (by have : v4 % 32 = 16 := g4; omega) rfl dX5_total_27 (fun _ => ?_)
      refine go_astoreL (pc := 28) (L := fun x5 => [.ref t, .int v1, .ref p2, .int v3, .ref v4, .int v5, .int v6, .ref x5]) dX5_total_28 (Nat.le_of_ble_eq_true rfl) rfl (fun _ => rfl) (fun x5 => ?_)
      refine go_aload (pc := 30) dX5_total_30 rfl ?_
      refine go_gd fun g6 => ?_
      refine go_getI (pc := 32) flX5_13 rfl (kd32 (t := 2) g6 rfl) dX5_total_32 ?_
      refine go_iload_n (pc := 35) dX5_total_35 rfl ?_
      refine go_icmpne (pc := 36) 56 dX5_total_36 (by decide) (fun _ => ?_) (fun _ => ?_)
      · refine go_aload (pc := 39) dX5_total_39 rfl ?_
        refine go_aload_n (pc := 41) dX5_total_41 rfl ?_
        refine go_callV (pc := 42) (a := x5) (as := [.ref p2]) (st := []) (o_Cl_holds x5 p2 g6 hp2 M) ic_Cl_holds ivX5_34 (rcvk g6 (by decide) (by decide) rfl) rfl (by decide) (Nat.le_of_ble_eq_true rfl) dX5_total_42 (kRi fun r8 => ?_)
        refine go_ifeq (pc := 45) 56 dX5_total_45 (by decide) (fun _ => ?_) (fun _ => ?_)
        · refine go_iincL (pc := 56) (L := fun x9 => [.ref t, .int v1, .ref p2, .int v3, .ref v4, .int v5, .int x9, .ref x5]) 1 dX5_total_56 rfl ki_1 (Nat.le_of_ble_eq_true rfl) rfl (fun _ => rfl) (fun x9 => ?_)
          refine go_goto (pc := 59) 16 dX5_total_59 (by decide) ?_
          refine go_sub (ls' := [.ref t, .int v1, .ref p2, .int v3, .ref v4, .int v5, .int x9, .null]) ⟨Or.inr rfl, Or.inr rfl, Or.inr rfl, Or.inr rfl, Or.inr rfl, Or.inr rfl, Or.inr rfl, Or.inl rfl, trivial⟩ ?_
          exact ih v1 v3 v4 v5 x9
        · refine go_iload_n (pc := 48) dX5_total_48 rfl ?_
          refine go_aload (pc := 49) dX5_total_49 rfl ?_
          refine go_getI (pc := 51) flX5_21 rfl (kd32 (t := 2) g6 rfl) dX5_total_51 ?_
          refine go_iadd (pc := 54) dX5_total_54 ?_
          refine go_istore_nL (pc := 55) (L := fun x10 => [.ref t, .int v1, .ref p2, .int x10, .ref v4, .int v5, .int v6, .ref x5]) dX5_total_55 (Nat.le_of_ble_eq_true rfl) rfl (fun _ => rfl) (fun x10 => ?_)
          refine go_iincL (pc := 56) (L := fun x11 => [.ref t, .int v1, .ref p2, .int x10, .ref v4, .int v5, .int x11, .ref x5]) 1 dX5_total_56 rfl ki_1 (Nat.le_of_ble_eq_true rfl) rfl (fun _ => rfl) (fun x11 => ?_)
          refine go_goto (pc := 59) 16 dX5_total_59 (by decide) ?_
          refine go_sub (ls' := [.ref t, .int v1, .ref p2, .int x10, .ref v4, .int v5, .int x11, .null]) ⟨Or.inr rfl, Or.inr rfl, Or.inr rfl, Or.inr rfl, Or.inr rfl, Or.inr rfl, Or.inr rfl, Or.inl rfl, trivial⟩ ?_
          exact ih v1 x10 v4 v5 x11
      · refine go_iincL (pc := 56) (L := fun x7 => [.ref t, .int v1, .ref p2, .int v3, .ref v4, .int v5, .int x7, .ref x5]) 1 dX5_total_56 rfl ki_1 (Nat.le_of_ble_eq_true rfl) rfl (fun _ => rfl) (fun x7 => ?_)
        refine go_goto (pc := 59) 16 dX5_total_59 (by decide) ?_
        refine go_sub (ls' := [.ref t, .int v1, .ref p2, .int v3, .ref v4, .int v5, .int x7, .null]) ⟨Or.inr rfl, Or.inr rfl, Or.inr rfl, Or.inr rfl, Or.inr rfl, Or.inr rfl, Or.inr rfl, Or.inl rfl, trivial⟩ ?_
        exact ih v1 v3 v4 v5 x7
theorem o_Hs_total (t : Nat) (p1 : Int32) (p2 : Nat) (ht : t % 131072 = 6) (hp2 : p2 % 32 = 11) (M : Mem) : Ct sRC g_Hs_total (fRi M) [.ref t, .int p1, .ref p2] (f_Hs_total t p1 p2 M) M := by
  refine ⟨Nat.le_of_ble_eq_true rfl, ?_⟩
  show Go sRC g_Hs_total (fRi M) (f_Hs_total t p1 p2 M) 0 [.ref t, .int p1, .ref p2, .null, .null, .null, .null, .null] [] M
  refine go_def (f_Hs_total.eq_1 ..) ?_
  refine go_iconst (pc := 0) 0 dX5_total_0 ki_0 ?_
  refine go_istore_n (pc := 1) (ls' := [.ref t, .int p1, .ref p2, .int 0, .null, .null, .null, .null]) dX5_total_1 (Nat.le_of_ble_eq_true rfl) rfl rfl ?_
  refine go_aload_n (pc := 2) dX5_total_2 rfl ?_
  refine go_getR (pc := 3) flX5_7 rfl (kd32 (t := 6) ht rfl) dX5_total_3 ?_
  refine go_astoreL (pc := 6) (L := fun x1 => [.ref t, .int p1, .ref p2, .int 0, .ref x1, .null, .null, .null]) dX5_total_6 (Nat.le_of_ble_eq_true rfl) rfl (fun _ => rfl) (fun x1 => ?_)
  refine go_aload (pc := 8) dX5_total_8 rfl ?_
  refine go_gd fun g2 => ?_
  refine go_alen (pc := 10) g2.1 g2.2 rfl dX5_total_10 ?_
  refine go_istoreL (pc := 11) (L := fun x3 => [.ref t, .int p1, .ref p2, .int 0, .ref x1, .int x3, .null, .null]) dX5_total_11 (Nat.le_of_ble_eq_true rfl) rfl (fun _ => rfl) (fun x3 => ?_)
  refine go_iconst (pc := 13) 0 dX5_total_13 ki_0 ?_
  refine go_istore (pc := 14) (ls' := [.ref t, .int p1, .ref p2, .int 0, .ref x1, .int x3, .int 0, .null]) dX5_total_14 (Nat.le_of_ble_eq_true rfl) rfl rfl ?_
  exact o_Hs_total_l16 t p2 ht hp2 M 200 p1 0 x1 x3 0
def f_Dr_swell (t : Nat) (p1 : Int32) (M : Mem) : Int32 := lt ((p1 * (f_Dr_dampness t M)) / 20) fun x1 => if (mI M t 1) = 1 then x1 + (mI M t 2) else if (mI M t 1) = 4 then (x1 + (mI M t 2)) / 2 else if (mI M t 1) = 5 then mxI 0 (x1 - 2) else x1
theorem o_Dr_swell (t : Nat) (p1 : Int32) (ht : t % 131072 = 4) (M : Mem) : Ct sRC g_Dr_swell (fRi M) [.ref t, .int p1] (some (f_Dr_swell t p1 M)) M := by
  refine ⟨Nat.le_of_ble_eq_true rfl, ?_⟩
  show Go sRC g_Dr_swell (fRi M) (some (f_Dr_swell t p1 M)) 0 [.ref t, .int p1, .null] [] M
  refine go_def (congrArg some (f_Dr_swell.eq_1 ..)) ?_
  refine go_iload_n (pc := 0) dX3_swell_0 rfl ?_
  refine go_aload_n (pc := 1) dX3_swell_1 rfl ?_
  refine go_T (v := f_Dr_dampness t M) ?_
  refine go_callV (pc := 2) (a := t) (as := []) (st := [.int p1]) (o_Dr_dampness t ht M) ic_Dr_dampness ivX3_52 (rcvk ht (by decide) (by decide) rfl) rfl (by decide) (Nat.le_of_ble_eq_true rfl) dX3_swell_2 (kTi ?_)
  refine go_imul (pc := 5) dX3_swell_5 ?_
  refine go_bipush (pc := 6) 20 dX3_swell_6 kb_20 ?_
  refine go_idiv' (pc := 8) (by decide) dX3_swell_8 ?_
  refine go_slt ?_
  refine go_istore_nL (pc := 9) (L := fun x1 => [.ref t, .int p1, .int x1]) dX3_swell_9 (Nat.le_of_ble_eq_true rfl) rfl (fun _ => rfl) (fun x1 => ?_)
  refine go_aload_n (pc := 10) dX3_swell_10 rfl ?_
  refine go_getI (pc := 11) flX3_28 rfl (kd32 (t := 4) ht rfl) dX3_swell_11 ?_
  refine go_site ?_
  refine go_tswC (pc := 14) (v := 1) (off := 34) 48 dX3_swell_14 (by decide) (by decide) (by decide) (fun _ => ?_) (fun n2 => ?_)
  · refine go_iload_n (pc := 48) dX3_swell_48 rfl ?_
    refine go_aload_n (pc := 49) dX3_swell_49 rfl ?_
    refine go_getI (pc := 50) flX3_31 rfl (kd32 (t := 4) ht rfl) dX3_swell_50 ?_
    refine go_iadd (pc := 53) dX3_swell_53 ?_
    exact go_ret dX3_swell_54 rii rfl rfl
  refine go_site ?_
  refine go_tswC (pc := 14) (v := 4) (off := 41) 55 dX3_swell_14 (by decide) (by decide) (by decide) (fun _ => ?_) (fun n3 => ?_)
  · refine go_iload_n (pc := 55) dX3_swell_55 rfl ?_
    refine go_aload_n (pc := 56) dX3_swell_56 rfl ?_
    refine go_getI (pc := 57) flX3_31 rfl (kd32 (t := 4) ht rfl) dX3_swell_57 ?_
    refine go_iadd (pc := 60) dX3_swell_60 ?_
    refine go_iconst (pc := 61) 2 dX3_swell_61 ki_2 ?_
    refine go_idiv' (pc := 62) (by decide) dX3_swell_62 ?_
    exact go_ret dX3_swell_63 rii rfl rfl
  refine go_site ?_
  refine go_tswC (pc := 14) (v := 5) (off := 50) 64 dX3_swell_14 (by decide) (by decide) (by decide) (fun _ => ?_) (fun n4 => ?_)
  · refine go_iconst (pc := 64) 0 dX3_swell_64 ki_0 ?_
    refine go_iload_n (pc := 65) dX3_swell_65 rfl ?_
    refine go_iconst (pc := 66) 2 dX3_swell_66 ki_2 ?_
    refine go_isub (pc := 67) dX3_swell_67 ?_
    refine go_max (pc := 68) (gT_of (mtb2 (mt64 (mt64 (mt16 (List.Mem.head _))))) rfl) mw_max1 mw_i mw_max2 (by decide) (Nat.le_of_ble_eq_true rfl) dX3_swell_68 ?_
    exact go_ret dX3_swell_71 rii rfl rfl
  refine go_tswD (pc := 14) 72 dX3_swell_14 (by have n2t := lv_neT n2 (show (1 : Int32).toInt = 1 by decide); have n3t := lv_neT n3 (show (4 : Int32).toInt = 4 by decide); have n4t := lv_neT n4 (show (5 : Int32).toInt = 5 by decide); rcases (show (mI M t 1).toInt < 1 ∨ 5 < (mI M t 1).toInt ∨ (mI M t 1).toInt = 2 ∨ (mI M t 1).toInt = 3 by omega) with h | h | h | h <;> first | exact Or.inl h | exact Or.inr (Or.inl h) | exact Or.inr (Or.inr (by rw [h]; decide))) (by decide) ?_
  refine go_iload_n (pc := 72) dX3_swell_72 rfl ?_
  exact go_ret dX3_swell_73 rii rfl rfl
def f_Dr_bend (t : Nat) (M : Mem) : Int32 := lt ((abI ((mI M (t + 131143) 0) - (mI M (t + 131143) 1))) / 10) fun x1 => if (mI M t 1) = 2 then 2 * x1 else if (mI M t 1) = 5 then 2 * x1 else x1
theorem o_Dr_bend (t : Nat) (ht : t % 131072 = 4) (M : Mem) : Ct sRC g_Dr_bend (fRi M) [.ref t] (some (f_Dr_bend t M)) M := by
  refine ⟨Nat.le_of_ble_eq_true rfl, ?_⟩
  show Go sRC g_Dr_bend (fRi M) (some (f_Dr_bend t M)) 0 [.ref t, .null] [] M
  refine go_def (congrArg some (f_Dr_bend.eq_1 ..)) ?_
  refine go_aload_n (pc := 0) dX3_bend_0 rfl ?_
  refine go_getS (pc := 1) (t + 131143) flX3_9 rfl (kd32 (t := 4) ht rfl) (sC_4_5 ht) (knz (by decide)) dX3_bend_1 ?_
  refine go_iconst (pc := 4) 0 dX3_bend_4 ki_0 ?_
  refine go_iald' (pc := 5) 0 (by decide) (by decide) (kd32 (t := 11) (kadd ht rfl) rfl) (kln (kadd ht rfl) rfl) dX3_bend_5 ?_
  refine go_aload_n (pc := 6) dX3_bend_6 rfl ?_
  refine go_getS (pc := 7) (t + 131143) flX3_9 rfl (kd32 (t := 4) ht rfl) (sC_4_5 ht) (knz (by decide)) dX3_bend_7 ?_
  refine go_iconst (pc := 10) 1 dX3_bend_10 ki_1 ?_
  refine go_iald' (pc := 11) 1 (by decide) (by decide) (kd32 (t := 11) (kadd ht rfl) rfl) (kln (kadd ht rfl) rfl) dX3_bend_11 ?_
  refine go_isub (pc := 12) dX3_bend_12 ?_
  refine go_abs (pc := 13) (gT_of (mtb2 (mt64 (mt64 (mt16 (mt4 (mt1 (mt1 (mt1 (List.Mem.head _))))))))) rfl) mw_abs1 mw_i mw_abs2 (by decide) (Nat.le_of_ble_eq_true rfl) dX3_bend_13 ?_
  refine go_bipush (pc := 16) 10 dX3_bend_16 kb_10 ?_
  refine go_idiv' (pc := 18) (by decide) dX3_bend_18 ?_
  refine go_slt ?_
  refine go_istore_nL (pc := 19) (L := fun x1 => [.ref t, .int x1]) dX3_bend_19 (Nat.le_of_ble_eq_true rfl) rfl (fun _ => rfl) (fun x1 => ?_)
  refine go_aload_n (pc := 20) dX3_bend_20 rfl ?_
  refine go_getI (pc := 21) flX3_28 rfl (kd32 (t := 4) ht rfl) dX3_bend_21 ?_
  refine go_iconst (pc := 24) 2 dX3_bend_24 ki_2 ?_
  refine go_site ?_
  refine go_icmpeq (pc := 25) 36 dX3_bend_25 (by decide) (fun _ => ?_) (fun _ => ?_)
  · refine go_iconst (pc := 36) 2 dX3_bend_36 ki_2 ?_
    refine go_iload_n (pc := 37) dX3_bend_37 rfl ?_
    refine go_imul (pc := 38) dX3_bend_38 ?_
    refine go_goto (pc := 39) 43 dX3_bend_39 (by decide) ?_
    exact go_ret dX3_bend_43 rii rfl rfl
  · refine go_aload_n (pc := 28) dX3_bend_28 rfl ?_
    refine go_getI (pc := 29) flX3_28 rfl (kd32 (t := 4) ht rfl) dX3_bend_29 ?_
    refine go_iconst (pc := 32) 5 dX3_bend_32 ki_5 ?_
    refine go_site ?_
    refine go_icmpne (pc := 33) 42 dX3_bend_33 (by decide) (fun _ => ?_) (fun _ => ?_)
    · refine go_iconst (pc := 36) 2 dX3_bend_36 ki_2 ?_
      refine go_iload_n (pc := 37) dX3_bend_37 rfl ?_
      refine go_imul (pc := 38) dX3_bend_38 ?_
      refine go_goto (pc := 39) 43 dX3_bend_39 (by decide) ?_
      exact go_ret dX3_bend_43 rii rfl rfl
    · refine go_iload_n (pc := 42) dX3_bend_42 rfl ?_
      exact go_ret dX3_bend_43 rii rfl rfl
def f_Dr_hang (t : Nat) (p1 : Int32) (M : Mem) : Int32 := lt (mxI 0 ((mI M t 3) - (mI M t 4))) fun x1 => if (mI M t 1) = 3 then x1 + (mI M t 2) else if (mI M t 1) = 6 then (x1 + (mI M t 2)) + (p1 / 2) else x1
theorem o_Dr_hang (t : Nat) (p1 : Int32) (ht : t % 131072 = 4) (M : Mem) : Ct sRC g_Dr_hang (fRi M) [.ref t, .int p1] (some (f_Dr_hang t p1 M)) M := by
  refine ⟨Nat.le_of_ble_eq_true rfl, ?_⟩
  show Go sRC g_Dr_hang (fRi M) (some (f_Dr_hang t p1 M)) 0 [.ref t, .int p1, .null] [] M
  refine go_def (congrArg some (f_Dr_hang.eq_1 ..)) ?_
  refine go_iconst (pc := 0) 0 dX3_hang_0 ki_0 ?_
  refine go_aload_n (pc := 1) dX3_hang_1 rfl ?_
  refine go_getI (pc := 2) flX3_34 rfl (kd32 (t := 4) ht rfl) dX3_hang_2 ?_
  refine go_aload_n (pc := 5) dX3_hang_5 rfl ?_
  refine go_getI (pc := 6) flX3_37 rfl (kd32 (t := 4) ht rfl) dX3_hang_6 ?_
  refine go_isub (pc := 9) dX3_hang_9 ?_
  refine go_max (pc := 10) (gT_of (mtb2 (mt64 (mt64 (mt16 (List.Mem.head _))))) rfl) mw_max1 mw_i mw_max2 (by decide) (Nat.le_of_ble_eq_true rfl) dX3_hang_10 ?_
  refine go_slt ?_
  refine go_istore_nL (pc := 13) (L := fun x1 => [.ref t, .int p1, .int x1]) dX3_hang_13 (Nat.le_of_ble_eq_true rfl) rfl (fun _ => rfl) (fun x1 => ?_)
  refine go_aload_n (pc := 14) dX3_hang_14 rfl ?_
  refine go_getI (pc := 15) flX3_28 rfl (kd32 (t := 4) ht rfl) dX3_hang_15 ?_
  refine go_site ?_
  refine go_lswC (pc := 18) (v := 3) (off := 26) 44 dX3_hang_18 (by decide) (by decide) (by decide) (fun _ => ?_) (fun n2 => ?_)
  · refine go_iload_n (pc := 44) dX3_hang_44 rfl ?_
    refine go_aload_n (pc := 45) dX3_hang_45 rfl ?_
    refine go_getI (pc := 46) flX3_31 rfl (kd32 (t := 4) ht rfl) dX3_hang_46 ?_
    refine go_iadd (pc := 49) dX3_hang_49 ?_
    exact go_ret dX3_hang_50 rii rfl rfl
  refine go_site ?_
  refine go_lswC (pc := 18) (v := 6) (off := 33) 51 dX3_hang_18 (by decide) (by decide) (by decide) (fun _ => ?_) (fun n3 => ?_)
  · refine go_iload_n (pc := 51) dX3_hang_51 rfl ?_
    refine go_aload_n (pc := 52) dX3_hang_52 rfl ?_
    refine go_getI (pc := 53) flX3_31 rfl (kd32 (t := 4) ht rfl) dX3_hang_53 ?_
    refine go_iadd (pc := 56) dX3_hang_56 ?_
    refine go_iload_n (pc := 57) dX3_hang_57 rfl ?_
    refine go_iconst (pc := 58) 2 dX3_hang_58 ki_2 ?_
    refine go_idiv' (pc := 59) (by decide) dX3_hang_59 ?_
    refine go_iadd (pc := 60) dX3_hang_60 ?_
    exact go_ret dX3_hang_61 rii rfl rfl
  refine go_lswD (pc := 18) 62 dX3_hang_18 (by decide) (by show Op.lookupswitch.offset ([(3, 26), (6, 33)] : List (Int × Int)) _ _ = _; rw [lv_osw n2 (show (3 : Int32).toInt = 3 by decide), lv_osw n3 (show (6 : Int32).toInt = 6 by decide)]; rfl) (by decide) ?_
  refine go_iload_n (pc := 62) dX3_hang_62 rfl ?_
  exact go_ret dX3_hang_63 rii rfl rfl
def f_Co_settle_b40 (t : Nat) (s0 : Int32) (M : Mem) : Option Mem := lt (setI M t 5 (f_Dr_swell (t + 393217) s0 M)) fun M7 => lt (setI M7 t 6 (f_Dr_bend (t + 393217) M7)) fun M8 => lt (setI M8 t 7 (f_Dr_hang (t + 393217) (mI M8 t 4) M8)) fun M9 => some M9
def f_Co_settle (t : Nat) (M : Mem) : Option Mem := b2 (f_Dr_factsIn (t + 393217) (mI M t 3) M) fun r2 M1 => gd (mR M1 t 0 % 131072 = 6) (if (mI M1 (mR M1 t 0) 1) = 0 then f_Co_settle_b40 t 1 M1 else gd (mR M1 t 0 % 131072 = 6) (gd (r2 % 32 = 11) (bd (f_Hs_total (mR M1 t 0) 0 r2 M1) fun r6 => f_Co_settle_b40 t r6 M1)))
theorem o_Co_settle_b40 (t : Nat) (ht : t % 131072 = 3) (s0 : Int32) (M : Mem) : Go sRC g_Co_settle fWv (f_Co_settle_b40 t s0 M) 40 [.ref t, .null] [.int s0, .ref (t + 393217), .ref t] M := by
  refine go_def (f_Co_settle_b40.eq_1 ..) ?_
  refine go_T (v := f_Dr_swell (t + 393217) s0 M) ?_
  refine go_callV (pc := 40) (a := t + 393217) (as := [.int s0]) (st := [.ref t]) (o_Dr_swell (t + 393217) s0 (kadd ht rfl) M) ic_Dr_swell ivX2_78 (rcvk (kadd ht rfl) (by decide) (by decide) rfl) rfl (by decide) (Nat.le_of_ble_eq_true rfl) dX2_settle_40 (kTi ?_)
  refine go_putI (pc := 43) flX2_82 rfl (Or.inl rfl) ⟨rfl, rfl⟩ (kd32 (t := 3) ht rfl) dX2_settle_43 (fun M7 => ?_)
  refine go_aload_n (pc := 46) dX2_settle_46 rfl ?_
  refine go_aload_n (pc := 47) dX2_settle_47 rfl ?_
  refine go_getS (pc := 48) (t + 393217) flX2_25 rfl (kd32 (t := 3) ht rfl) (sC_3_1 ht) (knz (by decide)) dX2_settle_48 ?_
  refine go_T (v := f_Dr_bend (t + 393217) M7) ?_
  refine go_callV (pc := 51) (a := t + 393217) (as := []) (st := [.ref t]) (o_Dr_bend (t + 393217) (kadd ht rfl) M7) ic_Dr_bend ivX2_84 (rcvk (kadd ht rfl) (by decide) (by decide) rfl) rfl (by decide) (Nat.le_of_ble_eq_true rfl) dX2_settle_51 (kTi ?_)
  refine go_putI (pc := 54) flX2_88 rfl (Or.inl rfl) ⟨rfl, rfl⟩ (kd32 (t := 3) ht rfl) dX2_settle_54 (fun M8 => ?_)
  refine go_aload_n (pc := 57) dX2_settle_57 rfl ?_
  refine go_aload_n (pc := 58) dX2_settle_58 rfl ?_
  refine go_getS (pc := 59) (t + 393217) flX2_25 rfl (kd32 (t := 3) ht rfl) (sC_3_1 ht) (knz (by decide)) dX2_settle_59 ?_
  refine go_aload_n (pc := 62) dX2_settle_62 rfl ?_
  refine go_getI (pc := 63) flX2_60 rfl (kd32 (t := 3) ht rfl) dX2_settle_63 ?_
  refine go_T (v := f_Dr_hang (t + 393217) (mI M8 t 4) M8) ?_
  refine go_callV (pc := 66) (a := t + 393217) (as := [.int (mI M8 t 4)]) (st := [.ref t]) (o_Dr_hang (t + 393217) (mI M8 t 4) (kadd ht rfl) M8) ic_Dr_hang ivX2_90 (rcvk (kadd ht rfl) (by decide) (by decide) rfl) rfl (by decide) (Nat.le_of_ble_eq_true rfl) dX2_settle_66 (kTi ?_)
  refine go_putI (pc := 69) flX2_93 rfl (Or.inl rfl) ⟨rfl, rfl⟩ (kd32 (t := 3) ht rfl) dX2_settle_69 (fun M9 => ?_)
  exact go_ret dX2_settle_72 rfl rfl rfl
theorem o_Co_settle (t : Nat) (ht : t % 131072 = 3) (M : Mem) : Ct sRC g_Co_settle fWv [.ref t] (f_Co_settle t M) M := by
  refine ⟨Nat.le_of_ble_eq_true rfl, ?_⟩
  show Go sRC g_Co_settle fWv (f_Co_settle t M) 0 [.ref t, .null] [] M
  refine go_def (f_Co_settle.eq_1 ..) ?_
  refine go_aload_n (pc := 0) dX2_settle_0 rfl ?_
  refine go_getS (pc := 1) (t + 393217) flX2_25 rfl (kd32 (t := 3) ht rfl) (sC_3_1 ht) (knz (by decide)) dX2_settle_1 ?_
  refine go_aload_n (pc := 4) dX2_settle_4 rfl ?_
  refine go_getI (pc := 5) flX2_56 rfl (kd32 (t := 3) ht rfl) dX2_settle_5 ?_
  refine go_callV (pc := 8) (a := t + 393217) (as := [.int (mI M t 3)]) (st := []) (o_Dr_factsIn (t + 393217) (mI M t 3) (kadd ht rfl) M) ic_Dr_factsIn ivX2_64 (rcvk (kadd ht rfl) (by decide) (by decide) rfl) rfl (by decide) (Nat.le_of_ble_eq_true rfl) dX2_settle_8 (kWr fun r2 M1 => ?_)
  refine go_astore_n (pc := 11) (ls' := [.ref t, .ref r2]) dX2_settle_11 (Nat.le_of_ble_eq_true rfl) rfl rfl ?_
  refine go_aload_n (pc := 12) dX2_settle_12 rfl ?_
  refine go_aload_n (pc := 13) dX2_settle_13 rfl ?_
  refine go_getS (pc := 14) (t + 393217) flX2_25 rfl (kd32 (t := 3) ht rfl) (sC_3_1 ht) (knz (by decide)) dX2_settle_14 ?_
  refine go_aload_n (pc := 17) dX2_settle_17 rfl ?_
  refine go_getR (pc := 18) flX2_16 rfl (kd32 (t := 3) ht rfl) dX2_settle_18 ?_
  refine go_gd fun g3 => ?_
  refine go_getI (pc := 21) flX2_68 rfl (kd32 (t := 6) g3 rfl) dX2_settle_21 ?_
  refine go_ifeq (pc := 24) 39 dX2_settle_24 (by decide) (fun _ => ?_) (fun _ => ?_)
  · refine go_iconst (pc := 39) 1 dX2_settle_39 ki_1 ?_
    refine go_sub (ls' := [.ref t, .null]) ⟨Or.inr rfl, Or.inl rfl, trivial⟩ ?_
    exact o_Co_settle_b40 t ht 1 M1
  · refine go_aload_n (pc := 27) dX2_settle_27 rfl ?_
    refine go_getR (pc := 28) flX2_16 rfl (kd32 (t := 3) ht rfl) dX2_settle_28 ?_
    refine go_iconst (pc := 31) 0 dX2_settle_31 ki_0 ?_
    refine go_aload_n (pc := 32) dX2_settle_32 rfl ?_
    refine go_gd fun g4 => ?_
    refine go_gd fun g5 => ?_
    refine go_callV (pc := 33) (a := mR M1 t 0) (as := [.int 0, .ref r2]) (st := [.ref (t + 393217), .ref t]) (o_Hs_total (mR M1 t 0) 0 r2 g4 g5 M1) ic_Hs_total ivX2_74 (rcvk g4 (by decide) (by decide) rfl) rfl (by decide) (Nat.le_of_ble_eq_true rfl) dX2_settle_33 (kRi fun r6 => ?_)
    refine go_goto (pc := 36) 40 dX2_settle_36 (by decide) ?_
    refine go_sub (ls' := [.ref t, .null]) ⟨Or.inr rfl, Or.inl rfl, trivial⟩ ?_
    exact o_Co_settle_b40 t ht r6 M1
def f_Co_begin (t : Nat) (p1 : Nat) (p2 : Nat) (p3 : Nat) (M : Mem) : Option Mem := lt (setR M t 0 p3) fun M1 => bd (f_Dr_become (t + 393217) p1 M1) fun M2 => gd (cpOK 0 0 12 (12) (12)) (lt (cpyI M2 (p2 + 131462) (0 : Int32).toNatClampNeg (t + 1048968) (0 : Int32).toNatClampNeg (12 : Int32).toNatClampNeg) fun M3 => lt (setI M3 t 3 (mI M3 p2 4)) fun M4 => lt (setI M4 t 4 (mI M4 p2 3)) fun M5 => bd (f_Co_settle t M5) fun M6 => some M6)
theorem o_Co_begin (t : Nat) (p1 : Nat) (p2 : Nat) (p3 : Nat) (ht : t % 131072 = 3) (hp1 : p1 % 131072 = 4) (hp2 : p2 % 131072 = 5) (hp3 : p3 % 131072 = 6) (M : Mem) : Ct sRC g_Co_begin fWv [.ref t, .ref p1, .ref p2, .ref p3] (f_Co_begin t p1 p2 p3 M) M := by
  refine ⟨Nat.le_of_ble_eq_true rfl, ?_⟩
  show Go sRC g_Co_begin fWv (f_Co_begin t p1 p2 p3 M) 0 [.ref t, .ref p1, .ref p2, .ref p3] [] M
  refine go_def (f_Co_begin.eq_1 ..) ?_
  refine go_aload_n (pc := 0) dX2_begin_0 rfl ?_
  refine go_aload_n (pc := 1) dX2_begin_1 rfl ?_
  refine go_putR (pc := 2) flX2_16 rfl (Or.inl rfl) (kd32 (t := 3) ht rfl) (sCz_3_0 ht) dX2_begin_2 (fun M1 => ?_)
  refine go_aload_n (pc := 5) dX2_begin_5 rfl ?_
  refine go_getS (pc := 6) (t + 393217) flX2_25 rfl (kd32 (t := 3) ht rfl) (sC_3_1 ht) (knz (by decide)) dX2_begin_6 ?_
  refine go_aload_n (pc := 9) dX2_begin_9 rfl ?_
  refine go_callV (pc := 10) (a := t + 393217) (as := [.ref p1]) (st := []) (o_Dr_become (t + 393217) p1 (kadd ht rfl) hp1 M1) ic_Dr_become ivX2_39 (rcvk (kadd ht rfl) (by decide) (by decide) rfl) rfl (by decide) (Nat.le_of_ble_eq_true rfl) dX2_begin_10 (kWv fun M2 => ?_)
  refine go_aload_n (pc := 13) dX2_begin_13 rfl ?_
  refine go_getS (pc := 14) (p2 + 131462) flX2_43 rfl (kd32 (t := 5) hp2 rfl) (sC_5_0 hp2) (knz (by decide)) dX2_begin_14 ?_
  refine go_iconst (pc := 17) 0 dX2_begin_17 ki_0 ?_
  refine go_aload_n (pc := 18) dX2_begin_18 rfl ?_
  refine go_getS (pc := 19) (t + 1048968) flX2_29 rfl (kd32 (t := 3) ht rfl) (sC_3_2 ht) (knz (by decide)) dX2_begin_19 ?_
  refine go_iconst (pc := 22) 0 dX2_begin_22 ki_0 ?_
  refine go_bipush (pc := 23) 12 dX2_begin_23 kb_12 ?_
  refine go_copyI (pc := 25) (kd32 (t := 11) (kadd hp2 rfl) rfl) (kd32 (t := 11) (kadd ht rfl) rfl) (kln (kadd hp2 rfl) rfl) (kln (kadd ht rfl) rfl) (gT_of (mtb2 (mt64 (mt16 (mt16 (mt16 (mt1 (mt1 (mt1 (List.Mem.head _))))))))) rfl) ac1 ac2 ac3 (by decide) (Nat.le_of_ble_eq_true rfl) dX2_begin_25 (fun _ M3 => ?_)
  refine go_aload_n (pc := 28) dX2_begin_28 rfl ?_
  refine go_aload_n (pc := 29) dX2_begin_29 rfl ?_
  refine go_getI (pc := 30) flX2_52 rfl (kd32 (t := 5) hp2 rfl) dX2_begin_30 ?_
  refine go_putI (pc := 33) flX2_56 rfl (Or.inl rfl) ⟨rfl, rfl⟩ (kd32 (t := 3) ht rfl) dX2_begin_33 (fun M4 => ?_)
  refine go_aload_n (pc := 36) dX2_begin_36 rfl ?_
  refine go_aload_n (pc := 37) dX2_begin_37 rfl ?_
  refine go_getI (pc := 38) flX2_57 rfl (kd32 (t := 5) hp2 rfl) dX2_begin_38 ?_
  refine go_putI (pc := 41) flX2_60 rfl (Or.inl rfl) ⟨rfl, rfl⟩ (kd32 (t := 3) ht rfl) dX2_begin_41 (fun M5 => ?_)
  refine go_aload_n (pc := 44) dX2_begin_44 rfl ?_
  refine go_callV (pc := 45) (a := t) (as := []) (st := []) (o_Co_settle t ht M5) ic_Co_settle ivX2_61 (rcvk ht (by decide) (by decide) rfl) rfl (by decide) (Nat.le_of_ble_eq_true rfl) dX2_begin_45 (kWv fun M6 => ?_)
  exact go_ret dX2_begin_48 rfl rfl rfl
def f_Dr_takeUp_l2 (t : Nat) : Nat → Int32 → Int32 → Mem → Option Mem
  | 0, _, _, _ => none
  | n + 1, v1, v2, M => if 2 ≤ v2 then some M else gd (inR v2 2) (gd (inR v2 2) (gd (inR v2 2) (if (mI M (t + 262215) v2.toNatClampNeg) = 0 then gd (inR v2 2) (lt (setI M (t + 131143) v2.toNatClampNeg ((mI M (t + 131143) v2.toNatClampNeg) + ((v1 - (mI M (t + 131143) v2.toNatClampNeg)) / 2))) fun M3 => lt (v2 + 1) fun x4 => f_Dr_takeUp_l2 t n v1 x4 M3) else gd (inR v2 2) (lt (setI M (t + 131143) v2.toNatClampNeg ((mI M (t + 131143) v2.toNatClampNeg) + ((v1 - (mI M (t + 131143) v2.toNatClampNeg)) / 8))) fun M1 => lt (v2 + 1) fun x2 => f_Dr_takeUp_l2 t n v1 x2 M1))))
def f_Dr_takeUp (t : Nat) (p1 : Int32) (M : Mem) : Option Mem := f_Dr_takeUp_l2 t 200 p1 0 M
theorem o_Dr_takeUp_l2 (t : Nat) (ht : t % 131072 = 4) : ∀ (n : Nat) (v1 : Int32) (v2 : Int32) (M : Mem), Go sRC g_Dr_takeUp fWv (f_Dr_takeUp_l2 t n v1 v2 M) 2 [.ref t, .int v1, .int v2] [] M := by
  intro n
  induction n with
  | zero =>
    intro v1 v2 M
    exact go_def (f_Dr_takeUp_l2.eq_1 ..) go_none
  | succ n ih =>
    intro v1 v2 M
    refine go_def (f_Dr_takeUp_l2.eq_2 ..) ?_
    refine go_iload_n (pc := 2) dX3_takeUp_2 rfl ?_
    refine go_iconst (pc := 3) 2 dX3_takeUp_3 ki_2 ?_
    refine go_icmpge (pc := 4) 46 dX3_takeUp_4 (by decide) (fun _ => ?_) (fun _ => ?_)
    · exact go_ret dX3_takeUp_46 rfl rfl rfl
    · refine go_aload_n (pc := 7) dX3_takeUp_7 rfl ?_
      refine go_getS (pc := 8) (t + 131143) flX3_9 rfl (kd32 (t := 4) ht rfl) (sC_4_5 ht) (knz (by decide)) dX3_takeUp_8 ?_
      refine go_iload_n (pc := 11) dX3_takeUp_11 rfl ?_
      refine go_dup2 (pc := 12) dX3_takeUp_12 rfl rfl ?_
      refine go_iald (pc := 13) (kd32 (t := 11) (kadd ht rfl) rfl) (kln (kadd ht rfl) rfl) dX3_takeUp_13 (fun _ => ?_)
      refine go_iload_n (pc := 14) dX3_takeUp_14 rfl ?_
      refine go_aload_n (pc := 15) dX3_takeUp_15 rfl ?_
      refine go_getS (pc := 16) (t + 131143) flX3_9 rfl (kd32 (t := 4) ht rfl) (sC_4_5 ht) (knz (by decide)) dX3_takeUp_16 ?_
      refine go_iload_n (pc := 19) dX3_takeUp_19 rfl ?_
      refine go_iald (pc := 20) (kd32 (t := 11) (kadd ht rfl) rfl) (kln (kadd ht rfl) rfl) dX3_takeUp_20 (fun _ => ?_)
      refine go_isub (pc := 21) dX3_takeUp_21 ?_
      refine go_aload_n (pc := 22) dX3_takeUp_22 rfl ?_
      refine go_getS (pc := 23) (t + 262215) flX3_15 rfl (kd32 (t := 4) ht rfl) (sC_4_6 ht) (knz (by decide)) dX3_takeUp_23 ?_
      refine go_iload_n (pc := 26) dX3_takeUp_26 rfl ?_
      refine go_iald (pc := 27) (kd32 (t := 11) (kadd ht rfl) rfl) (kln (kadd ht rfl) rfl) dX3_takeUp_27 (fun _ => ?_)
      refine go_ifne (pc := 28) 35 dX3_takeUp_28 (by decide) (fun _ => ?_) (fun _ => ?_)
      · refine go_iconst (pc := 31) 2 dX3_takeUp_31 ki_2 ?_
        refine go_goto (pc := 32) 37 dX3_takeUp_32 (by decide) ?_
        refine go_idiv' (pc := 37) (by decide) dX3_takeUp_37 ?_
        refine go_iadd (pc := 38) dX3_takeUp_38 ?_
        refine go_iast (pc := 39) (kd32 (t := 11) (kadd ht rfl) rfl) (kln (kadd ht rfl) rfl) dX3_takeUp_39 (fun _ M3 => ?_)
        refine go_iincL (pc := 40) (L := fun x4 => [.ref t, .int v1, .int x4]) 1 dX3_takeUp_40 rfl ki_1 (Nat.le_of_ble_eq_true rfl) rfl (fun _ => rfl) (fun x4 => ?_)
        refine go_goto (pc := 43) 2 dX3_takeUp_43 (by decide) ?_
        exact ih v1 x4 M3
      · refine go_bipush (pc := 35) 8 dX3_takeUp_35 kb_8 ?_
        refine go_idiv' (pc := 37) (by decide) dX3_takeUp_37 ?_
        refine go_iadd (pc := 38) dX3_takeUp_38 ?_
        refine go_iast (pc := 39) (kd32 (t := 11) (kadd ht rfl) rfl) (kln (kadd ht rfl) rfl) dX3_takeUp_39 (fun _ M1 => ?_)
        refine go_iincL (pc := 40) (L := fun x2 => [.ref t, .int v1, .int x2]) 1 dX3_takeUp_40 rfl ki_1 (Nat.le_of_ble_eq_true rfl) rfl (fun _ => rfl) (fun x2 => ?_)
        refine go_goto (pc := 43) 2 dX3_takeUp_43 (by decide) ?_
        exact ih v1 x2 M1
theorem o_Dr_takeUp (t : Nat) (p1 : Int32) (ht : t % 131072 = 4) (M : Mem) : Ct sRC g_Dr_takeUp fWv [.ref t, .int p1] (f_Dr_takeUp t p1 M) M := by
  refine ⟨Nat.le_of_ble_eq_true rfl, ?_⟩
  show Go sRC g_Dr_takeUp fWv (f_Dr_takeUp t p1 M) 0 [.ref t, .int p1, .null] [] M
  refine go_def (f_Dr_takeUp.eq_1 ..) ?_
  refine go_iconst (pc := 0) 0 dX3_takeUp_0 ki_0 ?_
  refine go_istore_n (pc := 1) (ls' := [.ref t, .int p1, .int 0]) dX3_takeUp_1 (Nat.le_of_ble_eq_true rfl) rfl rfl ?_
  exact o_Dr_takeUp_l2 t ht 200 p1 0 M
def f_Dr_drawOut (t : Nat) (p1 : Int32) (M : Mem) : Option Mem := lt (setI M t 3 (mnI 20 ((mI M t 3) + p1))) fun M1 => some M1
theorem o_Dr_drawOut (t : Nat) (p1 : Int32) (ht : t % 131072 = 4) (M : Mem) : Ct sRC g_Dr_drawOut fWv [.ref t, .int p1] (f_Dr_drawOut t p1 M) M := by
  refine ⟨Nat.le_of_ble_eq_true rfl, ?_⟩
  show Go sRC g_Dr_drawOut fWv (f_Dr_drawOut t p1 M) 0 [.ref t, .int p1] [] M
  refine go_def (f_Dr_drawOut.eq_1 ..) ?_
  refine go_aload_n (pc := 0) dX3_drawOut_0 rfl ?_
  refine go_bipush (pc := 1) 20 dX3_drawOut_1 kb_20 ?_
  refine go_aload_n (pc := 3) dX3_drawOut_3 rfl ?_
  refine go_getI (pc := 4) flX3_34 rfl (kd32 (t := 4) ht rfl) dX3_drawOut_4 ?_
  refine go_iload_n (pc := 7) dX3_drawOut_7 rfl ?_
  refine go_iadd (pc := 8) dX3_drawOut_8 ?_
  refine go_min (pc := 9) (gT_of (mtb3 (mt64 (mt64 (mt16 (mt16 (mt4 (mt4 (mt4 (mt1 (List.Mem.head _)))))))))) rfl) mw_min1 mw_i mw_min2 (by decide) (Nat.le_of_ble_eq_true rfl) dX3_drawOut_9 ?_
  refine go_putI (pc := 12) flX3_34 rfl (Or.inl rfl) ⟨rfl, rfl⟩ (kd32 (t := 4) ht rfl) dX3_drawOut_12 (fun M1 => ?_)
  exact go_ret dX3_drawOut_15 rfl rfl rfl
def f_D_sunk (p1 : Int32) (p2 : Int32) (p3 : Int32) (M : Mem) : Int32 := if (p2 - p2 / 12 * 12) = 0 then mnI 20 (p1 + p3) else p1
theorem o_D_sunk (p1 : Int32) (p2 : Int32) (p3 : Int32) (M : Mem) : Ct sRC g_D_sunk (fRi M) [.int p1, .int p2, .int p3] (some (f_D_sunk p1 p2 p3 M)) M := by
  refine ⟨Nat.le_of_ble_eq_true rfl, ?_⟩
  show Go sRC g_D_sunk (fRi M) (some (f_D_sunk p1 p2 p3 M)) 0 [.int p1, .int p2, .int p3] [] M
  refine go_def (congrArg some (f_D_sunk.eq_1 ..)) ?_
  refine go_iload_n (pc := 0) dX8_sunk_0 rfl ?_
  refine go_bipush (pc := 1) 12 dX8_sunk_1 kb_12 ?_
  refine go_irem' (pc := 3) (by decide) dX8_sunk_3 ?_
  refine go_site ?_
  refine go_ifne (pc := 4) 18 dX8_sunk_4 (by decide) (fun _ => ?_) (fun _ => ?_)
  · refine go_bipush (pc := 7) 20 dX8_sunk_7 kb_20 ?_
    refine go_iload_n (pc := 9) dX8_sunk_9 rfl ?_
    refine go_iload_n (pc := 10) dX8_sunk_10 rfl ?_
    refine go_iadd (pc := 11) dX8_sunk_11 ?_
    refine go_min (pc := 12) (gT_of (mtb3 (mt64 (mt64 (mt16 (mt16 (mt16 (mt1 (List.Mem.head _)))))))) rfl) mw_min1 mw_i mw_min2 (by decide) (Nat.le_of_ble_eq_true rfl) dX8_sunk_12 ?_
    refine go_goto (pc := 15) 19 dX8_sunk_15 (by decide) ?_
    exact go_ret dX8_sunk_19 rii rfl rfl
  · refine go_iload_n (pc := 18) dX8_sunk_18 rfl ?_
    exact go_ret dX8_sunk_19 rii rfl rfl
def f_Co_pass (t : Nat) (p1 : Int32) (M : Mem) : Option Mem := bd (f_Dr_takeUp (t + 393217) p1 M) fun M1 => b2 (f_Dr_factsIn (t + 393217) (mI M1 t 3) M1) fun r3 M2 => gd (mR M1 t 0 % 131072 = 6) (gd (r3 % 32 = 11) (bd (f_Hs_total (mR M1 t 0) 1 r3 M2) fun r6 => bd (f_Dr_drawOut (t + 393217) r6 M2) fun M7 => lt (setI M7 t 3 ((mI M7 t 3) + 1)) fun M8 => gd (mR M8 t 0 % 131072 = 6) (lt (setI M8 t 4 (f_D_sunk (mI M8 t 4) (mI M8 t 3) (mI M8 (mR M8 t 0) 2) M8)) fun M10 => some M10)))
theorem o_Co_pass (t : Nat) (p1 : Int32) (ht : t % 131072 = 3) (M : Mem) : Ct sRC g_Co_pass fWv [.ref t, .int p1] (f_Co_pass t p1 M) M := by
  refine ⟨Nat.le_of_ble_eq_true rfl, ?_⟩
  show Go sRC g_Co_pass fWv (f_Co_pass t p1 M) 0 [.ref t, .int p1] [] M
  refine go_def (f_Co_pass.eq_1 ..) ?_
  refine go_aload_n (pc := 0) dX2_pass_0 rfl ?_
  refine go_getS (pc := 1) (t + 393217) flX2_25 rfl (kd32 (t := 3) ht rfl) (sC_3_1 ht) (knz (by decide)) dX2_pass_1 ?_
  refine go_iload_n (pc := 4) dX2_pass_4 rfl ?_
  refine go_callV (pc := 5) (a := t + 393217) (as := [.int p1]) (st := []) (o_Dr_takeUp (t + 393217) p1 (kadd ht rfl) M) ic_Dr_takeUp ivX2_95 (rcvk (kadd ht rfl) (by decide) (by decide) rfl) rfl (by decide) (Nat.le_of_ble_eq_true rfl) dX2_pass_5 (kWv fun M1 => ?_)
  refine go_aload_n (pc := 8) dX2_pass_8 rfl ?_
  refine go_getS (pc := 9) (t + 393217) flX2_25 rfl (kd32 (t := 3) ht rfl) (sC_3_1 ht) (knz (by decide)) dX2_pass_9 ?_
  refine go_aload_n (pc := 12) dX2_pass_12 rfl ?_
  refine go_getR (pc := 13) flX2_16 rfl (kd32 (t := 3) ht rfl) dX2_pass_13 ?_
  refine go_iconst (pc := 16) 1 dX2_pass_16 ki_1 ?_
  refine go_aload_n (pc := 17) dX2_pass_17 rfl ?_
  refine go_getS (pc := 18) (t + 393217) flX2_25 rfl (kd32 (t := 3) ht rfl) (sC_3_1 ht) (knz (by decide)) dX2_pass_18 ?_
  refine go_aload_n (pc := 21) dX2_pass_21 rfl ?_
  refine go_getI (pc := 22) flX2_56 rfl (kd32 (t := 3) ht rfl) dX2_pass_22 ?_
  refine go_callV (pc := 25) (a := t + 393217) (as := [.int (mI M1 t 3)]) (st := [.int 1, .ref (mR M1 t 0), .ref (t + 393217)]) (o_Dr_factsIn (t + 393217) (mI M1 t 3) (kadd ht rfl) M1) ic_Dr_factsIn ivX2_64 (rcvk (kadd ht rfl) (by decide) (by decide) rfl) rfl (by decide) (Nat.le_of_ble_eq_true rfl) dX2_pass_25 (kWr fun r3 M2 => ?_)
  refine go_gd fun g4 => ?_
  refine go_gd fun g5 => ?_
  refine go_callV (pc := 28) (a := mR M1 t 0) (as := [.int 1, .ref r3]) (st := [.ref (t + 393217)]) (o_Hs_total (mR M1 t 0) 1 r3 g4 g5 M2) ic_Hs_total ivX2_74 (rcvk g4 (by decide) (by decide) rfl) rfl (by decide) (Nat.le_of_ble_eq_true rfl) dX2_pass_28 (kRi fun r6 => ?_)
  refine go_callV (pc := 31) (a := t + 393217) (as := [.int r6]) (st := []) (o_Dr_drawOut (t + 393217) r6 (kadd ht rfl) M2) ic_Dr_drawOut ivX2_99 (rcvk (kadd ht rfl) (by decide) (by decide) rfl) rfl (by decide) (Nat.le_of_ble_eq_true rfl) dX2_pass_31 (kWv fun M7 => ?_)
  refine go_aload_n (pc := 34) dX2_pass_34 rfl ?_
  refine go_dup (pc := 35) dX2_pass_35 rfl ?_
  refine go_getI (pc := 36) flX2_56 rfl (kd32 (t := 3) ht rfl) dX2_pass_36 ?_
  refine go_iconst (pc := 39) 1 dX2_pass_39 ki_1 ?_
  refine go_iadd (pc := 40) dX2_pass_40 ?_
  refine go_putI (pc := 41) flX2_56 rfl (Or.inl rfl) ⟨rfl, rfl⟩ (kd32 (t := 3) ht rfl) dX2_pass_41 (fun M8 => ?_)
  refine go_aload_n (pc := 44) dX2_pass_44 rfl ?_
  refine go_aload_n (pc := 45) dX2_pass_45 rfl ?_
  refine go_getI (pc := 46) flX2_60 rfl (kd32 (t := 3) ht rfl) dX2_pass_46 ?_
  refine go_aload_n (pc := 49) dX2_pass_49 rfl ?_
  refine go_getI (pc := 50) flX2_56 rfl (kd32 (t := 3) ht rfl) dX2_pass_50 ?_
  refine go_aload_n (pc := 53) dX2_pass_53 rfl ?_
  refine go_getR (pc := 54) flX2_16 rfl (kd32 (t := 3) ht rfl) dX2_pass_54 ?_
  refine go_gd fun g9 => ?_
  refine go_getI (pc := 57) flX2_102 rfl (kd32 (t := 6) g9 rfl) dX2_pass_57 ?_
  refine go_T (v := f_D_sunk (mI M8 t 4) (mI M8 t 3) (mI M8 (mR M8 t 0) 2) M8) ?_
  refine go_callSN (pc := 60) (as := [.int (mI M8 t 4), .int (mI M8 t 3), .int (mI M8 (mR M8 t 0) 2)]) (st := [.ref t]) (o_D_sunk (mI M8 t 4) (mI M8 t 3) (mI M8 (mR M8 t 0) 2) M8) ic_D_sunk ivX2_105 rfl (by decide) (Nat.le_of_ble_eq_true rfl) dX2_pass_60 (kTi ?_)
  refine go_putI (pc := 63) flX2_60 rfl (Or.inl rfl) ⟨rfl, rfl⟩ (kd32 (t := 3) ht rfl) dX2_pass_63 (fun M10 => ?_)
  exact go_ret dX2_pass_66 rfl rfl rfl
def f_Co_goInAir (t : Nat) (p1 : Int32) (M : Mem) : Option Mem := bd (f_Co_pass t p1 M) fun M1 => bd (f_Co_settle t M1) fun M2 => some M2
theorem o_Co_goInAir (t : Nat) (p1 : Int32) (ht : t % 131072 = 3) (M : Mem) : Ct sRC g_Co_goInAir fWv [.ref t, .int p1] (f_Co_goInAir t p1 M) M := by
  refine ⟨Nat.le_of_ble_eq_true rfl, ?_⟩
  show Go sRC g_Co_goInAir fWv (f_Co_goInAir t p1 M) 0 [.ref t, .int p1] [] M
  refine go_def (f_Co_goInAir.eq_1 ..) ?_
  refine go_aload_n (pc := 0) dX2_goInAir_0 rfl ?_
  refine go_iload_n (pc := 1) dX2_goInAir_1 rfl ?_
  refine go_callV (pc := 2) (a := t) (as := [.int p1]) (st := []) (o_Co_pass t p1 ht M) ic_Co_pass ivX2_109 (rcvk ht (by decide) (by decide) rfl) rfl (by decide) (Nat.le_of_ble_eq_true rfl) dX2_goInAir_2 (kWv fun M1 => ?_)
  refine go_aload_n (pc := 5) dX2_goInAir_5 rfl ?_
  refine go_callV (pc := 6) (a := t) (as := []) (st := []) (o_Co_settle t ht M1) ic_Co_settle ivX2_61 (rcvk ht (by decide) (by decide) rfl) rfl (by decide) (Nat.le_of_ble_eq_true rfl) dX2_goInAir_6 (kWv fun M2 => ?_)
  exact go_ret dX2_goInAir_9 rfl rfl rfl
def f_Co_goOn_l2 (t : Nat) : Nat → Int32 → Int32 → Mem → Option Mem
  | 0, _, _, _ => none
  | n + 1, v1, v2, M => if v1 ≤ v2 then bd (f_Co_settle t M) fun M1 => some M1 else gd (inR ((mI M t 3) - (mI M t 3) / 12 * 12) 12) (bd (f_Co_pass t (mI M (t + 1048968) ((mI M t 3) - (mI M t 3) / 12 * 12).toNatClampNeg) M) fun M2 => lt (v2 + 1) fun x3 => f_Co_goOn_l2 t n v1 x3 M2)
def f_Co_goOn (t : Nat) (p1 : Int32) (M : Mem) : Option Mem := f_Co_goOn_l2 t 200 p1 0 M
theorem o_Co_goOn_l2 (t : Nat) (ht : t % 131072 = 3) : ∀ (n : Nat) (v1 : Int32) (v2 : Int32) (M : Mem), Go sRC g_Co_goOn fWv (f_Co_goOn_l2 t n v1 v2 M) 2 [.ref t, .int v1, .int v2] [] M := by
  intro n
  induction n with
  | zero =>
    intro v1 v2 M
    exact go_def (f_Co_goOn_l2.eq_1 ..) go_none
  | succ n ih =>
    intro v1 v2 M
    refine go_def (f_Co_goOn_l2.eq_2 ..) ?_
    refine go_iload_n (pc := 2) dX2_goOn_2 rfl ?_
    refine go_iload_n (pc := 3) dX2_goOn_3 rfl ?_
    refine go_icmpge (pc := 4) 29 dX2_goOn_4 (by decide) (fun _ => ?_) (fun _ => ?_)
    · refine go_aload_n (pc := 29) dX2_goOn_29 rfl ?_
      refine go_callV (pc := 30) (a := t) (as := []) (st := []) (o_Co_settle t ht M) ic_Co_settle ivX2_61 (rcvk ht (by decide) (by decide) rfl) rfl (by decide) (Nat.le_of_ble_eq_true rfl) dX2_goOn_30 (kWv fun M1 => ?_)
      exact go_ret dX2_goOn_33 rfl rfl rfl
    · refine go_aload_n (pc := 7) dX2_goOn_7 rfl ?_
      refine go_aload_n (pc := 8) dX2_goOn_8 rfl ?_
      refine go_getS (pc := 9) (t + 1048968) flX2_29 rfl (kd32 (t := 3) ht rfl) (sC_3_2 ht) (knz (by decide)) dX2_goOn_9 ?_
      refine go_aload_n (pc := 12) dX2_goOn_12 rfl ?_
      refine go_getI (pc := 13) flX2_56 rfl (kd32 (t := 3) ht rfl) dX2_goOn_13 ?_
      refine go_bipush (pc := 16) 12 dX2_goOn_16 kb_12 ?_
      refine go_irem' (pc := 18) (by decide) dX2_goOn_18 ?_
      refine go_iald (pc := 19) (kd32 (t := 11) (kadd ht rfl) rfl) (kln (kadd ht rfl) rfl) dX2_goOn_19 (fun _ => ?_)
      refine go_callV (pc := 20) (a := t) (as := [.int (mI M (t + 1048968) ((mI M t 3) - (mI M t 3) / 12 * 12).toNatClampNeg)]) (st := []) (o_Co_pass t (mI M (t + 1048968) ((mI M t 3) - (mI M t 3) / 12 * 12).toNatClampNeg) ht M) ic_Co_pass ivX2_109 (rcvk ht (by decide) (by decide) rfl) rfl (by decide) (Nat.le_of_ble_eq_true rfl) dX2_goOn_20 (kWv fun M2 => ?_)
      refine go_iincL (pc := 23) (L := fun x3 => [.ref t, .int v1, .int x3]) 1 dX2_goOn_23 rfl ki_1 (Nat.le_of_ble_eq_true rfl) rfl (fun _ => rfl) (fun x3 => ?_)
      refine go_goto (pc := 26) 2 dX2_goOn_26 (by decide) ?_
      exact ih v1 x3 M2
theorem o_Co_goOn (t : Nat) (p1 : Int32) (ht : t % 131072 = 3) (M : Mem) : Ct sRC g_Co_goOn fWv [.ref t, .int p1] (f_Co_goOn t p1 M) M := by
  refine ⟨Nat.le_of_ble_eq_true rfl, ?_⟩
  show Go sRC g_Co_goOn fWv (f_Co_goOn t p1 M) 0 [.ref t, .int p1, .null] [] M
  refine go_def (f_Co_goOn.eq_1 ..) ?_
  refine go_iconst (pc := 0) 0 dX2_goOn_0 ki_0 ?_
  refine go_istore_n (pc := 1) (ls' := [.ref t, .int p1, .int 0]) dX2_goOn_1 (Nat.le_of_ble_eq_true rfl) rfl rfl ?_
  exact o_Co_goOn_l2 t ht 200 p1 0 M
def f_D_isSpot (p1 : Int32) (M : Mem) : Int32 := f_D_within p1 0 5 M
theorem o_D_isSpot (p1 : Int32) (M : Mem) : Ct sRC g_D_isSpot (fRi M) [.int p1] (some (f_D_isSpot p1 M)) M := by
  refine ⟨Nat.le_of_ble_eq_true rfl, ?_⟩
  show Go sRC g_D_isSpot (fRi M) (some (f_D_isSpot p1 M)) 0 [.int p1] [] M
  refine go_def (congrArg some (f_D_isSpot.eq_1 ..)) ?_
  refine go_iload_n (pc := 0) dX8_isSpot_0 rfl ?_
  refine go_iconst (pc := 1) 0 dX8_isSpot_1 ki_0 ?_
  refine go_iconst (pc := 2) 5 dX8_isSpot_2 ki_5 ?_
  refine go_T (v := f_D_within p1 0 5 M) ?_
  refine go_callS (pc := 3) (as := [.int p1, .int 0, .int 5]) (st := []) (o_D_within p1 0 5 M) ic_D_within ivX8_67 rfl (by decide) (Nat.le_of_ble_eq_true rfl) dX8_isSpot_3 (kTi ?_)
  exact go_ret dX8_isSpot_6 (rbz (o_D_within_b p1 0 5 M)) rfl rfl
theorem o_D_isSpot_b (p1 : Int32) (M : Mem) : f_D_isSpot p1 M = 0 ∨ f_D_isSpot p1 M = 1 := by
  unfold f_D_isSpot
  first | exact o_D_within_b p1 0 5 M | (repeat' split) <;> first | exact Or.inl rfl | exact Or.inr rfl | assumption | exact o_D_within_b ..
def f_D_takenUp (p1 : Int32) (p2 : Int32) (p3 : Int32) (p4 : Int32) (p5 : Int32) (p6 : Int32) (M : Mem) : Int32 := if p1 = 0 then p5 else if p1 = 1 then p5 - p3 else if p1 = 2 then (p2 + p3) + p4 else if p1 = 3 then (p2 - p3) + p4 else if p1 = 4 then p3 else p6
theorem o_D_takenUp (p1 : Int32) (p2 : Int32) (p3 : Int32) (p4 : Int32) (p5 : Int32) (p6 : Int32) (M : Mem) : Ct sRC g_D_takenUp (fRi M) [.int p1, .int p2, .int p3, .int p4, .int p5, .int p6] (some (f_D_takenUp p1 p2 p3 p4 p5 p6 M)) M := by
  refine ⟨Nat.le_of_ble_eq_true rfl, ?_⟩
  show Go sRC g_D_takenUp (fRi M) (some (f_D_takenUp p1 p2 p3 p4 p5 p6 M)) 0 [.int p1, .int p2, .int p3, .int p4, .int p5, .int p6] [] M
  refine go_def (congrArg some (f_D_takenUp.eq_1 ..)) ?_
  refine go_iload_n (pc := 0) dX8_takenUp_0 rfl ?_
  refine go_site ?_
  refine go_tswC (pc := 1) (v := 0) (off := 35) 36 dX8_takenUp_1 (by decide) (by decide) (by decide) (fun _ => ?_) (fun n1 => ?_)
  · refine go_iload (pc := 36) dX8_takenUp_36 rfl ?_
    exact go_ret dX8_takenUp_38 rii rfl rfl
  refine go_site ?_
  refine go_tswC (pc := 1) (v := 1) (off := 38) 39 dX8_takenUp_1 (by decide) (by decide) (by decide) (fun _ => ?_) (fun n2 => ?_)
  · refine go_iload (pc := 39) dX8_takenUp_39 rfl ?_
    refine go_iload_n (pc := 41) dX8_takenUp_41 rfl ?_
    refine go_isub (pc := 42) dX8_takenUp_42 ?_
    exact go_ret dX8_takenUp_43 rii rfl rfl
  refine go_site ?_
  refine go_tswC (pc := 1) (v := 2) (off := 43) 44 dX8_takenUp_1 (by decide) (by decide) (by decide) (fun _ => ?_) (fun n3 => ?_)
  · refine go_iload_n (pc := 44) dX8_takenUp_44 rfl ?_
    refine go_iload_n (pc := 45) dX8_takenUp_45 rfl ?_
    refine go_iadd (pc := 46) dX8_takenUp_46 ?_
    refine go_iload_n (pc := 47) dX8_takenUp_47 rfl ?_
    refine go_iadd (pc := 48) dX8_takenUp_48 ?_
    exact go_ret dX8_takenUp_49 rii rfl rfl
  refine go_site ?_
  refine go_tswC (pc := 1) (v := 3) (off := 49) 50 dX8_takenUp_1 (by decide) (by decide) (by decide) (fun _ => ?_) (fun n4 => ?_)
  · refine go_iload_n (pc := 50) dX8_takenUp_50 rfl ?_
    refine go_iload_n (pc := 51) dX8_takenUp_51 rfl ?_
    refine go_isub (pc := 52) dX8_takenUp_52 ?_
    refine go_iload_n (pc := 53) dX8_takenUp_53 rfl ?_
    refine go_iadd (pc := 54) dX8_takenUp_54 ?_
    exact go_ret dX8_takenUp_55 rii rfl rfl
  refine go_site ?_
  refine go_tswC (pc := 1) (v := 4) (off := 55) 56 dX8_takenUp_1 (by decide) (by decide) (by decide) (fun _ => ?_) (fun n5 => ?_)
  · refine go_iload_n (pc := 56) dX8_takenUp_56 rfl ?_
    exact go_ret dX8_takenUp_57 rii rfl rfl
  refine go_tswD (pc := 1) 58 dX8_takenUp_1 (by have n1t := lv_neT n1 (show (0 : Int32).toInt = 0 by decide); have n2t := lv_neT n2 (show (1 : Int32).toInt = 1 by decide); have n3t := lv_neT n3 (show (2 : Int32).toInt = 2 by decide); have n4t := lv_neT n4 (show (3 : Int32).toInt = 3 by decide); have n5t := lv_neT n5 (show (4 : Int32).toInt = 4 by decide); rcases (show p1.toInt < 0 ∨ 4 < p1.toInt by omega) with h | h <;> first | exact Or.inl h | exact Or.inr (Or.inl h) | exact Or.inr (Or.inr (by rw [h]; decide))) (by decide) ?_
  refine go_iload (pc := 58) dX8_takenUp_58 rfl ?_
  exact go_ret dX8_takenUp_60 rii rfl rfl
def f_Co_gap (t : Nat) (p1 : Int32) (M : Mem) : Option Int32 := if (f_D_isSpot p1 M) = 0 then some 0 else gd (inR p1 6) (some ((mI M (t + 393217 + 393415) p1.toNatClampNeg) - (f_D_takenUp p1 (mI M t 5) (mI M t 7) (mI M t 6) (mI M t 4) (mI M (t + 393217) 4) M)))
theorem o_Co_gap (t : Nat) (p1 : Int32) (ht : t % 131072 = 3) (M : Mem) : Ct sRC g_Co_gap (fRi M) [.ref t, .int p1] (f_Co_gap t p1 M) M := by
  refine ⟨Nat.le_of_ble_eq_true rfl, ?_⟩
  show Go sRC g_Co_gap (fRi M) (f_Co_gap t p1 M) 0 [.ref t, .int p1] [] M
  refine go_def (f_Co_gap.eq_1 ..) ?_
  refine go_iload_n (pc := 0) dX2_gap_0 rfl ?_
  refine go_T (v := f_D_isSpot p1 M) ?_
  refine go_callSN (pc := 1) (as := [.int p1]) (st := []) (o_D_isSpot p1 M) ic_D_isSpot ivX2_124 rfl (by decide) (Nat.le_of_ble_eq_true rfl) dX2_gap_1 (kTi ?_)
  refine go_ifeq (pc := 4) 47 dX2_gap_4 (by decide) (fun _ => ?_) (fun _ => ?_)
  · refine go_iconst (pc := 47) 0 dX2_gap_47 ki_0 ?_
    exact go_ret dX2_gap_48 rii rfl rfl
  · refine go_aload_n (pc := 7) dX2_gap_7 rfl ?_
    refine go_getS (pc := 8) (t + 393217) flX2_25 rfl (kd32 (t := 3) ht rfl) (sC_3_1 ht) (knz (by decide)) dX2_gap_8 ?_
    refine go_getS (pc := 11) (t + 393217 + 393415) flX2_128 rfl (kd32 (t := 4) (kadd ht rfl) rfl) (sC_4_7 (kadd ht rfl)) (knz (by decide)) dX2_gap_11 ?_
    refine go_iload_n (pc := 14) dX2_gap_14 rfl ?_
    refine go_iald (pc := 15) (kd32 (t := 11) (kadd (kadd ht rfl) rfl) rfl) (kln (kadd (kadd ht rfl) rfl) rfl) dX2_gap_15 (fun _ => ?_)
    refine go_iload_n (pc := 16) dX2_gap_16 rfl ?_
    refine go_aload_n (pc := 17) dX2_gap_17 rfl ?_
    refine go_getI (pc := 18) flX2_82 rfl (kd32 (t := 3) ht rfl) dX2_gap_18 ?_
    refine go_aload_n (pc := 21) dX2_gap_21 rfl ?_
    refine go_getI (pc := 22) flX2_93 rfl (kd32 (t := 3) ht rfl) dX2_gap_22 ?_
    refine go_aload_n (pc := 25) dX2_gap_25 rfl ?_
    refine go_getI (pc := 26) flX2_88 rfl (kd32 (t := 3) ht rfl) dX2_gap_26 ?_
    refine go_aload_n (pc := 29) dX2_gap_29 rfl ?_
    refine go_getI (pc := 30) flX2_60 rfl (kd32 (t := 3) ht rfl) dX2_gap_30 ?_
    refine go_aload_n (pc := 33) dX2_gap_33 rfl ?_
    refine go_getS (pc := 34) (t + 393217) flX2_25 rfl (kd32 (t := 3) ht rfl) (sC_3_1 ht) (knz (by decide)) dX2_gap_34 ?_
    refine go_getI (pc := 37) flX2_131 rfl (kd32 (t := 4) (kadd ht rfl) rfl) dX2_gap_37 ?_
    refine go_T (v := f_D_takenUp p1 (mI M t 5) (mI M t 7) (mI M t 6) (mI M t 4) (mI M (t + 393217) 4) M) ?_
    refine go_callSN (pc := 40) (as := [.int p1, .int (mI M t 5), .int (mI M t 7), .int (mI M t 6), .int (mI M t 4), .int (mI M (t + 393217) 4)]) (st := [.int (mI M (t + 393217 + 393415) p1.toNatClampNeg)]) (o_D_takenUp p1 (mI M t 5) (mI M t 7) (mI M t 6) (mI M t 4) (mI M (t + 393217) 4) M) ic_D_takenUp ivX2_134 rfl (by decide) (Nat.le_of_ble_eq_true rfl) dX2_gap_40 (kTi ?_)
    refine go_isub (pc := 43) dX2_gap_43 ?_
    refine go_goto (pc := 44) 48 dX2_gap_44 (by decide) ?_
    exact go_ret dX2_gap_48 rii rfl rfl
def f_Co_goThrough_l65 (t : Nat) (K38 : Int32 → Int32 → Mem → Option Mem) : Nat → Int32 → Int32 → Int32 → Mem → Option Mem
  | 0, _, _, _, _ => none
  | n + 1, v1, v2, v3, M => if 6 ≤ v3 then lt (v2 + 1) fun x8 => K38 v1 x8 M else gd (inR v3 6) (bd (f_Co_gap t v3 M) fun r9 => gd (inR v3 6) (lt (setI M (t + 1179848) v3.toNatClampNeg (mnI (mI M (t + 1179848) v3.toNatClampNeg) r9)) fun M10 => gd (inR v3 6) (bd (f_Co_gap t v3 M10) fun r11 => gd (inR v3 6) (lt (setI M10 (t + 1310920) v3.toNatClampNeg (mxI (mI M10 (t + 1310920) v3.toNatClampNeg) r11)) fun M12 => lt (v3 + 1) fun x13 => f_Co_goThrough_l65 t K38 n v1 v2 x13 M12))))
def f_Co_goThrough_l38 (t : Nat) : Nat → Int32 → Int32 → Mem → Option Mem
  | 0, _, _, _ => none
  | n + 1, v1, v2, M => if v1 ≤ v2 then some M else gd (inR ((mI M t 3) - (mI M t 3) / 12 * 12) 12) (bd (f_Co_pass t (mI M (t + 1048968) ((mI M t 3) - (mI M t 3) / 12 * 12).toNatClampNeg) M) fun M6 => bd (f_Co_settle t M6) fun M7 => f_Co_goThrough_l65 t (f_Co_goThrough_l38 t n) 200 v1 v2 0 M7)
def f_Co_goThrough_l2 (t : Nat) : Nat → Int32 → Int32 → Mem → Option Mem
  | 0, _, _, _ => none
  | n + 1, v1, v2, M => if 6 ≤ v2 then f_Co_goThrough_l38 t 200 v1 0 M else bd (f_Co_gap t v2 M) fun r1 => gd (inR v2 6) (lt (setI M (t + 1179848) v2.toNatClampNeg r1) fun M2 => bd (f_Co_gap t v2 M2) fun r3 => gd (inR v2 6) (lt (setI M2 (t + 1310920) v2.toNatClampNeg r3) fun M4 => lt (v2 + 1) fun x5 => f_Co_goThrough_l2 t n v1 x5 M4))
def f_Co_goThrough (t : Nat) (p1 : Int32) (M : Mem) : Option Mem := f_Co_goThrough_l2 t 200 p1 0 M
theorem o_Co_goThrough_l65 (t : Nat) (ht : t % 131072 = 3) (K38 : Int32 → Int32 → Mem → Option Mem) (hK38 : ∀ (y1 : Int32) (y2 : Int32) (M : Mem), Go sRC g_Co_goThrough fWv (K38 y1 y2 M) 38 [.ref t, .int y1, .int y2, .null] [] M) : ∀ (n : Nat) (v1 : Int32) (v2 : Int32) (v3 : Int32) (M : Mem), Go sRC g_Co_goThrough fWv (f_Co_goThrough_l65 t K38 n v1 v2 v3 M) 65 [.ref t, .int v1, .int v2, .int v3] [] M := by
  intro n
  induction n with
  | zero =>
    intro v1 v2 v3 M
    exact go_def (f_Co_goThrough_l65.eq_1 ..) go_none
  | succ n ih =>
    intro v1 v2 v3 M
    refine go_def (f_Co_goThrough_l65.eq_2 ..) ?_
    refine go_iload_n (pc := 65) dX2_goThrough_65 rfl ?_
    refine go_bipush (pc := 66) 6 dX2_goThrough_66 kb_6 ?_
    refine go_icmpge (pc := 68) 117 dX2_goThrough_68 (by decide) (fun _ => ?_) (fun _ => ?_)
    · refine go_iincL (pc := 117) (L := fun x8 => [.ref t, .int v1, .int x8, .int v3]) 1 dX2_goThrough_117 rfl ki_1 (Nat.le_of_ble_eq_true rfl) rfl (fun _ => rfl) (fun x8 => ?_)
      refine go_goto (pc := 120) 38 dX2_goThrough_120 (by decide) ?_
      refine go_sub (ls' := [.ref t, .int v1, .int x8, .null]) ⟨Or.inr rfl, Or.inr rfl, Or.inr rfl, Or.inl rfl, trivial⟩ ?_
      exact hK38 v1 x8 M
    · refine go_aload_n (pc := 71) dX2_goThrough_71 rfl ?_
      refine go_getS (pc := 72) (t + 1179848) flX2_33 rfl (kd32 (t := 3) ht rfl) (sC_3_8 ht) (knz (by decide)) dX2_goThrough_72 ?_
      refine go_iload_n (pc := 75) dX2_goThrough_75 rfl ?_
      refine go_aload_n (pc := 76) dX2_goThrough_76 rfl ?_
      refine go_getS (pc := 77) (t + 1179848) flX2_33 rfl (kd32 (t := 3) ht rfl) (sC_3_8 ht) (knz (by decide)) dX2_goThrough_77 ?_
      refine go_iload_n (pc := 80) dX2_goThrough_80 rfl ?_
      refine go_iald (pc := 81) (kd32 (t := 11) (kadd ht rfl) rfl) (kln (kadd ht rfl) rfl) dX2_goThrough_81 (fun _ => ?_)
      refine go_aload_n (pc := 82) dX2_goThrough_82 rfl ?_
      refine go_iload_n (pc := 83) dX2_goThrough_83 rfl ?_
      refine go_callV (pc := 84) (a := t) (as := [.int v3]) (st := [.int (mI M (t + 1179848) v3.toNatClampNeg), .int v3, .ref (t + 1179848)]) (o_Co_gap t v3 ht M) ic_Co_gap ivX2_112 (rcvk ht (by decide) (by decide) rfl) rfl (by decide) (Nat.le_of_ble_eq_true rfl) dX2_goThrough_84 (kRi fun r9 => ?_)
      refine go_min (pc := 87) (gT_of (mtb3 (mt64 (mt64 (mt64 (mt16 (mt16 (mt4 (mt4 (mt1 (List.Mem.head _)))))))))) rfl) mw_min1 mw_i mw_min2 (by decide) (Nat.le_of_ble_eq_true rfl) dX2_goThrough_87 ?_
      refine go_iast (pc := 90) (kd32 (t := 11) (kadd ht rfl) rfl) (kln (kadd ht rfl) rfl) dX2_goThrough_90 (fun _ M10 => ?_)
      refine go_aload_n (pc := 91) dX2_goThrough_91 rfl ?_
      refine go_getS (pc := 92) (t + 1310920) flX2_36 rfl (kd32 (t := 3) ht rfl) (sC_3_9 ht) (knz (by decide)) dX2_goThrough_92 ?_
      refine go_iload_n (pc := 95) dX2_goThrough_95 rfl ?_
      refine go_aload_n (pc := 96) dX2_goThrough_96 rfl ?_
      refine go_getS (pc := 97) (t + 1310920) flX2_36 rfl (kd32 (t := 3) ht rfl) (sC_3_9 ht) (knz (by decide)) dX2_goThrough_97 ?_
      refine go_iload_n (pc := 100) dX2_goThrough_100 rfl ?_
      refine go_iald (pc := 101) (kd32 (t := 11) (kadd ht rfl) rfl) (kln (kadd ht rfl) rfl) dX2_goThrough_101 (fun _ => ?_)
      refine go_aload_n (pc := 102) dX2_goThrough_102 rfl ?_
      refine go_iload_n (pc := 103) dX2_goThrough_103 rfl ?_
      refine go_callV (pc := 104) (a := t) (as := [.int v3]) (st := [.int (mI M10 (t + 1310920) v3.toNatClampNeg), .int v3, .ref (t + 1310920)]) (o_Co_gap t v3 ht M10) ic_Co_gap ivX2_112 (rcvk ht (by decide) (by decide) rfl) rfl (by decide) (Nat.le_of_ble_eq_true rfl) dX2_goThrough_104 (kRi fun r11 => ?_)
      refine go_max (pc := 107) (gT_of (mtb3 (mt64 (mt64 (mt64 (mt16 (mt16 (mt4 (mt4 (mt1 (mt1 (List.Mem.head _))))))))))) rfl) mw_max1 mw_i mw_max2 (by decide) (Nat.le_of_ble_eq_true rfl) dX2_goThrough_107 ?_
      refine go_iast (pc := 110) (kd32 (t := 11) (kadd ht rfl) rfl) (kln (kadd ht rfl) rfl) dX2_goThrough_110 (fun _ M12 => ?_)
      refine go_iincL (pc := 111) (L := fun x13 => [.ref t, .int v1, .int v2, .int x13]) 1 dX2_goThrough_111 rfl ki_1 (Nat.le_of_ble_eq_true rfl) rfl (fun _ => rfl) (fun x13 => ?_)
      refine go_goto (pc := 114) 65 dX2_goThrough_114 (by decide) ?_
      exact ih v1 v2 x13 M12
theorem o_Co_goThrough_l38 (t : Nat) (ht : t % 131072 = 3) : ∀ (n : Nat) (v1 : Int32) (v2 : Int32) (M : Mem), Go sRC g_Co_goThrough fWv (f_Co_goThrough_l38 t n v1 v2 M) 38 [.ref t, .int v1, .int v2, .null] [] M := by
  intro n
  induction n with
  | zero =>
    intro v1 v2 M
    exact go_def (f_Co_goThrough_l38.eq_1 ..) go_none
  | succ n ih =>
    intro v1 v2 M
    refine go_def (f_Co_goThrough_l38.eq_2 ..) ?_
    refine go_iload_n (pc := 38) dX2_goThrough_38 rfl ?_
    refine go_iload_n (pc := 39) dX2_goThrough_39 rfl ?_
    refine go_icmpge (pc := 40) 123 dX2_goThrough_40 (by decide) (fun _ => ?_) (fun _ => ?_)
    · exact go_ret dX2_goThrough_123 rfl rfl rfl
    · refine go_aload_n (pc := 43) dX2_goThrough_43 rfl ?_
      refine go_aload_n (pc := 44) dX2_goThrough_44 rfl ?_
      refine go_getS (pc := 45) (t + 1048968) flX2_29 rfl (kd32 (t := 3) ht rfl) (sC_3_2 ht) (knz (by decide)) dX2_goThrough_45 ?_
      refine go_aload_n (pc := 48) dX2_goThrough_48 rfl ?_
      refine go_getI (pc := 49) flX2_56 rfl (kd32 (t := 3) ht rfl) dX2_goThrough_49 ?_
      refine go_bipush (pc := 52) 12 dX2_goThrough_52 kb_12 ?_
      refine go_irem' (pc := 54) (by decide) dX2_goThrough_54 ?_
      refine go_iald (pc := 55) (kd32 (t := 11) (kadd ht rfl) rfl) (kln (kadd ht rfl) rfl) dX2_goThrough_55 (fun _ => ?_)
      refine go_callV (pc := 56) (a := t) (as := [.int (mI M (t + 1048968) ((mI M t 3) - (mI M t 3) / 12 * 12).toNatClampNeg)]) (st := []) (o_Co_pass t (mI M (t + 1048968) ((mI M t 3) - (mI M t 3) / 12 * 12).toNatClampNeg) ht M) ic_Co_pass ivX2_109 (rcvk ht (by decide) (by decide) rfl) rfl (by decide) (Nat.le_of_ble_eq_true rfl) dX2_goThrough_56 (kWv fun M6 => ?_)
      refine go_aload_n (pc := 59) dX2_goThrough_59 rfl ?_
      refine go_callV (pc := 60) (a := t) (as := []) (st := []) (o_Co_settle t ht M6) ic_Co_settle ivX2_61 (rcvk ht (by decide) (by decide) rfl) rfl (by decide) (Nat.le_of_ble_eq_true rfl) dX2_goThrough_60 (kWv fun M7 => ?_)
      refine go_iconst (pc := 63) 0 dX2_goThrough_63 ki_0 ?_
      refine go_istore_n (pc := 64) (ls' := [.ref t, .int v1, .int v2, .int 0]) dX2_goThrough_64 (Nat.le_of_ble_eq_true rfl) rfl rfl ?_
      exact o_Co_goThrough_l65 t ht (f_Co_goThrough_l38 t n) ih 200 v1 v2 0 M7
theorem o_Co_goThrough_l2 (t : Nat) (ht : t % 131072 = 3) : ∀ (n : Nat) (v1 : Int32) (v2 : Int32) (M : Mem), Go sRC g_Co_goThrough fWv (f_Co_goThrough_l2 t n v1 v2 M) 2 [.ref t, .int v1, .int v2, .null] [] M := by
  intro n
  induction n with
  | zero =>
    intro v1 v2 M
    exact go_def (f_Co_goThrough_l2.eq_1 ..) go_none
  | succ n ih =>
    intro v1 v2 M
    refine go_def (f_Co_goThrough_l2.eq_2 ..) ?_
    refine go_iload_n (pc := 2) dX2_goThrough_2 rfl ?_
    refine go_bipush (pc := 3) 6 dX2_goThrough_3 kb_6 ?_
    refine go_icmpge (pc := 5) 36 dX2_goThrough_5 (by decide) (fun _ => ?_) (fun _ => ?_)
    · refine go_iconst (pc := 36) 0 dX2_goThrough_36 ki_0 ?_
      refine go_istore_n (pc := 37) (ls' := [.ref t, .int v1, .int 0, .null]) dX2_goThrough_37 (Nat.le_of_ble_eq_true rfl) rfl rfl ?_
      exact o_Co_goThrough_l38 t ht 200 v1 0 M
    · refine go_aload_n (pc := 8) dX2_goThrough_8 rfl ?_
      refine go_getS (pc := 9) (t + 1179848) flX2_33 rfl (kd32 (t := 3) ht rfl) (sC_3_8 ht) (knz (by decide)) dX2_goThrough_9 ?_
      refine go_iload_n (pc := 12) dX2_goThrough_12 rfl ?_
      refine go_aload_n (pc := 13) dX2_goThrough_13 rfl ?_
      refine go_iload_n (pc := 14) dX2_goThrough_14 rfl ?_
      refine go_callV (pc := 15) (a := t) (as := [.int v2]) (st := [.int v2, .ref (t + 1179848)]) (o_Co_gap t v2 ht M) ic_Co_gap ivX2_112 (rcvk ht (by decide) (by decide) rfl) rfl (by decide) (Nat.le_of_ble_eq_true rfl) dX2_goThrough_15 (kRi fun r1 => ?_)
      refine go_iast (pc := 18) (kd32 (t := 11) (kadd ht rfl) rfl) (kln (kadd ht rfl) rfl) dX2_goThrough_18 (fun _ M2 => ?_)
      refine go_aload_n (pc := 19) dX2_goThrough_19 rfl ?_
      refine go_getS (pc := 20) (t + 1310920) flX2_36 rfl (kd32 (t := 3) ht rfl) (sC_3_9 ht) (knz (by decide)) dX2_goThrough_20 ?_
      refine go_iload_n (pc := 23) dX2_goThrough_23 rfl ?_
      refine go_aload_n (pc := 24) dX2_goThrough_24 rfl ?_
      refine go_iload_n (pc := 25) dX2_goThrough_25 rfl ?_
      refine go_callV (pc := 26) (a := t) (as := [.int v2]) (st := [.int v2, .ref (t + 1310920)]) (o_Co_gap t v2 ht M2) ic_Co_gap ivX2_112 (rcvk ht (by decide) (by decide) rfl) rfl (by decide) (Nat.le_of_ble_eq_true rfl) dX2_goThrough_26 (kRi fun r3 => ?_)
      refine go_iast (pc := 29) (kd32 (t := 11) (kadd ht rfl) rfl) (kln (kadd ht rfl) rfl) dX2_goThrough_29 (fun _ M4 => ?_)
      refine go_iincL (pc := 30) (L := fun x5 => [.ref t, .int v1, .int x5, .null]) 1 dX2_goThrough_30 rfl ki_1 (Nat.le_of_ble_eq_true rfl) rfl (fun _ => rfl) (fun x5 => ?_)
      refine go_goto (pc := 33) 2 dX2_goThrough_33 (by decide) ?_
      exact ih v1 x5 M4
theorem o_Co_goThrough (t : Nat) (p1 : Int32) (ht : t % 131072 = 3) (M : Mem) : Ct sRC g_Co_goThrough fWv [.ref t, .int p1] (f_Co_goThrough t p1 M) M := by
  refine ⟨Nat.le_of_ble_eq_true rfl, ?_⟩
  show Go sRC g_Co_goThrough fWv (f_Co_goThrough t p1 M) 0 [.ref t, .int p1, .null, .null] [] M
  refine go_def (f_Co_goThrough.eq_1 ..) ?_
  refine go_iconst (pc := 0) 0 dX2_goThrough_0 ki_0 ?_
  refine go_istore_n (pc := 1) (ls' := [.ref t, .int p1, .int 0, .null]) dX2_goThrough_1 (Nat.le_of_ble_eq_true rfl) rfl rfl ?_
  exact o_Co_goThrough_l2 t ht 200 p1 0 M
def f_Co_firstRubbing_l2 (t : Nat) (M : Mem) : Nat → Int32 → Option Int32
  | 0, _ => none
  | n + 1, v1 => if 6 ≤ v1 then some (-5) else bd (f_Co_gap t v1 M) fun r1 => if 0 ≤ r1 then lt (v1 + 1) fun x2 => f_Co_firstRubbing_l2 t M n x2 else some v1
def f_Co_firstRubbing (t : Nat) (M : Mem) : Option Int32 := f_Co_firstRubbing_l2 t M 200 0
theorem o_Co_firstRubbing_l2 (t : Nat) (ht : t % 131072 = 3) (M : Mem) : ∀ (n : Nat) (v1 : Int32), Go sRC g_Co_firstRubbing (fRi M) (f_Co_firstRubbing_l2 t M n v1) 2 [.ref t, .int v1] [] M := by
  intro n
  induction n with
  | zero =>
    intro v1
    exact go_def (f_Co_firstRubbing_l2.eq_1 ..) go_none
  | succ n ih =>
    intro v1
    refine go_def (f_Co_firstRubbing_l2.eq_2 ..) ?_
    refine go_iload_n (pc := 2) dX2_firstRubbing_2 rfl ?_
    refine go_bipush (pc := 3) 6 dX2_firstRubbing_3 kb_6 ?_
    refine go_icmpge (pc := 5) 24 dX2_firstRubbing_5 (by decide) (fun _ => ?_) (fun _ => ?_)
    · refine go_bipush (pc := 24) (-5) dX2_firstRubbing_24 kb_m5 ?_
      exact go_ret dX2_firstRubbing_26 rii rfl rfl
    · refine go_aload_n (pc := 8) dX2_firstRubbing_8 rfl ?_
      refine go_iload_n (pc := 9) dX2_firstRubbing_9 rfl ?_
      refine go_callV (pc := 10) (a := t) (as := [.int v1]) (st := []) (o_Co_gap t v1 ht M) ic_Co_gap ivX2_112 (rcvk ht (by decide) (by decide) rfl) rfl (by decide) (Nat.le_of_ble_eq_true rfl) dX2_firstRubbing_10 (kRi fun r1 => ?_)
      refine go_ifge (pc := 13) 18 dX2_firstRubbing_13 (by decide) (fun _ => ?_) (fun _ => ?_)
      · refine go_iincL (pc := 18) (L := fun x2 => [.ref t, .int x2]) 1 dX2_firstRubbing_18 rfl ki_1 (Nat.le_of_ble_eq_true rfl) rfl (fun _ => rfl) (fun x2 => ?_)
        refine go_goto (pc := 21) 2 dX2_firstRubbing_21 (by decide) ?_
        exact ih x2
      · refine go_iload_n (pc := 16) dX2_firstRubbing_16 rfl ?_
        exact go_ret dX2_firstRubbing_17 rii rfl rfl
theorem o_Co_firstRubbing (t : Nat) (ht : t % 131072 = 3) (M : Mem) : Ct sRC g_Co_firstRubbing (fRi M) [.ref t] (f_Co_firstRubbing t M) M := by
  refine ⟨Nat.le_of_ble_eq_true rfl, ?_⟩
  show Go sRC g_Co_firstRubbing (fRi M) (f_Co_firstRubbing t M) 0 [.ref t, .null] [] M
  refine go_def (f_Co_firstRubbing.eq_1 ..) ?_
  refine go_iconst (pc := 0) 0 dX2_firstRubbing_0 ki_0 ?_
  refine go_istore_n (pc := 1) (ls' := [.ref t, .int 0]) dX2_firstRubbing_1 (Nat.le_of_ble_eq_true rfl) rfl rfl ?_
  exact o_Co_firstRubbing_l2 t ht M 200 0
def f_Co_rubbing_l4 (t : Nat) (M : Mem) : Nat → Int32 → Int32 → Option Int32
  | 0, _, _ => none
  | n + 1, v1, v2 => if 6 ≤ v2 then some v1 else bd (f_Co_gap t v2 M) fun r1 => if 0 ≤ r1 then lt (v1 ||| 0) fun x2 => lt (v2 + 1) fun x3 => f_Co_rubbing_l4 t M n x2 x3 else lt (v1 ||| (1 <<< (v2 &&& 31))) fun x4 => lt (v2 + 1) fun x5 => f_Co_rubbing_l4 t M n x4 x5
def f_Co_rubbing (t : Nat) (M : Mem) : Option Int32 := f_Co_rubbing_l4 t M 200 0 0
theorem o_Co_rubbing_l4 (t : Nat) (ht : t % 131072 = 3) (M : Mem) : ∀ (n : Nat) (v1 : Int32) (v2 : Int32), Go sRC g_Co_rubbing (fRi M) (f_Co_rubbing_l4 t M n v1 v2) 4 [.ref t, .int v1, .int v2] [] M := by
  intro n
  induction n with
  | zero =>
    intro v1 v2
    exact go_def (f_Co_rubbing_l4.eq_1 ..) go_none
  | succ n ih =>
    intro v1 v2
    refine go_def (f_Co_rubbing_l4.eq_2 ..) ?_
    refine go_iload_n (pc := 4) dX2_rubbing_4 rfl ?_
    refine go_bipush (pc := 5) 6 dX2_rubbing_5 kb_6 ?_
    refine go_icmpge (pc := 7) 34 dX2_rubbing_7 (by decide) (fun _ => ?_) (fun _ => ?_)
    · refine go_iload_n (pc := 34) dX2_rubbing_34 rfl ?_
      exact go_ret dX2_rubbing_35 rii rfl rfl
    · refine go_iload_n (pc := 10) dX2_rubbing_10 rfl ?_
      refine go_aload_n (pc := 11) dX2_rubbing_11 rfl ?_
      refine go_iload_n (pc := 12) dX2_rubbing_12 rfl ?_
      refine go_callV (pc := 13) (a := t) (as := [.int v2]) (st := [.int v1]) (o_Co_gap t v2 ht M) ic_Co_gap ivX2_112 (rcvk ht (by decide) (by decide) rfl) rfl (by decide) (Nat.le_of_ble_eq_true rfl) dX2_rubbing_13 (kRi fun r1 => ?_)
      refine go_ifge (pc := 16) 25 dX2_rubbing_16 (by decide) (fun _ => ?_) (fun _ => ?_)
      · refine go_iconst (pc := 25) 0 dX2_rubbing_25 ki_0 ?_
        refine go_ior (pc := 26) dX2_rubbing_26 ?_
        refine go_istore_nL (pc := 27) (L := fun x2 => [.ref t, .int x2, .int v2]) dX2_rubbing_27 (Nat.le_of_ble_eq_true rfl) rfl (fun _ => rfl) (fun x2 => ?_)
        refine go_iincL (pc := 28) (L := fun x3 => [.ref t, .int x2, .int x3]) 1 dX2_rubbing_28 rfl ki_1 (Nat.le_of_ble_eq_true rfl) rfl (fun _ => rfl) (fun x3 => ?_)
        refine go_goto (pc := 31) 4 dX2_rubbing_31 (by decide) ?_
        exact ih x2 x3
      · refine go_iconst (pc := 19) 1 dX2_rubbing_19 ki_1 ?_
        refine go_iload_n (pc := 20) dX2_rubbing_20 rfl ?_
        refine go_ishl (pc := 21) dX2_rubbing_21 ?_
        refine go_goto (pc := 22) 26 dX2_rubbing_22 (by decide) ?_
        refine go_ior (pc := 26) dX2_rubbing_26 ?_
        refine go_istore_nL (pc := 27) (L := fun x4 => [.ref t, .int x4, .int v2]) dX2_rubbing_27 (Nat.le_of_ble_eq_true rfl) rfl (fun _ => rfl) (fun x4 => ?_)
        refine go_iincL (pc := 28) (L := fun x5 => [.ref t, .int x4, .int x5]) 1 dX2_rubbing_28 rfl ki_1 (Nat.le_of_ble_eq_true rfl) rfl (fun _ => rfl) (fun x5 => ?_)
        refine go_goto (pc := 31) 4 dX2_rubbing_31 (by decide) ?_
        exact ih x4 x5
theorem o_Co_rubbing (t : Nat) (ht : t % 131072 = 3) (M : Mem) : Ct sRC g_Co_rubbing (fRi M) [.ref t] (f_Co_rubbing t M) M := by
  refine ⟨Nat.le_of_ble_eq_true rfl, ?_⟩
  show Go sRC g_Co_rubbing (fRi M) (f_Co_rubbing t M) 0 [.ref t, .null, .null] [] M
  refine go_def (f_Co_rubbing.eq_1 ..) ?_
  refine go_iconst (pc := 0) 0 dX2_rubbing_0 ki_0 ?_
  refine go_istore_n (pc := 1) (ls' := [.ref t, .int 0, .null]) dX2_rubbing_1 (Nat.le_of_ble_eq_true rfl) rfl rfl ?_
  refine go_iconst (pc := 2) 0 dX2_rubbing_2 ki_0 ?_
  refine go_istore_n (pc := 3) (ls' := [.ref t, .int 0, .int 0]) dX2_rubbing_3 (Nat.le_of_ble_eq_true rfl) rfl rfl ?_
  exact o_Co_rubbing_l4 t ht M 200 0 0
def f_Co_draughty_l4 (t : Nat) (M : Mem) : Nat → Int32 → Int32 → Option Int32
  | 0, _, _ => none
  | n + 1, v1, v2 => if 6 ≤ v2 then some v1 else bd (f_Co_gap t v2 M) fun r1 => gd (mR M t 0 % 131072 = 6) (if r1 ≤ (mI M (mR M t 0) 3) then lt (v1 ||| 0) fun x3 => lt (v2 + 1) fun x4 => f_Co_draughty_l4 t M n x3 x4 else lt (v1 ||| (1 <<< (v2 &&& 31))) fun x5 => lt (v2 + 1) fun x6 => f_Co_draughty_l4 t M n x5 x6)
def f_Co_draughty (t : Nat) (M : Mem) : Option Int32 := f_Co_draughty_l4 t M 200 0 0
theorem o_Co_draughty_l4 (t : Nat) (ht : t % 131072 = 3) (M : Mem) : ∀ (n : Nat) (v1 : Int32) (v2 : Int32), Go sRC g_Co_draughty (fRi M) (f_Co_draughty_l4 t M n v1 v2) 4 [.ref t, .int v1, .int v2] [] M := by
  intro n
  induction n with
  | zero =>
    intro v1 v2
    exact go_def (f_Co_draughty_l4.eq_1 ..) go_none
  | succ n ih =>
    intro v1 v2
    refine go_def (f_Co_draughty_l4.eq_2 ..) ?_
    refine go_iload_n (pc := 4) dX2_draughty_4 rfl ?_
    refine go_bipush (pc := 5) 6 dX2_draughty_5 kb_6 ?_
    refine go_icmpge (pc := 7) 41 dX2_draughty_7 (by decide) (fun _ => ?_) (fun _ => ?_)
    · refine go_iload_n (pc := 41) dX2_draughty_41 rfl ?_
      exact go_ret dX2_draughty_42 rii rfl rfl
    · refine go_iload_n (pc := 10) dX2_draughty_10 rfl ?_
      refine go_aload_n (pc := 11) dX2_draughty_11 rfl ?_
      refine go_iload_n (pc := 12) dX2_draughty_12 rfl ?_
      refine go_callV (pc := 13) (a := t) (as := [.int v2]) (st := [.int v1]) (o_Co_gap t v2 ht M) ic_Co_gap ivX2_112 (rcvk ht (by decide) (by decide) rfl) rfl (by decide) (Nat.le_of_ble_eq_true rfl) dX2_draughty_13 (kRi fun r1 => ?_)
      refine go_aload_n (pc := 16) dX2_draughty_16 rfl ?_
      refine go_getR (pc := 17) flX2_16 rfl (kd32 (t := 3) ht rfl) dX2_draughty_17 ?_
      refine go_gd fun g2 => ?_
      refine go_getI (pc := 20) flX2_138 rfl (kd32 (t := 6) g2 rfl) dX2_draughty_20 ?_
      refine go_icmple (pc := 23) 32 dX2_draughty_23 (by decide) (fun _ => ?_) (fun _ => ?_)
      · refine go_iconst (pc := 32) 0 dX2_draughty_32 ki_0 ?_
        refine go_ior (pc := 33) dX2_draughty_33 ?_
        refine go_istore_nL (pc := 34) (L := fun x3 => [.ref t, .int x3, .int v2]) dX2_draughty_34 (Nat.le_of_ble_eq_true rfl) rfl (fun _ => rfl) (fun x3 => ?_)
        refine go_iincL (pc := 35) (L := fun x4 => [.ref t, .int x3, .int x4]) 1 dX2_draughty_35 rfl ki_1 (Nat.le_of_ble_eq_true rfl) rfl (fun _ => rfl) (fun x4 => ?_)
        refine go_goto (pc := 38) 4 dX2_draughty_38 (by decide) ?_
        exact ih x3 x4
      · refine go_iconst (pc := 26) 1 dX2_draughty_26 ki_1 ?_
        refine go_iload_n (pc := 27) dX2_draughty_27 rfl ?_
        refine go_ishl (pc := 28) dX2_draughty_28 ?_
        refine go_goto (pc := 29) 33 dX2_draughty_29 (by decide) ?_
        refine go_ior (pc := 33) dX2_draughty_33 ?_
        refine go_istore_nL (pc := 34) (L := fun x5 => [.ref t, .int x5, .int v2]) dX2_draughty_34 (Nat.le_of_ble_eq_true rfl) rfl (fun _ => rfl) (fun x5 => ?_)
        refine go_iincL (pc := 35) (L := fun x6 => [.ref t, .int x5, .int x6]) 1 dX2_draughty_35 rfl ki_1 (Nat.le_of_ble_eq_true rfl) rfl (fun _ => rfl) (fun x6 => ?_)
        refine go_goto (pc := 38) 4 dX2_draughty_38 (by decide) ?_
        exact ih x5 x6
theorem o_Co_draughty (t : Nat) (ht : t % 131072 = 3) (M : Mem) : Ct sRC g_Co_draughty (fRi M) [.ref t] (f_Co_draughty t M) M := by
  refine ⟨Nat.le_of_ble_eq_true rfl, ?_⟩
  show Go sRC g_Co_draughty (fRi M) (f_Co_draughty t M) 0 [.ref t, .null, .null] [] M
  refine go_def (f_Co_draughty.eq_1 ..) ?_
  refine go_iconst (pc := 0) 0 dX2_draughty_0 ki_0 ?_
  refine go_istore_n (pc := 1) (ls' := [.ref t, .int 0, .null]) dX2_draughty_1 (Nat.le_of_ble_eq_true rfl) rfl rfl ?_
  refine go_iconst (pc := 2) 0 dX2_draughty_2 ki_0 ?_
  refine go_istore_n (pc := 3) (ls' := [.ref t, .int 0, .int 0]) dX2_draughty_3 (Nat.le_of_ble_eq_true rfl) rfl rfl ?_
  exact o_Co_draughty_l4 t ht M 200 0 0
