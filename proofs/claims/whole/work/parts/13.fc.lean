/-! functions read off the bytecode, and that the code runs so (written by program) -/
def f_D_init_l105 (t : Nat) : Nat → Int32 → Mem → Option Mem
  | 0, _, _ => none
  | n + 1, v1, M => if 6 ≤ v1 then some M else lt (nid M 8) fun a47 => lt (newM M 8 3) fun M48 => bd (f_Tp_init a47 M48) fun M50 => gd (mR M t 10 % 32 = 17) (gd (inR v1 (lnA (mR M t 10))) (lt (setR M50 (mR M t 10) v1.toNatClampNeg a47) fun M51 => lt (v1 + 1) fun x53 => f_D_init_l105 t n x53 M51))
def f_D_init (t : Nat) (M : Mem) : Option Mem := lt (nid M 5) fun a1 => lt (newM M 5 9) fun M2 => bd (f_Hm_init a1 M2) fun M4 => lt (setR M4 t 0 a1) fun M5 => lt (nid M5 5) fun a6 => lt (newM M5 5 9) fun M7 => bd (f_Hm_init a6 M7) fun M9 => lt (setR M9 t 1 a6) fun M10 => lt (nid M10 7) fun a11 => lt (newM M10 7 7) fun M12 => bd (f_Tx_init a11 M12) fun M14 => lt (setR M14 t 3 a11) fun M15 => lt (nid M15 6) fun a16 => lt (newM M15 6 4) fun M17 => lt (nid M17 (0 * 32 + 16)) fun a19 => lt (newM M17 (0 * 32 + 16) (0)) fun M20 => bd (f_Hs_init a16 a19 M20) fun M22 => lt (setR M22 t 4 a16) fun M23 => lt (nid M23 (6 * 32 + 15)) fun a24 => lt (newM M23 (6 * 32 + 15) (6)) fun M25 => lt (setR M25 t 5 a24) fun M27 => lt (nid M27 3) fun a28 => lt (newM M27 3 10) fun M29 => bd (f_Co_init a28 M29) fun M31 => lt (setR M31 t 7 a28) fun M32 => lt (nid M32 3) fun a33 => lt (newM M32 3 10) fun M34 => bd (f_Co_init a33 M34) fun M36 => lt (setR M36 t 8 a33) fun M37 => lt (nid M37 1) fun a38 => lt (newM M37 1 5) fun M39 => bd (f_Acts_init a38 M39) fun M41 => lt (setR M41 t 9 a38) fun M42 => lt (nid M42 (6 * 32 + 17)) fun a43 => lt (newM M42 (6 * 32 + 17) (6)) fun M44 => lt (setR M44 t 10 a43) fun M46 => f_D_init_l105 t 200 0 M46
theorem o_D_init_l105 (t : Nat) (ht : t % 131072 = 9) : ∀ (n : Nat) (v1 : Int32) (M : Mem), Go sR0 g_D_init fWv (f_D_init_l105 t n v1 M) 105 [.ref t, .int v1] [] M := by
  intro n
  induction n with
  | zero =>
    intro v1 M
    exact go_def (f_D_init_l105.eq_1 ..) go_none
  | succ n ih =>
    intro v1 M
    refine go_def (f_D_init_l105.eq_2 ..) ?_
    refine go_iload_n (pc := 105) dX8_init_105 rfl ?_
    refine go_bipush (pc := 106) 6 dX8_init_106 kb_6 ?_
    refine go_icmpge (pc := 108) 130 dX8_init_108 (by decide) (fun _ => ?_) (fun _ => ?_)
    · exact go_ret dX8_init_130 rfl rfl rfl
    · refine go_aload_n (pc := 111) dX8_init_111 rfl ?_
      refine go_getR (pc := 112) flX8_62 rfl (kd32 (t := 9) ht rfl) dX8_init_112 ?_
      refine go_iload_n (pc := 115) dX8_init_115 rfl ?_
      refine go_new (pc := 116) (t := 8) (by decide) (by decide) (fun _ _ => rfl) (gT_of (mtb2 (mt4 (mt4 (mt4 (mt1 (mt1 (List.Mem.head _))))))) rfl) (gT_of (mtb2 (mt16 (List.Mem.head _))) rfl) (gT_of (mtb1 (mt4 (mt4 (mt1 (List.Mem.head _))))) rfl) dX8_init_116 (fun a47 M48 k49 => ?_)
      refine go_dup (pc := 119) dX8_init_119 rfl ?_
      refine go_callIN (pc := 120) (a := a47) (as := []) (st := [.ref a47, .int v1, .ref (mR M t 10)]) (o_Tp_init a47 k49 M48) ic_Tp_init rfl ivX8_66 (rcvk k49 (by decide) (by decide) rfl) rfl (by decide) (Nat.le_of_ble_eq_true rfl) dX8_init_120 (kWv fun M50 => ?_)
      refine go_gd fun g52 => ?_
      refine go_aast (pc := 123) (by have : (mR M t 10) % 32 = 17 := g52; omega) (by have : (mR M t 10) % 32 = 17 := g52; omega) rfl (by have h1 : a47 % 32 = 8 := (kd32 (t := 8) k49 rfl); have h2 : (mR M t 10) % 32 = 17 := g52; rw [h1, h2]; rfl) (fun _ => rfl) dX8_init_123 (fun _ M51 => ?_)
      refine go_iincL (pc := 124) (L := fun x53 => [.ref t, .int x53]) 1 dX8_init_124 rfl ki_1 (Nat.le_of_ble_eq_true rfl) rfl (fun _ => rfl) (fun x53 => ?_)
      refine go_goto (pc := 127) 105 dX8_init_127 (by decide) ?_
      exact ih x53 M51
theorem o_D_init (t : Nat) (ht : t % 131072 = 9) (M : Mem) : Ct sR0 g_D_init fWv [.ref t] (f_D_init t M) M := by
  refine ⟨Nat.le_of_ble_eq_true rfl, ?_⟩
  show Go sR0 g_D_init fWv (f_D_init t M) 0 [.ref t, .null] [] M
  refine go_def (f_D_init.eq_1 ..) ?_
  refine go_aload_n (pc := 0) dX8_init_0 rfl ?_
  refine go_objInit (pc := 1) dX8_init_1 (by have : t % 32 = 9 := (kd32 (t := 9) ht rfl); omega) (by have : t % 32 = 9 := (kd32 (t := 9) ht rfl); omega) (gT_of (mtb1 (mt16 (mt4 (mt4 (List.Mem.head _))))) rfl) oi1 oi2 (by decide) (Nat.le_of_ble_eq_true rfl) ?_
  refine go_aload_n (pc := 4) dX8_init_4 rfl ?_
  refine go_new (pc := 5) (t := 5) (by decide) (by decide) (fun _ _ => rfl) (gT_of (mtb1 (mt16 (mt4 (mt4 (mt1 (mt1 (mt1 (List.Mem.head _)))))))) rfl) (gT_of (mtb1 (mt16 (mt4 (mt4 (mt4 (List.Mem.head _)))))) rfl) (gT_of (mtb1 (mt1 (mt1 (List.Mem.head _)))) rfl) dX8_init_5 (fun a1 M2 k3 => ?_)
  refine go_dup (pc := 8) dX8_init_8 rfl ?_
  refine go_callI (pc := 9) (a := a1) (as := []) (st := [.ref a1, .ref t]) (o_Hm_init a1 k3 M2) ic_Hm_init rfl ivX8_11 (rcvk k3 (by decide) (by decide) rfl) rfl (by decide) (Nat.le_of_ble_eq_true rfl) dX8_init_9 (kWv fun M4 => ?_)
  refine go_putR (pc := 12) flX8_12 rfl (Or.inr ⟨rfl, rfl, rfl⟩) (kd32 (t := 9) ht rfl) rfl dX8_init_12 (fun M5 => ?_)
  refine go_aload_n (pc := 15) dX8_init_15 rfl ?_
  refine go_new (pc := 16) (t := 5) (by decide) (by decide) (fun _ _ => rfl) (gT_of (mtb1 (mt16 (mt4 (mt4 (mt1 (mt1 (mt1 (List.Mem.head _)))))))) rfl) (gT_of (mtb1 (mt16 (mt4 (mt4 (mt4 (List.Mem.head _)))))) rfl) (gT_of (mtb1 (mt1 (mt1 (List.Mem.head _)))) rfl) dX8_init_16 (fun a6 M7 k8 => ?_)
  refine go_dup (pc := 19) dX8_init_19 rfl ?_
  refine go_callI (pc := 20) (a := a6) (as := []) (st := [.ref a6, .ref t]) (o_Hm_init a6 k8 M7) ic_Hm_init rfl ivX8_11 (rcvk k8 (by decide) (by decide) rfl) rfl (by decide) (Nat.le_of_ble_eq_true rfl) dX8_init_20 (kWv fun M9 => ?_)
  refine go_putR (pc := 23) flX8_18 rfl (Or.inr ⟨rfl, rfl, rfl⟩) (kd32 (t := 9) ht rfl) rfl dX8_init_23 (fun M10 => ?_)
  refine go_aload_n (pc := 26) dX8_init_26 rfl ?_
  refine go_new (pc := 27) (t := 7) (by decide) (by decide) (fun _ _ => rfl) (gT_of (mtb1 (mt64 (mt16 (mt16 (mt16 (mt4 (mt4 (mt4 (List.Mem.head _))))))))) rfl) (gT_of (mtb1 (mt64 (mt16 (mt16 (mt16 (mt4 (mt4 (mt4 (mt1 (List.Mem.head _)))))))))) rfl) (gT_of (mtb1 (mt4 (mt1 (List.Mem.head _)))) rfl) dX8_init_27 (fun a11 M12 k13 => ?_)
  refine go_dup (pc := 30) dX8_init_30 rfl ?_
  refine go_callIN (pc := 31) (a := a11) (as := []) (st := [.ref a11, .ref t]) (o_Tx_init a11 k13 M12) ic_Tx_init rfl ivX8_23 (rcvk k13 (by decide) (by decide) rfl) rfl (by decide) (Nat.le_of_ble_eq_true rfl) dX8_init_31 (kWv fun M14 => ?_)
  refine go_putR (pc := 34) flX8_24 rfl (Or.inr ⟨rfl, rfl, rfl⟩) (kd32 (t := 9) ht rfl) rfl dX8_init_34 (fun M15 => ?_)
  refine go_aload_n (pc := 37) dX8_init_37 rfl ?_
  refine go_new (pc := 38) (t := 6) (by decide) (by decide) (fun _ _ => rfl) (gT_of (mtb1 (mt64 (mt64 (mt16 (mt4 (mt4 (mt1 (mt1 (mt1 (List.Mem.head _)))))))))) rfl) (gT_of (mtb1 (mt64 (mt64 (mt16 (mt4 (mt4 (mt4 (List.Mem.head _)))))))) rfl) (gT_of (mtb1 (mt4 (mt1 (mt1 (List.Mem.head _))))) rfl) dX8_init_38 (fun a16 M17 k18 => ?_)
  refine go_dup (pc := 41) dX8_init_41 rfl ?_
  refine go_iconst (pc := 42) 0 dX8_init_42 ki_0 ?_
  refine go_newq (pc := 43) (t := 16) (N := 0) (by decide) (by decide) (by decide) (by decide) (fun _ _ => rfl) (gT_of (mtb1 (mt64 (mt64 (mt16 (mt4 (mt4 (mt4 (mt1 (List.Mem.head _))))))))) rfl) dX8_init_43 (fun a19 M20 k21 => ?_)
  refine go_callI (pc := 46) (a := a16) (as := [.ref a19]) (st := [.ref a16, .ref t]) (o_Hs_init sR0 dz0 a16 a19 k18 (kd32 (t := 16) k21 rfl) M20) ic_Hs_init rfl ivX8_32 (rcvk k18 (by decide) (by decide) rfl) rfl (by decide) (Nat.le_of_ble_eq_true rfl) dX8_init_46 (kWv fun M22 => ?_)
  refine go_putR (pc := 49) flX8_35 rfl (Or.inr ⟨rfl, rfl, rfl⟩) (kd32 (t := 9) ht rfl) rfl dX8_init_49 (fun M23 => ?_)
  refine go_aload_n (pc := 52) dX8_init_52 rfl ?_
  refine go_bipush (pc := 53) 6 dX8_init_53 kb_6 ?_
  refine go_newq (pc := 55) (t := 15) (N := 6) (by decide) (by decide) (by decide) (by decide) (fun _ _ => rfl) (gT_of (mtb1 (mt64 (mt64 (mt16 (mt4 (mt4 (mt1 (mt1 (mt1 (List.Mem.head _)))))))))) rfl) dX8_init_55 (fun a24 M25 k26 => ?_)
  refine go_putR (pc := 58) flX8_39 rfl (Or.inr ⟨rfl, rfl, rfl⟩) (kd32 (t := 9) ht rfl) rfl dX8_init_58 (fun M27 => ?_)
  refine go_aload_n (pc := 61) dX8_init_61 rfl ?_
  refine go_new (pc := 62) (t := 3) (by decide) (by decide) (fun _ _ => rfl) (gT_of (mtb1 (mt64 (mt64 (mt16 (mt16 (mt16 (mt4 (mt1 (List.Mem.head _))))))))) rfl) (gT_of (mtb1 (mt64 (mt64 (mt16 (mt16 (mt16 (mt4 (mt1 (mt1 (List.Mem.head _)))))))))) rfl) (gT_of (mtb1 (mt4 (mt1 (mt1 (mt1 (List.Mem.head _)))))) rfl) dX8_init_62 (fun a28 M29 k30 => ?_)
  refine go_dup (pc := 65) dX8_init_65 rfl ?_
  refine go_callIN (pc := 66) (a := a28) (as := []) (st := [.ref a28, .ref t]) (o_Co_init a28 k30 M29) ic_Co_init rfl ivX8_45 (rcvk k30 (by decide) (by decide) rfl) rfl (by decide) (Nat.le_of_ble_eq_true rfl) dX8_init_66 (kWv fun M31 => ?_)
  refine go_putR (pc := 69) flX8_46 rfl (Or.inr ⟨rfl, rfl, rfl⟩) (kd32 (t := 9) ht rfl) rfl dX8_init_69 (fun M32 => ?_)
  refine go_aload_n (pc := 72) dX8_init_72 rfl ?_
  refine go_new (pc := 73) (t := 3) (by decide) (by decide) (fun _ _ => rfl) (gT_of (mtb1 (mt64 (mt64 (mt16 (mt16 (mt16 (mt4 (mt1 (List.Mem.head _))))))))) rfl) (gT_of (mtb1 (mt64 (mt64 (mt16 (mt16 (mt16 (mt4 (mt1 (mt1 (List.Mem.head _)))))))))) rfl) (gT_of (mtb1 (mt4 (mt1 (mt1 (mt1 (List.Mem.head _)))))) rfl) dX8_init_73 (fun a33 M34 k35 => ?_)
  refine go_dup (pc := 76) dX8_init_76 rfl ?_
  refine go_callIN (pc := 77) (a := a33) (as := []) (st := [.ref a33, .ref t]) (o_Co_init a33 k35 M34) ic_Co_init rfl ivX8_45 (rcvk k35 (by decide) (by decide) rfl) rfl (by decide) (Nat.le_of_ble_eq_true rfl) dX8_init_77 (kWv fun M36 => ?_)
  refine go_putR (pc := 80) flX8_50 rfl (Or.inr ⟨rfl, rfl, rfl⟩) (kd32 (t := 9) ht rfl) rfl dX8_init_80 (fun M37 => ?_)
  refine go_aload_n (pc := 83) dX8_init_83 rfl ?_
  refine go_new (pc := 84) (t := 1) (by decide) (by decide) (fun _ _ => rfl) (gT_of (mtb1 (mt64 (mt64 (mt64 (mt16 (mt16 (mt4 (mt1 (mt1 (List.Mem.head _)))))))))) rfl) (gT_of (mtb1 (mt64 (mt64 (mt64 (mt16 (mt16 (mt4 (mt1 (mt1 (mt1 (List.Mem.head _))))))))))) rfl) (gT_of (mtb1 (mt4 (mt4 (List.Mem.head _)))) rfl) dX8_init_84 (fun a38 M39 k40 => ?_)
  refine go_dup (pc := 87) dX8_init_87 rfl ?_
  refine go_callIN (pc := 88) (a := a38) (as := []) (st := [.ref a38, .ref t]) (o_Acts_init a38 k40 M39) ic_Acts_init rfl ivX8_55 (rcvk k40 (by decide) (by decide) rfl) rfl (by decide) (Nat.le_of_ble_eq_true rfl) dX8_init_88 (kWv fun M41 => ?_)
  refine go_putR (pc := 91) flX8_56 rfl (Or.inr ⟨rfl, rfl, rfl⟩) (kd32 (t := 9) ht rfl) rfl dX8_init_91 (fun M42 => ?_)
  refine go_aload_n (pc := 94) dX8_init_94 rfl ?_
  refine go_bipush (pc := 95) 6 dX8_init_95 kb_6 ?_
  refine go_newq (pc := 97) (t := 17) (N := 6) (by decide) (by decide) (by decide) (by decide) (fun _ _ => rfl) (gT_of (mtb2 (mt4 (mt4 (mt4 (mt1 (mt1 (List.Mem.head _))))))) rfl) dX8_init_97 (fun a43 M44 k45 => ?_)
  refine go_putR (pc := 100) flX8_62 rfl (Or.inr ⟨rfl, rfl, rfl⟩) (kd32 (t := 9) ht rfl) rfl dX8_init_100 (fun M46 => ?_)
  refine go_iconst (pc := 103) 0 dX8_init_103 ki_0 ?_
  refine go_istore_n (pc := 104) (ls' := [.ref t, .int 0]) dX8_init_104 (Nat.le_of_ble_eq_true rfl) rfl rfl ?_
  exact o_D_init_l105 t ht 200 0 M46
def f_D_air (p1 : Int32) (p2 : Int32) (M : Mem) : Option (Int32 × Mem) := if (f_D_within p1 0 11 M) = 0 then some ((-1), M) else if (f_D_within p2 0 99 M) = 0 then some ((-2), M) else gd (inR p1 12) (lt (mI M 262539 p1.toNatClampNeg) fun x1 => gd (inR p1 12) (lt (setI M 262539 p1.toNatClampNeg p2) fun M2 => some (x1, M2)))
theorem o_D_air (p1 : Int32) (p2 : Int32) (M : Mem) : Ct sRC g_D_air fWi [.ref 9, .int p1, .int p2] (f_D_air p1 p2 M) M := by
  refine ⟨Nat.le_of_ble_eq_true rfl, ?_⟩
  show Go sRC g_D_air fWi (f_D_air p1 p2 M) 0 [.ref 9, .int p1, .int p2, .null] [] M
  refine go_def (f_D_air.eq_1 ..) ?_
  refine go_iload_n (pc := 0) dX8_air_0 rfl ?_
  refine go_iconst (pc := 1) 0 dX8_air_1 ki_0 ?_
  refine go_bipush (pc := 2) 11 dX8_air_2 kb_11 ?_
  refine go_T (v := f_D_within p1 0 11 M) ?_
  refine go_callS (pc := 4) (as := [.int p1, .int 0, .int 11]) (st := []) (o_D_within p1 0 11 M) ic_D_within ivX8_67 rfl (by decide) (Nat.le_of_ble_eq_true rfl) dX8_air_4 (kTi ?_)
  refine go_ifne (pc := 7) 12 dX8_air_7 (by decide) (fun _ => ?_) (fun _ => ?_)
  · refine go_iconst (pc := 10) (-1) dX8_air_10 ki_m1 ?_
    exact go_ret dX8_air_11 rii rfl rfl
  · refine go_iload_n (pc := 12) dX8_air_12 rfl ?_
    refine go_iconst (pc := 13) 0 dX8_air_13 ki_0 ?_
    refine go_bipush (pc := 14) 99 dX8_air_14 kb_99 ?_
    refine go_T (v := f_D_within p2 0 99 M) ?_
    refine go_callS (pc := 16) (as := [.int p2, .int 0, .int 99]) (st := []) (o_D_within p2 0 99 M) ic_D_within ivX8_67 rfl (by decide) (Nat.le_of_ble_eq_true rfl) dX8_air_16 (kTi ?_)
    refine go_ifne (pc := 19) 25 dX8_air_19 (by decide) (fun _ => ?_) (fun _ => ?_)
    · refine go_bipush (pc := 22) (-2) dX8_air_22 kb_m2 ?_
      exact go_ret dX8_air_24 rii rfl rfl
    · refine go_aload_n (pc := 25) dX8_air_25 rfl ?_
      refine go_getS (pc := 26) 131077 flX8_12 rfl rfl sC_9_0 (by decide) dX8_air_26 ?_
      refine go_getS (pc := 29) 262539 flX8_71 rfl rfl (sC_5_0 rfl) (by decide) dX8_air_29 ?_
      refine go_iload_n (pc := 32) dX8_air_32 rfl ?_
      refine go_iald (pc := 33) rfl rfl dX8_air_33 (fun _ => ?_)
      refine go_istore_nL (pc := 34) (L := fun x1 => [.ref 9, .int p1, .int p2, .int x1]) dX8_air_34 (Nat.le_of_ble_eq_true rfl) rfl (fun _ => rfl) (fun x1 => ?_)
      refine go_aload_n (pc := 35) dX8_air_35 rfl ?_
      refine go_getS (pc := 36) 131077 flX8_12 rfl rfl sC_9_0 (by decide) dX8_air_36 ?_
      refine go_getS (pc := 39) 262539 flX8_71 rfl rfl (sC_5_0 rfl) (by decide) dX8_air_39 ?_
      refine go_iload_n (pc := 42) dX8_air_42 rfl ?_
      refine go_iload_n (pc := 43) dX8_air_43 rfl ?_
      refine go_iast (pc := 44) rfl rfl dX8_air_44 (fun _ M2 => ?_)
      refine go_iload_n (pc := 45) dX8_air_45 rfl ?_
      exact go_ret dX8_air_46 rii rfl rfl
def f_D_lean (p1 : Int32) (M : Mem) : Option (Int32 × Mem) := if (f_D_within p1 0 20 M) = 0 then some ((-2), M) else lt (mI M 131077 3) fun x1 => lt (setI M 131077 3 p1) fun M2 => some (x1, M2)
theorem o_D_lean (p1 : Int32) (M : Mem) : Ct sRC g_D_lean fWi [.ref 9, .int p1] (f_D_lean p1 M) M := by
  refine ⟨Nat.le_of_ble_eq_true rfl, ?_⟩
  show Go sRC g_D_lean fWi (f_D_lean p1 M) 0 [.ref 9, .int p1, .null] [] M
  refine go_def (f_D_lean.eq_1 ..) ?_
  refine go_iload_n (pc := 0) dX8_lean_0 rfl ?_
  refine go_iconst (pc := 1) 0 dX8_lean_1 ki_0 ?_
  refine go_bipush (pc := 2) 20 dX8_lean_2 kb_20 ?_
  refine go_T (v := f_D_within p1 0 20 M) ?_
  refine go_callS (pc := 4) (as := [.int p1, .int 0, .int 20]) (st := []) (o_D_within p1 0 20 M) ic_D_within ivX8_67 rfl (by decide) (Nat.le_of_ble_eq_true rfl) dX8_lean_4 (kTi ?_)
  refine go_ifne (pc := 7) 13 dX8_lean_7 (by decide) (fun _ => ?_) (fun _ => ?_)
  · refine go_bipush (pc := 10) (-2) dX8_lean_10 kb_m2 ?_
    exact go_ret dX8_lean_12 rii rfl rfl
  · refine go_aload_n (pc := 13) dX8_lean_13 rfl ?_
    refine go_getS (pc := 14) 131077 flX8_12 rfl rfl sC_9_0 (by decide) dX8_lean_14 ?_
    refine go_getI (pc := 17) flX8_75 rfl rfl dX8_lean_17 ?_
    refine go_istore_nL (pc := 20) (L := fun x1 => [.ref 9, .int p1, .int x1]) dX8_lean_20 (Nat.le_of_ble_eq_true rfl) rfl (fun _ => rfl) (fun x1 => ?_)
    refine go_aload_n (pc := 21) dX8_lean_21 rfl ?_
    refine go_getS (pc := 22) 131077 flX8_12 rfl rfl sC_9_0 (by decide) dX8_lean_22 ?_
    refine go_iload_n (pc := 25) dX8_lean_25 rfl ?_
    refine go_putI (pc := 26) flX8_75 rfl (Or.inl rfl) ⟨rfl, rfl⟩ rfl dX8_lean_26 (fun M2 => ?_)
    refine go_iload_n (pc := 29) dX8_lean_29 rfl ?_
    exact go_ret dX8_lean_30 rii rfl rfl
def f_D_door (p1 : Int32) (p2 : Int32) (M : Mem) : Option (Int32 × Mem) := if (f_D_within p1 0 6 M) = 0 then some ((-1), M) else if (f_D_within p2 0 9 M) = 0 then some ((-2), M) else if (mI M 131077 2) < 4 then lt (mI M 131077 2) fun x1 => gd (inR x1 4) (bd (f_Dr_begin (786436 + 655360 * x1.toNatClampNeg) x1 p1 p2 M) fun M2 => lt (setI M2 131077 2 ((mI M2 131077 2) + 1)) fun M3 => some (x1, M3)) else some ((-4), M)
theorem o_D_door (p1 : Int32) (p2 : Int32) (M : Mem) : Ct sRC g_D_door fWi [.ref 9, .int p1, .int p2] (f_D_door p1 p2 M) M := by
  refine ⟨Nat.le_of_ble_eq_true rfl, ?_⟩
  show Go sRC g_D_door fWi (f_D_door p1 p2 M) 0 [.ref 9, .int p1, .int p2, .null] [] M
  refine go_def (f_D_door.eq_1 ..) ?_
  refine go_iload_n (pc := 0) dX8_door_0 rfl ?_
  refine go_iconst (pc := 1) 0 dX8_door_1 ki_0 ?_
  refine go_bipush (pc := 2) 6 dX8_door_2 kb_6 ?_
  refine go_T (v := f_D_within p1 0 6 M) ?_
  refine go_callS (pc := 4) (as := [.int p1, .int 0, .int 6]) (st := []) (o_D_within p1 0 6 M) ic_D_within ivX8_67 rfl (by decide) (Nat.le_of_ble_eq_true rfl) dX8_door_4 (kTi ?_)
  refine go_ifne (pc := 7) 12 dX8_door_7 (by decide) (fun _ => ?_) (fun _ => ?_)
  · refine go_iconst (pc := 10) (-1) dX8_door_10 ki_m1 ?_
    exact go_ret dX8_door_11 rii rfl rfl
  · refine go_iload_n (pc := 12) dX8_door_12 rfl ?_
    refine go_iconst (pc := 13) 0 dX8_door_13 ki_0 ?_
    refine go_bipush (pc := 14) 9 dX8_door_14 kb_9 ?_
    refine go_T (v := f_D_within p2 0 9 M) ?_
    refine go_callS (pc := 16) (as := [.int p2, .int 0, .int 9]) (st := []) (o_D_within p2 0 9 M) ic_D_within ivX8_67 rfl (by decide) (Nat.le_of_ble_eq_true rfl) dX8_door_16 (kTi ?_)
    refine go_ifne (pc := 19) 25 dX8_door_19 (by decide) (fun _ => ?_) (fun _ => ?_)
    · refine go_bipush (pc := 22) (-2) dX8_door_22 kb_m2 ?_
      exact go_ret dX8_door_24 rii rfl rfl
    · refine go_aload_n (pc := 25) dX8_door_25 rfl ?_
      refine go_getS (pc := 26) 131077 flX8_12 rfl rfl sC_9_0 (by decide) dX8_door_26 ?_
      refine go_getI (pc := 29) flX8_79 rfl rfl dX8_door_29 ?_
      refine go_iconst (pc := 32) 4 dX8_door_32 ki_4 ?_
      refine go_icmplt (pc := 33) 39 dX8_door_33 (by decide) (fun _ => ?_) (fun _ => ?_)
      · refine go_aload_n (pc := 39) dX8_door_39 rfl ?_
        refine go_getS (pc := 40) 131077 flX8_12 rfl rfl sC_9_0 (by decide) dX8_door_40 ?_
        refine go_getI (pc := 43) flX8_79 rfl rfl dX8_door_43 ?_
        refine go_istore_nL (pc := 46) (L := fun x1 => [.ref 9, .int p1, .int p2, .int x1]) dX8_door_46 (Nat.le_of_ble_eq_true rfl) rfl (fun _ => rfl) (fun x1 => ?_)
        refine go_aload_n (pc := 47) dX8_door_47 rfl ?_
        refine go_getS (pc := 48) 131077 flX8_12 rfl rfl sC_9_0 (by decide) dX8_door_48 ?_
        refine go_getS (pc := 51) 393358 flX8_82 rfl rfl (sC_5_1 rfl) (by decide) dX8_door_51 ?_
        refine go_iload_n (pc := 54) dX8_door_54 rfl ?_
        refine go_aaldS (pc := 55) (fun j => 786436 + 655360 * j) (by decide) (by decide) rfl (sCa_14 rfl) dX8_door_55 (fun _ => ?_)
        refine go_iload_n (pc := 56) dX8_door_56 rfl ?_
        refine go_iload_n (pc := 57) dX8_door_57 rfl ?_
        refine go_iload_n (pc := 58) dX8_door_58 rfl ?_
        refine go_callV (pc := 59) (a := 786436 + 655360 * x1.toNatClampNeg) (as := [.int x1, .int p1, .int p2]) (st := []) (o_Dr_begin (786436 + 655360 * x1.toNatClampNeg) x1 p1 p2 (k5 (k := 4) rfl _) M) ic_Dr_begin ivX8_86 (rcvk (k5 (k := 4) rfl _) (by decide) (by decide) rfl) rfl (by decide) (Nat.le_of_ble_eq_true rfl) dX8_door_59 (kWv fun M2 => ?_)
        refine go_aload_n (pc := 62) dX8_door_62 rfl ?_
        refine go_getS (pc := 63) 131077 flX8_12 rfl rfl sC_9_0 (by decide) dX8_door_63 ?_
        refine go_dup (pc := 66) dX8_door_66 rfl ?_
        refine go_getI (pc := 67) flX8_79 rfl rfl dX8_door_67 ?_
        refine go_iconst (pc := 70) 1 dX8_door_70 ki_1 ?_
        refine go_iadd (pc := 71) dX8_door_71 ?_
        refine go_putI (pc := 72) flX8_79 rfl (Or.inl rfl) ⟨rfl, rfl⟩ rfl dX8_door_72 (fun M3 => ?_)
        refine go_iload_n (pc := 75) dX8_door_75 rfl ?_
        exact go_ret dX8_door_76 rii rfl rfl
      · refine go_bipush (pc := 36) (-4) dX8_door_36 kb_m4 ?_
        exact go_ret dX8_door_38 rii rfl rfl
def f_D_doorAt (p1 : Int32) (M : Mem) : Option Nat := if (f_D_within p1 0 ((mI M 131077 2) - 1) M) = 0 then some 0 else gd (inR p1 4) (some (786436 + 655360 * p1.toNatClampNeg))
theorem o_D_doorAt (p1 : Int32) (M : Mem) : Ct sRC g_D_doorAt (fRr M) [.ref 9, .int p1] (f_D_doorAt p1 M) M := by
  refine ⟨Nat.le_of_ble_eq_true rfl, ?_⟩
  show Go sRC g_D_doorAt (fRr M) (f_D_doorAt p1 M) 0 [.ref 9, .int p1] [] M
  refine go_def (f_D_doorAt.eq_1 ..) ?_
  refine go_iload_n (pc := 0) dX8_doorAt_0 rfl ?_
  refine go_iconst (pc := 1) 0 dX8_doorAt_1 ki_0 ?_
  refine go_aload_n (pc := 2) dX8_doorAt_2 rfl ?_
  refine go_getS (pc := 3) 131077 flX8_12 rfl rfl sC_9_0 (by decide) dX8_doorAt_3 ?_
  refine go_getI (pc := 6) flX8_79 rfl rfl dX8_doorAt_6 ?_
  refine go_iconst (pc := 9) 1 dX8_doorAt_9 ki_1 ?_
  refine go_isub (pc := 10) dX8_doorAt_10 ?_
  refine go_T (v := f_D_within p1 0 ((mI M 131077 2) - 1) M) ?_
  refine go_callS (pc := 11) (as := [.int p1, .int 0, .int ((mI M 131077 2) - 1)]) (st := []) (o_D_within p1 0 ((mI M 131077 2) - 1) M) ic_D_within ivX8_67 rfl (by decide) (Nat.le_of_ble_eq_true rfl) dX8_doorAt_11 (kTi ?_)
  refine go_ifeq (pc := 14) 29 dX8_doorAt_14 (by decide) (fun _ => ?_) (fun _ => ?_)
  · refine go_null (pc := 29) dX8_doorAt_29 ?_
    exact go_ret dX8_doorAt_30 ⟨_, rfl, Or.inl ⟨_, rfl⟩⟩ rfl rfl
  · refine go_aload_n (pc := 17) dX8_doorAt_17 rfl ?_
    refine go_getS (pc := 18) 131077 flX8_12 rfl rfl sC_9_0 (by decide) dX8_doorAt_18 ?_
    refine go_getS (pc := 21) 393358 flX8_82 rfl rfl (sC_5_1 rfl) (by decide) dX8_doorAt_21 ?_
    refine go_iload_n (pc := 24) dX8_doorAt_24 rfl ?_
    refine go_aaldS (pc := 25) (fun j => 786436 + 655360 * j) (by decide) (by decide) rfl (sCa_14 rfl) dX8_doorAt_25 (fun _ => ?_)
    refine go_goto (pc := 26) 30 dX8_doorAt_26 (by decide) ?_
    exact go_ret dX8_doorAt_30 ⟨_, rfl, Or.inl ⟨_, rfl⟩⟩ rfl rfl
def f_D_holdingHouse (M : Mem) : Option Nat := if (f_D_within (mI M 131077 5) 0 5 M) = 0 then if 0 = 0 then some 7208966 else some 0 else gd (inR (mI M 131077 5) (6)) (lt (mR M 7471311 (mI M 131077 5).toNatClampNeg) fun x1 => if x1 = 0 then some 7208966 else some x1)
theorem o_D_holdingHouse (M : Mem) : Ct sRC g_D_holdingHouse (fRr M) [.ref 9] (f_D_holdingHouse M) M := by
  refine ⟨Nat.le_of_ble_eq_true rfl, ?_⟩
  show Go sRC g_D_holdingHouse (fRr M) (f_D_holdingHouse M) 0 [.ref 9, .null] [] M
  refine go_def (f_D_holdingHouse.eq_1 ..) ?_
  refine go_aload_n (pc := 0) dX8_holdingHouse_0 rfl ?_
  refine go_getS (pc := 1) 131077 flX8_12 rfl rfl sC_9_0 (by decide) dX8_holdingHouse_1 ?_
  refine go_getI (pc := 4) flX8_158 rfl rfl dX8_holdingHouse_4 ?_
  refine go_iconst (pc := 7) 0 dX8_holdingHouse_7 ki_0 ?_
  refine go_iconst (pc := 8) 5 dX8_holdingHouse_8 ki_5 ?_
  refine go_T (v := f_D_within (mI M 131077 5) 0 5 M) ?_
  refine go_callS (pc := 9) (as := [.int (mI M 131077 5), .int 0, .int 5]) (st := []) (o_D_within (mI M 131077 5) 0 5 M) ic_D_within ivX8_67 rfl (by decide) (Nat.le_of_ble_eq_true rfl) dX8_holdingHouse_9 (kTi ?_)
  refine go_ifeq (pc := 12) 30 dX8_holdingHouse_12 (by decide) (fun _ => ?_) (fun _ => ?_)
  · refine go_null (pc := 30) dX8_holdingHouse_30 ?_
    refine go_astore_n (pc := 31) (ls' := [.ref 9, .ref 0]) dX8_holdingHouse_31 (Nat.le_of_ble_eq_true rfl) rfl rfl ?_
    refine go_aload_n (pc := 32) dX8_holdingHouse_32 rfl ?_
    refine go_ifnonnull (pc := 33) 43 dX8_holdingHouse_33 (by decide) (fun _ => ?_) (fun _ => ?_)
    · refine go_aload_n (pc := 36) dX8_holdingHouse_36 rfl ?_
      refine go_getS (pc := 37) 7208966 flX8_35 rfl rfl sC_9_4 (by decide) dX8_holdingHouse_37 ?_
      refine go_goto (pc := 40) 44 dX8_holdingHouse_40 (by decide) ?_
      exact go_ret dX8_holdingHouse_44 ⟨_, rfl, Or.inl ⟨_, rfl⟩⟩ rfl rfl
    · refine go_aload_n (pc := 43) dX8_holdingHouse_43 rfl ?_
      exact go_ret dX8_holdingHouse_44 ⟨_, rfl, Or.inl ⟨_, rfl⟩⟩ rfl rfl
  · refine go_aload_n (pc := 15) dX8_holdingHouse_15 rfl ?_
    refine go_getS (pc := 16) 7471311 flX8_39 rfl rfl sC_9_5 (by decide) dX8_holdingHouse_16 ?_
    refine go_aload_n (pc := 19) dX8_holdingHouse_19 rfl ?_
    refine go_getS (pc := 20) 131077 flX8_12 rfl rfl sC_9_0 (by decide) dX8_holdingHouse_20 ?_
    refine go_getI (pc := 23) flX8_158 rfl rfl dX8_holdingHouse_23 ?_
    refine go_aaldR (pc := 26) (by decide) (by decide) rfl dX8_holdingHouse_26 (fun _ => ?_)
    refine go_goto (pc := 27) 31 dX8_holdingHouse_27 (by decide) ?_
    refine go_astore_nL (pc := 31) (L := fun x1 => [.ref 9, .ref x1]) dX8_holdingHouse_31 (Nat.le_of_ble_eq_true rfl) rfl (fun _ => rfl) (fun x1 => ?_)
    refine go_aload_n (pc := 32) dX8_holdingHouse_32 rfl ?_
    refine go_ifnonnull (pc := 33) 43 dX8_holdingHouse_33 (by decide) (fun _ => ?_) (fun _ => ?_)
    · refine go_aload_n (pc := 36) dX8_holdingHouse_36 rfl ?_
      refine go_getS (pc := 37) 7208966 flX8_35 rfl rfl sC_9_4 (by decide) dX8_holdingHouse_37 ?_
      refine go_goto (pc := 40) 44 dX8_holdingHouse_40 (by decide) ?_
      exact go_ret dX8_holdingHouse_44 ⟨_, rfl, Or.inl ⟨_, rfl⟩⟩ rfl rfl
    · refine go_aload_n (pc := 43) dX8_holdingHouse_43 rfl ?_
      exact go_ret dX8_holdingHouse_44 ⟨_, rfl, Or.inl ⟨_, rfl⟩⟩ rfl rfl
def f_D_courseNow (p1 : Nat) (M : Mem) : Option (Nat × Mem) := bd (f_D_holdingHouse M) fun r1 => gd (r1 % 131072 = 6) (bd (f_Co_begin 7602179 p1 131077 r1 M) fun M3 => some (7602179, M3))
theorem o_D_courseNow (p1 : Nat) (hp1 : p1 % 131072 = 4) (M : Mem) : Ct sRC g_D_courseNow fWr [.ref 9, .ref p1] (f_D_courseNow p1 M) M := by
  refine ⟨Nat.le_of_ble_eq_true rfl, ?_⟩
  show Go sRC g_D_courseNow fWr (f_D_courseNow p1 M) 0 [.ref 9, .ref p1] [] M
  refine go_def (f_D_courseNow.eq_1 ..) ?_
  refine go_aload_n (pc := 0) dX8_courseNow_0 rfl ?_
  refine go_getS (pc := 1) 7602179 flX8_46 rfl rfl sC_9_7 (by decide) dX8_courseNow_1 ?_
  refine go_aload_n (pc := 4) dX8_courseNow_4 rfl ?_
  refine go_aload_n (pc := 5) dX8_courseNow_5 rfl ?_
  refine go_getS (pc := 6) 131077 flX8_12 rfl rfl sC_9_0 (by decide) dX8_courseNow_6 ?_
  refine go_aload_n (pc := 9) dX8_courseNow_9 rfl ?_
  refine go_callV (pc := 10) (a := 9) (as := []) (st := [.ref 131077, .ref p1, .ref 7602179]) (o_D_holdingHouse M) ic_D_holdingHouse ivX8_161 (rcvk (a := 9) (t := 9) rfl (by decide) (by decide) rfl) rfl (by decide) (Nat.le_of_ble_eq_true rfl) dX8_courseNow_10 (kRr fun r1 => ?_)
  refine go_gd fun g2 => ?_
  refine go_callV (pc := 13) (a := 7602179) (as := [.ref p1, .ref 131077, .ref r1]) (st := []) (o_Co_begin 7602179 p1 131077 r1 rfl hp1 rfl g2 M) ic_Co_begin ivX8_338 (rcvk rfl (by decide) (by decide) rfl) rfl (by decide) (Nat.le_of_ble_eq_true rfl) dX8_courseNow_13 (kWv fun M3 => ?_)
  refine go_aload_n (pc := 16) dX8_courseNow_16 rfl ?_
  refine go_getS (pc := 17) 7602179 flX8_46 rfl rfl sC_9_7 (by decide) dX8_courseNow_17 ?_
  exact go_ret dX8_courseNow_20 ⟨_, rfl, Or.inl ⟨_, rfl⟩⟩ rfl rfl
def f_D_of (p1 : Int32) (p2 : Int32) (M : Mem) : Option (Int32 × Mem) := bd (f_D_doorAt p1 M) fun r1 => if r1 = 0 then some ((-10001), M) else if (f_D_within p2 20 25 M) = 0 then if (f_D_within p2 30 35 M) = 0 then if p2 = 0 then gd (r1 % 131072 = 4) (some (mI M r1 1, M)) else if p2 = 1 then gd (r1 % 131072 = 4) (some (mI M r1 2, M)) else if p2 = 2 then gd (r1 % 131072 = 4) (some (mI M (r1 + 131143) 0, M)) else if p2 = 3 then gd (r1 % 131072 = 4) (some (mI M (r1 + 131143) 1, M)) else if p2 = 4 then gd (r1 % 131072 = 4) (some ((mI M (r1 + 262215) 0) + (2 * (mI M (r1 + 262215) 1)), M)) else if p2 = 5 then gd (r1 % 131072 = 4) (some (mI M r1 3, M)) else if p2 = 6 then gd (r1 % 131072 = 4) (some (mI M r1 4, M)) else if p2 = 7 then gd (r1 % 131072 = 4) (b2 (f_D_courseNow r1 M) fun r11 M10 => gd (r11 % 131072 = 3) (some (mI M10 r11 5, M10))) else if p2 = 8 then gd (r1 % 131072 = 4) (b2 (f_D_courseNow r1 M) fun r15 M14 => gd (r15 % 131072 = 3) (some (mI M14 r15 6, M14))) else if p2 = 9 then gd (r1 % 131072 = 4) (b2 (f_D_courseNow r1 M) fun r19 M18 => gd (r19 % 131072 = 3) (some (mI M18 r19 7, M18))) else if p2 = 10 then gd (r1 % 131072 = 4) (b2 (f_D_courseNow r1 M) fun r23 M22 => gd (r23 % 131072 = 3) (bd (f_Co_rubbing r23 M22) fun r25 => some (r25, M22))) else if p2 = 11 then gd (r1 % 131072 = 4) (b2 (f_D_courseNow r1 M) fun r28 M27 => gd (r28 % 131072 = 3) (bd (f_Co_draughty r28 M27) fun r30 => some (r30, M27))) else some ((-10001), M) else gd (r1 % 131072 = 4) (b2 (f_D_courseNow r1 M) fun r45 M44 => gd (r45 % 131072 = 3) (bd (f_Co_gap r45 (p2 - 30) M44) fun r47 => some (r47, M44))) else gd (r1 % 131072 = 4) (gd (inR (p2 - 20) 6) (some (mI M (r1 + 393415) (p2 - 20).toNatClampNeg, M)))
theorem o_D_of (p1 : Int32) (p2 : Int32) (M : Mem) : Ct sRC g_D_of fWi [.ref 9, .int p1, .int p2] (f_D_of p1 p2 M) M := by
  refine ⟨Nat.le_of_ble_eq_true rfl, ?_⟩
  show Go sRC g_D_of fWi (f_D_of p1 p2 M) 0 [.ref 9, .int p1, .int p2, .null] [] M
  refine go_def (f_D_of.eq_1 ..) ?_
  refine go_aload_n (pc := 0) dX8_of_0 rfl ?_
  refine go_iload_n (pc := 1) dX8_of_1 rfl ?_
  refine go_callV (pc := 2) (a := 9) (as := [.int p1]) (st := []) (o_D_doorAt p1 M) ic_D_doorAt ivX8_92 (rcvk (a := 9) (t := 9) rfl (by decide) (by decide) rfl) rfl (by decide) (Nat.le_of_ble_eq_true rfl) dX8_of_2 (kRr fun r1 => ?_)
  refine go_astore_n (pc := 5) (ls' := [.ref 9, .int p1, .int p2, .ref r1]) dX8_of_5 (Nat.le_of_ble_eq_true rfl) rfl rfl ?_
  refine go_aload_n (pc := 6) dX8_of_6 rfl ?_
  refine go_ifnonnull (pc := 7) 14 dX8_of_7 (by decide) (fun _ => ?_) (fun _ => ?_)
  · refine go_sipush (pc := 10) (-10001) dX8_of_10 ks_m10001 ?_
    exact go_ret dX8_of_13 rii rfl rfl
  · refine go_iload_n (pc := 14) dX8_of_14 rfl ?_
    refine go_bipush (pc := 15) 20 dX8_of_15 kb_20 ?_
    refine go_bipush (pc := 17) 25 dX8_of_17 kb_25 ?_
    refine go_T (v := f_D_within p2 20 25 M) ?_
    refine go_callS (pc := 19) (as := [.int p2, .int 20, .int 25]) (st := []) (o_D_within p2 20 25 M) ic_D_within ivX8_67 rfl (by decide) (Nat.le_of_ble_eq_true rfl) dX8_of_19 (kTi ?_)
    refine go_ifeq (pc := 22) 35 dX8_of_22 (by decide) (fun _ => ?_) (fun _ => ?_)
    · refine go_iload_n (pc := 35) dX8_of_35 rfl ?_
      refine go_bipush (pc := 36) 30 dX8_of_36 kb_30 ?_
      refine go_bipush (pc := 38) 35 dX8_of_38 kb_35 ?_
      refine go_T (v := f_D_within p2 30 35 M) ?_
      refine go_callS (pc := 40) (as := [.int p2, .int 30, .int 35]) (st := []) (o_D_within p2 30 35 M) ic_D_within ivX8_67 rfl (by decide) (Nat.le_of_ble_eq_true rfl) dX8_of_40 (kTi ?_)
      refine go_ifeq (pc := 43) 59 dX8_of_43 (by decide) (fun _ => ?_) (fun _ => ?_)
      · refine go_iload_n (pc := 59) dX8_of_59 rfl ?_
        refine go_tswC (pc := 60) (v := 0) (off := 64) 124 dX8_of_60 (by decide) (by decide) (by decide) (fun _ => ?_) (fun n31 => ?_)
        · refine go_aload_n (pc := 124) dX8_of_124 rfl ?_
          refine go_gd fun g2 => ?_
          refine go_getI (pc := 125) flX8_107 rfl (kd32 (t := 4) g2 rfl) dX8_of_125 ?_
          exact go_ret dX8_of_128 rii rfl rfl
        refine go_tswC (pc := 60) (v := 1) (off := 69) 129 dX8_of_60 (by decide) (by decide) (by decide) (fun _ => ?_) (fun n32 => ?_)
        · refine go_aload_n (pc := 129) dX8_of_129 rfl ?_
          refine go_gd fun g3 => ?_
          refine go_getI (pc := 130) flX8_110 rfl (kd32 (t := 4) g3 rfl) dX8_of_130 ?_
          exact go_ret dX8_of_133 rii rfl rfl
        refine go_tswC (pc := 60) (v := 2) (off := 74) 134 dX8_of_60 (by decide) (by decide) (by decide) (fun _ => ?_) (fun n33 => ?_)
        · refine go_aload_n (pc := 134) dX8_of_134 rfl ?_
          refine go_gd fun g4 => ?_
          refine go_getS (pc := 135) (r1 + 131143) flX8_113 rfl (kd32 (t := 4) g4 rfl) (sC_4_5 g4) (knz (by decide)) dX8_of_135 ?_
          refine go_iconst (pc := 138) 0 dX8_of_138 ki_0 ?_
          refine go_iald' (pc := 139) 0 (by decide) (by decide) (kd32 (t := 11) (kadd g4 rfl) rfl) (kln (kadd g4 rfl) rfl) dX8_of_139 ?_
          exact go_ret dX8_of_140 rii rfl rfl
        refine go_tswC (pc := 60) (v := 3) (off := 81) 141 dX8_of_60 (by decide) (by decide) (by decide) (fun _ => ?_) (fun n34 => ?_)
        · refine go_aload_n (pc := 141) dX8_of_141 rfl ?_
          refine go_gd fun g5 => ?_
          refine go_getS (pc := 142) (r1 + 131143) flX8_113 rfl (kd32 (t := 4) g5 rfl) (sC_4_5 g5) (knz (by decide)) dX8_of_142 ?_
          refine go_iconst (pc := 145) 1 dX8_of_145 ki_1 ?_
          refine go_iald' (pc := 146) 1 (by decide) (by decide) (kd32 (t := 11) (kadd g5 rfl) rfl) (kln (kadd g5 rfl) rfl) dX8_of_146 ?_
          exact go_ret dX8_of_147 rii rfl rfl
        refine go_tswC (pc := 60) (v := 4) (off := 88) 148 dX8_of_60 (by decide) (by decide) (by decide) (fun _ => ?_) (fun n35 => ?_)
        · refine go_aload_n (pc := 148) dX8_of_148 rfl ?_
          refine go_gd fun g6 => ?_
          refine go_getS (pc := 149) (r1 + 262215) flX8_116 rfl (kd32 (t := 4) g6 rfl) (sC_4_6 g6) (knz (by decide)) dX8_of_149 ?_
          refine go_iconst (pc := 152) 0 dX8_of_152 ki_0 ?_
          refine go_iald' (pc := 153) 0 (by decide) (by decide) (kd32 (t := 11) (kadd g6 rfl) rfl) (kln (kadd g6 rfl) rfl) dX8_of_153 ?_
          refine go_iconst (pc := 154) 2 dX8_of_154 ki_2 ?_
          refine go_aload_n (pc := 155) dX8_of_155 rfl ?_
          refine go_getS (pc := 156) (r1 + 262215) flX8_116 rfl (kd32 (t := 4) g6 rfl) (sC_4_6 g6) (knz (by decide)) dX8_of_156 ?_
          refine go_iconst (pc := 159) 1 dX8_of_159 ki_1 ?_
          refine go_iald' (pc := 160) 1 (by decide) (by decide) (kd32 (t := 11) (kadd g6 rfl) rfl) (kln (kadd g6 rfl) rfl) dX8_of_160 ?_
          refine go_imul (pc := 161) dX8_of_161 ?_
          refine go_iadd (pc := 162) dX8_of_162 ?_
          exact go_ret dX8_of_163 rii rfl rfl
        refine go_tswC (pc := 60) (v := 5) (off := 104) 164 dX8_of_60 (by decide) (by decide) (by decide) (fun _ => ?_) (fun n36 => ?_)
        · refine go_aload_n (pc := 164) dX8_of_164 rfl ?_
          refine go_gd fun g7 => ?_
          refine go_getI (pc := 165) flX8_119 rfl (kd32 (t := 4) g7 rfl) dX8_of_165 ?_
          exact go_ret dX8_of_168 rii rfl rfl
        refine go_tswC (pc := 60) (v := 6) (off := 109) 169 dX8_of_60 (by decide) (by decide) (by decide) (fun _ => ?_) (fun n37 => ?_)
        · refine go_aload_n (pc := 169) dX8_of_169 rfl ?_
          refine go_gd fun g8 => ?_
          refine go_getI (pc := 170) flX8_122 rfl (kd32 (t := 4) g8 rfl) dX8_of_170 ?_
          exact go_ret dX8_of_173 rii rfl rfl
        refine go_tswC (pc := 60) (v := 7) (off := 114) 174 dX8_of_60 (by decide) (by decide) (by decide) (fun _ => ?_) (fun n38 => ?_)
        · refine go_aload_n (pc := 174) dX8_of_174 rfl ?_
          refine go_aload_n (pc := 175) dX8_of_175 rfl ?_
          refine go_gd fun g9 => ?_
          refine go_callV (pc := 176) (a := 9) (as := [.ref r1]) (st := []) (o_D_courseNow r1 g9 M) ic_D_courseNow ivX8_99 (rcvk (a := 9) (t := 9) rfl (by decide) (by decide) rfl) rfl (by decide) (Nat.le_of_ble_eq_true rfl) dX8_of_176 (kWr fun r11 M10 => ?_)
          refine go_gd fun g12 => ?_
          refine go_getI (pc := 179) flX8_125 rfl (kd32 (t := 3) g12 rfl) dX8_of_179 ?_
          exact go_ret dX8_of_182 rii rfl rfl
        refine go_tswC (pc := 60) (v := 8) (off := 123) 183 dX8_of_60 (by decide) (by decide) (by decide) (fun _ => ?_) (fun n39 => ?_)
        · refine go_aload_n (pc := 183) dX8_of_183 rfl ?_
          refine go_aload_n (pc := 184) dX8_of_184 rfl ?_
          refine go_gd fun g13 => ?_
          refine go_callV (pc := 185) (a := 9) (as := [.ref r1]) (st := []) (o_D_courseNow r1 g13 M) ic_D_courseNow ivX8_99 (rcvk (a := 9) (t := 9) rfl (by decide) (by decide) rfl) rfl (by decide) (Nat.le_of_ble_eq_true rfl) dX8_of_185 (kWr fun r15 M14 => ?_)
          refine go_gd fun g16 => ?_
          refine go_getI (pc := 188) flX8_128 rfl (kd32 (t := 3) g16 rfl) dX8_of_188 ?_
          exact go_ret dX8_of_191 rii rfl rfl
        refine go_tswC (pc := 60) (v := 9) (off := 132) 192 dX8_of_60 (by decide) (by decide) (by decide) (fun _ => ?_) (fun n40 => ?_)
        · refine go_aload_n (pc := 192) dX8_of_192 rfl ?_
          refine go_aload_n (pc := 193) dX8_of_193 rfl ?_
          refine go_gd fun g17 => ?_
          refine go_callV (pc := 194) (a := 9) (as := [.ref r1]) (st := []) (o_D_courseNow r1 g17 M) ic_D_courseNow ivX8_99 (rcvk (a := 9) (t := 9) rfl (by decide) (by decide) rfl) rfl (by decide) (Nat.le_of_ble_eq_true rfl) dX8_of_194 (kWr fun r19 M18 => ?_)
          refine go_gd fun g20 => ?_
          refine go_getI (pc := 197) flX8_131 rfl (kd32 (t := 3) g20 rfl) dX8_of_197 ?_
          exact go_ret dX8_of_200 rii rfl rfl
        refine go_tswC (pc := 60) (v := 10) (off := 141) 201 dX8_of_60 (by decide) (by decide) (by decide) (fun _ => ?_) (fun n41 => ?_)
        · refine go_aload_n (pc := 201) dX8_of_201 rfl ?_
          refine go_aload_n (pc := 202) dX8_of_202 rfl ?_
          refine go_gd fun g21 => ?_
          refine go_callV (pc := 203) (a := 9) (as := [.ref r1]) (st := []) (o_D_courseNow r1 g21 M) ic_D_courseNow ivX8_99 (rcvk (a := 9) (t := 9) rfl (by decide) (by decide) rfl) rfl (by decide) (Nat.le_of_ble_eq_true rfl) dX8_of_203 (kWr fun r23 M22 => ?_)
          refine go_gd fun g24 => ?_
          refine go_callV (pc := 206) (a := r23) (as := []) (st := []) (o_Co_rubbing r23 g24 M22) ic_Co_rubbing ivX8_134 (rcvk g24 (by decide) (by decide) rfl) rfl (by decide) (Nat.le_of_ble_eq_true rfl) dX8_of_206 (kRi fun r25 => ?_)
          exact go_ret dX8_of_209 rii rfl rfl
        refine go_tswC (pc := 60) (v := 11) (off := 150) 210 dX8_of_60 (by decide) (by decide) (by decide) (fun _ => ?_) (fun n42 => ?_)
        · refine go_aload_n (pc := 210) dX8_of_210 rfl ?_
          refine go_aload_n (pc := 211) dX8_of_211 rfl ?_
          refine go_gd fun g26 => ?_
          refine go_callV (pc := 212) (a := 9) (as := [.ref r1]) (st := []) (o_D_courseNow r1 g26 M) ic_D_courseNow ivX8_99 (rcvk (a := 9) (t := 9) rfl (by decide) (by decide) rfl) rfl (by decide) (Nat.le_of_ble_eq_true rfl) dX8_of_212 (kWr fun r28 M27 => ?_)
          refine go_gd fun g29 => ?_
          refine go_callV (pc := 215) (a := r28) (as := []) (st := []) (o_Co_draughty r28 g29 M27) ic_Co_draughty ivX8_138 (rcvk g29 (by decide) (by decide) rfl) rfl (by decide) (Nat.le_of_ble_eq_true rfl) dX8_of_215 (kRi fun r30 => ?_)
          exact go_ret dX8_of_218 rii rfl rfl
        refine go_tswD (pc := 60) 219 dX8_of_60 (by have n31t := lv_neT n31 (show (0 : Int32).toInt = 0 by decide); have n32t := lv_neT n32 (show (1 : Int32).toInt = 1 by decide); have n33t := lv_neT n33 (show (2 : Int32).toInt = 2 by decide); have n34t := lv_neT n34 (show (3 : Int32).toInt = 3 by decide); have n35t := lv_neT n35 (show (4 : Int32).toInt = 4 by decide); have n36t := lv_neT n36 (show (5 : Int32).toInt = 5 by decide); have n37t := lv_neT n37 (show (6 : Int32).toInt = 6 by decide); have n38t := lv_neT n38 (show (7 : Int32).toInt = 7 by decide); have n39t := lv_neT n39 (show (8 : Int32).toInt = 8 by decide); have n40t := lv_neT n40 (show (9 : Int32).toInt = 9 by decide); have n41t := lv_neT n41 (show (10 : Int32).toInt = 10 by decide); have n42t := lv_neT n42 (show (11 : Int32).toInt = 11 by decide); rcases (show p2.toInt < 0 ∨ 11 < p2.toInt by omega) with h | h <;> first | exact Or.inl h | exact Or.inr (Or.inl h) | exact Or.inr (Or.inr (by rw [h]; decide))) (by decide) ?_
        refine go_sipush (pc := 219) (-10001) dX8_of_219 ks_m10001 ?_
        exact go_ret dX8_of_222 rii rfl rfl
      · refine go_aload_n (pc := 46) dX8_of_46 rfl ?_
        refine go_aload_n (pc := 47) dX8_of_47 rfl ?_
        refine go_gd fun g43 => ?_
        refine go_callV (pc := 48) (a := 9) (as := [.ref r1]) (st := []) (o_D_courseNow r1 g43 M) ic_D_courseNow ivX8_99 (rcvk (a := 9) (t := 9) rfl (by decide) (by decide) rfl) rfl (by decide) (Nat.le_of_ble_eq_true rfl) dX8_of_48 (kWr fun r45 M44 => ?_)
        refine go_iload_n (pc := 51) dX8_of_51 rfl ?_
        refine go_bipush (pc := 52) 30 dX8_of_52 kb_30 ?_
        refine go_isub (pc := 54) dX8_of_54 ?_
        refine go_gd fun g46 => ?_
        refine go_callV (pc := 55) (a := r45) (as := [.int (p2 - 30)]) (st := []) (o_Co_gap r45 (p2 - 30) g46 M44) ic_Co_gap ivX8_103 (rcvk g46 (by decide) (by decide) rfl) rfl (by decide) (Nat.le_of_ble_eq_true rfl) dX8_of_55 (kRi fun r47 => ?_)
        exact go_ret dX8_of_58 rii rfl rfl
    · refine go_aload_n (pc := 25) dX8_of_25 rfl ?_
      refine go_gd fun g48 => ?_
      refine go_getS (pc := 26) (r1 + 393415) flX8_96 rfl (kd32 (t := 4) g48 rfl) (sC_4_7 g48) (knz (by decide)) dX8_of_26 ?_
      refine go_iload_n (pc := 29) dX8_of_29 rfl ?_
      refine go_bipush (pc := 30) 20 dX8_of_30 kb_20 ?_
      refine go_isub (pc := 32) dX8_of_32 ?_
      refine go_iald (pc := 33) (kd32 (t := 11) (kadd g48 rfl) rfl) (kln (kadd g48 rfl) rfl) dX8_of_33 (fun _ => ?_)
      exact go_ret dX8_of_34 rii rfl rfl
def f_D_water (p1 : Int32) (p2 : Int32) (p3 : Int32) (M : Mem) : Option (Int32 × Mem) := bd (f_D_doorAt p1 M) fun r1 => if r1 = 0 then some ((-1), M) else if (f_D_within p2 0 1 M) = 0 then some ((-1), M) else if (f_D_within p3 0 99 M) = 0 then some ((-2), M) else gd (r1 % 131072 = 4) (gd (inR p2 2) (lt (mI M (r1 + 131143) p2.toNatClampNeg) fun x3 => gd (inR p2 2) (lt (setI M (r1 + 131143) p2.toNatClampNeg p3) fun M4 => some (x3, M4))))
theorem o_D_water (p1 : Int32) (p2 : Int32) (p3 : Int32) (M : Mem) : Ct sRC g_D_water fWi [.ref 9, .int p1, .int p2, .int p3] (f_D_water p1 p2 p3 M) M := by
  refine ⟨Nat.le_of_ble_eq_true rfl, ?_⟩
  show Go sRC g_D_water fWi (f_D_water p1 p2 p3 M) 0 [.ref 9, .int p1, .int p2, .int p3, .null, .null] [] M
  refine go_def (f_D_water.eq_1 ..) ?_
  refine go_aload_n (pc := 0) dX8_water_0 rfl ?_
  refine go_iload_n (pc := 1) dX8_water_1 rfl ?_
  refine go_callV (pc := 2) (a := 9) (as := [.int p1]) (st := []) (o_D_doorAt p1 M) ic_D_doorAt ivX8_92 (rcvk (a := 9) (t := 9) rfl (by decide) (by decide) rfl) rfl (by decide) (Nat.le_of_ble_eq_true rfl) dX8_water_2 (kRr fun r1 => ?_)
  refine go_astore (pc := 5) (ls' := [.ref 9, .int p1, .int p2, .int p3, .ref r1, .null]) dX8_water_5 (Nat.le_of_ble_eq_true rfl) rfl rfl ?_
  refine go_aload (pc := 7) dX8_water_7 rfl ?_
  refine go_ifnull (pc := 9) 21 dX8_water_9 (by decide) (fun _ => ?_) (fun _ => ?_)
  · refine go_iconst (pc := 21) (-1) dX8_water_21 ki_m1 ?_
    exact go_ret dX8_water_22 rii rfl rfl
  · refine go_iload_n (pc := 12) dX8_water_12 rfl ?_
    refine go_iconst (pc := 13) 0 dX8_water_13 ki_0 ?_
    refine go_iconst (pc := 14) 1 dX8_water_14 ki_1 ?_
    refine go_T (v := f_D_within p2 0 1 M) ?_
    refine go_callS (pc := 15) (as := [.int p2, .int 0, .int 1]) (st := []) (o_D_within p2 0 1 M) ic_D_within ivX8_67 rfl (by decide) (Nat.le_of_ble_eq_true rfl) dX8_water_15 (kTi ?_)
    refine go_ifne (pc := 18) 23 dX8_water_18 (by decide) (fun _ => ?_) (fun _ => ?_)
    · refine go_iconst (pc := 21) (-1) dX8_water_21 ki_m1 ?_
      exact go_ret dX8_water_22 rii rfl rfl
    · refine go_iload_n (pc := 23) dX8_water_23 rfl ?_
      refine go_iconst (pc := 24) 0 dX8_water_24 ki_0 ?_
      refine go_bipush (pc := 25) 99 dX8_water_25 kb_99 ?_
      refine go_T (v := f_D_within p3 0 99 M) ?_
      refine go_callS (pc := 27) (as := [.int p3, .int 0, .int 99]) (st := []) (o_D_within p3 0 99 M) ic_D_within ivX8_67 rfl (by decide) (Nat.le_of_ble_eq_true rfl) dX8_water_27 (kTi ?_)
      refine go_ifne (pc := 30) 36 dX8_water_30 (by decide) (fun _ => ?_) (fun _ => ?_)
      · refine go_bipush (pc := 33) (-2) dX8_water_33 kb_m2 ?_
        exact go_ret dX8_water_35 rii rfl rfl
      · refine go_aload (pc := 36) dX8_water_36 rfl ?_
        refine go_gd fun g2 => ?_
        refine go_getS (pc := 38) (r1 + 131143) flX8_113 rfl (kd32 (t := 4) g2 rfl) (sC_4_5 g2) (knz (by decide)) dX8_water_38 ?_
        refine go_iload_n (pc := 41) dX8_water_41 rfl ?_
        refine go_iald (pc := 42) (kd32 (t := 11) (kadd g2 rfl) rfl) (kln (kadd g2 rfl) rfl) dX8_water_42 (fun _ => ?_)
        refine go_istoreL (pc := 43) (L := fun x3 => [.ref 9, .int p1, .int p2, .int p3, .ref r1, .int x3]) dX8_water_43 (Nat.le_of_ble_eq_true rfl) rfl (fun _ => rfl) (fun x3 => ?_)
        refine go_aload (pc := 45) dX8_water_45 rfl ?_
        refine go_getS (pc := 47) (r1 + 131143) flX8_113 rfl (kd32 (t := 4) g2 rfl) (sC_4_5 g2) (knz (by decide)) dX8_water_47 ?_
        refine go_iload_n (pc := 50) dX8_water_50 rfl ?_
        refine go_iload_n (pc := 51) dX8_water_51 rfl ?_
        refine go_iast (pc := 52) (kd32 (t := 11) (kadd g2 rfl) rfl) (kln (kadd g2 rfl) rfl) dX8_water_52 (fun _ M4 => ?_)
        refine go_iload (pc := 53) dX8_water_53 rfl ?_
        exact go_ret dX8_water_55 rii rfl rfl
def f_D_sag (p1 : Int32) (p2 : Int32) (M : Mem) : Option (Int32 × Mem) := bd (f_D_doorAt p1 M) fun r1 => if r1 = 0 then some ((-1), M) else if (f_D_within p2 0 20 M) = 0 then some ((-2), M) else gd (r1 % 131072 = 4) (lt (mI M r1 3) fun x3 => lt (setI M r1 3 p2) fun M4 => some (x3, M4))
theorem o_D_sag (p1 : Int32) (p2 : Int32) (M : Mem) : Ct sRC g_D_sag fWi [.ref 9, .int p1, .int p2] (f_D_sag p1 p2 M) M := by
  refine ⟨Nat.le_of_ble_eq_true rfl, ?_⟩
  show Go sRC g_D_sag fWi (f_D_sag p1 p2 M) 0 [.ref 9, .int p1, .int p2, .null, .null] [] M
  refine go_def (f_D_sag.eq_1 ..) ?_
  refine go_aload_n (pc := 0) dX8_sag_0 rfl ?_
  refine go_iload_n (pc := 1) dX8_sag_1 rfl ?_
  refine go_callV (pc := 2) (a := 9) (as := [.int p1]) (st := []) (o_D_doorAt p1 M) ic_D_doorAt ivX8_92 (rcvk (a := 9) (t := 9) rfl (by decide) (by decide) rfl) rfl (by decide) (Nat.le_of_ble_eq_true rfl) dX8_sag_2 (kRr fun r1 => ?_)
  refine go_astore_n (pc := 5) (ls' := [.ref 9, .int p1, .int p2, .ref r1, .null]) dX8_sag_5 (Nat.le_of_ble_eq_true rfl) rfl rfl ?_
  refine go_aload_n (pc := 6) dX8_sag_6 rfl ?_
  refine go_ifnonnull (pc := 7) 12 dX8_sag_7 (by decide) (fun _ => ?_) (fun _ => ?_)
  · refine go_iconst (pc := 10) (-1) dX8_sag_10 ki_m1 ?_
    exact go_ret dX8_sag_11 rii rfl rfl
  · refine go_iload_n (pc := 12) dX8_sag_12 rfl ?_
    refine go_iconst (pc := 13) 0 dX8_sag_13 ki_0 ?_
    refine go_bipush (pc := 14) 20 dX8_sag_14 kb_20 ?_
    refine go_T (v := f_D_within p2 0 20 M) ?_
    refine go_callS (pc := 16) (as := [.int p2, .int 0, .int 20]) (st := []) (o_D_within p2 0 20 M) ic_D_within ivX8_67 rfl (by decide) (Nat.le_of_ble_eq_true rfl) dX8_sag_16 (kTi ?_)
    refine go_ifne (pc := 19) 25 dX8_sag_19 (by decide) (fun _ => ?_) (fun _ => ?_)
    · refine go_bipush (pc := 22) (-2) dX8_sag_22 kb_m2 ?_
      exact go_ret dX8_sag_24 rii rfl rfl
    · refine go_aload_n (pc := 25) dX8_sag_25 rfl ?_
      refine go_gd fun g2 => ?_
      refine go_getI (pc := 26) flX8_119 rfl (kd32 (t := 4) g2 rfl) dX8_sag_26 ?_
      refine go_istoreL (pc := 29) (L := fun x3 => [.ref 9, .int p1, .int p2, .ref r1, .int x3]) dX8_sag_29 (Nat.le_of_ble_eq_true rfl) rfl (fun _ => rfl) (fun x3 => ?_)
      refine go_aload_n (pc := 31) dX8_sag_31 rfl ?_
      refine go_iload_n (pc := 32) dX8_sag_32 rfl ?_
      refine go_putI (pc := 33) flX8_119 rfl (Or.inl rfl) ⟨rfl, rfl⟩ (kd32 (t := 4) g2 rfl) dX8_sag_33 (fun M4 => ?_)
      refine go_iload (pc := 36) dX8_sag_36 rfl ?_
      exact go_ret dX8_sag_38 rii rfl rfl
def f_D_feed (p1 : Int32) (M : Mem) : Option (Int32 × Mem) := if (f_D_within p1 0 127 M) = 0 then some ((-2), M) else b2 (f_Tx_append p1 M) fun r2 M1 => if r2 = 0 then some ((-4), M1) else some (mI M1 6684679 0, M1)
theorem o_D_feed (p1 : Int32) (M : Mem) : Ct sRC g_D_feed fWi [.ref 9, .int p1] (f_D_feed p1 M) M := by
  refine ⟨Nat.le_of_ble_eq_true rfl, ?_⟩
  show Go sRC g_D_feed fWi (f_D_feed p1 M) 0 [.ref 9, .int p1] [] M
  refine go_def (f_D_feed.eq_1 ..) ?_
  refine go_iload_n (pc := 0) dX8_feed_0 rfl ?_
  refine go_iconst (pc := 1) 0 dX8_feed_1 ki_0 ?_
  refine go_bipush (pc := 2) 127 dX8_feed_2 kb_127 ?_
  refine go_T (v := f_D_within p1 0 127 M) ?_
  refine go_callS (pc := 4) (as := [.int p1, .int 0, .int 127]) (st := []) (o_D_within p1 0 127 M) ic_D_within ivX8_67 rfl (by decide) (Nat.le_of_ble_eq_true rfl) dX8_feed_4 (kTi ?_)
  refine go_ifne (pc := 7) 13 dX8_feed_7 (by decide) (fun _ => ?_) (fun _ => ?_)
  · refine go_bipush (pc := 10) (-2) dX8_feed_10 kb_m2 ?_
    exact go_ret dX8_feed_12 rii rfl rfl
  · refine go_aload_n (pc := 13) dX8_feed_13 rfl ?_
    refine go_getS (pc := 14) 6684679 flX8_24 rfl rfl sC_9_3 (by decide) dX8_feed_14 ?_
    refine go_iload_n (pc := 17) dX8_feed_17 rfl ?_
    refine go_callV (pc := 18) (a := 6684679) (as := [.int p1]) (st := []) (o_Tx_append p1 M) ic_Tx_append ivX8_141 (rcvk (a := 6684679) (t := 7) rfl (by decide) (by decide) rfl) rfl (by decide) (Nat.le_of_ble_eq_true rfl) dX8_feed_18 (kWi fun r2 M1 => ?_)
    refine go_ifeq (pc := 21) 34 dX8_feed_21 (by decide) (fun _ => ?_) (fun _ => ?_)
    · refine go_bipush (pc := 34) (-4) dX8_feed_34 kb_m4 ?_
      exact go_ret dX8_feed_36 rii rfl rfl
    · refine go_aload_n (pc := 24) dX8_feed_24 rfl ?_
      refine go_getS (pc := 25) 6684679 flX8_24 rfl rfl sC_9_3 (by decide) dX8_feed_25 ?_
      refine go_getI (pc := 28) flX8_145 rfl rfl dX8_feed_28 ?_
      refine go_goto (pc := 31) 36 dX8_feed_31 (by decide) ?_
      exact go_ret dX8_feed_36 rii rfl rfl
def f_D_house (M : Mem) : Option (Int32 × Mem) := if (mI M 9 6) < 6 then b2 (f_Tx_parse M) fun r2 M1 => lt (setI M1 6684679 0 0) fun M3 => if r2 = (-1) then b2 (f_Tx_built M3) fun r5 M4 => gd (r5 % 131072 = 6) (gd (inR (mI M3 9 6) 6) (lt (setR M4 7471311 (mI M3 9 6).toNatClampNeg r5) fun M6 => lt (setI M6 131077 5 (mI M6 9 6)) fun M8 => lt (setI M8 9 6 ((mI M8 9 6) + 1)) fun M9 => some (mI M9 131077 5, M9))) else some ((-10) - r2, M3) else some ((-4), M)
theorem o_D_house (M : Mem) : Ct sRC g_D_house fWi [.ref 9] (f_D_house M) M := by
  refine ⟨Nat.le_of_ble_eq_true rfl, ?_⟩
  show Go sRC g_D_house fWi (f_D_house M) 0 [.ref 9, .null] [] M
  refine go_def (f_D_house.eq_1 ..) ?_
  refine go_aload_n (pc := 0) dX8_house_0 rfl ?_
  refine go_getI (pc := 1) flX8_148 rfl rfl dX8_house_1 ?_
  refine go_bipush (pc := 4) 6 dX8_house_4 kb_6 ?_
  refine go_icmplt (pc := 6) 12 dX8_house_6 (by decide) (fun _ => ?_) (fun _ => ?_)
  · refine go_aload_n (pc := 12) dX8_house_12 rfl ?_
    refine go_getS (pc := 13) 6684679 flX8_24 rfl rfl sC_9_3 (by decide) dX8_house_13 ?_
    refine go_callV (pc := 16) (a := 6684679) (as := []) (st := []) (o_Tx_parse M) ic_Tx_parse ivX8_151 (rcvk (a := 6684679) (t := 7) rfl (by decide) (by decide) rfl) rfl (by decide) (Nat.le_of_ble_eq_true rfl) dX8_house_16 (kWi fun r2 M1 => ?_)
    refine go_istore_n (pc := 19) (ls' := [.ref 9, .int r2]) dX8_house_19 (Nat.le_of_ble_eq_true rfl) rfl rfl ?_
    refine go_aload_n (pc := 20) dX8_house_20 rfl ?_
    refine go_getS (pc := 21) 6684679 flX8_24 rfl rfl sC_9_3 (by decide) dX8_house_21 ?_
    refine go_iconst (pc := 24) 0 dX8_house_24 ki_0 ?_
    refine go_putI (pc := 25) flX8_145 rfl (Or.inl rfl) ⟨rfl, rfl⟩ rfl dX8_house_25 (fun M3 => ?_)
    refine go_iload_n (pc := 28) dX8_house_28 rfl ?_
    refine go_iconst (pc := 29) (-1) dX8_house_29 ki_m1 ?_
    refine go_icmpeq (pc := 30) 38 dX8_house_30 (by decide) (fun _ => ?_) (fun _ => ?_)
    · refine go_aload_n (pc := 38) dX8_house_38 rfl ?_
      refine go_getS (pc := 39) 7471311 flX8_39 rfl rfl sC_9_5 (by decide) dX8_house_39 ?_
      refine go_aload_n (pc := 42) dX8_house_42 rfl ?_
      refine go_getI (pc := 43) flX8_148 rfl rfl dX8_house_43 ?_
      refine go_aload_n (pc := 46) dX8_house_46 rfl ?_
      refine go_getS (pc := 47) 6684679 flX8_24 rfl rfl sC_9_3 (by decide) dX8_house_47 ?_
      refine go_callV (pc := 50) (a := 6684679) (as := []) (st := [.int (mI M3 9 6), .ref 7471311]) (o_Tx_built M3) ic_Tx_built ivX8_154 (rcvk (a := 6684679) (t := 7) rfl (by decide) (by decide) rfl) rfl (by decide) (Nat.le_of_ble_eq_true rfl) dX8_house_50 (kWr fun r5 M4 => ?_)
      refine go_gd fun g7 => ?_
      refine go_aast (pc := 53) (by decide) (by decide) rfl (by have h1 : r5 % 32 = 6 := (kd32 (t := 6) g7 rfl); have h2 : 7471311 % 32 = 15 := rfl; rw [h1, h2]; rfl) (fun j => dzC _ _ (by have : 7471311 % 32 = 15 := rfl; omega)) dX8_house_53 (fun _ M6 => ?_)
      refine go_aload_n (pc := 54) dX8_house_54 rfl ?_
      refine go_getS (pc := 55) 131077 flX8_12 rfl rfl sC_9_0 (by decide) dX8_house_55 ?_
      refine go_aload_n (pc := 58) dX8_house_58 rfl ?_
      refine go_getI (pc := 59) flX8_148 rfl rfl dX8_house_59 ?_
      refine go_putI (pc := 62) flX8_158 rfl (Or.inl rfl) ⟨rfl, rfl⟩ rfl dX8_house_62 (fun M8 => ?_)
      refine go_aload_n (pc := 65) dX8_house_65 rfl ?_
      refine go_dup (pc := 66) dX8_house_66 rfl ?_
      refine go_getI (pc := 67) flX8_148 rfl rfl dX8_house_67 ?_
      refine go_iconst (pc := 70) 1 dX8_house_70 ki_1 ?_
      refine go_iadd (pc := 71) dX8_house_71 ?_
      refine go_putI (pc := 72) flX8_148 rfl (Or.inl rfl) ⟨rfl, rfl⟩ rfl dX8_house_72 (fun M9 => ?_)
      refine go_aload_n (pc := 75) dX8_house_75 rfl ?_
      refine go_getS (pc := 76) 131077 flX8_12 rfl rfl sC_9_0 (by decide) dX8_house_76 ?_
      refine go_getI (pc := 79) flX8_158 rfl rfl dX8_house_79 ?_
      exact go_ret dX8_house_82 rii rfl rfl
    · refine go_bipush (pc := 33) (-10) dX8_house_33 kb_m10 ?_
      refine go_iload_n (pc := 35) dX8_house_35 rfl ?_
      refine go_isub (pc := 36) dX8_house_36 ?_
      exact go_ret dX8_house_37 rii rfl rfl
  · refine go_bipush (pc := 9) (-4) dX8_house_9 kb_m4 ?_
    exact go_ret dX8_house_11 rii rfl rfl
def f_D_told (p1 : Int32) (M : Mem) : Option Int32 := if (f_D_within p1 10 21 M) = 0 then if p1 = 0 then bd (f_D_holdingHouse M) fun r1 => gd (r1 % 131072 = 6) (some (mI M r1 2)) else if p1 = 1 then bd (f_D_holdingHouse M) fun r3 => gd (r3 % 131072 = 6) (some (mI M r3 3)) else if p1 = 2 then some (mI M 131077 4) else if p1 = 3 then some (mI M 131077 3) else some (-1) else gd (inR (p1 - 10) 12) (some (mI M 262539 (p1 - 10).toNatClampNeg))
theorem o_D_told (p1 : Int32) (M : Mem) : Ct sRC g_D_told (fRi M) [.ref 9, .int p1] (f_D_told p1 M) M := by
  refine ⟨Nat.le_of_ble_eq_true rfl, ?_⟩
  show Go sRC g_D_told (fRi M) (f_D_told p1 M) 0 [.ref 9, .int p1] [] M
  refine go_def (f_D_told.eq_1 ..) ?_
  refine go_iload_n (pc := 0) dX8_told_0 rfl ?_
  refine go_bipush (pc := 1) 10 dX8_told_1 kb_10 ?_
  refine go_bipush (pc := 3) 21 dX8_told_3 kb_21 ?_
  refine go_T (v := f_D_within p1 10 21 M) ?_
  refine go_callS (pc := 5) (as := [.int p1, .int 10, .int 21]) (st := []) (o_D_within p1 10 21 M) ic_D_within ivX8_67 rfl (by decide) (Nat.le_of_ble_eq_true rfl) dX8_told_5 (kTi ?_)
  refine go_ifeq (pc := 8) 24 dX8_told_8 (by decide) (fun _ => ?_) (fun _ => ?_)
  · refine go_iload_n (pc := 24) dX8_told_24 rfl ?_
    refine go_tswC (pc := 25) (v := 0) (off := 31) 56 dX8_told_25 (by decide) (by decide) (by decide) (fun _ => ?_) (fun n5 => ?_)
    · refine go_aload_n (pc := 56) dX8_told_56 rfl ?_
      refine go_callV (pc := 57) (a := 9) (as := []) (st := []) (o_D_holdingHouse M) ic_D_holdingHouse ivX8_161 (rcvk (a := 9) (t := 9) rfl (by decide) (by decide) rfl) rfl (by decide) (Nat.le_of_ble_eq_true rfl) dX8_told_57 (kRr fun r1 => ?_)
      refine go_gd fun g2 => ?_
      refine go_getI (pc := 60) flX8_164 rfl (kd32 (t := 6) g2 rfl) dX8_told_60 ?_
      exact go_ret dX8_told_63 rii rfl rfl
    refine go_tswC (pc := 25) (v := 1) (off := 39) 64 dX8_told_25 (by decide) (by decide) (by decide) (fun _ => ?_) (fun n6 => ?_)
    · refine go_aload_n (pc := 64) dX8_told_64 rfl ?_
      refine go_callV (pc := 65) (a := 9) (as := []) (st := []) (o_D_holdingHouse M) ic_D_holdingHouse ivX8_161 (rcvk (a := 9) (t := 9) rfl (by decide) (by decide) rfl) rfl (by decide) (Nat.le_of_ble_eq_true rfl) dX8_told_65 (kRr fun r3 => ?_)
      refine go_gd fun g4 => ?_
      refine go_getI (pc := 68) flX8_167 rfl (kd32 (t := 6) g4 rfl) dX8_told_68 ?_
      exact go_ret dX8_told_71 rii rfl rfl
    refine go_tswC (pc := 25) (v := 2) (off := 47) 72 dX8_told_25 (by decide) (by decide) (by decide) (fun _ => ?_) (fun n7 => ?_)
    · refine go_aload_n (pc := 72) dX8_told_72 rfl ?_
      refine go_getS (pc := 73) 131077 flX8_12 rfl rfl sC_9_0 (by decide) dX8_told_73 ?_
      refine go_getI (pc := 76) flX8_170 rfl rfl dX8_told_76 ?_
      exact go_ret dX8_told_79 rii rfl rfl
    refine go_tswC (pc := 25) (v := 3) (off := 55) 80 dX8_told_25 (by decide) (by decide) (by decide) (fun _ => ?_) (fun n8 => ?_)
    · refine go_aload_n (pc := 80) dX8_told_80 rfl ?_
      refine go_getS (pc := 81) 131077 flX8_12 rfl rfl sC_9_0 (by decide) dX8_told_81 ?_
      refine go_getI (pc := 84) flX8_75 rfl rfl dX8_told_84 ?_
      exact go_ret dX8_told_87 rii rfl rfl
    refine go_tswD (pc := 25) 88 dX8_told_25 (by have n5t := lv_neT n5 (show (0 : Int32).toInt = 0 by decide); have n6t := lv_neT n6 (show (1 : Int32).toInt = 1 by decide); have n7t := lv_neT n7 (show (2 : Int32).toInt = 2 by decide); have n8t := lv_neT n8 (show (3 : Int32).toInt = 3 by decide); rcases (show p1.toInt < 0 ∨ 3 < p1.toInt by omega) with h | h <;> first | exact Or.inl h | exact Or.inr (Or.inl h) | exact Or.inr (Or.inr (by rw [h]; decide))) (by decide) ?_
    refine go_iconst (pc := 88) (-1) dX8_told_88 ki_m1 ?_
    exact go_ret dX8_told_89 rii rfl rfl
  · refine go_aload_n (pc := 11) dX8_told_11 rfl ?_
    refine go_getS (pc := 12) 131077 flX8_12 rfl rfl sC_9_0 (by decide) dX8_told_12 ?_
    refine go_getS (pc := 15) 262539 flX8_71 rfl rfl (sC_5_0 rfl) (by decide) dX8_told_15 ?_
    refine go_iload_n (pc := 18) dX8_told_18 rfl ?_
    refine go_bipush (pc := 19) 10 dX8_told_19 kb_10 ?_
    refine go_isub (pc := 21) dX8_told_21 ?_
    refine go_iald (pc := 22) rfl rfl dX8_told_22 (fun _ => ?_)
    exact go_ret dX8_told_23 rii rfl rfl
def f_D_month_l42 : Nat → Nat → Int32 → Int32 → Mem → Option (Int32 × Mem)
  | 0, _, _, _, _ => none
  | n + 1, v1, v2, v3, M => if (mI M 131077 2) ≤ v3 then lt (setI M 131077 4 ((mI M 131077 4) + 1)) fun M3 => gd (v1 % 131072 = 6) (lt (setI M3 131077 3 (f_D_sunk (mI M3 131077 3) (mI M3 131077 4) (mI M3 v1 2) M3)) fun M5 => some (mI M5 131077 4, M5)) else gd (inR v3 4) (lt (786436 + 655360 * v3.toNatClampNeg) fun x6 => gd (x6 % 131072 = 4) (bd (f_Dr_takeUp x6 v2 M) fun M8 => b2 (f_Dr_factsIn x6 (mI M8 131077 4) M8) fun r10 M9 => gd (v1 % 131072 = 6) (gd (r10 % 32 = 11) (bd (f_Hs_total v1 1 r10 M9) fun r13 => bd (f_Dr_drawOut x6 r13 M9) fun M14 => lt (v3 + 1) fun x15 => f_D_month_l42 n v1 v2 x15 M14))))
def f_D_month (M : Mem) : Option (Int32 × Mem) := if (mI M 131077 4) < 9999 then bd (f_D_holdingHouse M) fun r1 => gd (inR ((mI M 131077 4) - (mI M 131077 4) / 12 * 12) 12) (lt (mI M 262539 ((mI M 131077 4) - (mI M 131077 4) / 12 * 12).toNatClampNeg) fun x2 => f_D_month_l42 200 r1 x2 0 M) else some ((-3), M)
theorem o_D_month_l42 : ∀ (n : Nat) (v1 : Nat) (v2 : Int32) (v3 : Int32) (M : Mem), Go sRC g_D_month fWi (f_D_month_l42 n v1 v2 v3 M) 42 [.ref 9, .ref v1, .int v2, .int v3, .null] [] M := by
  intro n
  induction n with
  | zero =>
    intro v1 v2 v3 M
    exact go_def (f_D_month_l42.eq_1 ..) go_none
  | succ n ih =>
    intro v1 v2 v3 M
    refine go_def (f_D_month_l42.eq_2 ..) ?_
    refine go_iload_n (pc := 42) dX8_month_42 rfl ?_
    refine go_aload_n (pc := 43) dX8_month_43 rfl ?_
    refine go_getS (pc := 44) 131077 flX8_12 rfl rfl sC_9_0 (by decide) dX8_month_44 ?_
    refine go_getI (pc := 47) flX8_79 rfl rfl dX8_month_47 ?_
    refine go_icmpge (pc := 50) 98 dX8_month_50 (by decide) (fun _ => ?_) (fun _ => ?_)
    · refine go_aload_n (pc := 98) dX8_month_98 rfl ?_
      refine go_getS (pc := 99) 131077 flX8_12 rfl rfl sC_9_0 (by decide) dX8_month_99 ?_
      refine go_dup (pc := 102) dX8_month_102 rfl ?_
      refine go_getI (pc := 103) flX8_170 rfl rfl dX8_month_103 ?_
      refine go_iconst (pc := 106) 1 dX8_month_106 ki_1 ?_
      refine go_iadd (pc := 107) dX8_month_107 ?_
      refine go_putI (pc := 108) flX8_170 rfl (Or.inl rfl) ⟨rfl, rfl⟩ rfl dX8_month_108 (fun M3 => ?_)
      refine go_aload_n (pc := 111) dX8_month_111 rfl ?_
      refine go_getS (pc := 112) 131077 flX8_12 rfl rfl sC_9_0 (by decide) dX8_month_112 ?_
      refine go_aload_n (pc := 115) dX8_month_115 rfl ?_
      refine go_getS (pc := 116) 131077 flX8_12 rfl rfl sC_9_0 (by decide) dX8_month_116 ?_
      refine go_getI (pc := 119) flX8_75 rfl rfl dX8_month_119 ?_
      refine go_aload_n (pc := 122) dX8_month_122 rfl ?_
      refine go_getS (pc := 123) 131077 flX8_12 rfl rfl sC_9_0 (by decide) dX8_month_123 ?_
      refine go_getI (pc := 126) flX8_170 rfl rfl dX8_month_126 ?_
      refine go_aload_n (pc := 129) dX8_month_129 rfl ?_
      refine go_gd fun g4 => ?_
      refine go_getI (pc := 130) flX8_164 rfl (kd32 (t := 6) g4 rfl) dX8_month_130 ?_
      refine go_T (v := f_D_sunk (mI M3 131077 3) (mI M3 131077 4) (mI M3 v1 2) M3) ?_
      refine go_callS (pc := 133) (as := [.int (mI M3 131077 3), .int (mI M3 131077 4), .int (mI M3 v1 2)]) (st := [.ref 131077]) (o_D_sunk (mI M3 131077 3) (mI M3 131077 4) (mI M3 v1 2) M3) ic_D_sunk ivX8_188 rfl (by decide) (Nat.le_of_ble_eq_true rfl) dX8_month_133 (kTi ?_)
      refine go_putI (pc := 136) flX8_75 rfl (Or.inl rfl) ⟨rfl, rfl⟩ rfl dX8_month_136 (fun M5 => ?_)
      refine go_aload_n (pc := 139) dX8_month_139 rfl ?_
      refine go_getS (pc := 140) 131077 flX8_12 rfl rfl sC_9_0 (by decide) dX8_month_140 ?_
      refine go_getI (pc := 143) flX8_170 rfl rfl dX8_month_143 ?_
      exact go_ret dX8_month_146 rii rfl rfl
    · refine go_aload_n (pc := 53) dX8_month_53 rfl ?_
      refine go_getS (pc := 54) 131077 flX8_12 rfl rfl sC_9_0 (by decide) dX8_month_54 ?_
      refine go_getS (pc := 57) 393358 flX8_82 rfl rfl (sC_5_1 rfl) (by decide) dX8_month_57 ?_
      refine go_iload_n (pc := 60) dX8_month_60 rfl ?_
      refine go_aaldS (pc := 61) (fun j => 786436 + 655360 * j) (by decide) (by decide) rfl (sCa_14 rfl) dX8_month_61 (fun _ => ?_)
      refine go_astoreL (pc := 62) (L := fun x6 => [.ref 9, .ref v1, .int v2, .int v3, .ref x6]) dX8_month_62 (Nat.le_of_ble_eq_true rfl) rfl (fun _ => rfl) (fun x6 => ?_)
      refine go_aload (pc := 64) dX8_month_64 rfl ?_
      refine go_iload_n (pc := 66) dX8_month_66 rfl ?_
      refine go_gd fun g7 => ?_
      refine go_callV (pc := 67) (a := x6) (as := [.int v2]) (st := []) (o_Dr_takeUp x6 v2 g7 M) ic_Dr_takeUp ivX8_173 (rcvk g7 (by decide) (by decide) rfl) rfl (by decide) (Nat.le_of_ble_eq_true rfl) dX8_month_67 (kWv fun M8 => ?_)
      refine go_aload (pc := 70) dX8_month_70 rfl ?_
      refine go_aload_n (pc := 72) dX8_month_72 rfl ?_
      refine go_iconst (pc := 73) 1 dX8_month_73 ki_1 ?_
      refine go_aload (pc := 74) dX8_month_74 rfl ?_
      refine go_aload_n (pc := 76) dX8_month_76 rfl ?_
      refine go_getS (pc := 77) 131077 flX8_12 rfl rfl sC_9_0 (by decide) dX8_month_77 ?_
      refine go_getI (pc := 80) flX8_170 rfl rfl dX8_month_80 ?_
      refine go_callV (pc := 83) (a := x6) (as := [.int (mI M8 131077 4)]) (st := [.int 1, .ref v1, .ref x6]) (o_Dr_factsIn x6 (mI M8 131077 4) g7 M8) ic_Dr_factsIn ivX8_177 (rcvk g7 (by decide) (by decide) rfl) rfl (by decide) (Nat.le_of_ble_eq_true rfl) dX8_month_83 (kWr fun r10 M9 => ?_)
      refine go_gd fun g11 => ?_
      refine go_gd fun g12 => ?_
      refine go_callV (pc := 86) (a := v1) (as := [.int 1, .ref r10]) (st := [.ref x6]) (o_Hs_total v1 1 r10 g11 g12 M9) ic_Hs_total ivX8_181 (rcvk g11 (by decide) (by decide) rfl) rfl (by decide) (Nat.le_of_ble_eq_true rfl) dX8_month_86 (kRi fun r13 => ?_)
      refine go_callV (pc := 89) (a := x6) (as := [.int r13]) (st := []) (o_Dr_drawOut x6 r13 g7 M9) ic_Dr_drawOut ivX8_185 (rcvk g7 (by decide) (by decide) rfl) rfl (by decide) (Nat.le_of_ble_eq_true rfl) dX8_month_89 (kWv fun M14 => ?_)
      refine go_iincL (pc := 92) (L := fun x15 => [.ref 9, .ref v1, .int v2, .int x15, .ref x6]) 1 dX8_month_92 rfl ki_1 (Nat.le_of_ble_eq_true rfl) rfl (fun _ => rfl) (fun x15 => ?_)
      refine go_goto (pc := 95) 42 dX8_month_95 (by decide) ?_
      refine go_sub (ls' := [.ref 9, .ref v1, .int v2, .int x15, .null]) ⟨Or.inr rfl, Or.inr rfl, Or.inr rfl, Or.inr rfl, Or.inl rfl, trivial⟩ ?_
      exact ih v1 v2 x15 M14
theorem o_D_month (M : Mem) : Ct sRC g_D_month fWi [.ref 9] (f_D_month M) M := by
  refine ⟨Nat.le_of_ble_eq_true rfl, ?_⟩
  show Go sRC g_D_month fWi (f_D_month M) 0 [.ref 9, .null, .null, .null, .null] [] M
  refine go_def (f_D_month.eq_1 ..) ?_
  refine go_aload_n (pc := 0) dX8_month_0 rfl ?_
  refine go_getS (pc := 1) 131077 flX8_12 rfl rfl sC_9_0 (by decide) dX8_month_1 ?_
  refine go_getI (pc := 4) flX8_170 rfl rfl dX8_month_4 ?_
  refine go_sipush (pc := 7) 9999 dX8_month_7 ks_9999 ?_
  refine go_icmplt (pc := 10) 16 dX8_month_10 (by decide) (fun _ => ?_) (fun _ => ?_)
  · refine go_aload_n (pc := 16) dX8_month_16 rfl ?_
    refine go_callV (pc := 17) (a := 9) (as := []) (st := []) (o_D_holdingHouse M) ic_D_holdingHouse ivX8_161 (rcvk (a := 9) (t := 9) rfl (by decide) (by decide) rfl) rfl (by decide) (Nat.le_of_ble_eq_true rfl) dX8_month_17 (kRr fun r1 => ?_)
    refine go_astore_n (pc := 20) (ls' := [.ref 9, .ref r1, .null, .null, .null]) dX8_month_20 (Nat.le_of_ble_eq_true rfl) rfl rfl ?_
    refine go_aload_n (pc := 21) dX8_month_21 rfl ?_
    refine go_getS (pc := 22) 131077 flX8_12 rfl rfl sC_9_0 (by decide) dX8_month_22 ?_
    refine go_getS (pc := 25) 262539 flX8_71 rfl rfl (sC_5_0 rfl) (by decide) dX8_month_25 ?_
    refine go_aload_n (pc := 28) dX8_month_28 rfl ?_
    refine go_getS (pc := 29) 131077 flX8_12 rfl rfl sC_9_0 (by decide) dX8_month_29 ?_
    refine go_getI (pc := 32) flX8_170 rfl rfl dX8_month_32 ?_
    refine go_bipush (pc := 35) 12 dX8_month_35 kb_12 ?_
    refine go_irem' (pc := 37) (by decide) dX8_month_37 ?_
    refine go_iald (pc := 38) rfl rfl dX8_month_38 (fun _ => ?_)
    refine go_istore_nL (pc := 39) (L := fun x2 => [.ref 9, .ref r1, .int x2, .null, .null]) dX8_month_39 (Nat.le_of_ble_eq_true rfl) rfl (fun _ => rfl) (fun x2 => ?_)
    refine go_iconst (pc := 40) 0 dX8_month_40 ki_0 ?_
    refine go_istore_n (pc := 41) (ls' := [.ref 9, .ref r1, .int x2, .int 0, .null]) dX8_month_41 (Nat.le_of_ble_eq_true rfl) rfl rfl ?_
    exact o_D_month_l42 200 r1 x2 0 M
  · refine go_bipush (pc := 13) (-3) dX8_month_13 kb_m3 ?_
    exact go_ret dX8_month_15 rii rfl rfl
def f_D_isPlaceOfMend (p1 : Int32) (p2 : Int32) (M : Mem) : Int32 := if p1 = 0 then f_D_isSpot p2 M else if p1 = 4 then f_D_isSpot p2 M else if p1 = 3 then if (f_D_within p2 0 1 M) = 0 then 0 else 1 else 1
theorem o_D_isPlaceOfMend (p1 : Int32) (p2 : Int32) (M : Mem) : Ct sRC g_D_isPlaceOfMend (fRi M) [.int p1, .int p2] (some (f_D_isPlaceOfMend p1 p2 M)) M := by
  refine ⟨Nat.le_of_ble_eq_true rfl, ?_⟩
  show Go sRC g_D_isPlaceOfMend (fRi M) (some (f_D_isPlaceOfMend p1 p2 M)) 0 [.int p1, .int p2] [] M
  refine go_def (congrArg some (f_D_isPlaceOfMend.eq_1 ..)) ?_
  refine go_iload_n (pc := 0) dX8_isPlaceOfMend_0 rfl ?_
  refine go_site ?_
  refine go_ifeq (pc := 1) 9 dX8_isPlaceOfMend_1 (by decide) (fun _ => ?_) (fun _ => ?_)
  · refine go_iload_n (pc := 9) dX8_isPlaceOfMend_9 rfl ?_
    refine go_T (v := f_D_isSpot p2 M) ?_
    refine go_callS (pc := 10) (as := [.int p2]) (st := []) (o_D_isSpot p2 M) ic_D_isSpot ivX8_219 rfl (by decide) (Nat.le_of_ble_eq_true rfl) dX8_isPlaceOfMend_10 (kTi ?_)
    exact go_ret dX8_isPlaceOfMend_13 (rbz (o_D_isSpot_b p2 M)) rfl rfl
  · refine go_iload_n (pc := 4) dX8_isPlaceOfMend_4 rfl ?_
    refine go_iconst (pc := 5) 4 dX8_isPlaceOfMend_5 ki_4 ?_
    refine go_site ?_
    refine go_icmpne (pc := 6) 14 dX8_isPlaceOfMend_6 (by decide) (fun _ => ?_) (fun _ => ?_)
    · refine go_iload_n (pc := 9) dX8_isPlaceOfMend_9 rfl ?_
      refine go_T (v := f_D_isSpot p2 M) ?_
      refine go_callS (pc := 10) (as := [.int p2]) (st := []) (o_D_isSpot p2 M) ic_D_isSpot ivX8_219 rfl (by decide) (Nat.le_of_ble_eq_true rfl) dX8_isPlaceOfMend_10 (kTi ?_)
      exact go_ret dX8_isPlaceOfMend_13 (rbz (o_D_isSpot_b p2 M)) rfl rfl
    · refine go_iload_n (pc := 14) dX8_isPlaceOfMend_14 rfl ?_
      refine go_iconst (pc := 15) 3 dX8_isPlaceOfMend_15 ki_3 ?_
      refine go_site ?_
      refine go_icmpne (pc := 16) 28 dX8_isPlaceOfMend_16 (by decide) (fun _ => ?_) (fun _ => ?_)
      · refine go_iload_n (pc := 19) dX8_isPlaceOfMend_19 rfl ?_
        refine go_iconst (pc := 20) 0 dX8_isPlaceOfMend_20 ki_0 ?_
        refine go_iconst (pc := 21) 1 dX8_isPlaceOfMend_21 ki_1 ?_
        refine go_T (v := f_D_within p2 0 1 M) ?_
        refine go_callS (pc := 22) (as := [.int p2, .int 0, .int 1]) (st := []) (o_D_within p2 0 1 M) ic_D_within ivX8_67 rfl (by decide) (Nat.le_of_ble_eq_true rfl) dX8_isPlaceOfMend_22 (kTi ?_)
        refine go_site ?_
        refine go_ifeq (pc := 25) 32 dX8_isPlaceOfMend_25 (by decide) (fun _ => ?_) (fun _ => ?_)
        · refine go_iconst (pc := 32) 0 dX8_isPlaceOfMend_32 ki_0 ?_
          exact go_ret dX8_isPlaceOfMend_33 (rbz (Or.inl rfl)) rfl rfl
        · refine go_iconst (pc := 28) 1 dX8_isPlaceOfMend_28 ki_1 ?_
          refine go_goto (pc := 29) 33 dX8_isPlaceOfMend_29 (by decide) ?_
          exact go_ret dX8_isPlaceOfMend_33 (rbz (Or.inr rfl)) rfl rfl
      · refine go_iconst (pc := 28) 1 dX8_isPlaceOfMend_28 ki_1 ?_
        refine go_goto (pc := 29) 33 dX8_isPlaceOfMend_29 (by decide) ?_
        exact go_ret dX8_isPlaceOfMend_33 (rbz (Or.inr rfl)) rfl rfl
theorem o_D_isPlaceOfMend_b (p1 : Int32) (p2 : Int32) (M : Mem) : f_D_isPlaceOfMend p1 p2 M = 0 ∨ f_D_isPlaceOfMend p1 p2 M = 1 := by
  unfold f_D_isPlaceOfMend
  first | exact Or.inl rfl | (repeat' split) <;> first | exact Or.inl rfl | exact Or.inr rfl | assumption | exact o_D_isSpot_b .. | exact o_D_within_b ..
def f_D_mend_b55 (v2 : Int32) (v3 : Int32) (v4 : Int32) (v5 : Nat) (M : Mem) : Option (Int32 × Mem) := if v2 = 0 then gd (v5 % 131072 = 4) (b2 (f_Dr_cutMore v5 v3 v4 M) fun r4 M3 => some (r4, M3)) else if v2 = 1 then gd (v5 % 131072 = 4) (b2 (f_Dr_packMore v5 v4 M) fun r7 M6 => some (r7, M6)) else if v2 = 2 then gd (v5 % 131072 = 4) (b2 (f_Dr_driveScrews v5 M) fun r10 M9 => some (r10, M9)) else if v2 = 3 then gd (v5 % 131072 = 4) (b2 (f_Dr_paintSide v5 v3 M) fun r13 M12 => some (r13, M12)) else gd (v5 % 131072 = 4) (b2 (f_Dr_cutMore v5 v3 (-v4) M) fun r16 M15 => some (r16, M15))
def f_D_mend (p1 : Int32) (p2 : Int32) (p3 : Int32) (p4 : Int32) (M : Mem) : Option (Int32 × Mem) := bd (f_D_doorAt p1 M) fun r1 => if r1 = 0 then some ((-1), M) else if (f_D_within p2 0 4 M) = 0 then some ((-1), M) else if (f_D_isPlaceOfMend p2 p3 M) = 0 then some ((-1), M) else if p2 = 2 then f_D_mend_b55 p2 p3 p4 r1 M else if p2 = 3 then f_D_mend_b55 p2 p3 p4 r1 M else if (f_D_within p4 0 9 M) = 0 then some ((-2), M) else f_D_mend_b55 p2 p3 p4 r1 M
theorem o_D_mend_b55 (v2 : Int32) (v3 : Int32) (v4 : Int32) (v5 : Nat) (M : Mem) : Go sRC g_D_mend fWi (f_D_mend_b55 v2 v3 v4 v5 M) 55 [.ref 9, .null, .int v2, .int v3, .int v4, .ref v5] [] M := by
  refine go_def (f_D_mend_b55.eq_1 ..) ?_
  refine go_iload_n (pc := 55) dX8_mend_55 rfl ?_
  refine go_tswC (pc := 56) (v := 0) (off := 32) 88 dX8_mend_56 (by decide) (by decide) (by decide) (fun _ => ?_) (fun n17 => ?_)
  · refine go_aload (pc := 88) dX8_mend_88 rfl ?_
    refine go_iload_n (pc := 90) dX8_mend_90 rfl ?_
    refine go_iload (pc := 91) dX8_mend_91 rfl ?_
    refine go_gd fun g2 => ?_
    refine go_callV (pc := 93) (a := v5) (as := [.int v3, .int v4]) (st := []) (o_Dr_cutMore v5 v3 v4 g2 M) ic_Dr_cutMore ivX8_196 (rcvk g2 (by decide) (by decide) rfl) rfl (by decide) (Nat.le_of_ble_eq_true rfl) dX8_mend_93 (kWi fun r4 M3 => ?_)
    exact go_ret dX8_mend_96 rii rfl rfl
  refine go_tswC (pc := 56) (v := 1) (off := 41) 97 dX8_mend_56 (by decide) (by decide) (by decide) (fun _ => ?_) (fun n18 => ?_)
  · refine go_aload (pc := 97) dX8_mend_97 rfl ?_
    refine go_iload (pc := 99) dX8_mend_99 rfl ?_
    refine go_gd fun g5 => ?_
    refine go_callV (pc := 101) (a := v5) (as := [.int v4]) (st := []) (o_Dr_packMore v5 v4 g5 M) ic_Dr_packMore ivX8_200 (rcvk g5 (by decide) (by decide) rfl) rfl (by decide) (Nat.le_of_ble_eq_true rfl) dX8_mend_101 (kWi fun r7 M6 => ?_)
    exact go_ret dX8_mend_104 rii rfl rfl
  refine go_tswC (pc := 56) (v := 2) (off := 49) 105 dX8_mend_56 (by decide) (by decide) (by decide) (fun _ => ?_) (fun n19 => ?_)
  · refine go_aload (pc := 105) dX8_mend_105 rfl ?_
    refine go_gd fun g8 => ?_
    refine go_callV (pc := 107) (a := v5) (as := []) (st := []) (o_Dr_driveScrews v5 g8 M) ic_Dr_driveScrews ivX8_203 (rcvk g8 (by decide) (by decide) rfl) rfl (by decide) (Nat.le_of_ble_eq_true rfl) dX8_mend_107 (kWi fun r10 M9 => ?_)
    exact go_ret dX8_mend_110 rii rfl rfl
  refine go_tswC (pc := 56) (v := 3) (off := 55) 111 dX8_mend_56 (by decide) (by decide) (by decide) (fun _ => ?_) (fun n20 => ?_)
  · refine go_aload (pc := 111) dX8_mend_111 rfl ?_
    refine go_iload_n (pc := 113) dX8_mend_113 rfl ?_
    refine go_gd fun g11 => ?_
    refine go_callV (pc := 114) (a := v5) (as := [.int v3]) (st := []) (o_Dr_paintSide v5 v3 g11 M) ic_Dr_paintSide ivX8_206 (rcvk g11 (by decide) (by decide) rfl) rfl (by decide) (Nat.le_of_ble_eq_true rfl) dX8_mend_114 (kWi fun r13 M12 => ?_)
    exact go_ret dX8_mend_117 rii rfl rfl
  refine go_tswD (pc := 56) 118 dX8_mend_56 (by have n17t := lv_neT n17 (show (0 : Int32).toInt = 0 by decide); have n18t := lv_neT n18 (show (1 : Int32).toInt = 1 by decide); have n19t := lv_neT n19 (show (2 : Int32).toInt = 2 by decide); have n20t := lv_neT n20 (show (3 : Int32).toInt = 3 by decide); rcases (show v2.toInt < 0 ∨ 3 < v2.toInt by omega) with h | h <;> first | exact Or.inl h | exact Or.inr (Or.inl h) | exact Or.inr (Or.inr (by rw [h]; decide))) (by decide) ?_
  refine go_aload (pc := 118) dX8_mend_118 rfl ?_
  refine go_iload_n (pc := 120) dX8_mend_120 rfl ?_
  refine go_iload (pc := 121) dX8_mend_121 rfl ?_
  refine go_ineg (pc := 123) dX8_mend_123 ?_
  refine go_gd fun g14 => ?_
  refine go_callV (pc := 124) (a := v5) (as := [.int v3, .int (-v4)]) (st := []) (o_Dr_cutMore v5 v3 (-v4) g14 M) ic_Dr_cutMore ivX8_196 (rcvk g14 (by decide) (by decide) rfl) rfl (by decide) (Nat.le_of_ble_eq_true rfl) dX8_mend_124 (kWi fun r16 M15 => ?_)
  exact go_ret dX8_mend_127 rii rfl rfl
theorem o_D_mend (p1 : Int32) (p2 : Int32) (p3 : Int32) (p4 : Int32) (M : Mem) : Ct sRC g_D_mend fWi [.ref 9, .int p1, .int p2, .int p3, .int p4] (f_D_mend p1 p2 p3 p4 M) M := by
  refine ⟨Nat.le_of_ble_eq_true rfl, ?_⟩
  show Go sRC g_D_mend fWi (f_D_mend p1 p2 p3 p4 M) 0 [.ref 9, .int p1, .int p2, .int p3, .int p4, .null] [] M
  refine go_def (f_D_mend.eq_1 ..) ?_
  refine go_aload_n (pc := 0) dX8_mend_0 rfl ?_
  refine go_iload_n (pc := 1) dX8_mend_1 rfl ?_
  refine go_callV (pc := 2) (a := 9) (as := [.int p1]) (st := []) (o_D_doorAt p1 M) ic_D_doorAt ivX8_92 (rcvk (a := 9) (t := 9) rfl (by decide) (by decide) rfl) rfl (by decide) (Nat.le_of_ble_eq_true rfl) dX8_mend_2 (kRr fun r1 => ?_)
  refine go_astore (pc := 5) (ls' := [.ref 9, .int p1, .int p2, .int p3, .int p4, .ref r1]) dX8_mend_5 (Nat.le_of_ble_eq_true rfl) rfl rfl ?_
  refine go_aload (pc := 7) dX8_mend_7 rfl ?_
  refine go_ifnull (pc := 9) 29 dX8_mend_9 (by decide) (fun _ => ?_) (fun _ => ?_)
  · refine go_iconst (pc := 29) (-1) dX8_mend_29 ki_m1 ?_
    exact go_ret dX8_mend_30 rii rfl rfl
  · refine go_iload_n (pc := 12) dX8_mend_12 rfl ?_
    refine go_iconst (pc := 13) 0 dX8_mend_13 ki_0 ?_
    refine go_iconst (pc := 14) 4 dX8_mend_14 ki_4 ?_
    refine go_T (v := f_D_within p2 0 4 M) ?_
    refine go_callS (pc := 15) (as := [.int p2, .int 0, .int 4]) (st := []) (o_D_within p2 0 4 M) ic_D_within ivX8_67 rfl (by decide) (Nat.le_of_ble_eq_true rfl) dX8_mend_15 (kTi ?_)
    refine go_ifeq (pc := 18) 29 dX8_mend_18 (by decide) (fun _ => ?_) (fun _ => ?_)
    · refine go_iconst (pc := 29) (-1) dX8_mend_29 ki_m1 ?_
      exact go_ret dX8_mend_30 rii rfl rfl
    · refine go_iload_n (pc := 21) dX8_mend_21 rfl ?_
      refine go_iload_n (pc := 22) dX8_mend_22 rfl ?_
      refine go_T (v := f_D_isPlaceOfMend p2 p3 M) ?_
      refine go_callS (pc := 23) (as := [.int p2, .int p3]) (st := []) (o_D_isPlaceOfMend p2 p3 M) ic_D_isPlaceOfMend ivX8_192 rfl (by decide) (Nat.le_of_ble_eq_true rfl) dX8_mend_23 (kTi ?_)
      refine go_ifne (pc := 26) 31 dX8_mend_26 (by decide) (fun _ => ?_) (fun _ => ?_)
      · refine go_iconst (pc := 29) (-1) dX8_mend_29 ki_m1 ?_
        exact go_ret dX8_mend_30 rii rfl rfl
      · refine go_iload_n (pc := 31) dX8_mend_31 rfl ?_
        refine go_iconst (pc := 32) 2 dX8_mend_32 ki_2 ?_
        refine go_icmpeq (pc := 33) 55 dX8_mend_33 (by decide) (fun _ => ?_) (fun _ => ?_)
        · refine go_sub (ls' := [.ref 9, .null, .int p2, .int p3, .int p4, .ref r1]) ⟨Or.inr rfl, Or.inl rfl, Or.inr rfl, Or.inr rfl, Or.inr rfl, Or.inr rfl, trivial⟩ ?_
          exact o_D_mend_b55 p2 p3 p4 r1 M
        · refine go_iload_n (pc := 36) dX8_mend_36 rfl ?_
          refine go_iconst (pc := 37) 3 dX8_mend_37 ki_3 ?_
          refine go_icmpeq (pc := 38) 55 dX8_mend_38 (by decide) (fun _ => ?_) (fun _ => ?_)
          · refine go_sub (ls' := [.ref 9, .null, .int p2, .int p3, .int p4, .ref r1]) ⟨Or.inr rfl, Or.inl rfl, Or.inr rfl, Or.inr rfl, Or.inr rfl, Or.inr rfl, trivial⟩ ?_
            exact o_D_mend_b55 p2 p3 p4 r1 M
          · refine go_iload (pc := 41) dX8_mend_41 rfl ?_
            refine go_iconst (pc := 43) 0 dX8_mend_43 ki_0 ?_
            refine go_bipush (pc := 44) 9 dX8_mend_44 kb_9 ?_
            refine go_T (v := f_D_within p4 0 9 M) ?_
            refine go_callS (pc := 46) (as := [.int p4, .int 0, .int 9]) (st := []) (o_D_within p4 0 9 M) ic_D_within ivX8_67 rfl (by decide) (Nat.le_of_ble_eq_true rfl) dX8_mend_46 (kTi ?_)
            refine go_ifne (pc := 49) 55 dX8_mend_49 (by decide) (fun _ => ?_) (fun _ => ?_)
            · refine go_bipush (pc := 52) (-2) dX8_mend_52 kb_m2 ?_
              exact go_ret dX8_mend_54 rii rfl rfl
            · refine go_sub (ls' := [.ref 9, .null, .int p2, .int p3, .int p4, .ref r1]) ⟨Or.inr rfl, Or.inl rfl, Or.inr rfl, Or.inr rfl, Or.inr rfl, Or.inr rfl, trivial⟩ ?_
              exact o_D_mend_b55 p2 p3 p4 r1 M
def f_D_run (p1 : Int32) (p2 : Int32) (p3 : Int32) (M : Mem) : Option (Int32 × Mem) := bd (f_D_doorAt p1 M) fun r1 => if r1 = 0 then some ((-10001), M) else if (f_D_within p3 0 8 M) = 0 then some ((-10001), M) else if (f_D_within p2 0 60 M) = 0 then some ((-10002), M) else gd (r1 % 131072 = 4) (b2 (f_D_courseNow r1 M) fun r4 M3 => gd (r4 % 131072 = 3) (bd (f_Co_goOn r4 p2 M3) fun M6 => if p3 = 6 then some (mI M6 8126539 0, M6) else if p3 = 7 then some (mI M6 8126539 1, M6) else if p3 = 8 then some (mI M6 7995396 3, M6) else bd (f_Co_gap 7602179 p3 M6) fun r7 => some (r7, M6)))
theorem o_D_run (p1 : Int32) (p2 : Int32) (p3 : Int32) (M : Mem) : Ct sRC g_D_run fWi [.ref 9, .int p1, .int p2, .int p3] (f_D_run p1 p2 p3 M) M := by
  refine ⟨Nat.le_of_ble_eq_true rfl, ?_⟩
  show Go sRC g_D_run fWi (f_D_run p1 p2 p3 M) 0 [.ref 9, .int p1, .int p2, .int p3, .null] [] M
  refine go_def (f_D_run.eq_1 ..) ?_
  refine go_aload_n (pc := 0) dX8_run_0 rfl ?_
  refine go_iload_n (pc := 1) dX8_run_1 rfl ?_
  refine go_callV (pc := 2) (a := 9) (as := [.int p1]) (st := []) (o_D_doorAt p1 M) ic_D_doorAt ivX8_92 (rcvk (a := 9) (t := 9) rfl (by decide) (by decide) rfl) rfl (by decide) (Nat.le_of_ble_eq_true rfl) dX8_run_2 (kRr fun r1 => ?_)
  refine go_astore (pc := 5) (ls' := [.ref 9, .int p1, .int p2, .int p3, .ref r1]) dX8_run_5 (Nat.le_of_ble_eq_true rfl) rfl rfl ?_
  refine go_aload (pc := 7) dX8_run_7 rfl ?_
  refine go_ifnull (pc := 9) 22 dX8_run_9 (by decide) (fun _ => ?_) (fun _ => ?_)
  · refine go_sipush (pc := 22) (-10001) dX8_run_22 ks_m10001 ?_
    exact go_ret dX8_run_25 rii rfl rfl
  · refine go_iload_n (pc := 12) dX8_run_12 rfl ?_
    refine go_iconst (pc := 13) 0 dX8_run_13 ki_0 ?_
    refine go_bipush (pc := 14) 8 dX8_run_14 kb_8 ?_
    refine go_T (v := f_D_within p3 0 8 M) ?_
    refine go_callS (pc := 16) (as := [.int p3, .int 0, .int 8]) (st := []) (o_D_within p3 0 8 M) ic_D_within ivX8_67 rfl (by decide) (Nat.le_of_ble_eq_true rfl) dX8_run_16 (kTi ?_)
    refine go_ifne (pc := 19) 26 dX8_run_19 (by decide) (fun _ => ?_) (fun _ => ?_)
    · refine go_sipush (pc := 22) (-10001) dX8_run_22 ks_m10001 ?_
      exact go_ret dX8_run_25 rii rfl rfl
    · refine go_iload_n (pc := 26) dX8_run_26 rfl ?_
      refine go_iconst (pc := 27) 0 dX8_run_27 ki_0 ?_
      refine go_bipush (pc := 28) 60 dX8_run_28 kb_60 ?_
      refine go_T (v := f_D_within p2 0 60 M) ?_
      refine go_callS (pc := 30) (as := [.int p2, .int 0, .int 60]) (st := []) (o_D_within p2 0 60 M) ic_D_within ivX8_67 rfl (by decide) (Nat.le_of_ble_eq_true rfl) dX8_run_30 (kTi ?_)
      refine go_ifne (pc := 33) 40 dX8_run_33 (by decide) (fun _ => ?_) (fun _ => ?_)
      · refine go_sipush (pc := 36) (-10002) dX8_run_36 ks_m10002 ?_
        exact go_ret dX8_run_39 rii rfl rfl
      · refine go_aload_n (pc := 40) dX8_run_40 rfl ?_
        refine go_aload (pc := 41) dX8_run_41 rfl ?_
        refine go_gd fun g2 => ?_
        refine go_callV (pc := 43) (a := 9) (as := [.ref r1]) (st := []) (o_D_courseNow r1 g2 M) ic_D_courseNow ivX8_99 (rcvk (a := 9) (t := 9) rfl (by decide) (by decide) rfl) rfl (by decide) (Nat.le_of_ble_eq_true rfl) dX8_run_43 (kWr fun r4 M3 => ?_)
        refine go_iload_n (pc := 46) dX8_run_46 rfl ?_
        refine go_gd fun g5 => ?_
        refine go_callV (pc := 47) (a := r4) (as := [.int p2]) (st := []) (o_Co_goOn r4 p2 g5 M3) ic_Co_goOn ivX8_209 (rcvk g5 (by decide) (by decide) rfl) rfl (by decide) (Nat.le_of_ble_eq_true rfl) dX8_run_47 (kWv fun M6 => ?_)
        refine go_iload_n (pc := 50) dX8_run_50 rfl ?_
        refine go_tswC (pc := 51) (v := 6) (off := 25) 76 dX8_run_51 (by decide) (by decide) (by decide) (fun _ => ?_) (fun n8 => ?_)
        · refine go_aload_n (pc := 76) dX8_run_76 rfl ?_
          refine go_getS (pc := 77) 7602179 flX8_46 rfl rfl sC_9_7 (by decide) dX8_run_77 ?_
          refine go_getS (pc := 80) 7995396 flX8_212 rfl rfl (sC_3_1 rfl) (by decide) dX8_run_80 ?_
          refine go_getS (pc := 83) 8126539 flX8_113 rfl rfl (sC_4_5 rfl) (by decide) dX8_run_83 ?_
          refine go_iconst (pc := 86) 0 dX8_run_86 ki_0 ?_
          refine go_iald' (pc := 87) 0 (by decide) (by decide) rfl rfl dX8_run_87 ?_
          exact go_ret dX8_run_88 rii rfl rfl
        refine go_tswC (pc := 51) (v := 7) (off := 38) 89 dX8_run_51 (by decide) (by decide) (by decide) (fun _ => ?_) (fun n9 => ?_)
        · refine go_aload_n (pc := 89) dX8_run_89 rfl ?_
          refine go_getS (pc := 90) 7602179 flX8_46 rfl rfl sC_9_7 (by decide) dX8_run_90 ?_
          refine go_getS (pc := 93) 7995396 flX8_212 rfl rfl (sC_3_1 rfl) (by decide) dX8_run_93 ?_
          refine go_getS (pc := 96) 8126539 flX8_113 rfl rfl (sC_4_5 rfl) (by decide) dX8_run_96 ?_
          refine go_iconst (pc := 99) 1 dX8_run_99 ki_1 ?_
          refine go_iald' (pc := 100) 1 (by decide) (by decide) rfl rfl dX8_run_100 ?_
          exact go_ret dX8_run_101 rii rfl rfl
        refine go_tswC (pc := 51) (v := 8) (off := 51) 102 dX8_run_51 (by decide) (by decide) (by decide) (fun _ => ?_) (fun n10 => ?_)
        · refine go_aload_n (pc := 102) dX8_run_102 rfl ?_
          refine go_getS (pc := 103) 7602179 flX8_46 rfl rfl sC_9_7 (by decide) dX8_run_103 ?_
          refine go_getS (pc := 106) 7995396 flX8_212 rfl rfl (sC_3_1 rfl) (by decide) dX8_run_106 ?_
          refine go_getI (pc := 109) flX8_119 rfl rfl dX8_run_109 ?_
          exact go_ret dX8_run_112 rii rfl rfl
        refine go_tswD (pc := 51) 113 dX8_run_51 (by have n8t := lv_neT n8 (show (6 : Int32).toInt = 6 by decide); have n9t := lv_neT n9 (show (7 : Int32).toInt = 7 by decide); have n10t := lv_neT n10 (show (8 : Int32).toInt = 8 by decide); rcases (show p3.toInt < 6 ∨ 8 < p3.toInt by omega) with h | h <;> first | exact Or.inl h | exact Or.inr (Or.inl h) | exact Or.inr (Or.inr (by rw [h]; decide))) (by decide) ?_
        refine go_aload_n (pc := 113) dX8_run_113 rfl ?_
        refine go_getS (pc := 114) 7602179 flX8_46 rfl rfl sC_9_7 (by decide) dX8_run_114 ?_
        refine go_iload_n (pc := 117) dX8_run_117 rfl ?_
        refine go_callV (pc := 118) (a := 7602179) (as := [.int p3]) (st := []) (o_Co_gap 7602179 p3 rfl M6) ic_Co_gap ivX8_103 (rcvk rfl (by decide) (by decide) rfl) rfl (by decide) (Nat.le_of_ble_eq_true rfl) dX8_run_118 (kRi fun r7 => ?_)
        exact go_ret dX8_run_121 rii rfl rfl
def f_D_first_l30 : Nat → Int32 → Int32 → Mem → Option (Int32 × Mem)
  | 0, _, _, _ => none
  | n + 1, v2, v4, M => if 60 < v4 then some ((-5), M) else bd (f_Co_firstRubbing 7602179 M) fun r5 => if r5 = (-5) then bd (f_Co_goOn 7602179 1 M) fun M6 => lt (v4 + 1) fun x7 => f_D_first_l30 n v2 x7 M6 else if v2 = 0 then some (v4, M) else some (r5, M)
def f_D_first (p1 : Int32) (p2 : Int32) (M : Mem) : Option (Int32 × Mem) := bd (f_D_doorAt p1 M) fun r1 => if r1 = 0 then some ((-1), M) else if (f_D_within p2 0 1 M) = 0 then some ((-1), M) else gd (r1 % 131072 = 4) (b2 (f_D_courseNow r1 M) fun r4 M3 => f_D_first_l30 200 p2 0 M3)
theorem o_D_first_l30 : ∀ (n : Nat) (v2 : Int32) (v4 : Int32) (M : Mem), Go sRC g_D_first fWi (f_D_first_l30 n v2 v4 M) 30 [.ref 9, .null, .int v2, .null, .int v4, .null] [] M := by
  intro n
  induction n with
  | zero =>
    intro v2 v4 M
    exact go_def (f_D_first_l30.eq_1 ..) go_none
  | succ n ih =>
    intro v2 v4 M
    refine go_def (f_D_first_l30.eq_2 ..) ?_
    refine go_iload (pc := 30) dX8_first_30 rfl ?_
    refine go_bipush (pc := 32) 60 dX8_first_32 kb_60 ?_
    refine go_icmpgt (pc := 34) 79 dX8_first_34 (by decide) (fun _ => ?_) (fun _ => ?_)
    · refine go_bipush (pc := 79) (-5) dX8_first_79 kb_m5 ?_
      exact go_ret dX8_first_81 rii rfl rfl
    · refine go_aload_n (pc := 37) dX8_first_37 rfl ?_
      refine go_getS (pc := 38) 7602179 flX8_46 rfl rfl sC_9_7 (by decide) dX8_first_38 ?_
      refine go_callV (pc := 41) (a := 7602179) (as := []) (st := []) (o_Co_firstRubbing 7602179 rfl M) ic_Co_firstRubbing ivX8_216 (rcvk rfl (by decide) (by decide) rfl) rfl (by decide) (Nat.le_of_ble_eq_true rfl) dX8_first_41 (kRi fun r5 => ?_)
      refine go_istore (pc := 44) (ls' := [.ref 9, .null, .int v2, .null, .int v4, .int r5]) dX8_first_44 (Nat.le_of_ble_eq_true rfl) rfl rfl ?_
      refine go_iload (pc := 46) dX8_first_46 rfl ?_
      refine go_bipush (pc := 48) (-5) dX8_first_48 kb_m5 ?_
      refine go_icmpeq (pc := 50) 65 dX8_first_50 (by decide) (fun _ => ?_) (fun _ => ?_)
      · refine go_aload_n (pc := 65) dX8_first_65 rfl ?_
        refine go_getS (pc := 66) 7602179 flX8_46 rfl rfl sC_9_7 (by decide) dX8_first_66 ?_
        refine go_iconst (pc := 69) 1 dX8_first_69 ki_1 ?_
        refine go_callV (pc := 70) (a := 7602179) (as := [.int 1]) (st := []) (o_Co_goOn 7602179 1 rfl M) ic_Co_goOn ivX8_209 (rcvk rfl (by decide) (by decide) rfl) rfl (by decide) (Nat.le_of_ble_eq_true rfl) dX8_first_70 (kWv fun M6 => ?_)
        refine go_iincL (pc := 73) (L := fun x7 => [.ref 9, .null, .int v2, .null, .int x7, .int r5]) 1 dX8_first_73 rfl ki_1 (Nat.le_of_ble_eq_true rfl) rfl (fun _ => rfl) (fun x7 => ?_)
        refine go_goto (pc := 76) 30 dX8_first_76 (by decide) ?_
        refine go_sub (ls' := [.ref 9, .null, .int v2, .null, .int x7, .null]) ⟨Or.inr rfl, Or.inl rfl, Or.inr rfl, Or.inl rfl, Or.inr rfl, Or.inl rfl, trivial⟩ ?_
        exact ih v2 x7 M6
      · refine go_iload_n (pc := 53) dX8_first_53 rfl ?_
        refine go_ifne (pc := 54) 62 dX8_first_54 (by decide) (fun _ => ?_) (fun _ => ?_)
        · refine go_iload (pc := 57) dX8_first_57 rfl ?_
          refine go_goto (pc := 59) 64 dX8_first_59 (by decide) ?_
          exact go_ret dX8_first_64 rii rfl rfl
        · refine go_iload (pc := 62) dX8_first_62 rfl ?_
          exact go_ret dX8_first_64 rii rfl rfl
theorem o_D_first (p1 : Int32) (p2 : Int32) (M : Mem) : Ct sRC g_D_first fWi [.ref 9, .int p1, .int p2] (f_D_first p1 p2 M) M := by
  refine ⟨Nat.le_of_ble_eq_true rfl, ?_⟩
  show Go sRC g_D_first fWi (f_D_first p1 p2 M) 0 [.ref 9, .int p1, .int p2, .null, .null, .null] [] M
  refine go_def (f_D_first.eq_1 ..) ?_
  refine go_aload_n (pc := 0) dX8_first_0 rfl ?_
  refine go_iload_n (pc := 1) dX8_first_1 rfl ?_
  refine go_callV (pc := 2) (a := 9) (as := [.int p1]) (st := []) (o_D_doorAt p1 M) ic_D_doorAt ivX8_92 (rcvk (a := 9) (t := 9) rfl (by decide) (by decide) rfl) rfl (by decide) (Nat.le_of_ble_eq_true rfl) dX8_first_2 (kRr fun r1 => ?_)
  refine go_astore_n (pc := 5) (ls' := [.ref 9, .int p1, .int p2, .ref r1, .null, .null]) dX8_first_5 (Nat.le_of_ble_eq_true rfl) rfl rfl ?_
  refine go_aload_n (pc := 6) dX8_first_6 rfl ?_
  refine go_ifnull (pc := 7) 19 dX8_first_7 (by decide) (fun _ => ?_) (fun _ => ?_)
  · refine go_iconst (pc := 19) (-1) dX8_first_19 ki_m1 ?_
    exact go_ret dX8_first_20 rii rfl rfl
  · refine go_iload_n (pc := 10) dX8_first_10 rfl ?_
    refine go_iconst (pc := 11) 0 dX8_first_11 ki_0 ?_
    refine go_iconst (pc := 12) 1 dX8_first_12 ki_1 ?_
    refine go_T (v := f_D_within p2 0 1 M) ?_
    refine go_callS (pc := 13) (as := [.int p2, .int 0, .int 1]) (st := []) (o_D_within p2 0 1 M) ic_D_within ivX8_67 rfl (by decide) (Nat.le_of_ble_eq_true rfl) dX8_first_13 (kTi ?_)
    refine go_ifne (pc := 16) 21 dX8_first_16 (by decide) (fun _ => ?_) (fun _ => ?_)
    · refine go_iconst (pc := 19) (-1) dX8_first_19 ki_m1 ?_
      exact go_ret dX8_first_20 rii rfl rfl
    · refine go_aload_n (pc := 21) dX8_first_21 rfl ?_
      refine go_aload_n (pc := 22) dX8_first_22 rfl ?_
      refine go_gd fun g2 => ?_
      refine go_callV (pc := 23) (a := 9) (as := [.ref r1]) (st := []) (o_D_courseNow r1 g2 M) ic_D_courseNow ivX8_99 (rcvk (a := 9) (t := 9) rfl (by decide) (by decide) rfl) rfl (by decide) (Nat.le_of_ble_eq_true rfl) dX8_first_23 (kWr fun r4 M3 => ?_)
      refine go_pop (pc := 26) dX8_first_26 rfl ?_
      refine go_iconst (pc := 27) 0 dX8_first_27 ki_0 ?_
      refine go_istore (pc := 28) (ls' := [.ref 9, .int p1, .int p2, .ref r1, .int 0, .null]) dX8_first_28 (Nat.le_of_ble_eq_true rfl) rfl rfl ?_
      refine go_sub (ls' := [.ref 9, .null, .int p2, .null, .int 0, .null]) ⟨Or.inr rfl, Or.inl rfl, Or.inr rfl, Or.inl rfl, Or.inr rfl, Or.inl rfl, trivial⟩ ?_
      exact o_D_first_l30 200 p2 0 M3
def f_D_worst (p1 : Int32) (p2 : Int32) (p3 : Int32) (p4 : Int32) (M : Mem) : Option (Int32 × Mem) := bd (f_D_doorAt p1 M) fun r1 => if r1 = 0 then some ((-10001), M) else if (f_D_isSpot p2 M) = 0 then some ((-10001), M) else if (f_D_within p4 0 1 M) = 0 then some ((-10001), M) else if (f_D_within p3 0 60 M) = 0 then some ((-10002), M) else gd (r1 % 131072 = 4) (b2 (f_D_courseNow r1 M) fun r4 M3 => gd (r4 % 131072 = 3) (bd (f_Co_goThrough r4 p3 M3) fun M6 => if p4 = 0 then gd (inR p2 6) (some (mI M6 8782027 p2.toNatClampNeg, M6)) else gd (inR p2 6) (some (mI M6 8913099 p2.toNatClampNeg, M6))))
theorem o_D_worst (p1 : Int32) (p2 : Int32) (p3 : Int32) (p4 : Int32) (M : Mem) : Ct sRC g_D_worst fWi [.ref 9, .int p1, .int p2, .int p3, .int p4] (f_D_worst p1 p2 p3 p4 M) M := by
  refine ⟨Nat.le_of_ble_eq_true rfl, ?_⟩
  show Go sRC g_D_worst fWi (f_D_worst p1 p2 p3 p4 M) 0 [.ref 9, .int p1, .int p2, .int p3, .int p4, .null] [] M
  refine go_def (f_D_worst.eq_1 ..) ?_
  refine go_aload_n (pc := 0) dX8_worst_0 rfl ?_
  refine go_iload_n (pc := 1) dX8_worst_1 rfl ?_
  refine go_callV (pc := 2) (a := 9) (as := [.int p1]) (st := []) (o_D_doorAt p1 M) ic_D_doorAt ivX8_92 (rcvk (a := 9) (t := 9) rfl (by decide) (by decide) rfl) rfl (by decide) (Nat.le_of_ble_eq_true rfl) dX8_worst_2 (kRr fun r1 => ?_)
  refine go_astore (pc := 5) (ls' := [.ref 9, .int p1, .int p2, .int p3, .int p4, .ref r1]) dX8_worst_5 (Nat.le_of_ble_eq_true rfl) rfl rfl ?_
  refine go_aload (pc := 7) dX8_worst_7 rfl ?_
  refine go_ifnull (pc := 9) 29 dX8_worst_9 (by decide) (fun _ => ?_) (fun _ => ?_)
  · refine go_sipush (pc := 29) (-10001) dX8_worst_29 ks_m10001 ?_
    exact go_ret dX8_worst_32 rii rfl rfl
  · refine go_iload_n (pc := 12) dX8_worst_12 rfl ?_
    refine go_T (v := f_D_isSpot p2 M) ?_
    refine go_callS (pc := 13) (as := [.int p2]) (st := []) (o_D_isSpot p2 M) ic_D_isSpot ivX8_219 rfl (by decide) (Nat.le_of_ble_eq_true rfl) dX8_worst_13 (kTi ?_)
    refine go_ifeq (pc := 16) 29 dX8_worst_16 (by decide) (fun _ => ?_) (fun _ => ?_)
    · refine go_sipush (pc := 29) (-10001) dX8_worst_29 ks_m10001 ?_
      exact go_ret dX8_worst_32 rii rfl rfl
    · refine go_iload (pc := 19) dX8_worst_19 rfl ?_
      refine go_iconst (pc := 21) 0 dX8_worst_21 ki_0 ?_
      refine go_iconst (pc := 22) 1 dX8_worst_22 ki_1 ?_
      refine go_T (v := f_D_within p4 0 1 M) ?_
      refine go_callS (pc := 23) (as := [.int p4, .int 0, .int 1]) (st := []) (o_D_within p4 0 1 M) ic_D_within ivX8_67 rfl (by decide) (Nat.le_of_ble_eq_true rfl) dX8_worst_23 (kTi ?_)
      refine go_ifne (pc := 26) 33 dX8_worst_26 (by decide) (fun _ => ?_) (fun _ => ?_)
      · refine go_sipush (pc := 29) (-10001) dX8_worst_29 ks_m10001 ?_
        exact go_ret dX8_worst_32 rii rfl rfl
      · refine go_iload_n (pc := 33) dX8_worst_33 rfl ?_
        refine go_iconst (pc := 34) 0 dX8_worst_34 ki_0 ?_
        refine go_bipush (pc := 35) 60 dX8_worst_35 kb_60 ?_
        refine go_T (v := f_D_within p3 0 60 M) ?_
        refine go_callS (pc := 37) (as := [.int p3, .int 0, .int 60]) (st := []) (o_D_within p3 0 60 M) ic_D_within ivX8_67 rfl (by decide) (Nat.le_of_ble_eq_true rfl) dX8_worst_37 (kTi ?_)
        refine go_ifne (pc := 40) 47 dX8_worst_40 (by decide) (fun _ => ?_) (fun _ => ?_)
        · refine go_sipush (pc := 43) (-10002) dX8_worst_43 ks_m10002 ?_
          exact go_ret dX8_worst_46 rii rfl rfl
        · refine go_aload_n (pc := 47) dX8_worst_47 rfl ?_
          refine go_aload (pc := 48) dX8_worst_48 rfl ?_
          refine go_gd fun g2 => ?_
          refine go_callV (pc := 50) (a := 9) (as := [.ref r1]) (st := []) (o_D_courseNow r1 g2 M) ic_D_courseNow ivX8_99 (rcvk (a := 9) (t := 9) rfl (by decide) (by decide) rfl) rfl (by decide) (Nat.le_of_ble_eq_true rfl) dX8_worst_50 (kWr fun r4 M3 => ?_)
          refine go_iload_n (pc := 53) dX8_worst_53 rfl ?_
          refine go_gd fun g5 => ?_
          refine go_callV (pc := 54) (a := r4) (as := [.int p3]) (st := []) (o_Co_goThrough r4 p3 g5 M3) ic_Co_goThrough ivX8_222 (rcvk g5 (by decide) (by decide) rfl) rfl (by decide) (Nat.le_of_ble_eq_true rfl) dX8_worst_54 (kWv fun M6 => ?_)
          refine go_iload (pc := 57) dX8_worst_57 rfl ?_
          refine go_ifne (pc := 59) 74 dX8_worst_59 (by decide) (fun _ => ?_) (fun _ => ?_)
          · refine go_aload_n (pc := 62) dX8_worst_62 rfl ?_
            refine go_getS (pc := 63) 7602179 flX8_46 rfl rfl sC_9_7 (by decide) dX8_worst_63 ?_
            refine go_getS (pc := 66) 8782027 flX8_225 rfl rfl (sC_3_8 rfl) (by decide) dX8_worst_66 ?_
            refine go_iload_n (pc := 69) dX8_worst_69 rfl ?_
            refine go_iald (pc := 70) rfl rfl dX8_worst_70 (fun _ => ?_)
            refine go_goto (pc := 71) 83 dX8_worst_71 (by decide) ?_
            exact go_ret dX8_worst_83 rii rfl rfl
          · refine go_aload_n (pc := 74) dX8_worst_74 rfl ?_
            refine go_getS (pc := 75) 7602179 flX8_46 rfl rfl sC_9_7 (by decide) dX8_worst_75 ?_
            refine go_getS (pc := 78) 8913099 flX8_228 rfl rfl (sC_3_9 rfl) (by decide) dX8_worst_78 ?_
            refine go_iload_n (pc := 81) dX8_worst_81 rfl ?_
            refine go_iald (pc := 82) rfl rfl dX8_worst_82 (fun _ => ?_)
            exact go_ret dX8_worst_83 rii rfl rfl
def f_D_off (p1 : Int32) (p2 : Int32) (M : Mem) : Option (Int32 × Mem) := bd (f_D_doorAt p1 M) fun r1 => if r1 = 0 then some ((-1), M) else if (f_D_within p2 (-1) 5 M) = 0 then some ((-1), M) else gd (r1 % 131072 = 4) (b2 (f_D_courseNow r1 M) fun r4 M3 => gd (r4 % 131072 = 3) (bd (f_Co_goThrough r4 12 M3) fun M6 => if p2 = (-1) then bd (f_Co_fitsWhenCut 7602179 M6) fun r8 => if r8 = 0 then some (0, M6) else some (1, M6) else bd (f_Co_missing 7602179 p2 M6) fun r7 => some (r7, M6)))
theorem o_D_off (p1 : Int32) (p2 : Int32) (M : Mem) : Ct sRC g_D_off fWi [.ref 9, .int p1, .int p2] (f_D_off p1 p2 M) M := by
  refine ⟨Nat.le_of_ble_eq_true rfl, ?_⟩
  show Go sRC g_D_off fWi (f_D_off p1 p2 M) 0 [.ref 9, .int p1, .int p2, .null] [] M
  refine go_def (f_D_off.eq_1 ..) ?_
  refine go_aload_n (pc := 0) dX8_off_0 rfl ?_
  refine go_iload_n (pc := 1) dX8_off_1 rfl ?_
  refine go_callV (pc := 2) (a := 9) (as := [.int p1]) (st := []) (o_D_doorAt p1 M) ic_D_doorAt ivX8_92 (rcvk (a := 9) (t := 9) rfl (by decide) (by decide) rfl) rfl (by decide) (Nat.le_of_ble_eq_true rfl) dX8_off_2 (kRr fun r1 => ?_)
  refine go_astore_n (pc := 5) (ls' := [.ref 9, .int p1, .int p2, .ref r1]) dX8_off_5 (Nat.le_of_ble_eq_true rfl) rfl rfl ?_
  refine go_aload_n (pc := 6) dX8_off_6 rfl ?_
  refine go_ifnull (pc := 7) 19 dX8_off_7 (by decide) (fun _ => ?_) (fun _ => ?_)
  · refine go_iconst (pc := 19) (-1) dX8_off_19 ki_m1 ?_
    exact go_ret dX8_off_20 rii rfl rfl
  · refine go_iload_n (pc := 10) dX8_off_10 rfl ?_
    refine go_iconst (pc := 11) (-1) dX8_off_11 ki_m1 ?_
    refine go_iconst (pc := 12) 5 dX8_off_12 ki_5 ?_
    refine go_T (v := f_D_within p2 (-1) 5 M) ?_
    refine go_callS (pc := 13) (as := [.int p2, .int (-1), .int 5]) (st := []) (o_D_within p2 (-1) 5 M) ic_D_within ivX8_67 rfl (by decide) (Nat.le_of_ble_eq_true rfl) dX8_off_13 (kTi ?_)
    refine go_ifne (pc := 16) 21 dX8_off_16 (by decide) (fun _ => ?_) (fun _ => ?_)
    · refine go_iconst (pc := 19) (-1) dX8_off_19 ki_m1 ?_
      exact go_ret dX8_off_20 rii rfl rfl
    · refine go_aload_n (pc := 21) dX8_off_21 rfl ?_
      refine go_aload_n (pc := 22) dX8_off_22 rfl ?_
      refine go_gd fun g2 => ?_
      refine go_callV (pc := 23) (a := 9) (as := [.ref r1]) (st := []) (o_D_courseNow r1 g2 M) ic_D_courseNow ivX8_99 (rcvk (a := 9) (t := 9) rfl (by decide) (by decide) rfl) rfl (by decide) (Nat.le_of_ble_eq_true rfl) dX8_off_23 (kWr fun r4 M3 => ?_)
      refine go_bipush (pc := 26) 12 dX8_off_26 kb_12 ?_
      refine go_gd fun g5 => ?_
      refine go_callV (pc := 28) (a := r4) (as := [.int 12]) (st := []) (o_Co_goThrough r4 12 g5 M3) ic_Co_goThrough ivX8_222 (rcvk g5 (by decide) (by decide) rfl) rfl (by decide) (Nat.le_of_ble_eq_true rfl) dX8_off_28 (kWv fun M6 => ?_)
      refine go_iload_n (pc := 31) dX8_off_31 rfl ?_
      refine go_iconst (pc := 32) (-1) dX8_off_32 ki_m1 ?_
      refine go_icmpne (pc := 33) 52 dX8_off_33 (by decide) (fun _ => ?_) (fun _ => ?_)
      · refine go_aload_n (pc := 36) dX8_off_36 rfl ?_
        refine go_getS (pc := 37) 7602179 flX8_46 rfl rfl sC_9_7 (by decide) dX8_off_37 ?_
        refine go_callV (pc := 40) (a := 7602179) (as := []) (st := []) (o_Co_fitsWhenCut 7602179 rfl M6) ic_Co_fitsWhenCut ivX8_231 (rcvk rfl (by decide) (by decide) rfl) rfl (by decide) (Nat.le_of_ble_eq_true rfl) dX8_off_40 (kRi fun r8 => ?_)
        refine go_ifeq (pc := 43) 50 dX8_off_43 (by decide) (fun _ => ?_) (fun _ => ?_)
        · refine go_iconst (pc := 50) 0 dX8_off_50 ki_0 ?_
          exact go_ret dX8_off_51 rii rfl rfl
        · refine go_iconst (pc := 46) 1 dX8_off_46 ki_1 ?_
          refine go_goto (pc := 47) 51 dX8_off_47 (by decide) ?_
          exact go_ret dX8_off_51 rii rfl rfl
      · refine go_aload_n (pc := 52) dX8_off_52 rfl ?_
        refine go_getS (pc := 53) 7602179 flX8_46 rfl rfl sC_9_7 (by decide) dX8_off_53 ?_
        refine go_iload_n (pc := 56) dX8_off_56 rfl ?_
        refine go_callV (pc := 57) (a := 7602179) (as := [.int p2]) (st := []) (o_Co_missing 7602179 p2 rfl M6) ic_Co_missing ivX8_235 (rcvk rfl (by decide) (by decide) rfl) rfl (by decide) (Nat.le_of_ble_eq_true rfl) dX8_off_57 (kRi fun r7 => ?_)
        exact go_ret dX8_off_60 rii rfl rfl
def f_D_costOf_b78 (p1 : Nat) (v2 : Int32) (v4 : Int32) (M : Mem) : Option (Int32 × Mem) := bd (f_Co_settle 7602179 M) fun M17 => bd (f_Co_goThrough 7602179 12 M17) fun M18 => bd (f_Co_missingSpots 7602179 M18) fun r19 => if (v2 &&& 1) = 0 then if r19 = 0 then some (v4, M18) else some ((-5), M18) else some (v4 + (3 * r19), M18)
def f_D_costOf_b56 (p1 : Nat) (v2 : Int32) (v3 : Nat) (v4 : Int32) (M : Mem) : Option (Int32 × Mem) := if (v2 &&& 8) = 0 then f_D_costOf_b78 p1 v2 v4 M else gd (v3 % 131072 = 4) (b2 (f_Dr_paintSide v3 0 M) fun r13 M12 => b2 (f_Dr_paintSide v3 1 M12) fun r15 M14 => lt (v4 + 5) fun x16 => f_D_costOf_b78 p1 v2 x16 M14)
def f_D_costOf_b42 (p1 : Nat) (v2 : Int32) (v3 : Nat) (v4 : Int32) (M : Mem) : Option (Int32 × Mem) := if (v2 &&& 4) = 0 then f_D_costOf_b56 p1 v2 v3 v4 M else gd (v3 % 131072 = 4) (b2 (f_Dr_driveScrews v3 M) fun r9 M8 => lt (v4 + 2) fun x10 => f_D_costOf_b56 p1 v2 v3 x10 M8)
def f_D_costOf (p1 : Nat) (p2 : Int32) (M : Mem) : Option (Int32 × Mem) := bd (f_D_holdingHouse M) fun r1 => gd (r1 % 131072 = 6) (bd (f_Co_begin 7602179 p1 131077 r1 M) fun M3 => if (p2 &&& 2) = 0 then f_D_costOf_b42 p1 p2 7995396 0 M3 else b2 (f_Dr_packMore 7995396 2 M3) fun r5 M4 => lt (0 + 1) fun x6 => f_D_costOf_b42 p1 p2 7995396 x6 M4)
theorem o_D_costOf_b78 (p1 : Nat) (hp1 : p1 % 131072 = 4) (v2 : Int32) (v4 : Int32) (M : Mem) : Go sRC g_D_costOf fWi (f_D_costOf_b78 p1 v2 v4 M) 78 [.ref 9, .ref p1, .int v2, .null, .int v4, .null] [] M := by
  refine go_def (f_D_costOf_b78.eq_1 ..) ?_
  refine go_aload_n (pc := 78) dX8_costOf_78 rfl ?_
  refine go_getS (pc := 79) 7602179 flX8_46 rfl rfl sC_9_7 (by decide) dX8_costOf_79 ?_
  refine go_callV (pc := 82) (a := 7602179) (as := []) (st := []) (o_Co_settle 7602179 rfl M) ic_Co_settle ivX8_341 (rcvk rfl (by decide) (by decide) rfl) rfl (by decide) (Nat.le_of_ble_eq_true rfl) dX8_costOf_82 (kWv fun M17 => ?_)
  refine go_aload_n (pc := 85) dX8_costOf_85 rfl ?_
  refine go_getS (pc := 86) 7602179 flX8_46 rfl rfl sC_9_7 (by decide) dX8_costOf_86 ?_
  refine go_bipush (pc := 89) 12 dX8_costOf_89 kb_12 ?_
  refine go_callV (pc := 91) (a := 7602179) (as := [.int 12]) (st := []) (o_Co_goThrough 7602179 12 rfl M17) ic_Co_goThrough ivX8_222 (rcvk rfl (by decide) (by decide) rfl) rfl (by decide) (Nat.le_of_ble_eq_true rfl) dX8_costOf_91 (kWv fun M18 => ?_)
  refine go_aload_n (pc := 94) dX8_costOf_94 rfl ?_
  refine go_getS (pc := 95) 7602179 flX8_46 rfl rfl sC_9_7 (by decide) dX8_costOf_95 ?_
  refine go_callV (pc := 98) (a := 7602179) (as := []) (st := []) (o_Co_missingSpots 7602179 rfl M18) ic_Co_missingSpots ivX8_344 (rcvk rfl (by decide) (by decide) rfl) rfl (by decide) (Nat.le_of_ble_eq_true rfl) dX8_costOf_98 (kRi fun r19 => ?_)
  refine go_istore (pc := 101) (ls' := [.ref 9, .ref p1, .int v2, .null, .int v4, .int r19]) dX8_costOf_101 (Nat.le_of_ble_eq_true rfl) rfl rfl ?_
  refine go_iload_n (pc := 103) dX8_costOf_103 rfl ?_
  refine go_iconst (pc := 104) 1 dX8_costOf_104 ki_1 ?_
  refine go_iand (pc := 105) dX8_costOf_105 ?_
  refine go_ifeq (pc := 106) 117 dX8_costOf_106 (by decide) (fun _ => ?_) (fun _ => ?_)
  · refine go_iload (pc := 117) dX8_costOf_117 rfl ?_
    refine go_ifne (pc := 119) 127 dX8_costOf_119 (by decide) (fun _ => ?_) (fun _ => ?_)
    · refine go_iload (pc := 122) dX8_costOf_122 rfl ?_
      refine go_goto (pc := 124) 129 dX8_costOf_124 (by decide) ?_
      exact go_ret dX8_costOf_129 rii rfl rfl
    · refine go_bipush (pc := 127) (-5) dX8_costOf_127 kb_m5 ?_
      exact go_ret dX8_costOf_129 rii rfl rfl
  · refine go_iload (pc := 109) dX8_costOf_109 rfl ?_
    refine go_iconst (pc := 111) 3 dX8_costOf_111 ki_3 ?_
    refine go_iload (pc := 112) dX8_costOf_112 rfl ?_
    refine go_imul (pc := 114) dX8_costOf_114 ?_
    refine go_iadd (pc := 115) dX8_costOf_115 ?_
    exact go_ret dX8_costOf_116 rii rfl rfl
theorem o_D_costOf_b56 (p1 : Nat) (hp1 : p1 % 131072 = 4) (v2 : Int32) (v3 : Nat) (v4 : Int32) (M : Mem) : Go sRC g_D_costOf fWi (f_D_costOf_b56 p1 v2 v3 v4 M) 56 [.ref 9, .ref p1, .int v2, .ref v3, .int v4, .null] [] M := by
  refine go_def (f_D_costOf_b56.eq_1 ..) ?_
  refine go_iload_n (pc := 56) dX8_costOf_56 rfl ?_
  refine go_bipush (pc := 57) 8 dX8_costOf_57 kb_8 ?_
  refine go_iand (pc := 59) dX8_costOf_59 ?_
  refine go_ifeq (pc := 60) 78 dX8_costOf_60 (by decide) (fun _ => ?_) (fun _ => ?_)
  · refine go_sub (ls' := [.ref 9, .ref p1, .int v2, .null, .int v4, .null]) ⟨Or.inr rfl, Or.inr rfl, Or.inr rfl, Or.inl rfl, Or.inr rfl, Or.inl rfl, trivial⟩ ?_
    exact o_D_costOf_b78 p1 hp1 v2 v4 M
  · refine go_aload_n (pc := 63) dX8_costOf_63 rfl ?_
    refine go_iconst (pc := 64) 0 dX8_costOf_64 ki_0 ?_
    refine go_gd fun g11 => ?_
    refine go_callV (pc := 65) (a := v3) (as := [.int 0]) (st := []) (o_Dr_paintSide v3 0 g11 M) ic_Dr_paintSide ivX8_206 (rcvk g11 (by decide) (by decide) rfl) rfl (by decide) (Nat.le_of_ble_eq_true rfl) dX8_costOf_65 (kWi fun r13 M12 => ?_)
    refine go_pop (pc := 68) dX8_costOf_68 rfl ?_
    refine go_aload_n (pc := 69) dX8_costOf_69 rfl ?_
    refine go_iconst (pc := 70) 1 dX8_costOf_70 ki_1 ?_
    refine go_callV (pc := 71) (a := v3) (as := [.int 1]) (st := []) (o_Dr_paintSide v3 1 g11 M12) ic_Dr_paintSide ivX8_206 (rcvk g11 (by decide) (by decide) rfl) rfl (by decide) (Nat.le_of_ble_eq_true rfl) dX8_costOf_71 (kWi fun r15 M14 => ?_)
    refine go_pop (pc := 74) dX8_costOf_74 rfl ?_
    refine go_iincL (pc := 75) (L := fun x16 => [.ref 9, .ref p1, .int v2, .ref v3, .int x16, .null]) 5 dX8_costOf_75 rfl ki_5 (Nat.le_of_ble_eq_true rfl) rfl (fun _ => rfl) (fun x16 => ?_)
    refine go_sub (ls' := [.ref 9, .ref p1, .int v2, .null, .int x16, .null]) ⟨Or.inr rfl, Or.inr rfl, Or.inr rfl, Or.inl rfl, Or.inr rfl, Or.inl rfl, trivial⟩ ?_
    exact o_D_costOf_b78 p1 hp1 v2 x16 M14
theorem o_D_costOf_b42 (p1 : Nat) (hp1 : p1 % 131072 = 4) (v2 : Int32) (v3 : Nat) (v4 : Int32) (M : Mem) : Go sRC g_D_costOf fWi (f_D_costOf_b42 p1 v2 v3 v4 M) 42 [.ref 9, .ref p1, .int v2, .ref v3, .int v4, .null] [] M := by
  refine go_def (f_D_costOf_b42.eq_1 ..) ?_
  refine go_iload_n (pc := 42) dX8_costOf_42 rfl ?_
  refine go_iconst (pc := 43) 4 dX8_costOf_43 ki_4 ?_
  refine go_iand (pc := 44) dX8_costOf_44 ?_
  refine go_ifeq (pc := 45) 56 dX8_costOf_45 (by decide) (fun _ => ?_) (fun _ => ?_)
  · exact o_D_costOf_b56 p1 hp1 v2 v3 v4 M
  · refine go_aload_n (pc := 48) dX8_costOf_48 rfl ?_
    refine go_gd fun g7 => ?_
    refine go_callV (pc := 49) (a := v3) (as := []) (st := []) (o_Dr_driveScrews v3 g7 M) ic_Dr_driveScrews ivX8_203 (rcvk g7 (by decide) (by decide) rfl) rfl (by decide) (Nat.le_of_ble_eq_true rfl) dX8_costOf_49 (kWi fun r9 M8 => ?_)
    refine go_pop (pc := 52) dX8_costOf_52 rfl ?_
    refine go_iincL (pc := 53) (L := fun x10 => [.ref 9, .ref p1, .int v2, .ref v3, .int x10, .null]) 2 dX8_costOf_53 rfl ki_2 (Nat.le_of_ble_eq_true rfl) rfl (fun _ => rfl) (fun x10 => ?_)
    exact o_D_costOf_b56 p1 hp1 v2 v3 x10 M8
theorem o_D_costOf (p1 : Nat) (p2 : Int32) (hp1 : p1 % 131072 = 4) (M : Mem) : Ct sRC g_D_costOf fWi [.ref 9, .ref p1, .int p2] (f_D_costOf p1 p2 M) M := by
  refine ⟨Nat.le_of_ble_eq_true rfl, ?_⟩
  show Go sRC g_D_costOf fWi (f_D_costOf p1 p2 M) 0 [.ref 9, .ref p1, .int p2, .null, .null, .null] [] M
  refine go_def (f_D_costOf.eq_1 ..) ?_
  refine go_aload_n (pc := 0) dX8_costOf_0 rfl ?_
  refine go_getS (pc := 1) 7602179 flX8_46 rfl rfl sC_9_7 (by decide) dX8_costOf_1 ?_
  refine go_aload_n (pc := 4) dX8_costOf_4 rfl ?_
  refine go_aload_n (pc := 5) dX8_costOf_5 rfl ?_
  refine go_getS (pc := 6) 131077 flX8_12 rfl rfl sC_9_0 (by decide) dX8_costOf_6 ?_
  refine go_aload_n (pc := 9) dX8_costOf_9 rfl ?_
  refine go_callV (pc := 10) (a := 9) (as := []) (st := [.ref 131077, .ref p1, .ref 7602179]) (o_D_holdingHouse M) ic_D_holdingHouse ivX8_161 (rcvk (a := 9) (t := 9) rfl (by decide) (by decide) rfl) rfl (by decide) (Nat.le_of_ble_eq_true rfl) dX8_costOf_10 (kRr fun r1 => ?_)
  refine go_gd fun g2 => ?_
  refine go_callV (pc := 13) (a := 7602179) (as := [.ref p1, .ref 131077, .ref r1]) (st := []) (o_Co_begin 7602179 p1 131077 r1 rfl hp1 rfl g2 M) ic_Co_begin ivX8_338 (rcvk rfl (by decide) (by decide) rfl) rfl (by decide) (Nat.le_of_ble_eq_true rfl) dX8_costOf_13 (kWv fun M3 => ?_)
  refine go_aload_n (pc := 16) dX8_costOf_16 rfl ?_
  refine go_getS (pc := 17) 7602179 flX8_46 rfl rfl sC_9_7 (by decide) dX8_costOf_17 ?_
  refine go_getS (pc := 20) 7995396 flX8_212 rfl rfl (sC_3_1 rfl) (by decide) dX8_costOf_20 ?_
  refine go_astore_n (pc := 23) (ls' := [.ref 9, .ref p1, .int p2, .ref 7995396, .null, .null]) dX8_costOf_23 (Nat.le_of_ble_eq_true rfl) rfl rfl ?_
  refine go_iconst (pc := 24) 0 dX8_costOf_24 ki_0 ?_
  refine go_istore (pc := 25) (ls' := [.ref 9, .ref p1, .int p2, .ref 7995396, .int 0, .null]) dX8_costOf_25 (Nat.le_of_ble_eq_true rfl) rfl rfl ?_
  refine go_iload_n (pc := 27) dX8_costOf_27 rfl ?_
  refine go_iconst (pc := 28) 2 dX8_costOf_28 ki_2 ?_
  refine go_iand (pc := 29) dX8_costOf_29 ?_
  refine go_ifeq (pc := 30) 42 dX8_costOf_30 (by decide) (fun _ => ?_) (fun _ => ?_)
  · exact o_D_costOf_b42 p1 hp1 p2 7995396 0 M3
  · refine go_aload_n (pc := 33) dX8_costOf_33 rfl ?_
    refine go_iconst (pc := 34) 2 dX8_costOf_34 ki_2 ?_
    refine go_callV (pc := 35) (a := 7995396) (as := [.int 2]) (st := []) (o_Dr_packMore 7995396 2 rfl M3) ic_Dr_packMore ivX8_200 (rcvk rfl (by decide) (by decide) rfl) rfl (by decide) (Nat.le_of_ble_eq_true rfl) dX8_costOf_35 (kWi fun r5 M4 => ?_)
    refine go_pop (pc := 38) dX8_costOf_38 rfl ?_
    refine go_iincL (pc := 39) (L := fun x6 => [.ref 9, .ref p1, .int p2, .ref 7995396, .int x6, .null]) 1 dX8_costOf_39 rfl ki_1 (Nat.le_of_ble_eq_true rfl) rfl (fun _ => rfl) (fun x6 => ?_)
    exact o_D_costOf_b42 p1 hp1 p2 7995396 x6 M4
def f_D_cheapest_l31 : Nat → Int32 → Nat → Int32 → Int32 → Int32 → Mem → Option (Int32 × Mem)
  | 0, _, _, _, _, _, _ => none
  | n + 1, v2, v3, v4, v5, v6, M => if 16 ≤ v6 then if v2 = 0 then some (v4, M) else some (v5, M) else gd (v3 % 131072 = 4) (b2 (f_D_costOf v3 v6 M) fun r4 M3 => if r4 = (-5) then lt (v6 + 1) fun x5 => f_D_cheapest_l31 n v2 v3 v4 v5 x5 M3 else if v5 = (-5) then lt (v6 + 1) fun x6 => f_D_cheapest_l31 n v2 v3 v6 r4 x6 M3 else if v5 ≤ r4 then lt (v6 + 1) fun x7 => f_D_cheapest_l31 n v2 v3 v4 v5 x7 M3 else lt (v6 + 1) fun x8 => f_D_cheapest_l31 n v2 v3 v6 r4 x8 M3)
def f_D_cheapest (p1 : Int32) (p2 : Int32) (M : Mem) : Option (Int32 × Mem) := bd (f_D_doorAt p1 M) fun r1 => if r1 = 0 then some ((-1), M) else if (f_D_within p2 0 1 M) = 0 then some ((-1), M) else f_D_cheapest_l31 200 p2 r1 0 (-5) 0 M
theorem o_D_cheapest_l31 : ∀ (n : Nat) (v2 : Int32) (v3 : Nat) (v4 : Int32) (v5 : Int32) (v6 : Int32) (M : Mem), Go sRC g_D_cheapest fWi (f_D_cheapest_l31 n v2 v3 v4 v5 v6 M) 31 [.ref 9, .null, .int v2, .ref v3, .int v4, .int v5, .int v6, .null] [] M := by
  intro n
  induction n with
  | zero =>
    intro v2 v3 v4 v5 v6 M
    exact go_def (f_D_cheapest_l31.eq_1 ..) go_none
  | succ n ih =>
    intro v2 v3 v4 v5 v6 M
    refine go_def (f_D_cheapest_l31.eq_2 ..) ?_
    refine go_iload (pc := 31) dX8_cheapest_31 rfl ?_
    refine go_bipush (pc := 33) 16 dX8_cheapest_33 kb_16 ?_
    refine go_icmpge (pc := 35) 82 dX8_cheapest_35 (by decide) (fun _ => ?_) (fun _ => ?_)
    · refine go_iload_n (pc := 82) dX8_cheapest_82 rfl ?_
      refine go_ifne (pc := 83) 91 dX8_cheapest_83 (by decide) (fun _ => ?_) (fun _ => ?_)
      · refine go_iload (pc := 86) dX8_cheapest_86 rfl ?_
        refine go_goto (pc := 88) 93 dX8_cheapest_88 (by decide) ?_
        exact go_ret dX8_cheapest_93 rii rfl rfl
      · refine go_iload (pc := 91) dX8_cheapest_91 rfl ?_
        exact go_ret dX8_cheapest_93 rii rfl rfl
    · refine go_aload_n (pc := 38) dX8_cheapest_38 rfl ?_
      refine go_aload_n (pc := 39) dX8_cheapest_39 rfl ?_
      refine go_iload (pc := 40) dX8_cheapest_40 rfl ?_
      refine go_gd fun g2 => ?_
      refine go_callV (pc := 42) (a := 9) (as := [.ref v3, .int v6]) (st := []) (o_D_costOf v3 v6 g2 M) ic_D_costOf ivX8_238 (rcvk (a := 9) (t := 9) rfl (by decide) (by decide) rfl) rfl (by decide) (Nat.le_of_ble_eq_true rfl) dX8_cheapest_42 (kWi fun r4 M3 => ?_)
      refine go_istore (pc := 45) (ls' := [.ref 9, .null, .int v2, .ref v3, .int v4, .int v5, .int v6, .int r4]) dX8_cheapest_45 (Nat.le_of_ble_eq_true rfl) rfl rfl ?_
      refine go_iload (pc := 47) dX8_cheapest_47 rfl ?_
      refine go_bipush (pc := 49) (-5) dX8_cheapest_49 kb_m5 ?_
      refine go_icmpeq (pc := 51) 76 dX8_cheapest_51 (by decide) (fun _ => ?_) (fun _ => ?_)
      · refine go_iincL (pc := 76) (L := fun x5 => [.ref 9, .null, .int v2, .ref v3, .int v4, .int v5, .int x5, .int r4]) 1 dX8_cheapest_76 rfl ki_1 (Nat.le_of_ble_eq_true rfl) rfl (fun _ => rfl) (fun x5 => ?_)
        refine go_goto (pc := 79) 31 dX8_cheapest_79 (by decide) ?_
        refine go_sub (ls' := [.ref 9, .null, .int v2, .ref v3, .int v4, .int v5, .int x5, .null]) ⟨Or.inr rfl, Or.inl rfl, Or.inr rfl, Or.inr rfl, Or.inr rfl, Or.inr rfl, Or.inr rfl, Or.inl rfl, trivial⟩ ?_
        exact ih v2 v3 v4 v5 x5 M3
      · refine go_iload (pc := 54) dX8_cheapest_54 rfl ?_
        refine go_bipush (pc := 56) (-5) dX8_cheapest_56 kb_m5 ?_
        refine go_icmpeq (pc := 58) 68 dX8_cheapest_58 (by decide) (fun _ => ?_) (fun _ => ?_)
        · refine go_iload (pc := 68) dX8_cheapest_68 rfl ?_
          refine go_istore (pc := 70) (ls' := [.ref 9, .null, .int v2, .ref v3, .int v6, .int v5, .int v6, .int r4]) dX8_cheapest_70 (Nat.le_of_ble_eq_true rfl) rfl rfl ?_
          refine go_iload (pc := 72) dX8_cheapest_72 rfl ?_
          refine go_istore (pc := 74) (ls' := [.ref 9, .null, .int v2, .ref v3, .int v6, .int r4, .int v6, .int r4]) dX8_cheapest_74 (Nat.le_of_ble_eq_true rfl) rfl rfl ?_
          refine go_iincL (pc := 76) (L := fun x6 => [.ref 9, .null, .int v2, .ref v3, .int v6, .int r4, .int x6, .int r4]) 1 dX8_cheapest_76 rfl ki_1 (Nat.le_of_ble_eq_true rfl) rfl (fun _ => rfl) (fun x6 => ?_)
          refine go_goto (pc := 79) 31 dX8_cheapest_79 (by decide) ?_
          refine go_sub (ls' := [.ref 9, .null, .int v2, .ref v3, .int v6, .int r4, .int x6, .null]) ⟨Or.inr rfl, Or.inl rfl, Or.inr rfl, Or.inr rfl, Or.inr rfl, Or.inr rfl, Or.inr rfl, Or.inl rfl, trivial⟩ ?_
          exact ih v2 v3 v6 r4 x6 M3
        · refine go_iload (pc := 61) dX8_cheapest_61 rfl ?_
          refine go_iload (pc := 63) dX8_cheapest_63 rfl ?_
          refine go_icmpge (pc := 65) 76 dX8_cheapest_65 (by decide) (fun _ => ?_) (fun _ => ?_)
          · refine go_iincL (pc := 76) (L := fun x7 => [.ref 9, .null, .int v2, .ref v3, .int v4, .int v5, .int x7, .int r4]) 1 dX8_cheapest_76 rfl ki_1 (Nat.le_of_ble_eq_true rfl) rfl (fun _ => rfl) (fun x7 => ?_)
            refine go_goto (pc := 79) 31 dX8_cheapest_79 (by decide) ?_
            refine go_sub (ls' := [.ref 9, .null, .int v2, .ref v3, .int v4, .int v5, .int x7, .null]) ⟨Or.inr rfl, Or.inl rfl, Or.inr rfl, Or.inr rfl, Or.inr rfl, Or.inr rfl, Or.inr rfl, Or.inl rfl, trivial⟩ ?_
            exact ih v2 v3 v4 v5 x7 M3
          · refine go_iload (pc := 68) dX8_cheapest_68 rfl ?_
            refine go_istore (pc := 70) (ls' := [.ref 9, .null, .int v2, .ref v3, .int v6, .int v5, .int v6, .int r4]) dX8_cheapest_70 (Nat.le_of_ble_eq_true rfl) rfl rfl ?_
            refine go_iload (pc := 72) dX8_cheapest_72 rfl ?_
            refine go_istore (pc := 74) (ls' := [.ref 9, .null, .int v2, .ref v3, .int v6, .int r4, .int v6, .int r4]) dX8_cheapest_74 (Nat.le_of_ble_eq_true rfl) rfl rfl ?_
            refine go_iincL (pc := 76) (L := fun x8 => [.ref 9, .null, .int v2, .ref v3, .int v6, .int r4, .int x8, .int r4]) 1 dX8_cheapest_76 rfl ki_1 (Nat.le_of_ble_eq_true rfl) rfl (fun _ => rfl) (fun x8 => ?_)
            refine go_goto (pc := 79) 31 dX8_cheapest_79 (by decide) ?_
            refine go_sub (ls' := [.ref 9, .null, .int v2, .ref v3, .int v6, .int r4, .int x8, .null]) ⟨Or.inr rfl, Or.inl rfl, Or.inr rfl, Or.inr rfl, Or.inr rfl, Or.inr rfl, Or.inr rfl, Or.inl rfl, trivial⟩ ?_
            exact ih v2 v3 v6 r4 x8 M3
theorem o_D_cheapest (p1 : Int32) (p2 : Int32) (M : Mem) : Ct sRC g_D_cheapest fWi [.ref 9, .int p1, .int p2] (f_D_cheapest p1 p2 M) M := by
  refine ⟨Nat.le_of_ble_eq_true rfl, ?_⟩
  show Go sRC g_D_cheapest fWi (f_D_cheapest p1 p2 M) 0 [.ref 9, .int p1, .int p2, .null, .null, .null, .null, .null] [] M
  refine go_def (f_D_cheapest.eq_1 ..) ?_
  refine go_aload_n (pc := 0) dX8_cheapest_0 rfl ?_
  refine go_iload_n (pc := 1) dX8_cheapest_1 rfl ?_
  refine go_callV (pc := 2) (a := 9) (as := [.int p1]) (st := []) (o_D_doorAt p1 M) ic_D_doorAt ivX8_92 (rcvk (a := 9) (t := 9) rfl (by decide) (by decide) rfl) rfl (by decide) (Nat.le_of_ble_eq_true rfl) dX8_cheapest_2 (kRr fun r1 => ?_)
  refine go_astore_n (pc := 5) (ls' := [.ref 9, .int p1, .int p2, .ref r1, .null, .null, .null, .null]) dX8_cheapest_5 (Nat.le_of_ble_eq_true rfl) rfl rfl ?_
  refine go_aload_n (pc := 6) dX8_cheapest_6 rfl ?_
  refine go_ifnull (pc := 7) 19 dX8_cheapest_7 (by decide) (fun _ => ?_) (fun _ => ?_)
  · refine go_iconst (pc := 19) (-1) dX8_cheapest_19 ki_m1 ?_
    exact go_ret dX8_cheapest_20 rii rfl rfl
  · refine go_iload_n (pc := 10) dX8_cheapest_10 rfl ?_
    refine go_iconst (pc := 11) 0 dX8_cheapest_11 ki_0 ?_
    refine go_iconst (pc := 12) 1 dX8_cheapest_12 ki_1 ?_
    refine go_T (v := f_D_within p2 0 1 M) ?_
    refine go_callS (pc := 13) (as := [.int p2, .int 0, .int 1]) (st := []) (o_D_within p2 0 1 M) ic_D_within ivX8_67 rfl (by decide) (Nat.le_of_ble_eq_true rfl) dX8_cheapest_13 (kTi ?_)
    refine go_ifne (pc := 16) 21 dX8_cheapest_16 (by decide) (fun _ => ?_) (fun _ => ?_)
    · refine go_iconst (pc := 19) (-1) dX8_cheapest_19 ki_m1 ?_
      exact go_ret dX8_cheapest_20 rii rfl rfl
    · refine go_iconst (pc := 21) 0 dX8_cheapest_21 ki_0 ?_
      refine go_istore (pc := 22) (ls' := [.ref 9, .int p1, .int p2, .ref r1, .int 0, .null, .null, .null]) dX8_cheapest_22 (Nat.le_of_ble_eq_true rfl) rfl rfl ?_
      refine go_bipush (pc := 24) (-5) dX8_cheapest_24 kb_m5 ?_
      refine go_istore (pc := 26) (ls' := [.ref 9, .int p1, .int p2, .ref r1, .int 0, .int (-5), .null, .null]) dX8_cheapest_26 (Nat.le_of_ble_eq_true rfl) rfl rfl ?_
      refine go_iconst (pc := 28) 0 dX8_cheapest_28 ki_0 ?_
      refine go_istore (pc := 29) (ls' := [.ref 9, .int p1, .int p2, .ref r1, .int 0, .int (-5), .int 0, .null]) dX8_cheapest_29 (Nat.le_of_ble_eq_true rfl) rfl rfl ?_
      refine go_sub (ls' := [.ref 9, .null, .int p2, .ref r1, .int 0, .int (-5), .int 0, .null]) ⟨Or.inr rfl, Or.inl rfl, Or.inr rfl, Or.inr rfl, Or.inr rfl, Or.inr rfl, Or.inr rfl, Or.inl rfl, trivial⟩ ?_
      exact o_D_cheapest_l31 200 p2 r1 0 (-5) 0 M
def f_D_why_b163 (v2 : Int32) (v3 : Nat) (v4 : Nat) (v5 : Int32) (s0 : Int32) (s1 : Int32) (M : Mem) : Option (Int32 × Mem) := lt (s1 + s0) fun x14 => gd (v4 % 131072 = 3) (gd (v3 % 131072 = 4) (if v5 < (f_D_takenUp v2 (mI M v4 5) (mI M v4 7) 0 (mI M v4 4) (mI M v3 4) M) then lt (x14 + 0) fun x17 => some (x17, M) else lt (x14 + 8) fun x18 => some (x18, M)))
def f_D_why_b124 (v2 : Int32) (v3 : Nat) (v4 : Nat) (v5 : Int32) (s0 : Int32) (s1 : Int32) (M : Mem) : Option (Int32 × Mem) := lt (s1 + s0) fun x11 => gd (v4 % 131072 = 3) (gd (v3 % 131072 = 4) (if v5 < (f_D_takenUp v2 (mI M v4 5) (mI M v4 7) (mI M v4 6) 0 (mI M v3 4) M) then f_D_why_b163 v2 v3 v4 v5 0 x11 M else f_D_why_b163 v2 v3 v4 v5 4 x11 M))
def f_D_why_b85 (v2 : Int32) (v3 : Nat) (v4 : Nat) (v5 : Int32) (s0 : Int32) (s1 : Int32) (M : Mem) : Option (Int32 × Mem) := lt (s1 + s0) fun x8 => gd (v4 % 131072 = 3) (gd (v3 % 131072 = 4) (if v5 < (f_D_takenUp v2 (mI M v4 5) 0 (mI M v4 6) (mI M v4 4) (mI M v3 4) M) then f_D_why_b124 v2 v3 v4 v5 0 x8 M else f_D_why_b124 v2 v3 v4 v5 2 x8 M))
def f_D_why (p1 : Int32) (p2 : Int32) (M : Mem) : Option (Int32 × Mem) := bd (f_D_doorAt p1 M) fun r1 => if r1 = 0 then some ((-1), M) else if (f_D_isSpot p2 M) = 0 then some ((-1), M) else gd (r1 % 131072 = 4) (b2 (f_D_courseNow r1 M) fun r4 M3 => gd (r4 % 131072 = 3) (bd (f_Co_gap r4 p2 M3) fun r6 => if r6 < 0 then gd (inR p2 6) (lt (mI M3 (r1 + 393415) p2.toNatClampNeg) fun x7 => if x7 < (f_D_takenUp p2 0 (mI M3 r4 7) (mI M3 r4 6) (mI M3 r4 4) (mI M3 r1 4) M3) then f_D_why_b85 p2 r1 r4 x7 0 0 M3 else f_D_why_b85 p2 r1 r4 x7 1 0 M3) else some ((-3), M3)))
theorem o_D_why_b163 (v2 : Int32) (v3 : Nat) (v4 : Nat) (v5 : Int32) (s0 : Int32) (s1 : Int32) (M : Mem) : Go sRC g_D_why fWi (f_D_why_b163 v2 v3 v4 v5 s0 s1 M) 163 [.ref 9, .null, .int v2, .ref v3, .ref v4, .int v5, .null] [.int s0, .int s1] M := by
  refine go_def (f_D_why_b163.eq_1 ..) ?_
  refine go_iadd (pc := 163) dX8_why_163 ?_
  refine go_istoreL (pc := 164) (L := fun x14 => [.ref 9, .null, .int v2, .ref v3, .ref v4, .int v5, .int x14]) dX8_why_164 (Nat.le_of_ble_eq_true rfl) rfl (fun _ => rfl) (fun x14 => ?_)
  refine go_iload (pc := 166) dX8_why_166 rfl ?_
  refine go_iload_n (pc := 168) dX8_why_168 rfl ?_
  refine go_aload (pc := 169) dX8_why_169 rfl ?_
  refine go_gd fun g15 => ?_
  refine go_getI (pc := 171) flX8_125 rfl (kd32 (t := 3) g15 rfl) dX8_why_171 ?_
  refine go_aload (pc := 174) dX8_why_174 rfl ?_
  refine go_getI (pc := 176) flX8_131 rfl (kd32 (t := 3) g15 rfl) dX8_why_176 ?_
  refine go_iconst (pc := 179) 0 dX8_why_179 ki_0 ?_
  refine go_aload (pc := 180) dX8_why_180 rfl ?_
  refine go_getI (pc := 182) flX8_242 rfl (kd32 (t := 3) g15 rfl) dX8_why_182 ?_
  refine go_aload_n (pc := 185) dX8_why_185 rfl ?_
  refine go_gd fun g16 => ?_
  refine go_getI (pc := 186) flX8_122 rfl (kd32 (t := 4) g16 rfl) dX8_why_186 ?_
  refine go_T (v := f_D_takenUp v2 (mI M v4 5) (mI M v4 7) 0 (mI M v4 4) (mI M v3 4) M) ?_
  refine go_callS (pc := 189) (as := [.int v2, .int (mI M v4 5), .int (mI M v4 7), .int 0, .int (mI M v4 4), .int (mI M v3 4)]) (st := [.int x14]) (o_D_takenUp v2 (mI M v4 5) (mI M v4 7) 0 (mI M v4 4) (mI M v3 4) M) ic_D_takenUp ivX8_243 rfl (by decide) (Nat.le_of_ble_eq_true rfl) dX8_why_189 (kTi ?_)
  refine go_iload (pc := 192) dX8_why_192 rfl ?_
  refine go_icmpgt (pc := 194) 202 dX8_why_194 (by decide) (fun _ => ?_) (fun _ => ?_)
  · refine go_iconst (pc := 202) 0 dX8_why_202 ki_0 ?_
    refine go_iadd (pc := 203) dX8_why_203 ?_
    refine go_istoreL (pc := 204) (L := fun x17 => [.ref 9, .null, .int v2, .ref v3, .ref v4, .int v5, .int x17]) dX8_why_204 (Nat.le_of_ble_eq_true rfl) rfl (fun _ => rfl) (fun x17 => ?_)
    refine go_iload (pc := 206) dX8_why_206 rfl ?_
    exact go_ret dX8_why_208 rii rfl rfl
  · refine go_bipush (pc := 197) 8 dX8_why_197 kb_8 ?_
    refine go_goto (pc := 199) 203 dX8_why_199 (by decide) ?_
    refine go_iadd (pc := 203) dX8_why_203 ?_
    refine go_istoreL (pc := 204) (L := fun x18 => [.ref 9, .null, .int v2, .ref v3, .ref v4, .int v5, .int x18]) dX8_why_204 (Nat.le_of_ble_eq_true rfl) rfl (fun _ => rfl) (fun x18 => ?_)
    refine go_iload (pc := 206) dX8_why_206 rfl ?_
    exact go_ret dX8_why_208 rii rfl rfl
theorem o_D_why_b124 (v2 : Int32) (v3 : Nat) (v4 : Nat) (v5 : Int32) (s0 : Int32) (s1 : Int32) (M : Mem) : Go sRC g_D_why fWi (f_D_why_b124 v2 v3 v4 v5 s0 s1 M) 124 [.ref 9, .null, .int v2, .ref v3, .ref v4, .int v5, .null] [.int s0, .int s1] M := by
  refine go_def (f_D_why_b124.eq_1 ..) ?_
  refine go_iadd (pc := 124) dX8_why_124 ?_
  refine go_istoreL (pc := 125) (L := fun x11 => [.ref 9, .null, .int v2, .ref v3, .ref v4, .int v5, .int x11]) dX8_why_125 (Nat.le_of_ble_eq_true rfl) rfl (fun _ => rfl) (fun x11 => ?_)
  refine go_iload (pc := 127) dX8_why_127 rfl ?_
  refine go_iload_n (pc := 129) dX8_why_129 rfl ?_
  refine go_aload (pc := 130) dX8_why_130 rfl ?_
  refine go_gd fun g12 => ?_
  refine go_getI (pc := 132) flX8_125 rfl (kd32 (t := 3) g12 rfl) dX8_why_132 ?_
  refine go_aload (pc := 135) dX8_why_135 rfl ?_
  refine go_getI (pc := 137) flX8_131 rfl (kd32 (t := 3) g12 rfl) dX8_why_137 ?_
  refine go_aload (pc := 140) dX8_why_140 rfl ?_
  refine go_getI (pc := 142) flX8_128 rfl (kd32 (t := 3) g12 rfl) dX8_why_142 ?_
  refine go_iconst (pc := 145) 0 dX8_why_145 ki_0 ?_
  refine go_aload_n (pc := 146) dX8_why_146 rfl ?_
  refine go_gd fun g13 => ?_
  refine go_getI (pc := 147) flX8_122 rfl (kd32 (t := 4) g13 rfl) dX8_why_147 ?_
  refine go_T (v := f_D_takenUp v2 (mI M v4 5) (mI M v4 7) (mI M v4 6) 0 (mI M v3 4) M) ?_
  refine go_callS (pc := 150) (as := [.int v2, .int (mI M v4 5), .int (mI M v4 7), .int (mI M v4 6), .int 0, .int (mI M v3 4)]) (st := [.int x11]) (o_D_takenUp v2 (mI M v4 5) (mI M v4 7) (mI M v4 6) 0 (mI M v3 4) M) ic_D_takenUp ivX8_243 rfl (by decide) (Nat.le_of_ble_eq_true rfl) dX8_why_150 (kTi ?_)
  refine go_iload (pc := 153) dX8_why_153 rfl ?_
  refine go_icmpgt (pc := 155) 162 dX8_why_155 (by decide) (fun _ => ?_) (fun _ => ?_)
  · refine go_iconst (pc := 162) 0 dX8_why_162 ki_0 ?_
    refine go_sub (ls' := [.ref 9, .null, .int v2, .ref v3, .ref v4, .int v5, .null]) ⟨Or.inr rfl, Or.inl rfl, Or.inr rfl, Or.inr rfl, Or.inr rfl, Or.inr rfl, Or.inl rfl, trivial⟩ ?_
    exact o_D_why_b163 v2 v3 v4 v5 0 x11 M
  · refine go_iconst (pc := 158) 4 dX8_why_158 ki_4 ?_
    refine go_goto (pc := 159) 163 dX8_why_159 (by decide) ?_
    refine go_sub (ls' := [.ref 9, .null, .int v2, .ref v3, .ref v4, .int v5, .null]) ⟨Or.inr rfl, Or.inl rfl, Or.inr rfl, Or.inr rfl, Or.inr rfl, Or.inr rfl, Or.inl rfl, trivial⟩ ?_
    exact o_D_why_b163 v2 v3 v4 v5 4 x11 M
theorem o_D_why_b85 (v2 : Int32) (v3 : Nat) (v4 : Nat) (v5 : Int32) (s0 : Int32) (s1 : Int32) (M : Mem) : Go sRC g_D_why fWi (f_D_why_b85 v2 v3 v4 v5 s0 s1 M) 85 [.ref 9, .null, .int v2, .ref v3, .ref v4, .int v5, .null] [.int s0, .int s1] M := by
  refine go_def (f_D_why_b85.eq_1 ..) ?_
  refine go_iadd (pc := 85) dX8_why_85 ?_
  refine go_istoreL (pc := 86) (L := fun x8 => [.ref 9, .null, .int v2, .ref v3, .ref v4, .int v5, .int x8]) dX8_why_86 (Nat.le_of_ble_eq_true rfl) rfl (fun _ => rfl) (fun x8 => ?_)
  refine go_iload (pc := 88) dX8_why_88 rfl ?_
  refine go_iload_n (pc := 90) dX8_why_90 rfl ?_
  refine go_aload (pc := 91) dX8_why_91 rfl ?_
  refine go_gd fun g9 => ?_
  refine go_getI (pc := 93) flX8_125 rfl (kd32 (t := 3) g9 rfl) dX8_why_93 ?_
  refine go_iconst (pc := 96) 0 dX8_why_96 ki_0 ?_
  refine go_aload (pc := 97) dX8_why_97 rfl ?_
  refine go_getI (pc := 99) flX8_128 rfl (kd32 (t := 3) g9 rfl) dX8_why_99 ?_
  refine go_aload (pc := 102) dX8_why_102 rfl ?_
  refine go_getI (pc := 104) flX8_242 rfl (kd32 (t := 3) g9 rfl) dX8_why_104 ?_
  refine go_aload_n (pc := 107) dX8_why_107 rfl ?_
  refine go_gd fun g10 => ?_
  refine go_getI (pc := 108) flX8_122 rfl (kd32 (t := 4) g10 rfl) dX8_why_108 ?_
  refine go_T (v := f_D_takenUp v2 (mI M v4 5) 0 (mI M v4 6) (mI M v4 4) (mI M v3 4) M) ?_
  refine go_callS (pc := 111) (as := [.int v2, .int (mI M v4 5), .int 0, .int (mI M v4 6), .int (mI M v4 4), .int (mI M v3 4)]) (st := [.int x8]) (o_D_takenUp v2 (mI M v4 5) 0 (mI M v4 6) (mI M v4 4) (mI M v3 4) M) ic_D_takenUp ivX8_243 rfl (by decide) (Nat.le_of_ble_eq_true rfl) dX8_why_111 (kTi ?_)
  refine go_iload (pc := 114) dX8_why_114 rfl ?_
  refine go_icmpgt (pc := 116) 123 dX8_why_116 (by decide) (fun _ => ?_) (fun _ => ?_)
  · refine go_iconst (pc := 123) 0 dX8_why_123 ki_0 ?_
    refine go_sub (ls' := [.ref 9, .null, .int v2, .ref v3, .ref v4, .int v5, .null]) ⟨Or.inr rfl, Or.inl rfl, Or.inr rfl, Or.inr rfl, Or.inr rfl, Or.inr rfl, Or.inl rfl, trivial⟩ ?_
    exact o_D_why_b124 v2 v3 v4 v5 0 x8 M
  · refine go_iconst (pc := 119) 2 dX8_why_119 ki_2 ?_
    refine go_goto (pc := 120) 124 dX8_why_120 (by decide) ?_
    refine go_sub (ls' := [.ref 9, .null, .int v2, .ref v3, .ref v4, .int v5, .null]) ⟨Or.inr rfl, Or.inl rfl, Or.inr rfl, Or.inr rfl, Or.inr rfl, Or.inr rfl, Or.inl rfl, trivial⟩ ?_
    exact o_D_why_b124 v2 v3 v4 v5 2 x8 M
theorem o_D_why (p1 : Int32) (p2 : Int32) (M : Mem) : Ct sRC g_D_why fWi [.ref 9, .int p1, .int p2] (f_D_why p1 p2 M) M := by
  refine ⟨Nat.le_of_ble_eq_true rfl, ?_⟩
  show Go sRC g_D_why fWi (f_D_why p1 p2 M) 0 [.ref 9, .int p1, .int p2, .null, .null, .null, .null] [] M
  refine go_def (f_D_why.eq_1 ..) ?_
  refine go_aload_n (pc := 0) dX8_why_0 rfl ?_
  refine go_iload_n (pc := 1) dX8_why_1 rfl ?_
  refine go_callV (pc := 2) (a := 9) (as := [.int p1]) (st := []) (o_D_doorAt p1 M) ic_D_doorAt ivX8_92 (rcvk (a := 9) (t := 9) rfl (by decide) (by decide) rfl) rfl (by decide) (Nat.le_of_ble_eq_true rfl) dX8_why_2 (kRr fun r1 => ?_)
  refine go_astore_n (pc := 5) (ls' := [.ref 9, .int p1, .int p2, .ref r1, .null, .null, .null]) dX8_why_5 (Nat.le_of_ble_eq_true rfl) rfl rfl ?_
  refine go_aload_n (pc := 6) dX8_why_6 rfl ?_
  refine go_ifnull (pc := 7) 17 dX8_why_7 (by decide) (fun _ => ?_) (fun _ => ?_)
  · refine go_iconst (pc := 17) (-1) dX8_why_17 ki_m1 ?_
    exact go_ret dX8_why_18 rii rfl rfl
  · refine go_iload_n (pc := 10) dX8_why_10 rfl ?_
    refine go_T (v := f_D_isSpot p2 M) ?_
    refine go_callS (pc := 11) (as := [.int p2]) (st := []) (o_D_isSpot p2 M) ic_D_isSpot ivX8_219 rfl (by decide) (Nat.le_of_ble_eq_true rfl) dX8_why_11 (kTi ?_)
    refine go_ifne (pc := 14) 19 dX8_why_14 (by decide) (fun _ => ?_) (fun _ => ?_)
    · refine go_iconst (pc := 17) (-1) dX8_why_17 ki_m1 ?_
      exact go_ret dX8_why_18 rii rfl rfl
    · refine go_aload_n (pc := 19) dX8_why_19 rfl ?_
      refine go_aload_n (pc := 20) dX8_why_20 rfl ?_
      refine go_gd fun g2 => ?_
      refine go_callV (pc := 21) (a := 9) (as := [.ref r1]) (st := []) (o_D_courseNow r1 g2 M) ic_D_courseNow ivX8_99 (rcvk (a := 9) (t := 9) rfl (by decide) (by decide) rfl) rfl (by decide) (Nat.le_of_ble_eq_true rfl) dX8_why_21 (kWr fun r4 M3 => ?_)
      refine go_astore (pc := 24) (ls' := [.ref 9, .int p1, .int p2, .ref r1, .ref r4, .null, .null]) dX8_why_24 (Nat.le_of_ble_eq_true rfl) rfl rfl ?_
      refine go_aload (pc := 26) dX8_why_26 rfl ?_
      refine go_iload_n (pc := 28) dX8_why_28 rfl ?_
      refine go_gd fun g5 => ?_
      refine go_callV (pc := 29) (a := r4) (as := [.int p2]) (st := []) (o_Co_gap r4 p2 g5 M3) ic_Co_gap ivX8_103 (rcvk g5 (by decide) (by decide) rfl) rfl (by decide) (Nat.le_of_ble_eq_true rfl) dX8_why_29 (kRi fun r6 => ?_)
      refine go_iflt (pc := 32) 38 dX8_why_32 (by decide) (fun _ => ?_) (fun _ => ?_)
      · refine go_aload_n (pc := 38) dX8_why_38 rfl ?_
        refine go_getS (pc := 39) (r1 + 393415) flX8_96 rfl (kd32 (t := 4) g2 rfl) (sC_4_7 g2) (knz (by decide)) dX8_why_39 ?_
        refine go_iload_n (pc := 42) dX8_why_42 rfl ?_
        refine go_iald (pc := 43) (kd32 (t := 11) (kadd g2 rfl) rfl) (kln (kadd g2 rfl) rfl) dX8_why_43 (fun _ => ?_)
        refine go_istoreL (pc := 44) (L := fun x7 => [.ref 9, .int p1, .int p2, .ref r1, .ref r4, .int x7, .null]) dX8_why_44 (Nat.le_of_ble_eq_true rfl) rfl (fun _ => rfl) (fun x7 => ?_)
        refine go_iconst (pc := 46) 0 dX8_why_46 ki_0 ?_
        refine go_istore (pc := 47) (ls' := [.ref 9, .int p1, .int p2, .ref r1, .ref r4, .int x7, .int 0]) dX8_why_47 (Nat.le_of_ble_eq_true rfl) rfl rfl ?_
        refine go_iload (pc := 49) dX8_why_49 rfl ?_
        refine go_iload_n (pc := 51) dX8_why_51 rfl ?_
        refine go_iconst (pc := 52) 0 dX8_why_52 ki_0 ?_
        refine go_aload (pc := 53) dX8_why_53 rfl ?_
        refine go_getI (pc := 55) flX8_131 rfl (kd32 (t := 3) g5 rfl) dX8_why_55 ?_
        refine go_aload (pc := 58) dX8_why_58 rfl ?_
        refine go_getI (pc := 60) flX8_128 rfl (kd32 (t := 3) g5 rfl) dX8_why_60 ?_
        refine go_aload (pc := 63) dX8_why_63 rfl ?_
        refine go_getI (pc := 65) flX8_242 rfl (kd32 (t := 3) g5 rfl) dX8_why_65 ?_
        refine go_aload_n (pc := 68) dX8_why_68 rfl ?_
        refine go_getI (pc := 69) flX8_122 rfl (kd32 (t := 4) g2 rfl) dX8_why_69 ?_
        refine go_T (v := f_D_takenUp p2 0 (mI M3 r4 7) (mI M3 r4 6) (mI M3 r4 4) (mI M3 r1 4) M3) ?_
        refine go_callS (pc := 72) (as := [.int p2, .int 0, .int (mI M3 r4 7), .int (mI M3 r4 6), .int (mI M3 r4 4), .int (mI M3 r1 4)]) (st := [.int 0]) (o_D_takenUp p2 0 (mI M3 r4 7) (mI M3 r4 6) (mI M3 r4 4) (mI M3 r1 4) M3) ic_D_takenUp ivX8_243 rfl (by decide) (Nat.le_of_ble_eq_true rfl) dX8_why_72 (kTi ?_)
        refine go_iload (pc := 75) dX8_why_75 rfl ?_
        refine go_icmpgt (pc := 77) 84 dX8_why_77 (by decide) (fun _ => ?_) (fun _ => ?_)
        · refine go_iconst (pc := 84) 0 dX8_why_84 ki_0 ?_
          refine go_sub (ls' := [.ref 9, .null, .int p2, .ref r1, .ref r4, .int x7, .null]) ⟨Or.inr rfl, Or.inl rfl, Or.inr rfl, Or.inr rfl, Or.inr rfl, Or.inr rfl, Or.inl rfl, trivial⟩ ?_
          exact o_D_why_b85 p2 r1 r4 x7 0 0 M3
        · refine go_iconst (pc := 80) 1 dX8_why_80 ki_1 ?_
          refine go_goto (pc := 81) 85 dX8_why_81 (by decide) ?_
          refine go_sub (ls' := [.ref 9, .null, .int p2, .ref r1, .ref r4, .int x7, .null]) ⟨Or.inr rfl, Or.inl rfl, Or.inr rfl, Or.inr rfl, Or.inr rfl, Or.inr rfl, Or.inl rfl, trivial⟩ ?_
          exact o_D_why_b85 p2 r1 r4 x7 1 0 M3
      · refine go_bipush (pc := 35) (-3) dX8_why_35 kb_m3 ?_
        exact go_ret dX8_why_37 rii rfl rfl
def f_D_partOfTwelfths_b27 (M : Mem) (v0 : Int32) (v1 : Int32) (v2 : Int32) : Option Int64 := if v1 = 0 then gd (¬ v2 = 0) (some ((v0 / v2).toInt64)) else gd (¬ v2 = 0) (some ((12 / v2).toInt64))
def f_D_partOfTwelfths_l3 (M : Mem) : Nat → Int32 → Int32 → Int32 → Option Int64
  | 0, _, _, _ => none
  | n + 1, v0, v1, v2 => if v2 ≤ 1 then f_D_partOfTwelfths_b27 M v0 v1 v2 else gd (¬ v2 = 0) (if (v0 - v0 / v2 * v2) = 0 then gd (¬ v2 = 0) (if (12 - 12 / v2 * v2) = 0 then f_D_partOfTwelfths_b27 M v0 v1 v2 else lt (v2 + (-1)) fun x2 => f_D_partOfTwelfths_l3 M n v0 v1 x2) else lt (v2 + (-1)) fun x1 => f_D_partOfTwelfths_l3 M n v0 v1 x1)
def f_D_partOfTwelfths (p1 : Int32) (p2 : Int32) (M : Mem) : Option Int64 := f_D_partOfTwelfths_l3 M 200 p1 p2 12
theorem o_D_partOfTwelfths_b27 (M : Mem) (v0 : Int32) (v1 : Int32) (v2 : Int32) : Go sRC g_D_partOfTwelfths (fRl M) (f_D_partOfTwelfths_b27 M v0 v1 v2) 27 [.int v0, .int v1, .int v2] [] M := by
  refine go_def (f_D_partOfTwelfths_b27.eq_1 ..) ?_
  refine go_iload_n (pc := 27) dX8_partOfTwelfths_27 rfl ?_
  refine go_ifne (pc := 28) 35 dX8_partOfTwelfths_28 (by decide) (fun _ => ?_) (fun _ => ?_)
  · refine go_iload_n (pc := 31) dX8_partOfTwelfths_31 rfl ?_
    refine go_goto (pc := 32) 37 dX8_partOfTwelfths_32 (by decide) ?_
    refine go_iload_n (pc := 37) dX8_partOfTwelfths_37 rfl ?_
    refine go_idiv (pc := 38) dX8_partOfTwelfths_38 (fun _ => ?_)
    refine go_i2l (pc := 39) dX8_partOfTwelfths_39 ?_
    exact go_ret dX8_partOfTwelfths_40 rfl rfl rfl
  · refine go_bipush (pc := 35) 12 dX8_partOfTwelfths_35 kb_12 ?_
    refine go_iload_n (pc := 37) dX8_partOfTwelfths_37 rfl ?_
    refine go_idiv (pc := 38) dX8_partOfTwelfths_38 (fun _ => ?_)
    refine go_i2l (pc := 39) dX8_partOfTwelfths_39 ?_
    exact go_ret dX8_partOfTwelfths_40 rfl rfl rfl
theorem o_D_partOfTwelfths_l3 (M : Mem) : ∀ (n : Nat) (v0 : Int32) (v1 : Int32) (v2 : Int32), Go sRC g_D_partOfTwelfths (fRl M) (f_D_partOfTwelfths_l3 M n v0 v1 v2) 3 [.int v0, .int v1, .int v2] [] M := by
  intro n
  induction n with
  | zero =>
    intro v0 v1 v2
    exact go_def (f_D_partOfTwelfths_l3.eq_1 ..) go_none
  | succ n ih =>
    intro v0 v1 v2
    refine go_def (f_D_partOfTwelfths_l3.eq_2 ..) ?_
    refine go_iload_n (pc := 3) dX8_partOfTwelfths_3 rfl ?_
    refine go_iconst (pc := 4) 1 dX8_partOfTwelfths_4 ki_1 ?_
    refine go_icmple (pc := 5) 27 dX8_partOfTwelfths_5 (by decide) (fun _ => ?_) (fun _ => ?_)
    · exact o_D_partOfTwelfths_b27 M v0 v1 v2
    · refine go_iload_n (pc := 8) dX8_partOfTwelfths_8 rfl ?_
      refine go_iload_n (pc := 9) dX8_partOfTwelfths_9 rfl ?_
      refine go_irem (pc := 10) dX8_partOfTwelfths_10 (fun _ => ?_)
      refine go_ifne (pc := 11) 21 dX8_partOfTwelfths_11 (by decide) (fun _ => ?_) (fun _ => ?_)
      · refine go_bipush (pc := 14) 12 dX8_partOfTwelfths_14 kb_12 ?_
        refine go_iload_n (pc := 16) dX8_partOfTwelfths_16 rfl ?_
        refine go_irem (pc := 17) dX8_partOfTwelfths_17 (fun _ => ?_)
        refine go_ifeq (pc := 18) 27 dX8_partOfTwelfths_18 (by decide) (fun _ => ?_) (fun _ => ?_)
        · exact o_D_partOfTwelfths_b27 M v0 v1 v2
        · refine go_iincL (pc := 21) (L := fun x2 => [.int v0, .int v1, .int x2]) (-1) dX8_partOfTwelfths_21 rfl ki_m1 (Nat.le_of_ble_eq_true rfl) rfl (fun _ => rfl) (fun x2 => ?_)
          refine go_goto (pc := 24) 3 dX8_partOfTwelfths_24 (by decide) ?_
          exact ih v0 v1 x2
      · refine go_iincL (pc := 21) (L := fun x1 => [.int v0, .int v1, .int x1]) (-1) dX8_partOfTwelfths_21 rfl ki_m1 (Nat.le_of_ble_eq_true rfl) rfl (fun _ => rfl) (fun x1 => ?_)
        refine go_goto (pc := 24) 3 dX8_partOfTwelfths_24 (by decide) ?_
        exact ih v0 v1 x1
theorem o_D_partOfTwelfths (p1 : Int32) (p2 : Int32) (M : Mem) : Ct sRC g_D_partOfTwelfths (fRl M) [.int p1, .int p2] (f_D_partOfTwelfths p1 p2 M) M := by
  refine ⟨Nat.le_of_ble_eq_true rfl, ?_⟩
  show Go sRC g_D_partOfTwelfths (fRl M) (f_D_partOfTwelfths p1 p2 M) 0 [.int p1, .int p2, .null] [] M
  refine go_def (f_D_partOfTwelfths.eq_1 ..) ?_
  refine go_bipush (pc := 0) 12 dX8_partOfTwelfths_0 kb_12 ?_
  refine go_istore_n (pc := 2) (ls' := [.int p1, .int p2, .int 12]) dX8_partOfTwelfths_2 (Nat.le_of_ble_eq_true rfl) rfl rfl ?_
  exact o_D_partOfTwelfths_l3 M 200 p1 p2 12
def f_D_odds_l29 : Nat → Int32 → Nat → Int32 → Int32 → Mem → Option (Int64 × Mem)
  | 0, _, _, _, _, _ => none
  | n + 1, v2, v3, v4, v5, M => if 12 ≤ v5 then bd (f_D_partOfTwelfths v4 v2 M) fun r2 => some (r2, M) else gd (v3 % 131072 = 4) (b2 (f_D_courseNow v3 M) fun r5 M4 => gd (inR v5 12) (gd (r5 % 131072 = 3) (bd (f_Co_goInAir r5 (mI M4 262539 v5.toNatClampNeg) M4) fun M7 => bd (f_Co_rubbing 7602179 M7) fun r8 => if r8 = 0 then lt (v4 + 0) fun x9 => lt (v5 + 1) fun x10 => f_D_odds_l29 n v2 v3 x9 x10 M7 else lt (v4 + 1) fun x11 => lt (v5 + 1) fun x12 => f_D_odds_l29 n v2 v3 x11 x12 M7)))
def f_D_odds (p1 : Int32) (p2 : Int32) (M : Mem) : Option (Int64 × Mem) := bd (f_D_doorAt p1 M) fun r1 => if r1 = 0 then some ((-9223372036854775808), M) else if (f_D_within p2 0 1 M) = 0 then some ((-9223372036854775808), M) else f_D_odds_l29 200 p2 r1 0 0 M
theorem o_D_odds_l29 : ∀ (n : Nat) (v2 : Int32) (v3 : Nat) (v4 : Int32) (v5 : Int32) (M : Mem), Go sRC g_D_odds fWl (f_D_odds_l29 n v2 v3 v4 v5 M) 29 [.ref 9, .null, .int v2, .ref v3, .int v4, .int v5] [] M := by
  intro n
  induction n with
  | zero =>
    intro v2 v3 v4 v5 M
    exact go_def (f_D_odds_l29.eq_1 ..) go_none
  | succ n ih =>
    intro v2 v3 v4 v5 M
    refine go_def (f_D_odds_l29.eq_2 ..) ?_
    refine go_iload (pc := 29) dX8_odds_29 rfl ?_
    refine go_bipush (pc := 31) 12 dX8_odds_31 kb_12 ?_
    refine go_icmpge (pc := 33) 80 dX8_odds_33 (by decide) (fun _ => ?_) (fun _ => ?_)
    · refine go_iload (pc := 80) dX8_odds_80 rfl ?_
      refine go_iload_n (pc := 82) dX8_odds_82 rfl ?_
      refine go_callS (pc := 83) (as := [.int v4, .int v2]) (st := []) (o_D_partOfTwelfths v4 v2 M) ic_D_partOfTwelfths ivX8_252 rfl (by decide) (Nat.le_of_ble_eq_true rfl) dX8_odds_83 (kRl fun r2 => ?_)
      exact go_ret dX8_odds_86 rfl rfl rfl
    · refine go_aload_n (pc := 36) dX8_odds_36 rfl ?_
      refine go_aload_n (pc := 37) dX8_odds_37 rfl ?_
      refine go_gd fun g3 => ?_
      refine go_callV (pc := 38) (a := 9) (as := [.ref v3]) (st := []) (o_D_courseNow v3 g3 M) ic_D_courseNow ivX8_99 (rcvk (a := 9) (t := 9) rfl (by decide) (by decide) rfl) rfl (by decide) (Nat.le_of_ble_eq_true rfl) dX8_odds_38 (kWr fun r5 M4 => ?_)
      refine go_aload_n (pc := 41) dX8_odds_41 rfl ?_
      refine go_getS (pc := 42) 131077 flX8_12 rfl rfl sC_9_0 (by decide) dX8_odds_42 ?_
      refine go_getS (pc := 45) 262539 flX8_71 rfl rfl (sC_5_0 rfl) (by decide) dX8_odds_45 ?_
      refine go_iload (pc := 48) dX8_odds_48 rfl ?_
      refine go_iald (pc := 50) rfl rfl dX8_odds_50 (fun _ => ?_)
      refine go_gd fun g6 => ?_
      refine go_callV (pc := 51) (a := r5) (as := [.int (mI M4 262539 v5.toNatClampNeg)]) (st := []) (o_Co_goInAir r5 (mI M4 262539 v5.toNatClampNeg) g6 M4) ic_Co_goInAir ivX8_249 (rcvk g6 (by decide) (by decide) rfl) rfl (by decide) (Nat.le_of_ble_eq_true rfl) dX8_odds_51 (kWv fun M7 => ?_)
      refine go_iload (pc := 54) dX8_odds_54 rfl ?_
      refine go_aload_n (pc := 56) dX8_odds_56 rfl ?_
      refine go_getS (pc := 57) 7602179 flX8_46 rfl rfl sC_9_7 (by decide) dX8_odds_57 ?_
      refine go_callV (pc := 60) (a := 7602179) (as := []) (st := [.int v4]) (o_Co_rubbing 7602179 rfl M7) ic_Co_rubbing ivX8_134 (rcvk rfl (by decide) (by decide) rfl) rfl (by decide) (Nat.le_of_ble_eq_true rfl) dX8_odds_60 (kRi fun r8 => ?_)
      refine go_ifeq (pc := 63) 70 dX8_odds_63 (by decide) (fun _ => ?_) (fun _ => ?_)
      · refine go_iconst (pc := 70) 0 dX8_odds_70 ki_0 ?_
        refine go_iadd (pc := 71) dX8_odds_71 ?_
        refine go_istoreL (pc := 72) (L := fun x9 => [.ref 9, .null, .int v2, .ref v3, .int x9, .int v5]) dX8_odds_72 (Nat.le_of_ble_eq_true rfl) rfl (fun _ => rfl) (fun x9 => ?_)
        refine go_iincL (pc := 74) (L := fun x10 => [.ref 9, .null, .int v2, .ref v3, .int x9, .int x10]) 1 dX8_odds_74 rfl ki_1 (Nat.le_of_ble_eq_true rfl) rfl (fun _ => rfl) (fun x10 => ?_)
        refine go_goto (pc := 77) 29 dX8_odds_77 (by decide) ?_
        exact ih v2 v3 x9 x10 M7
      · refine go_iconst (pc := 66) 1 dX8_odds_66 ki_1 ?_
        refine go_goto (pc := 67) 71 dX8_odds_67 (by decide) ?_
        refine go_iadd (pc := 71) dX8_odds_71 ?_
        refine go_istoreL (pc := 72) (L := fun x11 => [.ref 9, .null, .int v2, .ref v3, .int x11, .int v5]) dX8_odds_72 (Nat.le_of_ble_eq_true rfl) rfl (fun _ => rfl) (fun x11 => ?_)
        refine go_iincL (pc := 74) (L := fun x12 => [.ref 9, .null, .int v2, .ref v3, .int x11, .int x12]) 1 dX8_odds_74 rfl ki_1 (Nat.le_of_ble_eq_true rfl) rfl (fun _ => rfl) (fun x12 => ?_)
        refine go_goto (pc := 77) 29 dX8_odds_77 (by decide) ?_
        exact ih v2 v3 x11 x12 M7
theorem o_D_odds (p1 : Int32) (p2 : Int32) (M : Mem) : Ct sRC g_D_odds fWl [.ref 9, .int p1, .int p2] (f_D_odds p1 p2 M) M := by
  refine ⟨Nat.le_of_ble_eq_true rfl, ?_⟩
  show Go sRC g_D_odds fWl (f_D_odds p1 p2 M) 0 [.ref 9, .int p1, .int p2, .null, .null, .null] [] M
  refine go_def (f_D_odds.eq_1 ..) ?_
  refine go_aload_n (pc := 0) dX8_odds_0 rfl ?_
  refine go_iload_n (pc := 1) dX8_odds_1 rfl ?_
  refine go_callV (pc := 2) (a := 9) (as := [.int p1]) (st := []) (o_D_doorAt p1 M) ic_D_doorAt ivX8_92 (rcvk (a := 9) (t := 9) rfl (by decide) (by decide) rfl) rfl (by decide) (Nat.le_of_ble_eq_true rfl) dX8_odds_2 (kRr fun r1 => ?_)
  refine go_astore_n (pc := 5) (ls' := [.ref 9, .int p1, .int p2, .ref r1, .null, .null]) dX8_odds_5 (Nat.le_of_ble_eq_true rfl) rfl rfl ?_
  refine go_aload_n (pc := 6) dX8_odds_6 rfl ?_
  refine go_ifnull (pc := 7) 19 dX8_odds_7 (by decide) (fun _ => ?_) (fun _ => ?_)
  · refine go_ldc2 (pc := 19) (v := (-9223372036854775808)) (gT_of (mtb4 (mt16 (mt4 (mt4 (mt4 (mt1 (mt1 (List.Mem.head _)))))))) rfl) dX8_odds_19 ?_
    exact go_ret dX8_odds_22 rfl rfl rfl
  · refine go_iload_n (pc := 10) dX8_odds_10 rfl ?_
    refine go_iconst (pc := 11) 0 dX8_odds_11 ki_0 ?_
    refine go_iconst (pc := 12) 1 dX8_odds_12 ki_1 ?_
    refine go_T (v := f_D_within p2 0 1 M) ?_
    refine go_callS (pc := 13) (as := [.int p2, .int 0, .int 1]) (st := []) (o_D_within p2 0 1 M) ic_D_within ivX8_67 rfl (by decide) (Nat.le_of_ble_eq_true rfl) dX8_odds_13 (kTi ?_)
    refine go_ifne (pc := 16) 23 dX8_odds_16 (by decide) (fun _ => ?_) (fun _ => ?_)
    · refine go_ldc2 (pc := 19) (v := (-9223372036854775808)) (gT_of (mtb4 (mt16 (mt4 (mt4 (mt4 (mt1 (mt1 (List.Mem.head _)))))))) rfl) dX8_odds_19 ?_
      exact go_ret dX8_odds_22 rfl rfl rfl
    · refine go_iconst (pc := 23) 0 dX8_odds_23 ki_0 ?_
      refine go_istore (pc := 24) (ls' := [.ref 9, .int p1, .int p2, .ref r1, .int 0, .null]) dX8_odds_24 (Nat.le_of_ble_eq_true rfl) rfl rfl ?_
      refine go_iconst (pc := 26) 0 dX8_odds_26 ki_0 ?_
      refine go_istore (pc := 27) (ls' := [.ref 9, .int p1, .int p2, .ref r1, .int 0, .int 0]) dX8_odds_27 (Nat.le_of_ble_eq_true rfl) rfl rfl ?_
      refine go_sub (ls' := [.ref 9, .null, .int p2, .ref r1, .int 0, .int 0]) ⟨Or.inr rfl, Or.inl rfl, Or.inr rfl, Or.inr rfl, Or.inr rfl, Or.inr rfl, trivial⟩ ?_
      exact o_D_odds_l29 200 p2 r1 0 0 M
def f_D_mean_l40 : Nat → Int32 → Int32 → Nat → Int32 → Int32 → Mem → Option (Int64 × Mem)
  | 0, _, _, _, _, _, _ => none
  | n + 1, v2, v3, v4, v5, v6, M => if 12 ≤ v6 then bd (f_D_partOfTwelfths v5 v3 M) fun r2 => some (r2, M) else gd (v4 % 131072 = 4) (b2 (f_D_courseNow v4 M) fun r5 M4 => gd (inR v6 12) (gd (r5 % 131072 = 3) (bd (f_Co_goInAir r5 (mI M4 262539 v6.toNatClampNeg) M4) fun M7 => gd (inR v2 2) (lt (v5 + (mI M7 8126539 v2.toNatClampNeg)) fun x8 => lt (v6 + 1) fun x9 => f_D_mean_l40 n v2 v3 v4 x8 x9 M7))))
def f_D_mean (p1 : Int32) (p2 : Int32) (p3 : Int32) (M : Mem) : Option (Int64 × Mem) := bd (f_D_doorAt p1 M) fun r1 => if r1 = 0 then some ((-9223372036854775808), M) else if (f_D_within p2 0 1 M) = 0 then some ((-9223372036854775808), M) else if (f_D_within p3 0 1 M) = 0 then some ((-9223372036854775808), M) else f_D_mean_l40 200 p2 p3 r1 0 0 M
theorem o_D_mean_l40 : ∀ (n : Nat) (v2 : Int32) (v3 : Int32) (v4 : Nat) (v5 : Int32) (v6 : Int32) (M : Mem), Go sRC g_D_mean fWl (f_D_mean_l40 n v2 v3 v4 v5 v6 M) 40 [.ref 9, .null, .int v2, .int v3, .ref v4, .int v5, .int v6] [] M := by
  intro n
  induction n with
  | zero =>
    intro v2 v3 v4 v5 v6 M
    exact go_def (f_D_mean_l40.eq_1 ..) go_none
  | succ n ih =>
    intro v2 v3 v4 v5 v6 M
    refine go_def (f_D_mean_l40.eq_2 ..) ?_
    refine go_iload (pc := 40) dX8_mean_40 rfl ?_
    refine go_bipush (pc := 42) 12 dX8_mean_42 kb_12 ?_
    refine go_icmpge (pc := 44) 89 dX8_mean_44 (by decide) (fun _ => ?_) (fun _ => ?_)
    · refine go_iload (pc := 89) dX8_mean_89 rfl ?_
      refine go_iload_n (pc := 91) dX8_mean_91 rfl ?_
      refine go_callS (pc := 92) (as := [.int v5, .int v3]) (st := []) (o_D_partOfTwelfths v5 v3 M) ic_D_partOfTwelfths ivX8_252 rfl (by decide) (Nat.le_of_ble_eq_true rfl) dX8_mean_92 (kRl fun r2 => ?_)
      exact go_ret dX8_mean_95 rfl rfl rfl
    · refine go_aload_n (pc := 47) dX8_mean_47 rfl ?_
      refine go_aload (pc := 48) dX8_mean_48 rfl ?_
      refine go_gd fun g3 => ?_
      refine go_callV (pc := 50) (a := 9) (as := [.ref v4]) (st := []) (o_D_courseNow v4 g3 M) ic_D_courseNow ivX8_99 (rcvk (a := 9) (t := 9) rfl (by decide) (by decide) rfl) rfl (by decide) (Nat.le_of_ble_eq_true rfl) dX8_mean_50 (kWr fun r5 M4 => ?_)
      refine go_aload_n (pc := 53) dX8_mean_53 rfl ?_
      refine go_getS (pc := 54) 131077 flX8_12 rfl rfl sC_9_0 (by decide) dX8_mean_54 ?_
      refine go_getS (pc := 57) 262539 flX8_71 rfl rfl (sC_5_0 rfl) (by decide) dX8_mean_57 ?_
      refine go_iload (pc := 60) dX8_mean_60 rfl ?_
      refine go_iald (pc := 62) rfl rfl dX8_mean_62 (fun _ => ?_)
      refine go_gd fun g6 => ?_
      refine go_callV (pc := 63) (a := r5) (as := [.int (mI M4 262539 v6.toNatClampNeg)]) (st := []) (o_Co_goInAir r5 (mI M4 262539 v6.toNatClampNeg) g6 M4) ic_Co_goInAir ivX8_249 (rcvk g6 (by decide) (by decide) rfl) rfl (by decide) (Nat.le_of_ble_eq_true rfl) dX8_mean_63 (kWv fun M7 => ?_)
      refine go_iload (pc := 66) dX8_mean_66 rfl ?_
      refine go_aload_n (pc := 68) dX8_mean_68 rfl ?_
      refine go_getS (pc := 69) 7602179 flX8_46 rfl rfl sC_9_7 (by decide) dX8_mean_69 ?_
      refine go_getS (pc := 72) 7995396 flX8_212 rfl rfl (sC_3_1 rfl) (by decide) dX8_mean_72 ?_
      refine go_getS (pc := 75) 8126539 flX8_113 rfl rfl (sC_4_5 rfl) (by decide) dX8_mean_75 ?_
      refine go_iload_n (pc := 78) dX8_mean_78 rfl ?_
      refine go_iald (pc := 79) rfl rfl dX8_mean_79 (fun _ => ?_)
      refine go_iadd (pc := 80) dX8_mean_80 ?_
      refine go_istoreL (pc := 81) (L := fun x8 => [.ref 9, .null, .int v2, .int v3, .ref v4, .int x8, .int v6]) dX8_mean_81 (Nat.le_of_ble_eq_true rfl) rfl (fun _ => rfl) (fun x8 => ?_)
      refine go_iincL (pc := 83) (L := fun x9 => [.ref 9, .null, .int v2, .int v3, .ref v4, .int x8, .int x9]) 1 dX8_mean_83 rfl ki_1 (Nat.le_of_ble_eq_true rfl) rfl (fun _ => rfl) (fun x9 => ?_)
      refine go_goto (pc := 86) 40 dX8_mean_86 (by decide) ?_
      exact ih v2 v3 v4 x8 x9 M7
theorem o_D_mean (p1 : Int32) (p2 : Int32) (p3 : Int32) (M : Mem) : Ct sRC g_D_mean fWl [.ref 9, .int p1, .int p2, .int p3] (f_D_mean p1 p2 p3 M) M := by
  refine ⟨Nat.le_of_ble_eq_true rfl, ?_⟩
  show Go sRC g_D_mean fWl (f_D_mean p1 p2 p3 M) 0 [.ref 9, .int p1, .int p2, .int p3, .null, .null, .null] [] M
  refine go_def (f_D_mean.eq_1 ..) ?_
  refine go_aload_n (pc := 0) dX8_mean_0 rfl ?_
  refine go_iload_n (pc := 1) dX8_mean_1 rfl ?_
  refine go_callV (pc := 2) (a := 9) (as := [.int p1]) (st := []) (o_D_doorAt p1 M) ic_D_doorAt ivX8_92 (rcvk (a := 9) (t := 9) rfl (by decide) (by decide) rfl) rfl (by decide) (Nat.le_of_ble_eq_true rfl) dX8_mean_2 (kRr fun r1 => ?_)
  refine go_astore (pc := 5) (ls' := [.ref 9, .int p1, .int p2, .int p3, .ref r1, .null, .null]) dX8_mean_5 (Nat.le_of_ble_eq_true rfl) rfl rfl ?_
  refine go_aload (pc := 7) dX8_mean_7 rfl ?_
  refine go_ifnull (pc := 9) 30 dX8_mean_9 (by decide) (fun _ => ?_) (fun _ => ?_)
  · refine go_ldc2 (pc := 30) (v := (-9223372036854775808)) (gT_of (mtb4 (mt16 (mt4 (mt4 (mt4 (mt1 (mt1 (List.Mem.head _)))))))) rfl) dX8_mean_30 ?_
    exact go_ret dX8_mean_33 rfl rfl rfl
  · refine go_iload_n (pc := 12) dX8_mean_12 rfl ?_
    refine go_iconst (pc := 13) 0 dX8_mean_13 ki_0 ?_
    refine go_iconst (pc := 14) 1 dX8_mean_14 ki_1 ?_
    refine go_T (v := f_D_within p2 0 1 M) ?_
    refine go_callS (pc := 15) (as := [.int p2, .int 0, .int 1]) (st := []) (o_D_within p2 0 1 M) ic_D_within ivX8_67 rfl (by decide) (Nat.le_of_ble_eq_true rfl) dX8_mean_15 (kTi ?_)
    refine go_ifeq (pc := 18) 30 dX8_mean_18 (by decide) (fun _ => ?_) (fun _ => ?_)
    · refine go_ldc2 (pc := 30) (v := (-9223372036854775808)) (gT_of (mtb4 (mt16 (mt4 (mt4 (mt4 (mt1 (mt1 (List.Mem.head _)))))))) rfl) dX8_mean_30 ?_
      exact go_ret dX8_mean_33 rfl rfl rfl
    · refine go_iload_n (pc := 21) dX8_mean_21 rfl ?_
      refine go_iconst (pc := 22) 0 dX8_mean_22 ki_0 ?_
      refine go_iconst (pc := 23) 1 dX8_mean_23 ki_1 ?_
      refine go_T (v := f_D_within p3 0 1 M) ?_
      refine go_callS (pc := 24) (as := [.int p3, .int 0, .int 1]) (st := []) (o_D_within p3 0 1 M) ic_D_within ivX8_67 rfl (by decide) (Nat.le_of_ble_eq_true rfl) dX8_mean_24 (kTi ?_)
      refine go_ifne (pc := 27) 34 dX8_mean_27 (by decide) (fun _ => ?_) (fun _ => ?_)
      · refine go_ldc2 (pc := 30) (v := (-9223372036854775808)) (gT_of (mtb4 (mt16 (mt4 (mt4 (mt4 (mt1 (mt1 (List.Mem.head _)))))))) rfl) dX8_mean_30 ?_
        exact go_ret dX8_mean_33 rfl rfl rfl
      · refine go_iconst (pc := 34) 0 dX8_mean_34 ki_0 ?_
        refine go_istore (pc := 35) (ls' := [.ref 9, .int p1, .int p2, .int p3, .ref r1, .int 0, .null]) dX8_mean_35 (Nat.le_of_ble_eq_true rfl) rfl rfl ?_
        refine go_iconst (pc := 37) 0 dX8_mean_37 ki_0 ?_
        refine go_istore (pc := 38) (ls' := [.ref 9, .int p1, .int p2, .int p3, .ref r1, .int 0, .int 0]) dX8_mean_38 (Nat.le_of_ble_eq_true rfl) rfl rfl ?_
        refine go_sub (ls' := [.ref 9, .null, .int p2, .int p3, .ref r1, .int 0, .int 0]) ⟨Or.inr rfl, Or.inl rfl, Or.inr rfl, Or.inr rfl, Or.inr rfl, Or.inr rfl, Or.inr rfl, trivial⟩ ?_
        exact o_D_mean_l40 200 p2 p3 r1 0 0 M
def f_D_rubsLessChanged (p1 : Nat) (p2 : Nat) (M : Mem) : Option (Int32 × Mem) := bd (f_D_holdingHouse M) fun r1 => gd (r1 % 131072 = 6) (bd (f_Co_begin 7602179 p1 131077 r1 M) fun M3 => bd (f_D_holdingHouse M3) fun r4 => gd (r4 % 131072 = 6) (bd (f_Co_begin 9043971 p2 131077 r4 M3) fun M6 => bd (f_Co_rubsWith 7602179 (p1 + 393415) M6) fun r7 => bd (f_Co_rubsWith 9043971 (p2 + 393415) M6) fun r8 => lt (r7 + r8) fun x9 => bd (f_Co_rubsWith 7602179 (p2 + 393415) M6) fun r10 => bd (f_Co_rubsWith 9043971 (p1 + 393415) M6) fun r11 => lt (r10 + r11) fun x12 => if x9 ≤ x12 then some (0, M6) else some (1, M6)))
theorem o_D_rubsLessChanged (p1 : Nat) (p2 : Nat) (hp1 : p1 % 131072 = 4) (hp2 : p2 % 131072 = 4) (M : Mem) : Ct sRC g_D_rubsLessChanged fWi [.ref 9, .ref p1, .ref p2] (f_D_rubsLessChanged p1 p2 M) M := by
  refine ⟨Nat.le_of_ble_eq_true rfl, ?_⟩
  show Go sRC g_D_rubsLessChanged fWi (f_D_rubsLessChanged p1 p2 M) 0 [.ref 9, .ref p1, .ref p2, .null, .null] [] M
  refine go_def (f_D_rubsLessChanged.eq_1 ..) ?_
  refine go_aload_n (pc := 0) dX8_rubsLessChanged_0 rfl ?_
  refine go_getS (pc := 1) 7602179 flX8_46 rfl rfl sC_9_7 (by decide) dX8_rubsLessChanged_1 ?_
  refine go_aload_n (pc := 4) dX8_rubsLessChanged_4 rfl ?_
  refine go_aload_n (pc := 5) dX8_rubsLessChanged_5 rfl ?_
  refine go_getS (pc := 6) 131077 flX8_12 rfl rfl sC_9_0 (by decide) dX8_rubsLessChanged_6 ?_
  refine go_aload_n (pc := 9) dX8_rubsLessChanged_9 rfl ?_
  refine go_callV (pc := 10) (a := 9) (as := []) (st := [.ref 131077, .ref p1, .ref 7602179]) (o_D_holdingHouse M) ic_D_holdingHouse ivX8_161 (rcvk (a := 9) (t := 9) rfl (by decide) (by decide) rfl) rfl (by decide) (Nat.le_of_ble_eq_true rfl) dX8_rubsLessChanged_10 (kRr fun r1 => ?_)
  refine go_gd fun g2 => ?_
  refine go_callV (pc := 13) (a := 7602179) (as := [.ref p1, .ref 131077, .ref r1]) (st := []) (o_Co_begin 7602179 p1 131077 r1 rfl hp1 rfl g2 M) ic_Co_begin ivX8_338 (rcvk rfl (by decide) (by decide) rfl) rfl (by decide) (Nat.le_of_ble_eq_true rfl) dX8_rubsLessChanged_13 (kWv fun M3 => ?_)
  refine go_aload_n (pc := 16) dX8_rubsLessChanged_16 rfl ?_
  refine go_getS (pc := 17) 9043971 flX8_50 rfl rfl sC_9_8 (by decide) dX8_rubsLessChanged_17 ?_
  refine go_aload_n (pc := 20) dX8_rubsLessChanged_20 rfl ?_
  refine go_aload_n (pc := 21) dX8_rubsLessChanged_21 rfl ?_
  refine go_getS (pc := 22) 131077 flX8_12 rfl rfl sC_9_0 (by decide) dX8_rubsLessChanged_22 ?_
  refine go_aload_n (pc := 25) dX8_rubsLessChanged_25 rfl ?_
  refine go_callV (pc := 26) (a := 9) (as := []) (st := [.ref 131077, .ref p2, .ref 9043971]) (o_D_holdingHouse M3) ic_D_holdingHouse ivX8_161 (rcvk (a := 9) (t := 9) rfl (by decide) (by decide) rfl) rfl (by decide) (Nat.le_of_ble_eq_true rfl) dX8_rubsLessChanged_26 (kRr fun r4 => ?_)
  refine go_gd fun g5 => ?_
  refine go_callV (pc := 29) (a := 9043971) (as := [.ref p2, .ref 131077, .ref r4]) (st := []) (o_Co_begin 9043971 p2 131077 r4 rfl hp2 rfl g5 M3) ic_Co_begin ivX8_338 (rcvk rfl (by decide) (by decide) rfl) rfl (by decide) (Nat.le_of_ble_eq_true rfl) dX8_rubsLessChanged_29 (kWv fun M6 => ?_)
  refine go_aload_n (pc := 32) dX8_rubsLessChanged_32 rfl ?_
  refine go_getS (pc := 33) 7602179 flX8_46 rfl rfl sC_9_7 (by decide) dX8_rubsLessChanged_33 ?_
  refine go_aload_n (pc := 36) dX8_rubsLessChanged_36 rfl ?_
  refine go_getS (pc := 37) (p1 + 393415) flX8_96 rfl (kd32 (t := 4) hp1 rfl) (sC_4_7 hp1) (knz (by decide)) dX8_rubsLessChanged_37 ?_
  refine go_callV (pc := 40) (a := 7602179) (as := [.ref (p1 + 393415)]) (st := []) (o_Co_rubsWith 7602179 (p1 + 393415) rfl (kd32 (t := 11) (kadd hp1 rfl) rfl) M6) ic_Co_rubsWith ivX8_347 (rcvk rfl (by decide) (by decide) rfl) rfl (by decide) (Nat.le_of_ble_eq_true rfl) dX8_rubsLessChanged_40 (kRi fun r7 => ?_)
  refine go_aload_n (pc := 43) dX8_rubsLessChanged_43 rfl ?_
  refine go_getS (pc := 44) 9043971 flX8_50 rfl rfl sC_9_8 (by decide) dX8_rubsLessChanged_44 ?_
  refine go_aload_n (pc := 47) dX8_rubsLessChanged_47 rfl ?_
  refine go_getS (pc := 48) (p2 + 393415) flX8_96 rfl (kd32 (t := 4) hp2 rfl) (sC_4_7 hp2) (knz (by decide)) dX8_rubsLessChanged_48 ?_
  refine go_callV (pc := 51) (a := 9043971) (as := [.ref (p2 + 393415)]) (st := [.int r7]) (o_Co_rubsWith 9043971 (p2 + 393415) rfl (kd32 (t := 11) (kadd hp2 rfl) rfl) M6) ic_Co_rubsWith ivX8_347 (rcvk rfl (by decide) (by decide) rfl) rfl (by decide) (Nat.le_of_ble_eq_true rfl) dX8_rubsLessChanged_51 (kRi fun r8 => ?_)
  refine go_iadd (pc := 54) dX8_rubsLessChanged_54 ?_
  refine go_istore_nL (pc := 55) (L := fun x9 => [.ref 9, .ref p1, .ref p2, .int x9, .null]) dX8_rubsLessChanged_55 (Nat.le_of_ble_eq_true rfl) rfl (fun _ => rfl) (fun x9 => ?_)
  refine go_aload_n (pc := 56) dX8_rubsLessChanged_56 rfl ?_
  refine go_getS (pc := 57) 7602179 flX8_46 rfl rfl sC_9_7 (by decide) dX8_rubsLessChanged_57 ?_
  refine go_aload_n (pc := 60) dX8_rubsLessChanged_60 rfl ?_
  refine go_getS (pc := 61) (p2 + 393415) flX8_96 rfl (kd32 (t := 4) hp2 rfl) (sC_4_7 hp2) (knz (by decide)) dX8_rubsLessChanged_61 ?_
  refine go_callV (pc := 64) (a := 7602179) (as := [.ref (p2 + 393415)]) (st := []) (o_Co_rubsWith 7602179 (p2 + 393415) rfl (kd32 (t := 11) (kadd hp2 rfl) rfl) M6) ic_Co_rubsWith ivX8_347 (rcvk rfl (by decide) (by decide) rfl) rfl (by decide) (Nat.le_of_ble_eq_true rfl) dX8_rubsLessChanged_64 (kRi fun r10 => ?_)
  refine go_aload_n (pc := 67) dX8_rubsLessChanged_67 rfl ?_
  refine go_getS (pc := 68) 9043971 flX8_50 rfl rfl sC_9_8 (by decide) dX8_rubsLessChanged_68 ?_
  refine go_aload_n (pc := 71) dX8_rubsLessChanged_71 rfl ?_
  refine go_getS (pc := 72) (p1 + 393415) flX8_96 rfl (kd32 (t := 4) hp1 rfl) (sC_4_7 hp1) (knz (by decide)) dX8_rubsLessChanged_72 ?_
  refine go_callV (pc := 75) (a := 9043971) (as := [.ref (p1 + 393415)]) (st := [.int r10]) (o_Co_rubsWith 9043971 (p1 + 393415) rfl (kd32 (t := 11) (kadd hp1 rfl) rfl) M6) ic_Co_rubsWith ivX8_347 (rcvk rfl (by decide) (by decide) rfl) rfl (by decide) (Nat.le_of_ble_eq_true rfl) dX8_rubsLessChanged_75 (kRi fun r11 => ?_)
  refine go_iadd (pc := 78) dX8_rubsLessChanged_78 ?_
  refine go_istoreL (pc := 79) (L := fun x12 => [.ref 9, .ref p1, .ref p2, .int x9, .int x12]) dX8_rubsLessChanged_79 (Nat.le_of_ble_eq_true rfl) rfl (fun _ => rfl) (fun x12 => ?_)
  refine go_iload (pc := 81) dX8_rubsLessChanged_81 rfl ?_
  refine go_iload_n (pc := 83) dX8_rubsLessChanged_83 rfl ?_
  refine go_icmpge (pc := 84) 91 dX8_rubsLessChanged_84 (by decide) (fun _ => ?_) (fun _ => ?_)
  · refine go_iconst (pc := 91) 0 dX8_rubsLessChanged_91 ki_0 ?_
    exact go_ret dX8_rubsLessChanged_92 (rbz (Or.inl rfl)) rfl rfl
  · refine go_iconst (pc := 87) 1 dX8_rubsLessChanged_87 ki_1 ?_
    refine go_goto (pc := 88) 92 dX8_rubsLessChanged_88 (by decide) ?_
    exact go_ret dX8_rubsLessChanged_92 (rbz (Or.inr rfl)) rfl rfl
