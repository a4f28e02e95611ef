/-! functions read off the bytecode, and that the code runs so (written by program) -/
def f_M_tellsAct_b36 (v1 : Int32) (v2 : Int32) (M : Mem) : Option (Int32 × Mem) := bd (f_M_body 40 M) fun M9 => b2 (f_M_doorTells v1 v2 M9) fun r11 M10 => b2 (f_M_hangsAct v1 1 M10) fun r13 M12 => some (r11 + r13, M12)
def f_M_tellsAct (p1 : Int32) (p2 : Int32) (M : Mem) : Option (Int32 × Mem) := gd (inR p1 4) (if (mI M 12714123 p1.toNatClampNeg) = 3 then f_M_tellsAct_b36 p1 p2 M else if (mI M 12714123 p1.toNatClampNeg) = 5 then bd (f_M_body 60 M) fun M1 => b2 (f_M_doorTells p1 (p2 - p1) M1) fun r3 M2 => some (r3, M2) else if (mI M 12714123 p1.toNatClampNeg) = 6 then f_M_tellsAct_b36 p1 p2 M else b2 (f_M_doorTells p1 p2 M) fun r5 M4 => some (r5, M4))
theorem o_M_tellsAct_b36 (v1 : Int32) (v2 : Int32) (M : Mem) : Go sRM g_M_tellsAct fWi (f_M_tellsAct_b36 v1 v2 M) 36 [.ref 12451850, .int v1, .int v2, .null] [] M := by
  refine go_def (f_M_tellsAct_b36.eq_1 ..) ?_
  refine go_aload_n (pc := 36) dX9_tellsAct_36 rfl ?_
  refine go_bipush (pc := 37) 40 dX9_tellsAct_37 kb_40 ?_
  refine go_callV (pc := 39) (a := 12451850) (as := [.int 40]) (st := []) (o_M_body 40 M) ic_M_body ivX9_375 (rcvk (a := 12451850) (t := 10) rfl (by decide) (by decide) rfl) rfl (by decide) (Nat.le_of_ble_eq_true rfl) dX9_tellsAct_39 (kWv fun M9 => ?_)
  refine go_aload_n (pc := 42) dX9_tellsAct_42 rfl ?_
  refine go_iload_n (pc := 43) dX9_tellsAct_43 rfl ?_
  refine go_iload_n (pc := 44) dX9_tellsAct_44 rfl ?_
  refine go_callV (pc := 45) (a := 12451850) (as := [.int v1, .int v2]) (st := []) (o_M_doorTells v1 v2 M9) ic_M_doorTells ivX9_393 (rcvk (a := 12451850) (t := 10) rfl (by decide) (by decide) rfl) rfl (by decide) (Nat.le_of_ble_eq_true rfl) dX9_tellsAct_45 (kWi fun r11 M10 => ?_)
  refine go_istore_n (pc := 48) (ls' := [.ref 12451850, .int v1, .int v2, .int r11]) dX9_tellsAct_48 (Nat.le_of_ble_eq_true rfl) rfl rfl ?_
  refine go_iload_n (pc := 49) dX9_tellsAct_49 rfl ?_
  refine go_aload_n (pc := 50) dX9_tellsAct_50 rfl ?_
  refine go_iload_n (pc := 51) dX9_tellsAct_51 rfl ?_
  refine go_iconst (pc := 52) 1 dX9_tellsAct_52 ki_1 ?_
  refine go_callV (pc := 53) (a := 12451850) (as := [.int v1, .int 1]) (st := [.int r11]) (o_M_hangsAct v1 1 M10) ic_M_hangsAct ivX9_390 (rcvk (a := 12451850) (t := 10) rfl (by decide) (by decide) rfl) rfl (by decide) (Nat.le_of_ble_eq_true rfl) dX9_tellsAct_53 (kWi fun r13 M12 => ?_)
  refine go_iadd (pc := 56) dX9_tellsAct_56 ?_
  exact go_ret dX9_tellsAct_57 rii rfl rfl
theorem o_M_tellsAct (p1 : Int32) (p2 : Int32) (M : Mem) : Ct sRM g_M_tellsAct fWi [.ref 12451850, .int p1, .int p2] (f_M_tellsAct p1 p2 M) M := by
  refine ⟨Nat.le_of_ble_eq_true rfl, ?_⟩
  show Go sRM g_M_tellsAct fWi (f_M_tellsAct p1 p2 M) 0 [.ref 12451850, .int p1, .int p2, .null] [] M
  refine go_def (f_M_tellsAct.eq_1 ..) ?_
  refine go_aload_n (pc := 0) dX9_tellsAct_0 rfl ?_
  refine go_getS (pc := 1) 12714123 flX9_23 rfl rfl sM_10_4 (by decide) dX9_tellsAct_1 ?_
  refine go_iload_n (pc := 4) dX9_tellsAct_4 rfl ?_
  refine go_iald (pc := 5) rfl rfl dX9_tellsAct_5 (fun _ => ?_)
  refine go_tswC (pc := 6) (v := 3) (off := 30) 36 dX9_tellsAct_6 (by decide) (by decide) (by decide) (fun _ => ?_) (fun n6 => ?_)
  · exact o_M_tellsAct_b36 p1 p2 M
  refine go_tswC (pc := 6) (v := 5) (off := 52) 58 dX9_tellsAct_6 (by decide) (by decide) (by decide) (fun _ => ?_) (fun n7 => ?_)
  · refine go_aload_n (pc := 58) dX9_tellsAct_58 rfl ?_
    refine go_bipush (pc := 59) 60 dX9_tellsAct_59 kb_60 ?_
    refine go_callV (pc := 61) (a := 12451850) (as := [.int 60]) (st := []) (o_M_body 60 M) ic_M_body ivX9_375 (rcvk (a := 12451850) (t := 10) rfl (by decide) (by decide) rfl) rfl (by decide) (Nat.le_of_ble_eq_true rfl) dX9_tellsAct_61 (kWv fun M1 => ?_)
    refine go_aload_n (pc := 64) dX9_tellsAct_64 rfl ?_
    refine go_iload_n (pc := 65) dX9_tellsAct_65 rfl ?_
    refine go_iload_n (pc := 66) dX9_tellsAct_66 rfl ?_
    refine go_iload_n (pc := 67) dX9_tellsAct_67 rfl ?_
    refine go_isub (pc := 68) dX9_tellsAct_68 ?_
    refine go_callV (pc := 69) (a := 12451850) (as := [.int p1, .int (p2 - p1)]) (st := []) (o_M_doorTells p1 (p2 - p1) M1) ic_M_doorTells ivX9_393 (rcvk (a := 12451850) (t := 10) rfl (by decide) (by decide) rfl) rfl (by decide) (Nat.le_of_ble_eq_true rfl) dX9_tellsAct_69 (kWi fun r3 M2 => ?_)
    exact go_ret dX9_tellsAct_72 rii rfl rfl
  refine go_tswC (pc := 6) (v := 6) (off := 30) 36 dX9_tellsAct_6 (by decide) (by decide) (by decide) (fun _ => ?_) (fun n8 => ?_)
  · exact o_M_tellsAct_b36 p1 p2 M
  refine go_tswD (pc := 6) 73 dX9_tellsAct_6 (by have n6t := lv_neT n6 (show (3 : Int32).toInt = 3 by decide); have n7t := lv_neT n7 (show (5 : Int32).toInt = 5 by decide); have n8t := lv_neT n8 (show (6 : Int32).toInt = 6 by decide); rcases (show (mI M 12714123 p1.toNatClampNeg).toInt < 3 ∨ 6 < (mI M 12714123 p1.toNatClampNeg).toInt ∨ (mI M 12714123 p1.toNatClampNeg).toInt = 4 by omega) with h | h | h <;> first | exact Or.inl h | exact Or.inr (Or.inl h) | exact Or.inr (Or.inr (by rw [h]; decide))) (by decide) ?_
  refine go_aload_n (pc := 73) dX9_tellsAct_73 rfl ?_
  refine go_iload_n (pc := 74) dX9_tellsAct_74 rfl ?_
  refine go_iload_n (pc := 75) dX9_tellsAct_75 rfl ?_
  refine go_callV (pc := 76) (a := 12451850) (as := [.int p1, .int p2]) (st := []) (o_M_doorTells p1 p2 M) ic_M_doorTells ivX9_393 (rcvk (a := 12451850) (t := 10) rfl (by decide) (by decide) rfl) rfl (by decide) (Nat.le_of_ble_eq_true rfl) dX9_tellsAct_76 (kWi fun r5 M4 => ?_)
  exact go_ret dX9_tellsAct_79 rii rfl rfl
def f_M_act (p1 : Int32) (p2 : Int32) (p3 : Int32) (M : Mem) : Option (Int32 × Mem) := lt (setI M 12451850 57 0) fun M1 => if (f_M_isDoor p1 M1) = 0 then some (0, M1) else if (f_M_in p2 0 2 M1) = 0 then some (0, M1) else if p2 = 0 then b2 (f_M_swellsAct p1 p3 M1) fun r7 M6 => some (r7, M6) else if p2 = 1 then b2 (f_M_hangsAct p1 p3 M1) fun r5 M4 => some (r5, M4) else b2 (f_M_tellsAct p1 p3 M1) fun r3 M2 => some (r3, M2)
theorem o_M_act (p1 : Int32) (p2 : Int32) (p3 : Int32) (M : Mem) : Ct sRM g_M_act fWi [.ref 12451850, .int p1, .int p2, .int p3] (f_M_act p1 p2 p3 M) M := by
  refine ⟨Nat.le_of_ble_eq_true rfl, ?_⟩
  show Go sRM g_M_act fWi (f_M_act p1 p2 p3 M) 0 [.ref 12451850, .int p1, .int p2, .int p3] [] M
  refine go_def (f_M_act.eq_1 ..) ?_
  refine go_aload_n (pc := 0) dX9_act_0 rfl ?_
  refine go_iconst (pc := 1) 0 dX9_act_1 ki_0 ?_
  refine go_putI (pc := 2) flX9_184 rfl (Or.inl rfl) ⟨rfl, rfl⟩ rfl dX9_act_2 (fun M1 => ?_)
  refine go_aload_n (pc := 5) dX9_act_5 rfl ?_
  refine go_iload_n (pc := 6) dX9_act_6 rfl ?_
  refine go_T (v := f_M_isDoor p1 M1) ?_
  refine go_callV (pc := 7) (a := 12451850) (as := [.int p1]) (st := []) (o_M_isDoor p1 M1) ic_M_isDoor ivX9_207 (rcvk (a := 12451850) (t := 10) rfl (by decide) (by decide) rfl) rfl (by decide) (Nat.le_of_ble_eq_true rfl) dX9_act_7 (kTi ?_)
  refine go_ifeq (pc := 10) 23 dX9_act_10 (by decide) (fun _ => ?_) (fun _ => ?_)
  · refine go_iconst (pc := 23) 0 dX9_act_23 ki_0 ?_
    exact go_ret dX9_act_24 rii rfl rfl
  · refine go_aload_n (pc := 13) dX9_act_13 rfl ?_
    refine go_iload_n (pc := 14) dX9_act_14 rfl ?_
    refine go_iconst (pc := 15) 0 dX9_act_15 ki_0 ?_
    refine go_iconst (pc := 16) 2 dX9_act_16 ki_2 ?_
    refine go_T (v := f_M_in p2 0 2 M1) ?_
    refine go_callV (pc := 17) (a := 12451850) (as := [.int p2, .int 0, .int 2]) (st := []) (o_M_in p2 0 2 M1) ic_M_in ivX9_203 (rcvk (a := 12451850) (t := 10) rfl (by decide) (by decide) rfl) rfl (by decide) (Nat.le_of_ble_eq_true rfl) dX9_act_17 (kTi ?_)
    refine go_ifne (pc := 20) 25 dX9_act_20 (by decide) (fun _ => ?_) (fun _ => ?_)
    · refine go_iconst (pc := 23) 0 dX9_act_23 ki_0 ?_
      exact go_ret dX9_act_24 rii rfl rfl
    · refine go_iload_n (pc := 25) dX9_act_25 rfl ?_
      refine go_ifne (pc := 26) 38 dX9_act_26 (by decide) (fun _ => ?_) (fun _ => ?_)
      · refine go_aload_n (pc := 29) dX9_act_29 rfl ?_
        refine go_iload_n (pc := 30) dX9_act_30 rfl ?_
        refine go_iload_n (pc := 31) dX9_act_31 rfl ?_
        refine go_callV (pc := 32) (a := 12451850) (as := [.int p1, .int p3]) (st := []) (o_M_swellsAct p1 p3 M1) ic_M_swellsAct ivX9_381 (rcvk (a := 12451850) (t := 10) rfl (by decide) (by decide) rfl) rfl (by decide) (Nat.le_of_ble_eq_true rfl) dX9_act_32 (kWi fun r7 M6 => ?_)
        refine go_goto (pc := 35) 58 dX9_act_35 (by decide) ?_
        exact go_ret dX9_act_58 rii rfl rfl
      · refine go_iload_n (pc := 38) dX9_act_38 rfl ?_
        refine go_iconst (pc := 39) 1 dX9_act_39 ki_1 ?_
        refine go_icmpne (pc := 40) 52 dX9_act_40 (by decide) (fun _ => ?_) (fun _ => ?_)
        · refine go_aload_n (pc := 43) dX9_act_43 rfl ?_
          refine go_iload_n (pc := 44) dX9_act_44 rfl ?_
          refine go_iload_n (pc := 45) dX9_act_45 rfl ?_
          refine go_callV (pc := 46) (a := 12451850) (as := [.int p1, .int p3]) (st := []) (o_M_hangsAct p1 p3 M1) ic_M_hangsAct ivX9_390 (rcvk (a := 12451850) (t := 10) rfl (by decide) (by decide) rfl) rfl (by decide) (Nat.le_of_ble_eq_true rfl) dX9_act_46 (kWi fun r5 M4 => ?_)
          refine go_goto (pc := 49) 58 dX9_act_49 (by decide) ?_
          exact go_ret dX9_act_58 rii rfl rfl
        · refine go_aload_n (pc := 52) dX9_act_52 rfl ?_
          refine go_iload_n (pc := 53) dX9_act_53 rfl ?_
          refine go_iload_n (pc := 54) dX9_act_54 rfl ?_
          refine go_callV (pc := 55) (a := 12451850) (as := [.int p1, .int p3]) (st := []) (o_M_tellsAct p1 p3 M1) ic_M_tellsAct ivX9_396 (rcvk (a := 12451850) (t := 10) rfl (by decide) (by decide) rfl) rfl (by decide) (Nat.le_of_ble_eq_true rfl) dX9_act_55 (kWi fun r3 M2 => ?_)
          exact go_ret dX9_act_58 rii rfl rfl
def f_M_trace (p1 : Int32) (M : Mem) : Option Int32 := if (f_M_in p1 0 19 M) = 0 then some (-1) else if (mI M 12451850 57) ≤ p1 then some (-1) else gd (inR p1 20) (some (mI M 17171083 p1.toNatClampNeg))
theorem o_M_trace (p1 : Int32) (M : Mem) : Ct sRM g_M_trace (fRi M) [.ref 12451850, .int p1] (f_M_trace p1 M) M := by
  refine ⟨Nat.le_of_ble_eq_true rfl, ?_⟩
  show Go sRM g_M_trace (fRi M) (f_M_trace p1 M) 0 [.ref 12451850, .int p1] [] M
  refine go_def (f_M_trace.eq_1 ..) ?_
  refine go_aload_n (pc := 0) dX9_trace_0 rfl ?_
  refine go_iload_n (pc := 1) dX9_trace_1 rfl ?_
  refine go_iconst (pc := 2) 0 dX9_trace_2 ki_0 ?_
  refine go_bipush (pc := 3) 19 dX9_trace_3 kb_19 ?_
  refine go_T (v := f_M_in p1 0 19 M) ?_
  refine go_callV (pc := 5) (a := 12451850) (as := [.int p1, .int 0, .int 19]) (st := []) (o_M_in p1 0 19 M) ic_M_in ivX9_203 (rcvk (a := 12451850) (t := 10) rfl (by decide) (by decide) rfl) rfl (by decide) (Nat.le_of_ble_eq_true rfl) dX9_trace_5 (kTi ?_)
  refine go_ifeq (pc := 8) 28 dX9_trace_8 (by decide) (fun _ => ?_) (fun _ => ?_)
  · refine go_iconst (pc := 28) (-1) dX9_trace_28 ki_m1 ?_
    exact go_ret dX9_trace_29 rii rfl rfl
  · refine go_iload_n (pc := 11) dX9_trace_11 rfl ?_
    refine go_aload_n (pc := 12) dX9_trace_12 rfl ?_
    refine go_getI (pc := 13) flX9_184 rfl rfl dX9_trace_13 ?_
    refine go_icmpge (pc := 16) 28 dX9_trace_16 (by decide) (fun _ => ?_) (fun _ => ?_)
    · refine go_iconst (pc := 28) (-1) dX9_trace_28 ki_m1 ?_
      exact go_ret dX9_trace_29 rii rfl rfl
    · refine go_aload_n (pc := 19) dX9_trace_19 rfl ?_
      refine go_getS (pc := 20) 17171083 flX9_187 rfl rfl sM_10_58 (by decide) dX9_trace_20 ?_
      refine go_iload_n (pc := 23) dX9_trace_23 rfl ?_
      refine go_iald (pc := 24) rfl rfl dX9_trace_24 (fun _ => ?_)
      refine go_goto (pc := 25) 29 dX9_trace_25 (by decide) ?_
      exact go_ret dX9_trace_29 rii rfl rfl
def f_M_taken_b61 (M : Mem) (v2 : Int32) (v3 : Int32) : Option Int32 := if v2 = 3 then if v3 = 6 then some v3 else some (-12) else some (-12)
def f_M_taken_b51 (M : Mem) (v2 : Int32) (v3 : Int32) : Option Int32 := if v2 = 2 then if v3 = 5 then some v3 else f_M_taken_b61 M v2 v3 else f_M_taken_b61 M v2 v3
def f_M_taken (p1 : Int32) (p2 : Int32) (M : Mem) : Option Int32 := if (f_M_in p2 0 6 M) = 0 then some (-2) else if (f_M_isDoor p1 M) = 0 then some (-11) else gd (inR p1 4) (lt (mI M 12714123 p1.toNatClampNeg) fun x1 => if p2 = 0 then some x1 else if x1 = p2 then some x1 else if p2 = 1 then if x1 = 4 then some x1 else f_M_taken_b51 M p2 x1 else f_M_taken_b51 M p2 x1)
theorem o_M_taken_b61 (M : Mem) (v2 : Int32) (v3 : Int32) : Go sRM g_M_taken (fRi M) (f_M_taken_b61 M v2 v3) 61 [.ref 12451850, .null, .int v2, .int v3] [] M := by
  refine go_def (f_M_taken_b61.eq_1 ..) ?_
  refine go_iload_n (pc := 61) dX9_taken_61 rfl ?_
  refine go_iconst (pc := 62) 3 dX9_taken_62 ki_3 ?_
  refine go_icmpne (pc := 63) 76 dX9_taken_63 (by decide) (fun _ => ?_) (fun _ => ?_)
  · refine go_iload_n (pc := 66) dX9_taken_66 rfl ?_
    refine go_bipush (pc := 67) 6 dX9_taken_67 kb_6 ?_
    refine go_icmpne (pc := 69) 76 dX9_taken_69 (by decide) (fun _ => ?_) (fun _ => ?_)
    · refine go_iload_n (pc := 72) dX9_taken_72 rfl ?_
      refine go_goto (pc := 73) 78 dX9_taken_73 (by decide) ?_
      exact go_ret dX9_taken_78 rii rfl rfl
    · refine go_bipush (pc := 76) (-12) dX9_taken_76 kb_m12 ?_
      exact go_ret dX9_taken_78 rii rfl rfl
  · refine go_bipush (pc := 76) (-12) dX9_taken_76 kb_m12 ?_
    exact go_ret dX9_taken_78 rii rfl rfl
theorem o_M_taken_b51 (M : Mem) (v2 : Int32) (v3 : Int32) : Go sRM g_M_taken (fRi M) (f_M_taken_b51 M v2 v3) 51 [.ref 12451850, .null, .int v2, .int v3] [] M := by
  refine go_def (f_M_taken_b51.eq_1 ..) ?_
  refine go_iload_n (pc := 51) dX9_taken_51 rfl ?_
  refine go_iconst (pc := 52) 2 dX9_taken_52 ki_2 ?_
  refine go_icmpne (pc := 53) 61 dX9_taken_53 (by decide) (fun _ => ?_) (fun _ => ?_)
  · refine go_iload_n (pc := 56) dX9_taken_56 rfl ?_
    refine go_iconst (pc := 57) 5 dX9_taken_57 ki_5 ?_
    refine go_icmpeq (pc := 58) 72 dX9_taken_58 (by decide) (fun _ => ?_) (fun _ => ?_)
    · refine go_iload_n (pc := 72) dX9_taken_72 rfl ?_
      refine go_goto (pc := 73) 78 dX9_taken_73 (by decide) ?_
      exact go_ret dX9_taken_78 rii rfl rfl
    · exact o_M_taken_b61 M v2 v3
  · exact o_M_taken_b61 M v2 v3
theorem o_M_taken (p1 : Int32) (p2 : Int32) (M : Mem) : Ct sRM g_M_taken (fRi M) [.ref 12451850, .int p1, .int p2] (f_M_taken p1 p2 M) M := by
  refine ⟨Nat.le_of_ble_eq_true rfl, ?_⟩
  show Go sRM g_M_taken (fRi M) (f_M_taken p1 p2 M) 0 [.ref 12451850, .int p1, .int p2, .null] [] M
  refine go_def (f_M_taken.eq_1 ..) ?_
  refine go_aload_n (pc := 0) dX9_taken_0 rfl ?_
  refine go_iload_n (pc := 1) dX9_taken_1 rfl ?_
  refine go_iconst (pc := 2) 0 dX9_taken_2 ki_0 ?_
  refine go_bipush (pc := 3) 6 dX9_taken_3 kb_6 ?_
  refine go_T (v := f_M_in p2 0 6 M) ?_
  refine go_callV (pc := 5) (a := 12451850) (as := [.int p2, .int 0, .int 6]) (st := []) (o_M_in p2 0 6 M) ic_M_in ivX9_203 (rcvk (a := 12451850) (t := 10) rfl (by decide) (by decide) rfl) rfl (by decide) (Nat.le_of_ble_eq_true rfl) dX9_taken_5 (kTi ?_)
  refine go_ifne (pc := 8) 14 dX9_taken_8 (by decide) (fun _ => ?_) (fun _ => ?_)
  · refine go_bipush (pc := 11) (-2) dX9_taken_11 kb_m2 ?_
    exact go_ret dX9_taken_13 rii rfl rfl
  · refine go_aload_n (pc := 14) dX9_taken_14 rfl ?_
    refine go_iload_n (pc := 15) dX9_taken_15 rfl ?_
    refine go_T (v := f_M_isDoor p1 M) ?_
    refine go_callV (pc := 16) (a := 12451850) (as := [.int p1]) (st := []) (o_M_isDoor p1 M) ic_M_isDoor ivX9_207 (rcvk (a := 12451850) (t := 10) rfl (by decide) (by decide) rfl) rfl (by decide) (Nat.le_of_ble_eq_true rfl) dX9_taken_16 (kTi ?_)
    refine go_ifne (pc := 19) 25 dX9_taken_19 (by decide) (fun _ => ?_) (fun _ => ?_)
    · refine go_bipush (pc := 22) (-11) dX9_taken_22 kb_m11 ?_
      exact go_ret dX9_taken_24 rii rfl rfl
    · refine go_aload_n (pc := 25) dX9_taken_25 rfl ?_
      refine go_getS (pc := 26) 12714123 flX9_23 rfl rfl sM_10_4 (by decide) dX9_taken_26 ?_
      refine go_iload_n (pc := 29) dX9_taken_29 rfl ?_
      refine go_iald (pc := 30) rfl rfl dX9_taken_30 (fun _ => ?_)
      refine go_istore_nL (pc := 31) (L := fun x1 => [.ref 12451850, .int p1, .int p2, .int x1]) dX9_taken_31 (Nat.le_of_ble_eq_true rfl) rfl (fun _ => rfl) (fun x1 => ?_)
      refine go_iload_n (pc := 32) dX9_taken_32 rfl ?_
      refine go_ifeq (pc := 33) 72 dX9_taken_33 (by decide) (fun _ => ?_) (fun _ => ?_)
      · refine go_iload_n (pc := 72) dX9_taken_72 rfl ?_
        refine go_goto (pc := 73) 78 dX9_taken_73 (by decide) ?_
        exact go_ret dX9_taken_78 rii rfl rfl
      · refine go_iload_n (pc := 36) dX9_taken_36 rfl ?_
        refine go_iload_n (pc := 37) dX9_taken_37 rfl ?_
        refine go_icmpeq (pc := 38) 72 dX9_taken_38 (by decide) (fun _ => ?_) (fun _ => ?_)
        · refine go_iload_n (pc := 72) dX9_taken_72 rfl ?_
          refine go_goto (pc := 73) 78 dX9_taken_73 (by decide) ?_
          exact go_ret dX9_taken_78 rii rfl rfl
        · refine go_iload_n (pc := 41) dX9_taken_41 rfl ?_
          refine go_iconst (pc := 42) 1 dX9_taken_42 ki_1 ?_
          refine go_icmpne (pc := 43) 51 dX9_taken_43 (by decide) (fun _ => ?_) (fun _ => ?_)
          · refine go_iload_n (pc := 46) dX9_taken_46 rfl ?_
            refine go_iconst (pc := 47) 4 dX9_taken_47 ki_4 ?_
            refine go_icmpeq (pc := 48) 72 dX9_taken_48 (by decide) (fun _ => ?_) (fun _ => ?_)
            · refine go_iload_n (pc := 72) dX9_taken_72 rfl ?_
              refine go_goto (pc := 73) 78 dX9_taken_73 (by decide) ?_
              exact go_ret dX9_taken_78 rii rfl rfl
            · refine go_sub (ls' := [.ref 12451850, .null, .int p2, .int x1]) ⟨Or.inr rfl, Or.inl rfl, Or.inr rfl, Or.inr rfl, trivial⟩ ?_
              exact o_M_taken_b51 M p2 x1
          · refine go_sub (ls' := [.ref 12451850, .null, .int p2, .int x1]) ⟨Or.inr rfl, Or.inl rfl, Or.inr rfl, Or.inr rfl, trivial⟩ ?_
            exact o_M_taken_b51 M p2 x1
def f_M_count (p1 : Int32) (M : Mem) : Int32 := if p1 = 0 then mI M 12451850 1 else if p1 = 1 then mI M 12451850 12 else if p1 = 2 then mI M 12451850 37 else if p1 = 3 then mI M 12451850 14 else if p1 = 4 then mI M 12451850 57 else (-2)
theorem o_M_count (p1 : Int32) (M : Mem) : Ct sRM g_M_count (fRi M) [.ref 12451850, .int p1] (some (f_M_count p1 M)) M := by
  refine ⟨Nat.le_of_ble_eq_true rfl, ?_⟩
  show Go sRM g_M_count (fRi M) (some (f_M_count p1 M)) 0 [.ref 12451850, .int p1] [] M
  refine go_def (congrArg some (f_M_count.eq_1 ..)) ?_
  refine go_iload_n (pc := 0) dX9_count_0 rfl ?_
  refine go_site ?_
  refine go_tswC (pc := 1) (v := 0) (off := 35) 36 dX9_count_1 (by decide) (by decide) (by decide) (fun _ => ?_) (fun n1 => ?_)
  · refine go_aload_n (pc := 36) dX9_count_36 rfl ?_
    refine go_getI (pc := 37) flX9_13 rfl rfl dX9_count_37 ?_
    exact go_ret dX9_count_40 rii rfl rfl
  refine go_site ?_
  refine go_tswC (pc := 1) (v := 1) (off := 40) 41 dX9_count_1 (by decide) (by decide) (by decide) (fun _ => ?_) (fun n2 => ?_)
  · refine go_aload_n (pc := 41) dX9_count_41 rfl ?_
    refine go_getI (pc := 42) flX9_47 rfl rfl dX9_count_42 ?_
    exact go_ret dX9_count_45 rii rfl rfl
  refine go_site ?_
  refine go_tswC (pc := 1) (v := 2) (off := 45) 46 dX9_count_1 (by decide) (by decide) (by decide) (fun _ => ?_) (fun n3 => ?_)
  · refine go_aload_n (pc := 46) dX9_count_46 rfl ?_
    refine go_getI (pc := 47) flX9_123 rfl rfl dX9_count_47 ?_
    exact go_ret dX9_count_50 rii rfl rfl
  refine go_site ?_
  refine go_tswC (pc := 1) (v := 3) (off := 50) 51 dX9_count_1 (by decide) (by decide) (by decide) (fun _ => ?_) (fun n4 => ?_)
  · refine go_aload_n (pc := 51) dX9_count_51 rfl ?_
    refine go_getI (pc := 52) flX9_53 rfl rfl dX9_count_52 ?_
    exact go_ret dX9_count_55 rii rfl rfl
  refine go_site ?_
  refine go_tswC (pc := 1) (v := 4) (off := 55) 56 dX9_count_1 (by decide) (by decide) (by decide) (fun _ => ?_) (fun n5 => ?_)
  · refine go_aload_n (pc := 56) dX9_count_56 rfl ?_
    refine go_getI (pc := 57) flX9_184 rfl rfl dX9_count_57 ?_
    exact go_ret dX9_count_60 rii rfl rfl
  refine go_tswD (pc := 1) 61 dX9_count_1 (by have n1t := lv_neT n1 (show (0 : Int32).toInt = 0 by decide); have n2t := lv_neT n2 (show (1 : Int32).toInt = 1 by decide); have n3t := lv_neT n3 (show (2 : Int32).toInt = 2 by decide); have n4t := lv_neT n4 (show (3 : Int32).toInt = 3 by decide); have n5t := lv_neT n5 (show (4 : Int32).toInt = 4 by decide); rcases (show p1.toInt < 0 ∨ 4 < p1.toInt by omega) with h | h <;> first | exact Or.inl h | exact Or.inr (Or.inl h) | exact Or.inr (Or.inr (by rw [h]; decide))) (by decide) ?_
  refine go_bipush (pc := 61) (-2) dX9_count_61 kb_m2 ?_
  exact go_ret dX9_count_63 rii rfl rfl
def f_M_tape_l69 : Nat → Int32 → Int32 → Mem → Option (Int32 × Mem)
  | 0, _, _, _ => none
  | n + 1, v1, v4, M => if 60 ≤ v4 then some (1, M) else gd (inR ((60 * v1) + v4) 360) (lt (setL M 17575180 ((60 * v1) + v4).toNatClampNeg 0) fun M3 => lt (v4 + 1) fun x4 => f_M_tape_l69 n v1 x4 M3)
def f_M_tape_b65 (v1 : Int32) (s0 : Int32) (s1 : Int32) (M : Mem) : Option (Int32 × Mem) := gd (inR s1 6) (lt (setI M 17432779 s1.toNatClampNeg s0) fun M2 => f_M_tape_l69 200 v1 0 M2)
def f_M_tape_b44 (v1 : Int32) (v2 : Int32) (v3 : Int32) (M : Mem) : Option (Int32 × Mem) := gd (inR v1 6) (lt (setI M 17301707 v1.toNatClampNeg v2) fun M1 => if 0 ≤ v2 then f_M_tape_b65 v1 v3 v1 M1 else f_M_tape_b65 v1 0 v1 M1)
def f_M_tape_b33 (v1 : Int32) (v2 : Int32) (v3 : Int32) (M : Mem) : Option (Int32 × Mem) := if v2 < 0 then f_M_tape_b44 v1 v2 v3 M else if 0 ≤ v3 then f_M_tape_b44 v1 v2 v3 M else some ((-14), M)
def f_M_tape (p1 : Int32) (p2 : Int32) (p3 : Int32) (M : Mem) : Option (Int32 × Mem) := if (f_M_isTape p1 M) = 0 then some ((-1), M) else if (f_M_in p2 (-1) 4 M) = 0 then some ((-2), M) else if p2 < 0 then f_M_tape_b33 p1 p2 p3 M else if p3 ≤ 60 then f_M_tape_b33 p1 p2 p3 M else some ((-2), M)
theorem o_M_tape_l69 : ∀ (n : Nat) (v1 : Int32) (v4 : Int32) (M : Mem), Go sRM g_M_tape fWi (f_M_tape_l69 n v1 v4 M) 69 [.ref 12451850, .int v1, .null, .null, .int v4] [] M := by
  intro n
  induction n with
  | zero =>
    intro v1 v4 M
    exact go_def (f_M_tape_l69.eq_1 ..) go_none
  | succ n ih =>
    intro v1 v4 M
    refine go_def (f_M_tape_l69.eq_2 ..) ?_
    refine go_iload (pc := 69) dX9_tape_69 rfl ?_
    refine go_bipush (pc := 71) 60 dX9_tape_71 kb_60 ?_
    refine go_icmpge (pc := 73) 95 dX9_tape_73 (by decide) (fun _ => ?_) (fun _ => ?_)
    · refine go_iconst (pc := 95) 1 dX9_tape_95 ki_1 ?_
      exact go_ret dX9_tape_96 rii rfl rfl
    · refine go_aload_n (pc := 76) dX9_tape_76 rfl ?_
      refine go_getS (pc := 77) 17575180 flX9_196 rfl rfl sM_10_61 (by decide) dX9_tape_77 ?_
      refine go_bipush (pc := 80) 60 dX9_tape_80 kb_60 ?_
      refine go_iload_n (pc := 82) dX9_tape_82 rfl ?_
      refine go_imul (pc := 83) dX9_tape_83 ?_
      refine go_iload (pc := 84) dX9_tape_84 rfl ?_
      refine go_iadd (pc := 86) dX9_tape_86 ?_
      refine go_lconst (pc := 87) 0 dX9_tape_87 (by decide) ?_
      refine go_last (pc := 88) rfl rfl dX9_tape_88 (fun _ M3 => ?_)
      refine go_iincL (pc := 89) (L := fun x4 => [.ref 12451850, .int v1, .null, .null, .int x4]) 1 dX9_tape_89 rfl ki_1 (Nat.le_of_ble_eq_true rfl) rfl (fun _ => rfl) (fun x4 => ?_)
      refine go_goto (pc := 92) 69 dX9_tape_92 (by decide) ?_
      exact ih v1 x4 M3
theorem o_M_tape_b65 (v1 : Int32) (s0 : Int32) (s1 : Int32) (M : Mem) : Go sRM g_M_tape fWi (f_M_tape_b65 v1 s0 s1 M) 65 [.ref 12451850, .int v1, .null, .null, .null] [.int s0, .int s1, .ref 17432779] M := by
  refine go_def (f_M_tape_b65.eq_1 ..) ?_
  refine go_iast (pc := 65) rfl rfl dX9_tape_65 (fun _ M2 => ?_)
  refine go_iconst (pc := 66) 0 dX9_tape_66 ki_0 ?_
  refine go_istore (pc := 67) (ls' := [.ref 12451850, .int v1, .null, .null, .int 0]) dX9_tape_67 (Nat.le_of_ble_eq_true rfl) rfl rfl ?_
  exact o_M_tape_l69 200 v1 0 M2
theorem o_M_tape_b44 (v1 : Int32) (v2 : Int32) (v3 : Int32) (M : Mem) : Go sRM g_M_tape fWi (f_M_tape_b44 v1 v2 v3 M) 44 [.ref 12451850, .int v1, .int v2, .int v3, .null] [] M := by
  refine go_def (f_M_tape_b44.eq_1 ..) ?_
  refine go_aload_n (pc := 44) dX9_tape_44 rfl ?_
  refine go_getS (pc := 45) 17301707 flX9_190 rfl rfl sM_10_59 (by decide) dX9_tape_45 ?_
  refine go_iload_n (pc := 48) dX9_tape_48 rfl ?_
  refine go_iload_n (pc := 49) dX9_tape_49 rfl ?_
  refine go_iast (pc := 50) rfl rfl dX9_tape_50 (fun _ M1 => ?_)
  refine go_aload_n (pc := 51) dX9_tape_51 rfl ?_
  refine go_getS (pc := 52) 17432779 flX9_193 rfl rfl sM_10_60 (by decide) dX9_tape_52 ?_
  refine go_iload_n (pc := 55) dX9_tape_55 rfl ?_
  refine go_iload_n (pc := 56) dX9_tape_56 rfl ?_
  refine go_ifge (pc := 57) 64 dX9_tape_57 (by decide) (fun _ => ?_) (fun _ => ?_)
  · refine go_iload_n (pc := 64) dX9_tape_64 rfl ?_
    refine go_sub (ls' := [.ref 12451850, .int v1, .null, .null, .null]) ⟨Or.inr rfl, Or.inr rfl, Or.inl rfl, Or.inl rfl, Or.inl rfl, trivial⟩ ?_
    exact o_M_tape_b65 v1 v3 v1 M1
  · refine go_iconst (pc := 60) 0 dX9_tape_60 ki_0 ?_
    refine go_goto (pc := 61) 65 dX9_tape_61 (by decide) ?_
    refine go_sub (ls' := [.ref 12451850, .int v1, .null, .null, .null]) ⟨Or.inr rfl, Or.inr rfl, Or.inl rfl, Or.inl rfl, Or.inl rfl, trivial⟩ ?_
    exact o_M_tape_b65 v1 0 v1 M1
theorem o_M_tape_b33 (v1 : Int32) (v2 : Int32) (v3 : Int32) (M : Mem) : Go sRM g_M_tape fWi (f_M_tape_b33 v1 v2 v3 M) 33 [.ref 12451850, .int v1, .int v2, .int v3, .null] [] M := by
  refine go_def (f_M_tape_b33.eq_1 ..) ?_
  refine go_iload_n (pc := 33) dX9_tape_33 rfl ?_
  refine go_iflt (pc := 34) 44 dX9_tape_34 (by decide) (fun _ => ?_) (fun _ => ?_)
  · exact o_M_tape_b44 v1 v2 v3 M
  · refine go_iload_n (pc := 37) dX9_tape_37 rfl ?_
    refine go_ifge (pc := 38) 44 dX9_tape_38 (by decide) (fun _ => ?_) (fun _ => ?_)
    · exact o_M_tape_b44 v1 v2 v3 M
    · refine go_bipush (pc := 41) (-14) dX9_tape_41 kb_m14 ?_
      exact go_ret dX9_tape_43 rii rfl rfl
theorem o_M_tape (p1 : Int32) (p2 : Int32) (p3 : Int32) (M : Mem) : Ct sRM g_M_tape fWi [.ref 12451850, .int p1, .int p2, .int p3] (f_M_tape p1 p2 p3 M) M := by
  refine ⟨Nat.le_of_ble_eq_true rfl, ?_⟩
  show Go sRM g_M_tape fWi (f_M_tape p1 p2 p3 M) 0 [.ref 12451850, .int p1, .int p2, .int p3, .null] [] M
  refine go_def (f_M_tape.eq_1 ..) ?_
  refine go_aload_n (pc := 0) dX9_tape_0 rfl ?_
  refine go_iload_n (pc := 1) dX9_tape_1 rfl ?_
  refine go_T (v := f_M_isTape p1 M) ?_
  refine go_callV (pc := 2) (a := 12451850) (as := [.int p1]) (st := []) (o_M_isTape p1 M) ic_M_isTape ivX9_372 (rcvk (a := 12451850) (t := 10) rfl (by decide) (by decide) rfl) rfl (by decide) (Nat.le_of_ble_eq_true rfl) dX9_tape_2 (kTi ?_)
  refine go_ifne (pc := 5) 10 dX9_tape_5 (by decide) (fun _ => ?_) (fun _ => ?_)
  · refine go_iconst (pc := 8) (-1) dX9_tape_8 ki_m1 ?_
    exact go_ret dX9_tape_9 rii rfl rfl
  · refine go_aload_n (pc := 10) dX9_tape_10 rfl ?_
    refine go_iload_n (pc := 11) dX9_tape_11 rfl ?_
    refine go_iconst (pc := 12) (-1) dX9_tape_12 ki_m1 ?_
    refine go_iconst (pc := 13) 4 dX9_tape_13 ki_4 ?_
    refine go_T (v := f_M_in p2 (-1) 4 M) ?_
    refine go_callV (pc := 14) (a := 12451850) (as := [.int p2, .int (-1), .int 4]) (st := []) (o_M_in p2 (-1) 4 M) ic_M_in ivX9_203 (rcvk (a := 12451850) (t := 10) rfl (by decide) (by decide) rfl) rfl (by decide) (Nat.le_of_ble_eq_true rfl) dX9_tape_14 (kTi ?_)
    refine go_ifeq (pc := 17) 30 dX9_tape_17 (by decide) (fun _ => ?_) (fun _ => ?_)
    · refine go_bipush (pc := 30) (-2) dX9_tape_30 kb_m2 ?_
      exact go_ret dX9_tape_32 rii rfl rfl
    · refine go_iload_n (pc := 20) dX9_tape_20 rfl ?_
      refine go_iflt (pc := 21) 33 dX9_tape_21 (by decide) (fun _ => ?_) (fun _ => ?_)
      · exact o_M_tape_b33 p1 p2 p3 M
      · refine go_iload_n (pc := 24) dX9_tape_24 rfl ?_
        refine go_bipush (pc := 25) 60 dX9_tape_25 kb_60 ?_
        refine go_icmple (pc := 27) 33 dX9_tape_27 (by decide) (fun _ => ?_) (fun _ => ?_)
        · exact o_M_tape_b33 p1 p2 p3 M
        · refine go_bipush (pc := 30) (-2) dX9_tape_30 kb_m2 ?_
          exact go_ret dX9_tape_32 rii rfl rfl
def f_M_narrow (p1 : Int32) (p2 : Int64) (M : Mem) : Int64 := if p1 = 0 then p2.toInt32.toInt8.toInt32.toInt64 else if p1 = 1 then p2.toInt32.toInt16.toInt32.toInt64 else if p1 = 2 then p2.toInt32.toInt64 else if p1 = 4 then if (lg_cmp p2 0) = 0 then 0 else 1 else p2
theorem o_M_narrow (p1 : Int32) (p2 : Int64) (M : Mem) : Ct sRM g_M_narrow (fRl M) [.ref 12451850, .int p1, .long p2] (some (f_M_narrow p1 p2 M)) M := by
  refine ⟨Nat.le_of_ble_eq_true rfl, ?_⟩
  show Go sRM g_M_narrow (fRl M) (some (f_M_narrow p1 p2 M)) 0 [.ref 12451850, .int p1, .long p2, .null] [] M
  refine go_def (congrArg some (f_M_narrow.eq_1 ..)) ?_
  refine go_iload_n (pc := 0) dX9_narrow_0 rfl ?_
  refine go_site ?_
  refine go_ifne (pc := 1) 11 dX9_narrow_1 (by decide) (fun _ => ?_) (fun _ => ?_)
  · refine go_lload_n (pc := 4) dX9_narrow_4 rfl ?_
    refine go_l2i (pc := 5) dX9_narrow_5 ?_
    refine go_i2b (pc := 6) dX9_narrow_6 ?_
    refine go_i2l (pc := 7) dX9_narrow_7 ?_
    refine go_goto (pc := 8) 54 dX9_narrow_8 (by decide) ?_
    exact go_ret dX9_narrow_54 rfl rfl rfl
  · refine go_iload_n (pc := 11) dX9_narrow_11 rfl ?_
    refine go_iconst (pc := 12) 1 dX9_narrow_12 ki_1 ?_
    refine go_site ?_
    refine go_icmpne (pc := 13) 23 dX9_narrow_13 (by decide) (fun _ => ?_) (fun _ => ?_)
    · refine go_lload_n (pc := 16) dX9_narrow_16 rfl ?_
      refine go_l2i (pc := 17) dX9_narrow_17 ?_
      refine go_i2s (pc := 18) dX9_narrow_18 ?_
      refine go_i2l (pc := 19) dX9_narrow_19 ?_
      refine go_goto (pc := 20) 54 dX9_narrow_20 (by decide) ?_
      exact go_ret dX9_narrow_54 rfl rfl rfl
    · refine go_iload_n (pc := 23) dX9_narrow_23 rfl ?_
      refine go_iconst (pc := 24) 2 dX9_narrow_24 ki_2 ?_
      refine go_site ?_
      refine go_icmpne (pc := 25) 34 dX9_narrow_25 (by decide) (fun _ => ?_) (fun _ => ?_)
      · refine go_lload_n (pc := 28) dX9_narrow_28 rfl ?_
        refine go_l2i (pc := 29) dX9_narrow_29 ?_
        refine go_i2l (pc := 30) dX9_narrow_30 ?_
        refine go_goto (pc := 31) 54 dX9_narrow_31 (by decide) ?_
        exact go_ret dX9_narrow_54 rfl rfl rfl
      · refine go_iload_n (pc := 34) dX9_narrow_34 rfl ?_
        refine go_iconst (pc := 35) 4 dX9_narrow_35 ki_4 ?_
        refine go_site ?_
        refine go_icmpne (pc := 36) 53 dX9_narrow_36 (by decide) (fun _ => ?_) (fun _ => ?_)
        · refine go_lload_n (pc := 39) dX9_narrow_39 rfl ?_
          refine go_lconst (pc := 40) 0 dX9_narrow_40 (by decide) ?_
          refine go_lcmp (pc := 41) dX9_narrow_41 ?_
          refine go_site ?_
          refine go_ifeq (pc := 42) 49 dX9_narrow_42 (by decide) (fun _ => ?_) (fun _ => ?_)
          · refine go_lconst (pc := 49) 0 dX9_narrow_49 (by decide) ?_
            refine go_goto (pc := 50) 54 dX9_narrow_50 (by decide) ?_
            exact go_ret dX9_narrow_54 rfl rfl rfl
          · refine go_lconst (pc := 45) 1 dX9_narrow_45 (by decide) ?_
            refine go_goto (pc := 46) 54 dX9_narrow_46 (by decide) ?_
            exact go_ret dX9_narrow_54 rfl rfl rfl
        · refine go_lload_n (pc := 53) dX9_narrow_53 rfl ?_
          exact go_ret dX9_narrow_54 rfl rfl rfl
def f_M_item (p1 : Int32) (p2 : Int32) (p3 : Int64) (M : Mem) : Option (Int32 × Mem) := if (f_M_isTape p1 M) = 0 then some ((-1), M) else gd (inR p1 6) (if 0 ≤ (mI M 17301707 p1.toNatClampNeg) then gd (inR p1 6) (if (f_M_in p2 0 ((mI M 17432779 p1.toNatClampNeg) - 1) M) = 0 then some ((-13), M) else gd (inR p1 6) (gd (inR ((60 * p1) + p2) 360) (lt (setL M 17575180 ((60 * p1) + p2).toNatClampNeg (f_M_narrow (mI M 17301707 p1.toNatClampNeg) p3 M)) fun M1 => some (1, M1)))) else some ((-11), M))
theorem o_M_item (p1 : Int32) (p2 : Int32) (p3 : Int64) (M : Mem) : Ct sRM g_M_item fWi [.ref 12451850, .int p1, .int p2, .long p3] (f_M_item p1 p2 p3 M) M := by
  refine ⟨Nat.le_of_ble_eq_true rfl, ?_⟩
  show Go sRM g_M_item fWi (f_M_item p1 p2 p3 M) 0 [.ref 12451850, .int p1, .int p2, .long p3, .null] [] M
  refine go_def (f_M_item.eq_1 ..) ?_
  refine go_aload_n (pc := 0) dX9_item_0 rfl ?_
  refine go_iload_n (pc := 1) dX9_item_1 rfl ?_
  refine go_T (v := f_M_isTape p1 M) ?_
  refine go_callV (pc := 2) (a := 12451850) (as := [.int p1]) (st := []) (o_M_isTape p1 M) ic_M_isTape ivX9_372 (rcvk (a := 12451850) (t := 10) rfl (by decide) (by decide) rfl) rfl (by decide) (Nat.le_of_ble_eq_true rfl) dX9_item_2 (kTi ?_)
  refine go_ifne (pc := 5) 10 dX9_item_5 (by decide) (fun _ => ?_) (fun _ => ?_)
  · refine go_iconst (pc := 8) (-1) dX9_item_8 ki_m1 ?_
    exact go_ret dX9_item_9 rii rfl rfl
  · refine go_aload_n (pc := 10) dX9_item_10 rfl ?_
    refine go_getS (pc := 11) 17301707 flX9_190 rfl rfl sM_10_59 (by decide) dX9_item_11 ?_
    refine go_iload_n (pc := 14) dX9_item_14 rfl ?_
    refine go_iald (pc := 15) rfl rfl dX9_item_15 (fun _ => ?_)
    refine go_ifge (pc := 16) 22 dX9_item_16 (by decide) (fun _ => ?_) (fun _ => ?_)
    · refine go_aload_n (pc := 22) dX9_item_22 rfl ?_
      refine go_iload_n (pc := 23) dX9_item_23 rfl ?_
      refine go_iconst (pc := 24) 0 dX9_item_24 ki_0 ?_
      refine go_aload_n (pc := 25) dX9_item_25 rfl ?_
      refine go_getS (pc := 26) 17432779 flX9_193 rfl rfl sM_10_60 (by decide) dX9_item_26 ?_
      refine go_iload_n (pc := 29) dX9_item_29 rfl ?_
      refine go_iald (pc := 30) rfl rfl dX9_item_30 (fun _ => ?_)
      refine go_iconst (pc := 31) 1 dX9_item_31 ki_1 ?_
      refine go_isub (pc := 32) dX9_item_32 ?_
      refine go_T (v := f_M_in p2 0 ((mI M 17432779 p1.toNatClampNeg) - 1) M) ?_
      refine go_callV (pc := 33) (a := 12451850) (as := [.int p2, .int 0, .int ((mI M 17432779 p1.toNatClampNeg) - 1)]) (st := []) (o_M_in p2 0 ((mI M 17432779 p1.toNatClampNeg) - 1) M) ic_M_in ivX9_203 (rcvk (a := 12451850) (t := 10) rfl (by decide) (by decide) rfl) rfl (by decide) (Nat.le_of_ble_eq_true rfl) dX9_item_33 (kTi ?_)
      refine go_ifne (pc := 36) 42 dX9_item_36 (by decide) (fun _ => ?_) (fun _ => ?_)
      · refine go_bipush (pc := 39) (-13) dX9_item_39 kb_m13 ?_
        exact go_ret dX9_item_41 rii rfl rfl
      · refine go_aload_n (pc := 42) dX9_item_42 rfl ?_
        refine go_getS (pc := 43) 17575180 flX9_196 rfl rfl sM_10_61 (by decide) dX9_item_43 ?_
        refine go_bipush (pc := 46) 60 dX9_item_46 kb_60 ?_
        refine go_iload_n (pc := 48) dX9_item_48 rfl ?_
        refine go_imul (pc := 49) dX9_item_49 ?_
        refine go_iload_n (pc := 50) dX9_item_50 rfl ?_
        refine go_iadd (pc := 51) dX9_item_51 ?_
        refine go_aload_n (pc := 52) dX9_item_52 rfl ?_
        refine go_aload_n (pc := 53) dX9_item_53 rfl ?_
        refine go_getS (pc := 54) 17301707 flX9_190 rfl rfl sM_10_59 (by decide) dX9_item_54 ?_
        refine go_iload_n (pc := 57) dX9_item_57 rfl ?_
        refine go_iald (pc := 58) rfl rfl dX9_item_58 (fun _ => ?_)
        refine go_lload_n (pc := 59) dX9_item_59 rfl ?_
        refine go_T (v := f_M_narrow (mI M 17301707 p1.toNatClampNeg) p3 M) ?_
        refine go_callV (pc := 60) (a := 12451850) (as := [.int (mI M 17301707 p1.toNatClampNeg), .long p3]) (st := [.int ((60 * p1) + p2), .ref 17575180]) (o_M_narrow (mI M 17301707 p1.toNatClampNeg) p3 M) ic_M_narrow ivX9_399 (rcvk (a := 12451850) (t := 10) rfl (by decide) (by decide) rfl) rfl (by decide) (Nat.le_of_ble_eq_true rfl) dX9_item_60 (kTl ?_)
        refine go_last (pc := 63) rfl rfl dX9_item_63 (fun _ M1 => ?_)
        refine go_iconst (pc := 64) 1 dX9_item_64 ki_1 ?_
        exact go_ret dX9_item_65 rii rfl rfl
    · refine go_bipush (pc := 19) (-11) dX9_item_19 kb_m11 ?_
      exact go_ret dX9_item_21 rii rfl rfl
def f_M_read (p1 : Int32) (p2 : Int32) (M : Mem) : Option Int64 := if (f_M_isTape p1 M) = 0 then some (-9223372036854775808) else gd (inR p1 6) (if (mI M 17301707 p1.toNatClampNeg) < 0 then some (-9223372036854775808) else gd (inR p1 6) (if (f_M_in p2 0 ((mI M 17432779 p1.toNatClampNeg) - 1) M) = 0 then some (-9223372036854775808) else gd (inR ((60 * p1) + p2) 360) (some (mL M 17575180 ((60 * p1) + p2).toNatClampNeg))))
theorem o_M_read (p1 : Int32) (p2 : Int32) (M : Mem) : Ct sRM g_M_read (fRl M) [.ref 12451850, .int p1, .int p2] (f_M_read p1 p2 M) M := by
  refine ⟨Nat.le_of_ble_eq_true rfl, ?_⟩
  show Go sRM g_M_read (fRl M) (f_M_read p1 p2 M) 0 [.ref 12451850, .int p1, .int p2] [] M
  refine go_def (f_M_read.eq_1 ..) ?_
  refine go_aload_n (pc := 0) dX9_read_0 rfl ?_
  refine go_iload_n (pc := 1) dX9_read_1 rfl ?_
  refine go_T (v := f_M_isTape p1 M) ?_
  refine go_callV (pc := 2) (a := 12451850) (as := [.int p1]) (st := []) (o_M_isTape p1 M) ic_M_isTape ivX9_372 (rcvk (a := 12451850) (t := 10) rfl (by decide) (by decide) rfl) rfl (by decide) (Nat.le_of_ble_eq_true rfl) dX9_read_2 (kTi ?_)
  refine go_ifeq (pc := 5) 34 dX9_read_5 (by decide) (fun _ => ?_) (fun _ => ?_)
  · refine go_ldc2 (pc := 34) (v := (-9223372036854775808)) (gT_of (mtb6 (mt64 (mt64 (mt16 (mt1 (mt1 (mt1 (List.Mem.head _)))))))) rfl) dX9_read_34 ?_
    refine go_goto (pc := 37) 51 dX9_read_37 (by decide) ?_
    exact go_ret dX9_read_51 rfl rfl rfl
  · refine go_aload_n (pc := 8) dX9_read_8 rfl ?_
    refine go_getS (pc := 9) 17301707 flX9_190 rfl rfl sM_10_59 (by decide) dX9_read_9 ?_
    refine go_iload_n (pc := 12) dX9_read_12 rfl ?_
    refine go_iald (pc := 13) rfl rfl dX9_read_13 (fun _ => ?_)
    refine go_iflt (pc := 14) 34 dX9_read_14 (by decide) (fun _ => ?_) (fun _ => ?_)
    · refine go_ldc2 (pc := 34) (v := (-9223372036854775808)) (gT_of (mtb6 (mt64 (mt64 (mt16 (mt1 (mt1 (mt1 (List.Mem.head _)))))))) rfl) dX9_read_34 ?_
      refine go_goto (pc := 37) 51 dX9_read_37 (by decide) ?_
      exact go_ret dX9_read_51 rfl rfl rfl
    · refine go_aload_n (pc := 17) dX9_read_17 rfl ?_
      refine go_iload_n (pc := 18) dX9_read_18 rfl ?_
      refine go_iconst (pc := 19) 0 dX9_read_19 ki_0 ?_
      refine go_aload_n (pc := 20) dX9_read_20 rfl ?_
      refine go_getS (pc := 21) 17432779 flX9_193 rfl rfl sM_10_60 (by decide) dX9_read_21 ?_
      refine go_iload_n (pc := 24) dX9_read_24 rfl ?_
      refine go_iald (pc := 25) rfl rfl dX9_read_25 (fun _ => ?_)
      refine go_iconst (pc := 26) 1 dX9_read_26 ki_1 ?_
      refine go_isub (pc := 27) dX9_read_27 ?_
      refine go_T (v := f_M_in p2 0 ((mI M 17432779 p1.toNatClampNeg) - 1) M) ?_
      refine go_callV (pc := 28) (a := 12451850) (as := [.int p2, .int 0, .int ((mI M 17432779 p1.toNatClampNeg) - 1)]) (st := []) (o_M_in p2 0 ((mI M 17432779 p1.toNatClampNeg) - 1) M) ic_M_in ivX9_203 (rcvk (a := 12451850) (t := 10) rfl (by decide) (by decide) rfl) rfl (by decide) (Nat.le_of_ble_eq_true rfl) dX9_read_28 (kTi ?_)
      refine go_ifne (pc := 31) 40 dX9_read_31 (by decide) (fun _ => ?_) (fun _ => ?_)
      · refine go_ldc2 (pc := 34) (v := (-9223372036854775808)) (gT_of (mtb6 (mt64 (mt64 (mt16 (mt1 (mt1 (mt1 (List.Mem.head _)))))))) rfl) dX9_read_34 ?_
        refine go_goto (pc := 37) 51 dX9_read_37 (by decide) ?_
        exact go_ret dX9_read_51 rfl rfl rfl
      · refine go_aload_n (pc := 40) dX9_read_40 rfl ?_
        refine go_getS (pc := 41) 17575180 flX9_196 rfl rfl sM_10_61 (by decide) dX9_read_41 ?_
        refine go_bipush (pc := 44) 60 dX9_read_44 kb_60 ?_
        refine go_iload_n (pc := 46) dX9_read_46 rfl ?_
        refine go_imul (pc := 47) dX9_read_47 ?_
        refine go_iload_n (pc := 48) dX9_read_48 rfl ?_
        refine go_iadd (pc := 49) dX9_read_49 ?_
        refine go_lald (pc := 50) rfl rfl dX9_read_50 (fun _ => ?_)
        exact go_ret dX9_read_51 rfl rfl rfl
def f_M_shift_l141 : Nat → Int32 → Int32 → Int32 → Int32 → Mem → Option (Int32 × Mem)
  | 0, _, _, _, _, _ => none
  | n + 1, v3, v4, v5, v6, M => if v5 ≤ v6 then some (v5, M) else gd (inR v6 60) (gd (inR (((60 * v3) + v4) + v6) 360) (lt (setL M 17575180 (((60 * v3) + v4) + v6).toNatClampNeg (mL M 17696652 v6.toNatClampNeg)) fun M3 => lt (v6 + 1) fun x4 => f_M_shift_l141 n v3 v4 v5 x4 M3))
def f_M_shift_l104 : Nat → Int32 → Int32 → Int32 → Int32 → Int32 → Int32 → Mem → Option (Int32 × Mem)
  | 0, _, _, _, _, _, _, _ => none
  | n + 1, v1, v2, v3, v4, v5, v6, M => if v5 ≤ v6 then f_M_shift_l141 200 v3 v4 v5 0 M else gd (inR (((60 * v1) + v2) + v6) 360) (gd (inR v6 60) (lt (setL M 17696652 v6.toNatClampNeg (mL M 17575180 (((60 * v1) + v2) + v6).toNatClampNeg)) fun M1 => lt (v6 + 1) fun x2 => f_M_shift_l104 n v1 v2 v3 v4 v5 x2 M1))
def f_M_shift (p1 : Int32) (p2 : Int32) (p3 : Int32) (p4 : Int32) (p5 : Int32) (M : Mem) : Option (Int32 × Mem) := if (f_M_isTape p1 M) = 0 then some ((-1), M) else if (f_M_isTape p3 M) = 0 then some ((-1), M) else gd (inR p1 6) (if (mI M 17301707 p1.toNatClampNeg) < 0 then some ((-11), M) else gd (inR p3 6) (if 0 ≤ (mI M 17301707 p3.toNatClampNeg) then gd (inR p1 6) (gd (inR p3 6) (if (mI M 17301707 p1.toNatClampNeg) = (mI M 17301707 p3.toNatClampNeg) then if p5 < 0 then some ((-13), M) else if p2 < 0 then some ((-13), M) else if p4 < 0 then some ((-13), M) else gd (inR p1 6) (if ((mI M 17432779 p1.toNatClampNeg) - p5) < p2 then some ((-13), M) else gd (inR p3 6) (if p4 ≤ ((mI M 17432779 p3.toNatClampNeg) - p5) then f_M_shift_l104 200 p1 p2 p3 p4 p5 0 M else some ((-13), M))) else some ((-12), M))) else some ((-11), M)))
theorem o_M_shift_l141 : ∀ (n : Nat) (v3 : Int32) (v4 : Int32) (v5 : Int32) (v6 : Int32) (M : Mem), Go sRM g_M_shift fWi (f_M_shift_l141 n v3 v4 v5 v6 M) 141 [.ref 12451850, .null, .null, .int v3, .int v4, .int v5, .int v6] [] M := by
  intro n
  induction n with
  | zero =>
    intro v3 v4 v5 v6 M
    exact go_def (f_M_shift_l141.eq_1 ..) go_none
  | succ n ih =>
    intro v3 v4 v5 v6 M
    refine go_def (f_M_shift_l141.eq_2 ..) ?_
    refine go_iload (pc := 141) dX9_shift_141 rfl ?_
    refine go_iload (pc := 143) dX9_shift_143 rfl ?_
    refine go_icmpge (pc := 145) 176 dX9_shift_145 (by decide) (fun _ => ?_) (fun _ => ?_)
    · refine go_iload (pc := 176) dX9_shift_176 rfl ?_
      exact go_ret dX9_shift_178 rii rfl rfl
    · refine go_aload_n (pc := 148) dX9_shift_148 rfl ?_
      refine go_getS (pc := 149) 17575180 flX9_196 rfl rfl sM_10_61 (by decide) dX9_shift_149 ?_
      refine go_bipush (pc := 152) 60 dX9_shift_152 kb_60 ?_
      refine go_iload_n (pc := 154) dX9_shift_154 rfl ?_
      refine go_imul (pc := 155) dX9_shift_155 ?_
      refine go_iload (pc := 156) dX9_shift_156 rfl ?_
      refine go_iadd (pc := 158) dX9_shift_158 ?_
      refine go_iload (pc := 159) dX9_shift_159 rfl ?_
      refine go_iadd (pc := 161) dX9_shift_161 ?_
      refine go_aload_n (pc := 162) dX9_shift_162 rfl ?_
      refine go_getS (pc := 163) 17696652 flX9_200 rfl rfl sM_10_62 (by decide) dX9_shift_163 ?_
      refine go_iload (pc := 166) dX9_shift_166 rfl ?_
      refine go_lald (pc := 168) rfl rfl dX9_shift_168 (fun _ => ?_)
      refine go_last (pc := 169) rfl rfl dX9_shift_169 (fun _ M3 => ?_)
      refine go_iincL (pc := 170) (L := fun x4 => [.ref 12451850, .null, .null, .int v3, .int v4, .int v5, .int x4]) 1 dX9_shift_170 rfl ki_1 (Nat.le_of_ble_eq_true rfl) rfl (fun _ => rfl) (fun x4 => ?_)
      refine go_goto (pc := 173) 141 dX9_shift_173 (by decide) ?_
      exact ih v3 v4 v5 x4 M3
theorem o_M_shift_l104 : ∀ (n : Nat) (v1 : Int32) (v2 : Int32) (v3 : Int32) (v4 : Int32) (v5 : Int32) (v6 : Int32) (M : Mem), Go sRM g_M_shift fWi (f_M_shift_l104 n v1 v2 v3 v4 v5 v6 M) 104 [.ref 12451850, .int v1, .int v2, .int v3, .int v4, .int v5, .int v6] [] M := by
  intro n
  induction n with
  | zero =>
    intro v1 v2 v3 v4 v5 v6 M
    exact go_def (f_M_shift_l104.eq_1 ..) go_none
  | succ n ih =>
    intro v1 v2 v3 v4 v5 v6 M
    refine go_def (f_M_shift_l104.eq_2 ..) ?_
    refine go_iload (pc := 104) dX9_shift_104 rfl ?_
    refine go_iload (pc := 106) dX9_shift_106 rfl ?_
    refine go_icmpge (pc := 108) 138 dX9_shift_108 (by decide) (fun _ => ?_) (fun _ => ?_)
    · refine go_iconst (pc := 138) 0 dX9_shift_138 ki_0 ?_
      refine go_istore (pc := 139) (ls' := [.ref 12451850, .int v1, .int v2, .int v3, .int v4, .int v5, .int 0]) dX9_shift_139 (Nat.le_of_ble_eq_true rfl) rfl rfl ?_
      refine go_sub (ls' := [.ref 12451850, .null, .null, .int v3, .int v4, .int v5, .int 0]) ⟨Or.inr rfl, Or.inl rfl, Or.inl rfl, Or.inr rfl, Or.inr rfl, Or.inr rfl, Or.inr rfl, trivial⟩ ?_
      exact o_M_shift_l141 200 v3 v4 v5 0 M
    · refine go_aload_n (pc := 111) dX9_shift_111 rfl ?_
      refine go_getS (pc := 112) 17696652 flX9_200 rfl rfl sM_10_62 (by decide) dX9_shift_112 ?_
      refine go_iload (pc := 115) dX9_shift_115 rfl ?_
      refine go_aload_n (pc := 117) dX9_shift_117 rfl ?_
      refine go_getS (pc := 118) 17575180 flX9_196 rfl rfl sM_10_61 (by decide) dX9_shift_118 ?_
      refine go_bipush (pc := 121) 60 dX9_shift_121 kb_60 ?_
      refine go_iload_n (pc := 123) dX9_shift_123 rfl ?_
      refine go_imul (pc := 124) dX9_shift_124 ?_
      refine go_iload_n (pc := 125) dX9_shift_125 rfl ?_
      refine go_iadd (pc := 126) dX9_shift_126 ?_
      refine go_iload (pc := 127) dX9_shift_127 rfl ?_
      refine go_iadd (pc := 129) dX9_shift_129 ?_
      refine go_lald (pc := 130) rfl rfl dX9_shift_130 (fun _ => ?_)
      refine go_last (pc := 131) rfl rfl dX9_shift_131 (fun _ M1 => ?_)
      refine go_iincL (pc := 132) (L := fun x2 => [.ref 12451850, .int v1, .int v2, .int v3, .int v4, .int v5, .int x2]) 1 dX9_shift_132 rfl ki_1 (Nat.le_of_ble_eq_true rfl) rfl (fun _ => rfl) (fun x2 => ?_)
      refine go_goto (pc := 135) 104 dX9_shift_135 (by decide) ?_
      exact ih v1 v2 v3 v4 v5 x2 M1
theorem o_M_shift (p1 : Int32) (p2 : Int32) (p3 : Int32) (p4 : Int32) (p5 : Int32) (M : Mem) : Ct sRM g_M_shift fWi [.ref 12451850, .int p1, .int p2, .int p3, .int p4, .int p5] (f_M_shift p1 p2 p3 p4 p5 M) M := by
  refine ⟨Nat.le_of_ble_eq_true rfl, ?_⟩
  show Go sRM g_M_shift fWi (f_M_shift p1 p2 p3 p4 p5 M) 0 [.ref 12451850, .int p1, .int p2, .int p3, .int p4, .int p5, .null] [] M
  refine go_def (f_M_shift.eq_1 ..) ?_
  refine go_aload_n (pc := 0) dX9_shift_0 rfl ?_
  refine go_iload_n (pc := 1) dX9_shift_1 rfl ?_
  refine go_T (v := f_M_isTape p1 M) ?_
  refine go_callV (pc := 2) (a := 12451850) (as := [.int p1]) (st := []) (o_M_isTape p1 M) ic_M_isTape ivX9_372 (rcvk (a := 12451850) (t := 10) rfl (by decide) (by decide) rfl) rfl (by decide) (Nat.le_of_ble_eq_true rfl) dX9_shift_2 (kTi ?_)
  refine go_ifeq (pc := 5) 16 dX9_shift_5 (by decide) (fun _ => ?_) (fun _ => ?_)
  · refine go_iconst (pc := 16) (-1) dX9_shift_16 ki_m1 ?_
    exact go_ret dX9_shift_17 rii rfl rfl
  · refine go_aload_n (pc := 8) dX9_shift_8 rfl ?_
    refine go_iload_n (pc := 9) dX9_shift_9 rfl ?_
    refine go_T (v := f_M_isTape p3 M) ?_
    refine go_callV (pc := 10) (a := 12451850) (as := [.int p3]) (st := []) (o_M_isTape p3 M) ic_M_isTape ivX9_372 (rcvk (a := 12451850) (t := 10) rfl (by decide) (by decide) rfl) rfl (by decide) (Nat.le_of_ble_eq_true rfl) dX9_shift_10 (kTi ?_)
    refine go_ifne (pc := 13) 18 dX9_shift_13 (by decide) (fun _ => ?_) (fun _ => ?_)
    · refine go_iconst (pc := 16) (-1) dX9_shift_16 ki_m1 ?_
      exact go_ret dX9_shift_17 rii rfl rfl
    · refine go_aload_n (pc := 18) dX9_shift_18 rfl ?_
      refine go_getS (pc := 19) 17301707 flX9_190 rfl rfl sM_10_59 (by decide) dX9_shift_19 ?_
      refine go_iload_n (pc := 22) dX9_shift_22 rfl ?_
      refine go_iald (pc := 23) rfl rfl dX9_shift_23 (fun _ => ?_)
      refine go_iflt (pc := 24) 36 dX9_shift_24 (by decide) (fun _ => ?_) (fun _ => ?_)
      · refine go_bipush (pc := 36) (-11) dX9_shift_36 kb_m11 ?_
        exact go_ret dX9_shift_38 rii rfl rfl
      · refine go_aload_n (pc := 27) dX9_shift_27 rfl ?_
        refine go_getS (pc := 28) 17301707 flX9_190 rfl rfl sM_10_59 (by decide) dX9_shift_28 ?_
        refine go_iload_n (pc := 31) dX9_shift_31 rfl ?_
        refine go_iald (pc := 32) rfl rfl dX9_shift_32 (fun _ => ?_)
        refine go_ifge (pc := 33) 39 dX9_shift_33 (by decide) (fun _ => ?_) (fun _ => ?_)
        · refine go_aload_n (pc := 39) dX9_shift_39 rfl ?_
          refine go_getS (pc := 40) 17301707 flX9_190 rfl rfl sM_10_59 (by decide) dX9_shift_40 ?_
          refine go_iload_n (pc := 43) dX9_shift_43 rfl ?_
          refine go_iald (pc := 44) rfl rfl dX9_shift_44 (fun _ => ?_)
          refine go_aload_n (pc := 45) dX9_shift_45 rfl ?_
          refine go_getS (pc := 46) 17301707 flX9_190 rfl rfl sM_10_59 (by decide) dX9_shift_46 ?_
          refine go_iload_n (pc := 49) dX9_shift_49 rfl ?_
          refine go_iald (pc := 50) rfl rfl dX9_shift_50 (fun _ => ?_)
          refine go_icmpeq (pc := 51) 57 dX9_shift_51 (by decide) (fun _ => ?_) (fun _ => ?_)
          · refine go_iload (pc := 57) dX9_shift_57 rfl ?_
            refine go_iflt (pc := 59) 98 dX9_shift_59 (by decide) (fun _ => ?_) (fun _ => ?_)
            · refine go_bipush (pc := 98) (-13) dX9_shift_98 kb_m13 ?_
              exact go_ret dX9_shift_100 rii rfl rfl
            · refine go_iload_n (pc := 62) dX9_shift_62 rfl ?_
              refine go_iflt (pc := 63) 98 dX9_shift_63 (by decide) (fun _ => ?_) (fun _ => ?_)
              · refine go_bipush (pc := 98) (-13) dX9_shift_98 kb_m13 ?_
                exact go_ret dX9_shift_100 rii rfl rfl
              · refine go_iload (pc := 66) dX9_shift_66 rfl ?_
                refine go_iflt (pc := 68) 98 dX9_shift_68 (by decide) (fun _ => ?_) (fun _ => ?_)
                · refine go_bipush (pc := 98) (-13) dX9_shift_98 kb_m13 ?_
                  exact go_ret dX9_shift_100 rii rfl rfl
                · refine go_iload_n (pc := 71) dX9_shift_71 rfl ?_
                  refine go_aload_n (pc := 72) dX9_shift_72 rfl ?_
                  refine go_getS (pc := 73) 17432779 flX9_193 rfl rfl sM_10_60 (by decide) dX9_shift_73 ?_
                  refine go_iload_n (pc := 76) dX9_shift_76 rfl ?_
                  refine go_iald (pc := 77) rfl rfl dX9_shift_77 (fun _ => ?_)
                  refine go_iload (pc := 78) dX9_shift_78 rfl ?_
                  refine go_isub (pc := 80) dX9_shift_80 ?_
                  refine go_icmpgt (pc := 81) 98 dX9_shift_81 (by decide) (fun _ => ?_) (fun _ => ?_)
                  · refine go_bipush (pc := 98) (-13) dX9_shift_98 kb_m13 ?_
                    exact go_ret dX9_shift_100 rii rfl rfl
                  · refine go_iload (pc := 84) dX9_shift_84 rfl ?_
                    refine go_aload_n (pc := 86) dX9_shift_86 rfl ?_
                    refine go_getS (pc := 87) 17432779 flX9_193 rfl rfl sM_10_60 (by decide) dX9_shift_87 ?_
                    refine go_iload_n (pc := 90) dX9_shift_90 rfl ?_
                    refine go_iald (pc := 91) rfl rfl dX9_shift_91 (fun _ => ?_)
                    refine go_iload (pc := 92) dX9_shift_92 rfl ?_
                    refine go_isub (pc := 94) dX9_shift_94 ?_
                    refine go_icmple (pc := 95) 101 dX9_shift_95 (by decide) (fun _ => ?_) (fun _ => ?_)
                    · refine go_iconst (pc := 101) 0 dX9_shift_101 ki_0 ?_
                      refine go_istore (pc := 102) (ls' := [.ref 12451850, .int p1, .int p2, .int p3, .int p4, .int p5, .int 0]) dX9_shift_102 (Nat.le_of_ble_eq_true rfl) rfl rfl ?_
                      exact o_M_shift_l104 200 p1 p2 p3 p4 p5 0 M
                    · refine go_bipush (pc := 98) (-13) dX9_shift_98 kb_m13 ?_
                      exact go_ret dX9_shift_100 rii rfl rfl
          · refine go_bipush (pc := 54) (-12) dX9_shift_54 kb_m12 ?_
            exact go_ret dX9_shift_56 rii rfl rfl
        · refine go_bipush (pc := 36) (-11) dX9_shift_36 kb_m11 ?_
          exact go_ret dX9_shift_38 rii rfl rfl
