/-! functions read off the bytecode, and that the code runs so (written by program) -/
def f_M_holds_l10 : Nat → Int32 → Int32 → Int32 → Int32 → Mem → Option (Int32 × Mem)
  | 0, _, _, _, _, _ => none
  | n + 1, v1, v2, v3, v4, M => gd (inR v1 60) (if (mI M 14419851 v1.toNatClampNeg) ≤ v4 then gd (mI M 14945421 0 = 0 ∨ mI M 14945421 0 = 1) (some (mI M 14945421 0, M)) else gd (inR v4 600) (lt (mI M 14568203 v4.toNatClampNeg) fun x3 => if x3 = (-33) then gd (inR (v3 - 1) 100) (if (mI M 14945421 (v3 - 1).toNatClampNeg) = 0 then gd (inR (v3 - 1) 100) (lt (setI M 14945421 (v3 - 1).toNatClampNeg (zN 1)) fun M39 => lt (v4 + 1) fun x40 => f_M_holds_l10 n v1 v2 v3 x40 M39) else gd (inR (v3 - 1) 100) (lt (setI M 14945421 (v3 - 1).toNatClampNeg (zN 0)) fun M37 => lt (v4 + 1) fun x38 => f_M_holds_l10 n v1 v2 v3 x38 M37)) else if 0 ≤ x3 then bd (f_M_factOf (x3 / 1000) v2 M) fun r4 => lt ((x3 / 100) - (x3 / 100) / 10 * 10) fun x5 => if x5 = 0 then if (x3 - x3 / 100 * 100) ≤ r4 then gd (inR v3 100) (lt (setI M 14945421 v3.toNatClampNeg (zN 0)) fun M18 => lt (v3 + 1) fun x19 => lt (v4 + 1) fun x20 => f_M_holds_l10 n v1 v2 x19 x20 M18) else gd (inR v3 100) (lt (setI M 14945421 v3.toNatClampNeg (zN 1)) fun M21 => lt (v3 + 1) fun x22 => lt (v4 + 1) fun x23 => f_M_holds_l10 n v1 v2 x22 x23 M21) else if x5 = 1 then if r4 = (x3 - x3 / 100 * 100) then gd (inR v3 100) (lt (setI M 14945421 v3.toNatClampNeg (zN 1)) fun M15 => lt (v3 + 1) fun x16 => lt (v4 + 1) fun x17 => f_M_holds_l10 n v1 v2 x16 x17 M15) else gd (inR v3 100) (lt (setI M 14945421 v3.toNatClampNeg (zN 0)) fun M12 => lt (v3 + 1) fun x13 => lt (v4 + 1) fun x14 => f_M_holds_l10 n v1 v2 x13 x14 M12) else if r4 ≤ (x3 - x3 / 100 * 100) then gd (inR v3 100) (lt (setI M 14945421 v3.toNatClampNeg (zN 0)) fun M6 => lt (v3 + 1) fun x7 => lt (v4 + 1) fun x8 => f_M_holds_l10 n v1 v2 x7 x8 M6) else gd (inR v3 100) (lt (setI M 14945421 v3.toNatClampNeg (zN 1)) fun M9 => lt (v3 + 1) fun x10 => lt (v4 + 1) fun x11 => f_M_holds_l10 n v1 v2 x10 x11 M9) else lt (v3 + (-1)) fun x24 => if x3 = (-38) then gd (inR (x24 - 1) 100) (if (mI M 14945421 (x24 - 1).toNatClampNeg) = 0 then gd (inR (x24 - 1) 100) (lt (setI M 14945421 (x24 - 1).toNatClampNeg (zN 0)) fun M31 => lt (v4 + 1) fun x32 => f_M_holds_l10 n v1 v2 x24 x32 M31) else gd (inR x24 100) (if (mI M 14945421 x24.toNatClampNeg) = 0 then gd (inR (x24 - 1) 100) (lt (setI M 14945421 (x24 - 1).toNatClampNeg (zN 0)) fun M33 => lt (v4 + 1) fun x34 => f_M_holds_l10 n v1 v2 x24 x34 M33) else gd (inR (x24 - 1) 100) (lt (setI M 14945421 (x24 - 1).toNatClampNeg (zN 1)) fun M35 => lt (v4 + 1) fun x36 => f_M_holds_l10 n v1 v2 x24 x36 M35))) else gd (inR (x24 - 1) 100) (if (mI M 14945421 (x24 - 1).toNatClampNeg) = 0 then gd (inR x24 100) (if (mI M 14945421 x24.toNatClampNeg) = 0 then gd (inR (x24 - 1) 100) (lt (setI M 14945421 (x24 - 1).toNatClampNeg (zN 0)) fun M27 => lt (v4 + 1) fun x28 => f_M_holds_l10 n v1 v2 x24 x28 M27) else gd (inR (x24 - 1) 100) (lt (setI M 14945421 (x24 - 1).toNatClampNeg (zN 1)) fun M29 => lt (v4 + 1) fun x30 => f_M_holds_l10 n v1 v2 x24 x30 M29)) else gd (inR (x24 - 1) 100) (lt (setI M 14945421 (x24 - 1).toNatClampNeg (zN 1)) fun M25 => lt (v4 + 1) fun x26 => f_M_holds_l10 n v1 v2 x24 x26 M25))))
def f_M_holds (p1 : Int32) (p2 : Int32) (M : Mem) : Option (Int32 × Mem) := gd (inR p1 60) (lt (mI M 14288779 p1.toNatClampNeg) fun x1 => f_M_holds_l10 200 p1 p2 0 x1 M)
theorem o_M_holds_l10 : ∀ (n : Nat) (v1 : Int32) (v2 : Int32) (v3 : Int32) (v4 : Int32) (M : Mem), Go sRM g_M_holds fWi (f_M_holds_l10 n v1 v2 v3 v4 M) 10 [.ref 12451850, .int v1, .int v2, .int v3, .int v4, .null, .null, .null] [] M := by
  intro n
  induction n with
  | zero =>
    intro v1 v2 v3 v4 M
    exact go_def (f_M_holds_l10.eq_1 ..) go_none
  | succ n ih =>
    intro v1 v2 v3 v4 M
    refine go_def (f_M_holds_l10.eq_2 ..) ?_
    refine go_iload (pc := 10) dX9_holds_10 rfl ?_
    refine go_aload_n (pc := 12) dX9_holds_12 rfl ?_
    refine go_getS (pc := 13) 14419851 flX9_77 rfl rfl sM_10_22 (by decide) dX9_holds_13 ?_
    refine go_iload_n (pc := 16) dX9_holds_16 rfl ?_
    refine go_iald (pc := 17) rfl rfl dX9_holds_17 (fun _ => ?_)
    refine go_icmpge (pc := 18) 243 dX9_holds_18 (by decide) (fun _ => ?_) (fun _ => ?_)
    · refine go_aload_n (pc := 243) dX9_holds_243 rfl ?_
      refine go_getS (pc := 244) 14945421 flX9_98 rfl rfl sM_10_29 (by decide) dX9_holds_244 ?_
      refine go_iconst (pc := 247) 0 dX9_holds_247 ki_0 ?_
      refine go_zald' (pc := 248) 0 (by decide) (by decide) rfl rfl dX9_holds_248 ?_
      refine go_gd fun g2 => ?_
      exact go_ret dX9_holds_249 (rbz g2) rfl rfl
    · refine go_aload_n (pc := 21) dX9_holds_21 rfl ?_
      refine go_getS (pc := 22) 14568203 flX9_80 rfl rfl sM_10_23 (by decide) dX9_holds_22 ?_
      refine go_iload (pc := 25) dX9_holds_25 rfl ?_
      refine go_iald (pc := 27) rfl rfl dX9_holds_27 (fun _ => ?_)
      refine go_istoreL (pc := 28) (L := fun x3 => [.ref 12451850, .int v1, .int v2, .int v3, .int v4, .int x3, .null, .null]) dX9_holds_28 (Nat.le_of_ble_eq_true rfl) rfl (fun _ => rfl) (fun x3 => ?_)
      refine go_iload (pc := 30) dX9_holds_30 rfl ?_
      refine go_bipush (pc := 32) (-33) dX9_holds_32 kb_m33 ?_
      refine go_icmpne (pc := 34) 64 dX9_holds_34 (by decide) (fun _ => ?_) (fun _ => ?_)
      · refine go_aload_n (pc := 37) dX9_holds_37 rfl ?_
        refine go_getS (pc := 38) 14945421 flX9_98 rfl rfl sM_10_29 (by decide) dX9_holds_38 ?_
        refine go_iload_n (pc := 41) dX9_holds_41 rfl ?_
        refine go_iconst (pc := 42) 1 dX9_holds_42 ki_1 ?_
        refine go_isub (pc := 43) dX9_holds_43 ?_
        refine go_aload_n (pc := 44) dX9_holds_44 rfl ?_
        refine go_getS (pc := 45) 14945421 flX9_98 rfl rfl sM_10_29 (by decide) dX9_holds_45 ?_
        refine go_iload_n (pc := 48) dX9_holds_48 rfl ?_
        refine go_iconst (pc := 49) 1 dX9_holds_49 ki_1 ?_
        refine go_isub (pc := 50) dX9_holds_50 ?_
        refine go_zald (pc := 51) rfl rfl dX9_holds_51 (fun _ => ?_)
        refine go_ifne (pc := 52) 59 dX9_holds_52 (by decide) (fun _ => ?_) (fun _ => ?_)
        · refine go_iconst (pc := 55) 1 dX9_holds_55 ki_1 ?_
          refine go_goto (pc := 56) 60 dX9_holds_56 (by decide) ?_
          refine go_zast (pc := 60) rfl rfl dX9_holds_60 (fun _ M39 => ?_)
          refine go_goto (pc := 61) 237 dX9_holds_61 (by decide) ?_
          refine go_iincL (pc := 237) (L := fun x40 => [.ref 12451850, .int v1, .int v2, .int v3, .int x40, .int x3, .null, .null]) 1 dX9_holds_237 rfl ki_1 (Nat.le_of_ble_eq_true rfl) rfl (fun _ => rfl) (fun x40 => ?_)
          refine go_goto (pc := 240) 10 dX9_holds_240 (by decide) ?_
          refine go_sub (ls' := [.ref 12451850, .int v1, .int v2, .int v3, .int x40, .null, .null, .null]) ⟨Or.inr rfl, Or.inr rfl, Or.inr rfl, Or.inr rfl, Or.inr rfl, Or.inl rfl, Or.inl rfl, Or.inl rfl, trivial⟩ ?_
          exact ih v1 v2 v3 x40 M39
        · refine go_iconst (pc := 59) 0 dX9_holds_59 ki_0 ?_
          refine go_zast (pc := 60) rfl rfl dX9_holds_60 (fun _ M37 => ?_)
          refine go_goto (pc := 61) 237 dX9_holds_61 (by decide) ?_
          refine go_iincL (pc := 237) (L := fun x38 => [.ref 12451850, .int v1, .int v2, .int v3, .int x38, .int x3, .null, .null]) 1 dX9_holds_237 rfl ki_1 (Nat.le_of_ble_eq_true rfl) rfl (fun _ => rfl) (fun x38 => ?_)
          refine go_goto (pc := 240) 10 dX9_holds_240 (by decide) ?_
          refine go_sub (ls' := [.ref 12451850, .int v1, .int v2, .int v3, .int x38, .null, .null, .null]) ⟨Or.inr rfl, Or.inr rfl, Or.inr rfl, Or.inr rfl, Or.inr rfl, Or.inl rfl, Or.inl rfl, Or.inl rfl, trivial⟩ ?_
          exact ih v1 v2 v3 x38 M37
      · refine go_iload (pc := 64) dX9_holds_64 rfl ?_
        refine go_ifge (pc := 66) 143 dX9_holds_66 (by decide) (fun _ => ?_) (fun _ => ?_)
        · refine go_aload_n (pc := 143) dX9_holds_143 rfl ?_
          refine go_iload (pc := 144) dX9_holds_144 rfl ?_
          refine go_sipush (pc := 146) 1000 dX9_holds_146 ks_1000 ?_
          refine go_idiv' (pc := 149) (by decide) dX9_holds_149 ?_
          refine go_iload_n (pc := 150) dX9_holds_150 rfl ?_
          refine go_callV (pc := 151) (a := 12451850) (as := [.int (x3 / 1000), .int v2]) (st := []) (o_M_factOf (x3 / 1000) v2 M) ic_M_factOf ivX9_273 (rcvk (a := 12451850) (t := 10) rfl (by decide) (by decide) rfl) rfl (by decide) (Nat.le_of_ble_eq_true rfl) dX9_holds_151 (kRi fun r4 => ?_)
          refine go_istore (pc := 154) (ls' := [.ref 12451850, .int v1, .int v2, .int v3, .int v4, .int x3, .int r4, .null]) dX9_holds_154 (Nat.le_of_ble_eq_true rfl) rfl rfl ?_
          refine go_iload (pc := 156) dX9_holds_156 rfl ?_
          refine go_bipush (pc := 158) 100 dX9_holds_158 kb_100 ?_
          refine go_idiv' (pc := 160) (by decide) dX9_holds_160 ?_
          refine go_bipush (pc := 161) 10 dX9_holds_161 kb_10 ?_
          refine go_irem' (pc := 163) (by decide) dX9_holds_163 ?_
          refine go_istoreL (pc := 164) (L := fun x5 => [.ref 12451850, .int v1, .int v2, .int v3, .int v4, .int x3, .int r4, .int x5]) dX9_holds_164 (Nat.le_of_ble_eq_true rfl) rfl (fun _ => rfl) (fun x5 => ?_)
          refine go_aload_n (pc := 166) dX9_holds_166 rfl ?_
          refine go_getS (pc := 167) 14945421 flX9_98 rfl rfl sM_10_29 (by decide) dX9_holds_167 ?_
          refine go_iload_n (pc := 170) dX9_holds_170 rfl ?_
          refine go_iload (pc := 171) dX9_holds_171 rfl ?_
          refine go_ifne (pc := 173) 194 dX9_holds_173 (by decide) (fun _ => ?_) (fun _ => ?_)
          · refine go_iload (pc := 176) dX9_holds_176 rfl ?_
            refine go_iload (pc := 178) dX9_holds_178 rfl ?_
            refine go_bipush (pc := 180) 100 dX9_holds_180 kb_100 ?_
            refine go_irem' (pc := 182) (by decide) dX9_holds_182 ?_
            refine go_icmpge (pc := 183) 190 dX9_holds_183 (by decide) (fun _ => ?_) (fun _ => ?_)
            · refine go_iconst (pc := 190) 0 dX9_holds_190 ki_0 ?_
              refine go_goto (pc := 191) 233 dX9_holds_191 (by decide) ?_
              refine go_zast (pc := 233) rfl rfl dX9_holds_233 (fun _ M18 => ?_)
              refine go_iincL (pc := 234) (L := fun x19 => [.ref 12451850, .int v1, .int v2, .int x19, .int v4, .int x3, .int r4, .int x5]) 1 dX9_holds_234 rfl ki_1 (Nat.le_of_ble_eq_true rfl) rfl (fun _ => rfl) (fun x19 => ?_)
              refine go_iincL (pc := 237) (L := fun x20 => [.ref 12451850, .int v1, .int v2, .int x19, .int x20, .int x3, .int r4, .int x5]) 1 dX9_holds_237 rfl ki_1 (Nat.le_of_ble_eq_true rfl) rfl (fun _ => rfl) (fun x20 => ?_)
              refine go_goto (pc := 240) 10 dX9_holds_240 (by decide) ?_
              refine go_sub (ls' := [.ref 12451850, .int v1, .int v2, .int x19, .int x20, .null, .null, .null]) ⟨Or.inr rfl, Or.inr rfl, Or.inr rfl, Or.inr rfl, Or.inr rfl, Or.inl rfl, Or.inl rfl, Or.inl rfl, trivial⟩ ?_
              exact ih v1 v2 x19 x20 M18
            · refine go_iconst (pc := 186) 1 dX9_holds_186 ki_1 ?_
              refine go_goto (pc := 187) 233 dX9_holds_187 (by decide) ?_
              refine go_zast (pc := 233) rfl rfl dX9_holds_233 (fun _ M21 => ?_)
              refine go_iincL (pc := 234) (L := fun x22 => [.ref 12451850, .int v1, .int v2, .int x22, .int v4, .int x3, .int r4, .int x5]) 1 dX9_holds_234 rfl ki_1 (Nat.le_of_ble_eq_true rfl) rfl (fun _ => rfl) (fun x22 => ?_)
              refine go_iincL (pc := 237) (L := fun x23 => [.ref 12451850, .int v1, .int v2, .int x22, .int x23, .int x3, .int r4, .int x5]) 1 dX9_holds_237 rfl ki_1 (Nat.le_of_ble_eq_true rfl) rfl (fun _ => rfl) (fun x23 => ?_)
              refine go_goto (pc := 240) 10 dX9_holds_240 (by decide) ?_
              refine go_sub (ls' := [.ref 12451850, .int v1, .int v2, .int x22, .int x23, .null, .null, .null]) ⟨Or.inr rfl, Or.inr rfl, Or.inr rfl, Or.inr rfl, Or.inr rfl, Or.inl rfl, Or.inl rfl, Or.inl rfl, trivial⟩ ?_
              exact ih v1 v2 x22 x23 M21
          · refine go_iload (pc := 194) dX9_holds_194 rfl ?_
            refine go_iconst (pc := 196) 1 dX9_holds_196 ki_1 ?_
            refine go_icmpne (pc := 197) 218 dX9_holds_197 (by decide) (fun _ => ?_) (fun _ => ?_)
            · refine go_iload (pc := 200) dX9_holds_200 rfl ?_
              refine go_iload (pc := 202) dX9_holds_202 rfl ?_
              refine go_bipush (pc := 204) 100 dX9_holds_204 kb_100 ?_
              refine go_irem' (pc := 206) (by decide) dX9_holds_206 ?_
              refine go_icmpne (pc := 207) 214 dX9_holds_207 (by decide) (fun _ => ?_) (fun _ => ?_)
              · refine go_iconst (pc := 210) 1 dX9_holds_210 ki_1 ?_
                refine go_goto (pc := 211) 233 dX9_holds_211 (by decide) ?_
                refine go_zast (pc := 233) rfl rfl dX9_holds_233 (fun _ M15 => ?_)
                refine go_iincL (pc := 234) (L := fun x16 => [.ref 12451850, .int v1, .int v2, .int x16, .int v4, .int x3, .int r4, .int x5]) 1 dX9_holds_234 rfl ki_1 (Nat.le_of_ble_eq_true rfl) rfl (fun _ => rfl) (fun x16 => ?_)
                refine go_iincL (pc := 237) (L := fun x17 => [.ref 12451850, .int v1, .int v2, .int x16, .int x17, .int x3, .int r4, .int x5]) 1 dX9_holds_237 rfl ki_1 (Nat.le_of_ble_eq_true rfl) rfl (fun _ => rfl) (fun x17 => ?_)
                refine go_goto (pc := 240) 10 dX9_holds_240 (by decide) ?_
                refine go_sub (ls' := [.ref 12451850, .int v1, .int v2, .int x16, .int x17, .null, .null, .null]) ⟨Or.inr rfl, Or.inr rfl, Or.inr rfl, Or.inr rfl, Or.inr rfl, Or.inl rfl, Or.inl rfl, Or.inl rfl, trivial⟩ ?_
                exact ih v1 v2 x16 x17 M15
              · refine go_iconst (pc := 214) 0 dX9_holds_214 ki_0 ?_
                refine go_goto (pc := 215) 233 dX9_holds_215 (by decide) ?_
                refine go_zast (pc := 233) rfl rfl dX9_holds_233 (fun _ M12 => ?_)
                refine go_iincL (pc := 234) (L := fun x13 => [.ref 12451850, .int v1, .int v2, .int x13, .int v4, .int x3, .int r4, .int x5]) 1 dX9_holds_234 rfl ki_1 (Nat.le_of_ble_eq_true rfl) rfl (fun _ => rfl) (fun x13 => ?_)
                refine go_iincL (pc := 237) (L := fun x14 => [.ref 12451850, .int v1, .int v2, .int x13, .int x14, .int x3, .int r4, .int x5]) 1 dX9_holds_237 rfl ki_1 (Nat.le_of_ble_eq_true rfl) rfl (fun _ => rfl) (fun x14 => ?_)
                refine go_goto (pc := 240) 10 dX9_holds_240 (by decide) ?_
                refine go_sub (ls' := [.ref 12451850, .int v1, .int v2, .int x13, .int x14, .null, .null, .null]) ⟨Or.inr rfl, Or.inr rfl, Or.inr rfl, Or.inr rfl, Or.inr rfl, Or.inl rfl, Or.inl rfl, Or.inl rfl, trivial⟩ ?_
                exact ih v1 v2 x13 x14 M12
            · refine go_iload (pc := 218) dX9_holds_218 rfl ?_
              refine go_iload (pc := 220) dX9_holds_220 rfl ?_
              refine go_bipush (pc := 222) 100 dX9_holds_222 kb_100 ?_
              refine go_irem' (pc := 224) (by decide) dX9_holds_224 ?_
              refine go_icmple (pc := 225) 232 dX9_holds_225 (by decide) (fun _ => ?_) (fun _ => ?_)
              · refine go_iconst (pc := 232) 0 dX9_holds_232 ki_0 ?_
                refine go_zast (pc := 233) rfl rfl dX9_holds_233 (fun _ M6 => ?_)
                refine go_iincL (pc := 234) (L := fun x7 => [.ref 12451850, .int v1, .int v2, .int x7, .int v4, .int x3, .int r4, .int x5]) 1 dX9_holds_234 rfl ki_1 (Nat.le_of_ble_eq_true rfl) rfl (fun _ => rfl) (fun x7 => ?_)
                refine go_iincL (pc := 237) (L := fun x8 => [.ref 12451850, .int v1, .int v2, .int x7, .int x8, .int x3, .int r4, .int x5]) 1 dX9_holds_237 rfl ki_1 (Nat.le_of_ble_eq_true rfl) rfl (fun _ => rfl) (fun x8 => ?_)
                refine go_goto (pc := 240) 10 dX9_holds_240 (by decide) ?_
                refine go_sub (ls' := [.ref 12451850, .int v1, .int v2, .int x7, .int x8, .null, .null, .null]) ⟨Or.inr rfl, Or.inr rfl, Or.inr rfl, Or.inr rfl, Or.inr rfl, Or.inl rfl, Or.inl rfl, Or.inl rfl, trivial⟩ ?_
                exact ih v1 v2 x7 x8 M6
              · refine go_iconst (pc := 228) 1 dX9_holds_228 ki_1 ?_
                refine go_goto (pc := 229) 233 dX9_holds_229 (by decide) ?_
                refine go_zast (pc := 233) rfl rfl dX9_holds_233 (fun _ M9 => ?_)
                refine go_iincL (pc := 234) (L := fun x10 => [.ref 12451850, .int v1, .int v2, .int x10, .int v4, .int x3, .int r4, .int x5]) 1 dX9_holds_234 rfl ki_1 (Nat.le_of_ble_eq_true rfl) rfl (fun _ => rfl) (fun x10 => ?_)
                refine go_iincL (pc := 237) (L := fun x11 => [.ref 12451850, .int v1, .int v2, .int x10, .int x11, .int x3, .int r4, .int x5]) 1 dX9_holds_237 rfl ki_1 (Nat.le_of_ble_eq_true rfl) rfl (fun _ => rfl) (fun x11 => ?_)
                refine go_goto (pc := 240) 10 dX9_holds_240 (by decide) ?_
                refine go_sub (ls' := [.ref 12451850, .int v1, .int v2, .int x10, .int x11, .null, .null, .null]) ⟨Or.inr rfl, Or.inr rfl, Or.inr rfl, Or.inr rfl, Or.inr rfl, Or.inl rfl, Or.inl rfl, Or.inl rfl, trivial⟩ ?_
                exact ih v1 v2 x10 x11 M9
        · refine go_iincL (pc := 69) (L := fun x24 => [.ref 12451850, .int v1, .int v2, .int x24, .int v4, .int x3, .null, .null]) (-1) dX9_holds_69 rfl ki_m1 (Nat.le_of_ble_eq_true rfl) rfl (fun _ => rfl) (fun x24 => ?_)
          refine go_aload_n (pc := 72) dX9_holds_72 rfl ?_
          refine go_getS (pc := 73) 14945421 flX9_98 rfl rfl sM_10_29 (by decide) dX9_holds_73 ?_
          refine go_iload_n (pc := 76) dX9_holds_76 rfl ?_
          refine go_iconst (pc := 77) 1 dX9_holds_77 ki_1 ?_
          refine go_isub (pc := 78) dX9_holds_78 ?_
          refine go_iload (pc := 79) dX9_holds_79 rfl ?_
          refine go_bipush (pc := 81) (-38) dX9_holds_81 kb_m38 ?_
          refine go_icmpne (pc := 83) 114 dX9_holds_83 (by decide) (fun _ => ?_) (fun _ => ?_)
          · refine go_aload_n (pc := 86) dX9_holds_86 rfl ?_
            refine go_getS (pc := 87) 14945421 flX9_98 rfl rfl sM_10_29 (by decide) dX9_holds_87 ?_
            refine go_iload_n (pc := 90) dX9_holds_90 rfl ?_
            refine go_iconst (pc := 91) 1 dX9_holds_91 ki_1 ?_
            refine go_isub (pc := 92) dX9_holds_92 ?_
            refine go_zald (pc := 93) rfl rfl dX9_holds_93 (fun _ => ?_)
            refine go_ifeq (pc := 94) 110 dX9_holds_94 (by decide) (fun _ => ?_) (fun _ => ?_)
            · refine go_iconst (pc := 110) 0 dX9_holds_110 ki_0 ?_
              refine go_goto (pc := 111) 139 dX9_holds_111 (by decide) ?_
              refine go_zast (pc := 139) rfl rfl dX9_holds_139 (fun _ M31 => ?_)
              refine go_goto (pc := 140) 237 dX9_holds_140 (by decide) ?_
              refine go_iincL (pc := 237) (L := fun x32 => [.ref 12451850, .int v1, .int v2, .int x24, .int x32, .int x3, .null, .null]) 1 dX9_holds_237 rfl ki_1 (Nat.le_of_ble_eq_true rfl) rfl (fun _ => rfl) (fun x32 => ?_)
              refine go_goto (pc := 240) 10 dX9_holds_240 (by decide) ?_
              refine go_sub (ls' := [.ref 12451850, .int v1, .int v2, .int x24, .int x32, .null, .null, .null]) ⟨Or.inr rfl, Or.inr rfl, Or.inr rfl, Or.inr rfl, Or.inr rfl, Or.inl rfl, Or.inl rfl, Or.inl rfl, trivial⟩ ?_
              exact ih v1 v2 x24 x32 M31
            · refine go_aload_n (pc := 97) dX9_holds_97 rfl ?_
              refine go_getS (pc := 98) 14945421 flX9_98 rfl rfl sM_10_29 (by decide) dX9_holds_98 ?_
              refine go_iload_n (pc := 101) dX9_holds_101 rfl ?_
              refine go_zald (pc := 102) rfl rfl dX9_holds_102 (fun _ => ?_)
              refine go_ifeq (pc := 103) 110 dX9_holds_103 (by decide) (fun _ => ?_) (fun _ => ?_)
              · refine go_iconst (pc := 110) 0 dX9_holds_110 ki_0 ?_
                refine go_goto (pc := 111) 139 dX9_holds_111 (by decide) ?_
                refine go_zast (pc := 139) rfl rfl dX9_holds_139 (fun _ M33 => ?_)
                refine go_goto (pc := 140) 237 dX9_holds_140 (by decide) ?_
                refine go_iincL (pc := 237) (L := fun x34 => [.ref 12451850, .int v1, .int v2, .int x24, .int x34, .int x3, .null, .null]) 1 dX9_holds_237 rfl ki_1 (Nat.le_of_ble_eq_true rfl) rfl (fun _ => rfl) (fun x34 => ?_)
                refine go_goto (pc := 240) 10 dX9_holds_240 (by decide) ?_
                refine go_sub (ls' := [.ref 12451850, .int v1, .int v2, .int x24, .int x34, .null, .null, .null]) ⟨Or.inr rfl, Or.inr rfl, Or.inr rfl, Or.inr rfl, Or.inr rfl, Or.inl rfl, Or.inl rfl, Or.inl rfl, trivial⟩ ?_
                exact ih v1 v2 x24 x34 M33
              · refine go_iconst (pc := 106) 1 dX9_holds_106 ki_1 ?_
                refine go_goto (pc := 107) 139 dX9_holds_107 (by decide) ?_
                refine go_zast (pc := 139) rfl rfl dX9_holds_139 (fun _ M35 => ?_)
                refine go_goto (pc := 140) 237 dX9_holds_140 (by decide) ?_
                refine go_iincL (pc := 237) (L := fun x36 => [.ref 12451850, .int v1, .int v2, .int x24, .int x36, .int x3, .null, .null]) 1 dX9_holds_237 rfl ki_1 (Nat.le_of_ble_eq_true rfl) rfl (fun _ => rfl) (fun x36 => ?_)
                refine go_goto (pc := 240) 10 dX9_holds_240 (by decide) ?_
                refine go_sub (ls' := [.ref 12451850, .int v1, .int v2, .int x24, .int x36, .null, .null, .null]) ⟨Or.inr rfl, Or.inr rfl, Or.inr rfl, Or.inr rfl, Or.inr rfl, Or.inl rfl, Or.inl rfl, Or.inl rfl, trivial⟩ ?_
                exact ih v1 v2 x24 x36 M35
          · refine go_aload_n (pc := 114) dX9_holds_114 rfl ?_
            refine go_getS (pc := 115) 14945421 flX9_98 rfl rfl sM_10_29 (by decide) dX9_holds_115 ?_
            refine go_iload_n (pc := 118) dX9_holds_118 rfl ?_
            refine go_iconst (pc := 119) 1 dX9_holds_119 ki_1 ?_
            refine go_isub (pc := 120) dX9_holds_120 ?_
            refine go_zald (pc := 121) rfl rfl dX9_holds_121 (fun _ => ?_)
            refine go_ifne (pc := 122) 134 dX9_holds_122 (by decide) (fun _ => ?_) (fun _ => ?_)
            · refine go_aload_n (pc := 125) dX9_holds_125 rfl ?_
              refine go_getS (pc := 126) 14945421 flX9_98 rfl rfl sM_10_29 (by decide) dX9_holds_126 ?_
              refine go_iload_n (pc := 129) dX9_holds_129 rfl ?_
              refine go_zald (pc := 130) rfl rfl dX9_holds_130 (fun _ => ?_)
              refine go_ifeq (pc := 131) 138 dX9_holds_131 (by decide) (fun _ => ?_) (fun _ => ?_)
              · refine go_iconst (pc := 138) 0 dX9_holds_138 ki_0 ?_
                refine go_zast (pc := 139) rfl rfl dX9_holds_139 (fun _ M27 => ?_)
                refine go_goto (pc := 140) 237 dX9_holds_140 (by decide) ?_
                refine go_iincL (pc := 237) (L := fun x28 => [.ref 12451850, .int v1, .int v2, .int x24, .int x28, .int x3, .null, .null]) 1 dX9_holds_237 rfl ki_1 (Nat.le_of_ble_eq_true rfl) rfl (fun _ => rfl) (fun x28 => ?_)
                refine go_goto (pc := 240) 10 dX9_holds_240 (by decide) ?_
                refine go_sub (ls' := [.ref 12451850, .int v1, .int v2, .int x24, .int x28, .null, .null, .null]) ⟨Or.inr rfl, Or.inr rfl, Or.inr rfl, Or.inr rfl, Or.inr rfl, Or.inl rfl, Or.inl rfl, Or.inl rfl, trivial⟩ ?_
                exact ih v1 v2 x24 x28 M27
              · refine go_iconst (pc := 134) 1 dX9_holds_134 ki_1 ?_
                refine go_goto (pc := 135) 139 dX9_holds_135 (by decide) ?_
                refine go_zast (pc := 139) rfl rfl dX9_holds_139 (fun _ M29 => ?_)
                refine go_goto (pc := 140) 237 dX9_holds_140 (by decide) ?_
                refine go_iincL (pc := 237) (L := fun x30 => [.ref 12451850, .int v1, .int v2, .int x24, .int x30, .int x3, .null, .null]) 1 dX9_holds_237 rfl ki_1 (Nat.le_of_ble_eq_true rfl) rfl (fun _ => rfl) (fun x30 => ?_)
                refine go_goto (pc := 240) 10 dX9_holds_240 (by decide) ?_
                refine go_sub (ls' := [.ref 12451850, .int v1, .int v2, .int x24, .int x30, .null, .null, .null]) ⟨Or.inr rfl, Or.inr rfl, Or.inr rfl, Or.inr rfl, Or.inr rfl, Or.inl rfl, Or.inl rfl, Or.inl rfl, trivial⟩ ?_
                exact ih v1 v2 x24 x30 M29
            · refine go_iconst (pc := 134) 1 dX9_holds_134 ki_1 ?_
              refine go_goto (pc := 135) 139 dX9_holds_135 (by decide) ?_
              refine go_zast (pc := 139) rfl rfl dX9_holds_139 (fun _ M25 => ?_)
              refine go_goto (pc := 140) 237 dX9_holds_140 (by decide) ?_
              refine go_iincL (pc := 237) (L := fun x26 => [.ref 12451850, .int v1, .int v2, .int x24, .int x26, .int x3, .null, .null]) 1 dX9_holds_237 rfl ki_1 (Nat.le_of_ble_eq_true rfl) rfl (fun _ => rfl) (fun x26 => ?_)
              refine go_goto (pc := 240) 10 dX9_holds_240 (by decide) ?_
              refine go_sub (ls' := [.ref 12451850, .int v1, .int v2, .int x24, .int x26, .null, .null, .null]) ⟨Or.inr rfl, Or.inr rfl, Or.inr rfl, Or.inr rfl, Or.inr rfl, Or.inl rfl, Or.inl rfl, Or.inl rfl, trivial⟩ ?_
              exact ih v1 v2 x24 x26 M25
theorem o_M_holds (p1 : Int32) (p2 : Int32) (M : Mem) : Ct sRM g_M_holds fWi [.ref 12451850, .int p1, .int p2] (f_M_holds p1 p2 M) M := by
  refine ⟨Nat.le_of_ble_eq_true rfl, ?_⟩
  show Go sRM g_M_holds fWi (f_M_holds p1 p2 M) 0 [.ref 12451850, .int p1, .int p2, .null, .null, .null, .null, .null] [] M
  refine go_def (f_M_holds.eq_1 ..) ?_
  refine go_iconst (pc := 0) 0 dX9_holds_0 ki_0 ?_
  refine go_istore_n (pc := 1) (ls' := [.ref 12451850, .int p1, .int p2, .int 0, .null, .null, .null, .null]) dX9_holds_1 (Nat.le_of_ble_eq_true rfl) rfl rfl ?_
  refine go_aload_n (pc := 2) dX9_holds_2 rfl ?_
  refine go_getS (pc := 3) 14288779 flX9_74 rfl rfl sM_10_21 (by decide) dX9_holds_3 ?_
  refine go_iload_n (pc := 6) dX9_holds_6 rfl ?_
  refine go_iald (pc := 7) rfl rfl dX9_holds_7 (fun _ => ?_)
  refine go_istoreL (pc := 8) (L := fun x1 => [.ref 12451850, .int p1, .int p2, .int 0, .int x1, .null, .null, .null]) dX9_holds_8 (Nat.le_of_ble_eq_true rfl) rfl (fun _ => rfl) (fun x1 => ?_)
  exact o_M_holds_l10 200 p1 p2 0 x1 M
def f_M_sumOf_l8 : Nat → Int32 → Int32 → Int32 → Int32 → Mem → Option (Int32 × Mem)
  | 0, _, _, _, _, _ => none
  | n + 1, v1, v2, v3, v4, M => bd (f_M_behind M) fun r2 => if r2 ≤ v4 then some (v3, M) else gd (inR v4 60) (if (mI M 14026635 v4.toNatClampNeg) = v1 then b2 (f_M_holds v4 v2 M) fun r6 M5 => if r6 = 0 then lt (v3 + 0) fun x7 => lt (v4 + 1) fun x8 => f_M_sumOf_l8 n v1 v2 x7 x8 M5 else gd (inR v4 60) (lt (v3 + (mI M5 14157707 v4.toNatClampNeg)) fun x9 => lt (v4 + 1) fun x10 => f_M_sumOf_l8 n v1 v2 x9 x10 M5) else lt (v3 + 0) fun x3 => lt (v4 + 1) fun x4 => f_M_sumOf_l8 n v1 v2 x3 x4 M)
def f_M_sumOf (p1 : Int32) (p2 : Int32) (M : Mem) : Option (Int32 × Mem) := lt (f_M_begin M) fun x1 => f_M_sumOf_l8 200 p1 p2 0 x1 M
theorem o_M_sumOf_l8 : ∀ (n : Nat) (v1 : Int32) (v2 : Int32) (v3 : Int32) (v4 : Int32) (M : Mem), Go sRM g_M_sumOf fWi (f_M_sumOf_l8 n v1 v2 v3 v4 M) 8 [.ref 12451850, .int v1, .int v2, .int v3, .int v4] [] M := by
  intro n
  induction n with
  | zero =>
    intro v1 v2 v3 v4 M
    exact go_def (f_M_sumOf_l8.eq_1 ..) go_none
  | succ n ih =>
    intro v1 v2 v3 v4 M
    refine go_def (f_M_sumOf_l8.eq_2 ..) ?_
    refine go_iload (pc := 8) dX9_sumOf_8 rfl ?_
    refine go_aload_n (pc := 10) dX9_sumOf_10 rfl ?_
    refine go_callV (pc := 11) (a := 12451850) (as := []) (st := [.int v4]) (o_M_behind M) ic_M_behind ivX9_270 (rcvk (a := 12451850) (t := 10) rfl (by decide) (by decide) rfl) rfl (by decide) (Nat.le_of_ble_eq_true rfl) dX9_sumOf_11 (kRi fun r2 => ?_)
    refine go_icmpge (pc := 14) 58 dX9_sumOf_14 (by decide) (fun _ => ?_) (fun _ => ?_)
    · refine go_iload_n (pc := 58) dX9_sumOf_58 rfl ?_
      exact go_ret dX9_sumOf_59 rii rfl rfl
    · refine go_iload_n (pc := 17) dX9_sumOf_17 rfl ?_
      refine go_aload_n (pc := 18) dX9_sumOf_18 rfl ?_
      refine go_getS (pc := 19) 14026635 flX9_68 rfl rfl sM_10_19 (by decide) dX9_sumOf_19 ?_
      refine go_iload (pc := 22) dX9_sumOf_22 rfl ?_
      refine go_iald (pc := 24) rfl rfl dX9_sumOf_24 (fun _ => ?_)
      refine go_iload_n (pc := 25) dX9_sumOf_25 rfl ?_
      refine go_icmpne (pc := 26) 49 dX9_sumOf_26 (by decide) (fun _ => ?_) (fun _ => ?_)
      · refine go_aload_n (pc := 29) dX9_sumOf_29 rfl ?_
        refine go_iload (pc := 30) dX9_sumOf_30 rfl ?_
        refine go_iload_n (pc := 32) dX9_sumOf_32 rfl ?_
        refine go_callV (pc := 33) (a := 12451850) (as := [.int v4, .int v2]) (st := [.int v3]) (o_M_holds v4 v2 M) ic_M_holds ivX9_277 (rcvk (a := 12451850) (t := 10) rfl (by decide) (by decide) rfl) rfl (by decide) (Nat.le_of_ble_eq_true rfl) dX9_sumOf_33 (kWi fun r6 M5 => ?_)
        refine go_ifeq (pc := 36) 49 dX9_sumOf_36 (by decide) (fun _ => ?_) (fun _ => ?_)
        · refine go_iconst (pc := 49) 0 dX9_sumOf_49 ki_0 ?_
          refine go_iadd (pc := 50) dX9_sumOf_50 ?_
          refine go_istore_nL (pc := 51) (L := fun x7 => [.ref 12451850, .int v1, .int v2, .int x7, .int v4]) dX9_sumOf_51 (Nat.le_of_ble_eq_true rfl) rfl (fun _ => rfl) (fun x7 => ?_)
          refine go_iincL (pc := 52) (L := fun x8 => [.ref 12451850, .int v1, .int v2, .int x7, .int x8]) 1 dX9_sumOf_52 rfl ki_1 (Nat.le_of_ble_eq_true rfl) rfl (fun _ => rfl) (fun x8 => ?_)
          refine go_goto (pc := 55) 8 dX9_sumOf_55 (by decide) ?_
          exact ih v1 v2 x7 x8 M5
        · refine go_aload_n (pc := 39) dX9_sumOf_39 rfl ?_
          refine go_getS (pc := 40) 14157707 flX9_71 rfl rfl sM_10_20 (by decide) dX9_sumOf_40 ?_
          refine go_iload (pc := 43) dX9_sumOf_43 rfl ?_
          refine go_iald (pc := 45) rfl rfl dX9_sumOf_45 (fun _ => ?_)
          refine go_goto (pc := 46) 50 dX9_sumOf_46 (by decide) ?_
          refine go_iadd (pc := 50) dX9_sumOf_50 ?_
          refine go_istore_nL (pc := 51) (L := fun x9 => [.ref 12451850, .int v1, .int v2, .int x9, .int v4]) dX9_sumOf_51 (Nat.le_of_ble_eq_true rfl) rfl (fun _ => rfl) (fun x9 => ?_)
          refine go_iincL (pc := 52) (L := fun x10 => [.ref 12451850, .int v1, .int v2, .int x9, .int x10]) 1 dX9_sumOf_52 rfl ki_1 (Nat.le_of_ble_eq_true rfl) rfl (fun _ => rfl) (fun x10 => ?_)
          refine go_goto (pc := 55) 8 dX9_sumOf_55 (by decide) ?_
          exact ih v1 v2 x9 x10 M5
      · refine go_iconst (pc := 49) 0 dX9_sumOf_49 ki_0 ?_
        refine go_iadd (pc := 50) dX9_sumOf_50 ?_
        refine go_istore_nL (pc := 51) (L := fun x3 => [.ref 12451850, .int v1, .int v2, .int x3, .int v4]) dX9_sumOf_51 (Nat.le_of_ble_eq_true rfl) rfl (fun _ => rfl) (fun x3 => ?_)
        refine go_iincL (pc := 52) (L := fun x4 => [.ref 12451850, .int v1, .int v2, .int x3, .int x4]) 1 dX9_sumOf_52 rfl ki_1 (Nat.le_of_ble_eq_true rfl) rfl (fun _ => rfl) (fun x4 => ?_)
        refine go_goto (pc := 55) 8 dX9_sumOf_55 (by decide) ?_
        exact ih v1 v2 x3 x4 M
theorem o_M_sumOf (p1 : Int32) (p2 : Int32) (M : Mem) : Ct sRM g_M_sumOf fWi [.ref 12451850, .int p1, .int p2] (f_M_sumOf p1 p2 M) M := by
  refine ⟨Nat.le_of_ble_eq_true rfl, ?_⟩
  show Go sRM g_M_sumOf fWi (f_M_sumOf p1 p2 M) 0 [.ref 12451850, .int p1, .int p2, .null, .null] [] M
  refine go_def (f_M_sumOf.eq_1 ..) ?_
  refine go_iconst (pc := 0) 0 dX9_sumOf_0 ki_0 ?_
  refine go_istore_n (pc := 1) (ls' := [.ref 12451850, .int p1, .int p2, .int 0, .null]) dX9_sumOf_1 (Nat.le_of_ble_eq_true rfl) rfl rfl ?_
  refine go_aload_n (pc := 2) dX9_sumOf_2 rfl ?_
  refine go_T (v := f_M_begin M) ?_
  refine go_callV (pc := 3) (a := 12451850) (as := []) (st := []) (o_M_begin M) ic_M_begin ivX9_267 (rcvk (a := 12451850) (t := 10) rfl (by decide) (by decide) rfl) rfl (by decide) (Nat.le_of_ble_eq_true rfl) dX9_sumOf_3 (kTi ?_)
  refine go_istoreL (pc := 6) (L := fun x1 => [.ref 12451850, .int p1, .int p2, .int 0, .int x1]) dX9_sumOf_6 (Nat.le_of_ble_eq_true rfl) rfl (fun _ => rfl) (fun x1 => ?_)
  exact o_M_sumOf_l8 200 p1 p2 0 x1 M
def f_M_swellOf_b17 (v1 : Int32) (s0 : Int32) (M : Mem) : Option (Int32 × Mem) := gd (inR v1 4) (gd (inR v1 4) (lt ((s0 * (((mI M 12976267 v1.toNatClampNeg) + (mI M 13107339 v1.toNatClampNeg)) / 2)) / 20) fun x4 => gd (inR v1 4) (if (mI M 12714123 v1.toNatClampNeg) = 1 then gd (inR v1 4) (some (x4 + (mI M 12845195 v1.toNatClampNeg), M)) else if (mI M 12714123 v1.toNatClampNeg) = 4 then gd (inR v1 4) (some ((x4 + (mI M 12845195 v1.toNatClampNeg)) / 2, M)) else if (mI M 12714123 v1.toNatClampNeg) = 5 then if 2 ≤ x4 then some (x4 - 2, M) else some (0, M) else some (x4, M))))
def f_M_swellOf (p1 : Int32) (M : Mem) : Option (Int32 × Mem) := bd (f_M_hasSwell M) fun r1 => if r1 = 0 then f_M_swellOf_b17 p1 1 M else b2 (f_M_sumOf 0 p1 M) fun r3 M2 => f_M_swellOf_b17 p1 r3 M2
theorem o_M_swellOf_b17 (v1 : Int32) (s0 : Int32) (M : Mem) : Go sRM g_M_swellOf fWi (f_M_swellOf_b17 v1 s0 M) 17 [.ref 12451850, .int v1, .null] [.int s0] M := by
  refine go_def (f_M_swellOf_b17.eq_1 ..) ?_
  refine go_aload_n (pc := 17) dX9_swellOf_17 rfl ?_
  refine go_getS (pc := 18) 12976267 flX9_29 rfl rfl sM_10_6 (by decide) dX9_swellOf_18 ?_
  refine go_iload_n (pc := 21) dX9_swellOf_21 rfl ?_
  refine go_iald (pc := 22) rfl rfl dX9_swellOf_22 (fun _ => ?_)
  refine go_aload_n (pc := 23) dX9_swellOf_23 rfl ?_
  refine go_getS (pc := 24) 13107339 flX9_32 rfl rfl sM_10_7 (by decide) dX9_swellOf_24 ?_
  refine go_iload_n (pc := 27) dX9_swellOf_27 rfl ?_
  refine go_iald (pc := 28) rfl rfl dX9_swellOf_28 (fun _ => ?_)
  refine go_iadd (pc := 29) dX9_swellOf_29 ?_
  refine go_iconst (pc := 30) 2 dX9_swellOf_30 ki_2 ?_
  refine go_idiv' (pc := 31) (by decide) dX9_swellOf_31 ?_
  refine go_imul (pc := 32) dX9_swellOf_32 ?_
  refine go_bipush (pc := 33) 20 dX9_swellOf_33 kb_20 ?_
  refine go_idiv' (pc := 35) (by decide) dX9_swellOf_35 ?_
  refine go_istore_nL (pc := 36) (L := fun x4 => [.ref 12451850, .int v1, .int x4]) dX9_swellOf_36 (Nat.le_of_ble_eq_true rfl) rfl (fun _ => rfl) (fun x4 => ?_)
  refine go_aload_n (pc := 37) dX9_swellOf_37 rfl ?_
  refine go_getS (pc := 38) 12714123 flX9_23 rfl rfl sM_10_4 (by decide) dX9_swellOf_38 ?_
  refine go_iload_n (pc := 41) dX9_swellOf_41 rfl ?_
  refine go_iald (pc := 42) rfl rfl dX9_swellOf_42 (fun _ => ?_)
  refine go_tswC (pc := 43) (v := 1) (off := 33) 76 dX9_swellOf_43 (by decide) (by decide) (by decide) (fun _ => ?_) (fun n5 => ?_)
  · refine go_iload_n (pc := 76) dX9_swellOf_76 rfl ?_
    refine go_aload_n (pc := 77) dX9_swellOf_77 rfl ?_
    refine go_getS (pc := 78) 12845195 flX9_26 rfl rfl sM_10_5 (by decide) dX9_swellOf_78 ?_
    refine go_iload_n (pc := 81) dX9_swellOf_81 rfl ?_
    refine go_iald (pc := 82) rfl rfl dX9_swellOf_82 (fun _ => ?_)
    refine go_iadd (pc := 83) dX9_swellOf_83 ?_
    exact go_ret dX9_swellOf_84 rii rfl rfl
  refine go_tswC (pc := 43) (v := 4) (off := 42) 85 dX9_swellOf_43 (by decide) (by decide) (by decide) (fun _ => ?_) (fun n6 => ?_)
  · refine go_iload_n (pc := 85) dX9_swellOf_85 rfl ?_
    refine go_aload_n (pc := 86) dX9_swellOf_86 rfl ?_
    refine go_getS (pc := 87) 12845195 flX9_26 rfl rfl sM_10_5 (by decide) dX9_swellOf_87 ?_
    refine go_iload_n (pc := 90) dX9_swellOf_90 rfl ?_
    refine go_iald (pc := 91) rfl rfl dX9_swellOf_91 (fun _ => ?_)
    refine go_iadd (pc := 92) dX9_swellOf_92 ?_
    refine go_iconst (pc := 93) 2 dX9_swellOf_93 ki_2 ?_
    refine go_idiv' (pc := 94) (by decide) dX9_swellOf_94 ?_
    exact go_ret dX9_swellOf_95 rii rfl rfl
  refine go_tswC (pc := 43) (v := 5) (off := 53) 96 dX9_swellOf_43 (by decide) (by decide) (by decide) (fun _ => ?_) (fun n7 => ?_)
  · refine go_iload_n (pc := 96) dX9_swellOf_96 rfl ?_
    refine go_iconst (pc := 97) 2 dX9_swellOf_97 ki_2 ?_
    refine go_icmpge (pc := 98) 105 dX9_swellOf_98 (by decide) (fun _ => ?_) (fun _ => ?_)
    · refine go_iload_n (pc := 105) dX9_swellOf_105 rfl ?_
      refine go_iconst (pc := 106) 2 dX9_swellOf_106 ki_2 ?_
      refine go_isub (pc := 107) dX9_swellOf_107 ?_
      exact go_ret dX9_swellOf_108 rii rfl rfl
    · refine go_iconst (pc := 101) 0 dX9_swellOf_101 ki_0 ?_
      refine go_goto (pc := 102) 108 dX9_swellOf_102 (by decide) ?_
      exact go_ret dX9_swellOf_108 rii rfl rfl
  refine go_tswD (pc := 43) 109 dX9_swellOf_43 (by have n5t := lv_neT n5 (show (1 : Int32).toInt = 1 by decide); have n6t := lv_neT n6 (show (4 : Int32).toInt = 4 by decide); have n7t := lv_neT n7 (show (5 : Int32).toInt = 5 by decide); rcases (show (mI M 12714123 v1.toNatClampNeg).toInt < 1 ∨ 5 < (mI M 12714123 v1.toNatClampNeg).toInt ∨ (mI M 12714123 v1.toNatClampNeg).toInt = 2 ∨ (mI M 12714123 v1.toNatClampNeg).toInt = 3 by omega) with h | h | h | h <;> first | exact Or.inl h | exact Or.inr (Or.inl h) | exact Or.inr (Or.inr (by rw [h]; decide))) (by decide) ?_
  refine go_iload_n (pc := 109) dX9_swellOf_109 rfl ?_
  exact go_ret dX9_swellOf_110 rii rfl rfl
theorem o_M_swellOf (p1 : Int32) (M : Mem) : Ct sRM g_M_swellOf fWi [.ref 12451850, .int p1] (f_M_swellOf p1 M) M := by
  refine ⟨Nat.le_of_ble_eq_true rfl, ?_⟩
  show Go sRM g_M_swellOf fWi (f_M_swellOf p1 M) 0 [.ref 12451850, .int p1, .null] [] M
  refine go_def (f_M_swellOf.eq_1 ..) ?_
  refine go_aload_n (pc := 0) dX9_swellOf_0 rfl ?_
  refine go_callV (pc := 1) (a := 12451850) (as := []) (st := []) (o_M_hasSwell M) ic_M_hasSwell ivX9_280 (rcvk (a := 12451850) (t := 10) rfl (by decide) (by decide) rfl) rfl (by decide) (Nat.le_of_ble_eq_true rfl) dX9_swellOf_1 (kRi fun r1 => ?_)
  refine go_ifeq (pc := 4) 16 dX9_swellOf_4 (by decide) (fun _ => ?_) (fun _ => ?_)
  · refine go_iconst (pc := 16) 1 dX9_swellOf_16 ki_1 ?_
    exact o_M_swellOf_b17 p1 1 M
  · refine go_aload_n (pc := 7) dX9_swellOf_7 rfl ?_
    refine go_iconst (pc := 8) 0 dX9_swellOf_8 ki_0 ?_
    refine go_iload_n (pc := 9) dX9_swellOf_9 rfl ?_
    refine go_callV (pc := 10) (a := 12451850) (as := [.int 0, .int p1]) (st := []) (o_M_sumOf 0 p1 M) ic_M_sumOf ivX9_283 (rcvk (a := 12451850) (t := 10) rfl (by decide) (by decide) rfl) rfl (by decide) (Nat.le_of_ble_eq_true rfl) dX9_swellOf_10 (kWi fun r3 M2 => ?_)
    refine go_goto (pc := 13) 17 dX9_swellOf_13 (by decide) ?_
    exact o_M_swellOf_b17 p1 r3 M2
def f_M_bendOf_b44 (M : Mem) (v1 : Int32) (s0 : Int32) : Option Int32 := gd (inR v1 4) (if (mI M 12714123 v1.toNatClampNeg) = 2 then some ((s0 / 10) * 2) else gd (inR v1 4) (if (mI M 12714123 v1.toNatClampNeg) = 5 then some ((s0 / 10) * 2) else some (s0 / 10)))
def f_M_bendOf (p1 : Int32) (M : Mem) : Option Int32 := gd (inR p1 4) (gd (inR p1 4) (if (mI M 12976267 p1.toNatClampNeg) ≤ (mI M 13107339 p1.toNatClampNeg) then gd (inR p1 4) (gd (inR p1 4) (f_M_bendOf_b44 M p1 ((mI M 13107339 p1.toNatClampNeg) - (mI M 12976267 p1.toNatClampNeg)))) else gd (inR p1 4) (gd (inR p1 4) (f_M_bendOf_b44 M p1 ((mI M 12976267 p1.toNatClampNeg) - (mI M 13107339 p1.toNatClampNeg))))))
theorem o_M_bendOf_b44 (M : Mem) (v1 : Int32) (s0 : Int32) : Go sRM g_M_bendOf (fRi M) (f_M_bendOf_b44 M v1 s0) 44 [.ref 12451850, .int v1, .null] [.int s0] M := by
  refine go_def (f_M_bendOf_b44.eq_1 ..) ?_
  refine go_istore_n (pc := 44) (ls' := [.ref 12451850, .int v1, .int s0]) dX9_bendOf_44 (Nat.le_of_ble_eq_true rfl) rfl rfl ?_
  refine go_aload_n (pc := 45) dX9_bendOf_45 rfl ?_
  refine go_getS (pc := 46) 12714123 flX9_23 rfl rfl sM_10_4 (by decide) dX9_bendOf_46 ?_
  refine go_iload_n (pc := 49) dX9_bendOf_49 rfl ?_
  refine go_iald (pc := 50) rfl rfl dX9_bendOf_50 (fun _ => ?_)
  refine go_iconst (pc := 51) 2 dX9_bendOf_51 ki_2 ?_
  refine go_icmpeq (pc := 52) 65 dX9_bendOf_52 (by decide) (fun _ => ?_) (fun _ => ?_)
  · refine go_iload_n (pc := 65) dX9_bendOf_65 rfl ?_
    refine go_bipush (pc := 66) 10 dX9_bendOf_66 kb_10 ?_
    refine go_idiv' (pc := 68) (by decide) dX9_bendOf_68 ?_
    refine go_iconst (pc := 69) 2 dX9_bendOf_69 ki_2 ?_
    refine go_imul (pc := 70) dX9_bendOf_70 ?_
    refine go_goto (pc := 71) 78 dX9_bendOf_71 (by decide) ?_
    exact go_ret dX9_bendOf_78 rii rfl rfl
  · refine go_aload_n (pc := 55) dX9_bendOf_55 rfl ?_
    refine go_getS (pc := 56) 12714123 flX9_23 rfl rfl sM_10_4 (by decide) dX9_bendOf_56 ?_
    refine go_iload_n (pc := 59) dX9_bendOf_59 rfl ?_
    refine go_iald (pc := 60) rfl rfl dX9_bendOf_60 (fun _ => ?_)
    refine go_iconst (pc := 61) 5 dX9_bendOf_61 ki_5 ?_
    refine go_icmpne (pc := 62) 74 dX9_bendOf_62 (by decide) (fun _ => ?_) (fun _ => ?_)
    · refine go_iload_n (pc := 65) dX9_bendOf_65 rfl ?_
      refine go_bipush (pc := 66) 10 dX9_bendOf_66 kb_10 ?_
      refine go_idiv' (pc := 68) (by decide) dX9_bendOf_68 ?_
      refine go_iconst (pc := 69) 2 dX9_bendOf_69 ki_2 ?_
      refine go_imul (pc := 70) dX9_bendOf_70 ?_
      refine go_goto (pc := 71) 78 dX9_bendOf_71 (by decide) ?_
      exact go_ret dX9_bendOf_78 rii rfl rfl
    · refine go_iload_n (pc := 74) dX9_bendOf_74 rfl ?_
      refine go_bipush (pc := 75) 10 dX9_bendOf_75 kb_10 ?_
      refine go_idiv' (pc := 77) (by decide) dX9_bendOf_77 ?_
      exact go_ret dX9_bendOf_78 rii rfl rfl
theorem o_M_bendOf (p1 : Int32) (M : Mem) : Ct sRM g_M_bendOf (fRi M) [.ref 12451850, .int p1] (f_M_bendOf p1 M) M := by
  refine ⟨Nat.le_of_ble_eq_true rfl, ?_⟩
  show Go sRM g_M_bendOf (fRi M) (f_M_bendOf p1 M) 0 [.ref 12451850, .int p1, .null] [] M
  refine go_def (f_M_bendOf.eq_1 ..) ?_
  refine go_aload_n (pc := 0) dX9_bendOf_0 rfl ?_
  refine go_getS (pc := 1) 12976267 flX9_29 rfl rfl sM_10_6 (by decide) dX9_bendOf_1 ?_
  refine go_iload_n (pc := 4) dX9_bendOf_4 rfl ?_
  refine go_iald (pc := 5) rfl rfl dX9_bendOf_5 (fun _ => ?_)
  refine go_aload_n (pc := 6) dX9_bendOf_6 rfl ?_
  refine go_getS (pc := 7) 13107339 flX9_32 rfl rfl sM_10_7 (by decide) dX9_bendOf_7 ?_
  refine go_iload_n (pc := 10) dX9_bendOf_10 rfl ?_
  refine go_iald (pc := 11) rfl rfl dX9_bendOf_11 (fun _ => ?_)
  refine go_icmple (pc := 12) 31 dX9_bendOf_12 (by decide) (fun _ => ?_) (fun _ => ?_)
  · refine go_aload_n (pc := 31) dX9_bendOf_31 rfl ?_
    refine go_getS (pc := 32) 13107339 flX9_32 rfl rfl sM_10_7 (by decide) dX9_bendOf_32 ?_
    refine go_iload_n (pc := 35) dX9_bendOf_35 rfl ?_
    refine go_iald (pc := 36) rfl rfl dX9_bendOf_36 (fun _ => ?_)
    refine go_aload_n (pc := 37) dX9_bendOf_37 rfl ?_
    refine go_getS (pc := 38) 12976267 flX9_29 rfl rfl sM_10_6 (by decide) dX9_bendOf_38 ?_
    refine go_iload_n (pc := 41) dX9_bendOf_41 rfl ?_
    refine go_iald (pc := 42) rfl rfl dX9_bendOf_42 (fun _ => ?_)
    refine go_isub (pc := 43) dX9_bendOf_43 ?_
    exact o_M_bendOf_b44 M p1 ((mI M 13107339 p1.toNatClampNeg) - (mI M 12976267 p1.toNatClampNeg))
  · refine go_aload_n (pc := 15) dX9_bendOf_15 rfl ?_
    refine go_getS (pc := 16) 12976267 flX9_29 rfl rfl sM_10_6 (by decide) dX9_bendOf_16 ?_
    refine go_iload_n (pc := 19) dX9_bendOf_19 rfl ?_
    refine go_iald (pc := 20) rfl rfl dX9_bendOf_20 (fun _ => ?_)
    refine go_aload_n (pc := 21) dX9_bendOf_21 rfl ?_
    refine go_getS (pc := 22) 13107339 flX9_32 rfl rfl sM_10_7 (by decide) dX9_bendOf_22 ?_
    refine go_iload_n (pc := 25) dX9_bendOf_25 rfl ?_
    refine go_iald (pc := 26) rfl rfl dX9_bendOf_26 (fun _ => ?_)
    refine go_isub (pc := 27) dX9_bendOf_27 ?_
    refine go_goto (pc := 28) 44 dX9_bendOf_28 (by decide) ?_
    exact o_M_bendOf_b44 M p1 ((mI M 12976267 p1.toNatClampNeg) - (mI M 13107339 p1.toNatClampNeg))
def f_M_hangOf_b32 (M : Mem) (v1 : Int32) (s0 : Int32) : Option Int32 := gd (inR v1 4) (if (mI M 12714123 v1.toNatClampNeg) = 3 then gd (inR v1 4) (some (s0 + (mI M 12845195 v1.toNatClampNeg))) else if (mI M 12714123 v1.toNatClampNeg) = 6 then gd (inR v1 4) (some ((s0 + (mI M 12845195 v1.toNatClampNeg)) + ((mI M 12451850 2) / 2))) else some s0)
def f_M_hangOf (p1 : Int32) (M : Mem) : Option Int32 := gd (inR p1 4) (gd (inR p1 4) (if (mI M 13369483 p1.toNatClampNeg) ≤ (mI M 13500555 p1.toNatClampNeg) then f_M_hangOf_b32 M p1 0 else gd (inR p1 4) (gd (inR p1 4) (f_M_hangOf_b32 M p1 ((mI M 13369483 p1.toNatClampNeg) - (mI M 13500555 p1.toNatClampNeg))))))
theorem o_M_hangOf_b32 (M : Mem) (v1 : Int32) (s0 : Int32) : Go sRM g_M_hangOf (fRi M) (f_M_hangOf_b32 M v1 s0) 32 [.ref 12451850, .int v1, .null] [.int s0] M := by
  refine go_def (f_M_hangOf_b32.eq_1 ..) ?_
  refine go_istore_n (pc := 32) (ls' := [.ref 12451850, .int v1, .int s0]) dX9_hangOf_32 (Nat.le_of_ble_eq_true rfl) rfl rfl ?_
  refine go_aload_n (pc := 33) dX9_hangOf_33 rfl ?_
  refine go_getS (pc := 34) 12714123 flX9_23 rfl rfl sM_10_4 (by decide) dX9_hangOf_34 ?_
  refine go_iload_n (pc := 37) dX9_hangOf_37 rfl ?_
  refine go_iald (pc := 38) rfl rfl dX9_hangOf_38 (fun _ => ?_)
  refine go_lswC (pc := 39) (v := 3) (off := 25) 64 dX9_hangOf_39 (by decide) (by decide) (by decide) (fun _ => ?_) (fun n1 => ?_)
  · refine go_iload_n (pc := 64) dX9_hangOf_64 rfl ?_
    refine go_aload_n (pc := 65) dX9_hangOf_65 rfl ?_
    refine go_getS (pc := 66) 12845195 flX9_26 rfl rfl sM_10_5 (by decide) dX9_hangOf_66 ?_
    refine go_iload_n (pc := 69) dX9_hangOf_69 rfl ?_
    refine go_iald (pc := 70) rfl rfl dX9_hangOf_70 (fun _ => ?_)
    refine go_iadd (pc := 71) dX9_hangOf_71 ?_
    exact go_ret dX9_hangOf_72 rii rfl rfl
  refine go_lswC (pc := 39) (v := 6) (off := 34) 73 dX9_hangOf_39 (by decide) (by decide) (by decide) (fun _ => ?_) (fun n2 => ?_)
  · refine go_iload_n (pc := 73) dX9_hangOf_73 rfl ?_
    refine go_aload_n (pc := 74) dX9_hangOf_74 rfl ?_
    refine go_getS (pc := 75) 12845195 flX9_26 rfl rfl sM_10_5 (by decide) dX9_hangOf_75 ?_
    refine go_iload_n (pc := 78) dX9_hangOf_78 rfl ?_
    refine go_iald (pc := 79) rfl rfl dX9_hangOf_79 (fun _ => ?_)
    refine go_iadd (pc := 80) dX9_hangOf_80 ?_
    refine go_aload_n (pc := 81) dX9_hangOf_81 rfl ?_
    refine go_getI (pc := 82) flX9_17 rfl rfl dX9_hangOf_82 ?_
    refine go_iconst (pc := 85) 2 dX9_hangOf_85 ki_2 ?_
    refine go_idiv' (pc := 86) (by decide) dX9_hangOf_86 ?_
    refine go_iadd (pc := 87) dX9_hangOf_87 ?_
    exact go_ret dX9_hangOf_88 rii rfl rfl
  refine go_lswD (pc := 39) 89 dX9_hangOf_39 (by decide) (by show Op.lookupswitch.offset ([(3, 25), (6, 34)] : List (Int × Int)) _ _ = _; rw [lv_osw n1 (show (3 : Int32).toInt = 3 by decide), lv_osw n2 (show (6 : Int32).toInt = 6 by decide)]; rfl) (by decide) ?_
  refine go_iload_n (pc := 89) dX9_hangOf_89 rfl ?_
  exact go_ret dX9_hangOf_90 rii rfl rfl
theorem o_M_hangOf (p1 : Int32) (M : Mem) : Ct sRM g_M_hangOf (fRi M) [.ref 12451850, .int p1] (f_M_hangOf p1 M) M := by
  refine ⟨Nat.le_of_ble_eq_true rfl, ?_⟩
  show Go sRM g_M_hangOf (fRi M) (f_M_hangOf p1 M) 0 [.ref 12451850, .int p1, .null] [] M
  refine go_def (f_M_hangOf.eq_1 ..) ?_
  refine go_aload_n (pc := 0) dX9_hangOf_0 rfl ?_
  refine go_getS (pc := 1) 13369483 flX9_38 rfl rfl sM_10_9 (by decide) dX9_hangOf_1 ?_
  refine go_iload_n (pc := 4) dX9_hangOf_4 rfl ?_
  refine go_iald (pc := 5) rfl rfl dX9_hangOf_5 (fun _ => ?_)
  refine go_aload_n (pc := 6) dX9_hangOf_6 rfl ?_
  refine go_getS (pc := 7) 13500555 flX9_41 rfl rfl sM_10_10 (by decide) dX9_hangOf_7 ?_
  refine go_iload_n (pc := 10) dX9_hangOf_10 rfl ?_
  refine go_iald (pc := 11) rfl rfl dX9_hangOf_11 (fun _ => ?_)
  refine go_icmple (pc := 12) 31 dX9_hangOf_12 (by decide) (fun _ => ?_) (fun _ => ?_)
  · refine go_iconst (pc := 31) 0 dX9_hangOf_31 ki_0 ?_
    exact o_M_hangOf_b32 M p1 0
  · refine go_aload_n (pc := 15) dX9_hangOf_15 rfl ?_
    refine go_getS (pc := 16) 13369483 flX9_38 rfl rfl sM_10_9 (by decide) dX9_hangOf_16 ?_
    refine go_iload_n (pc := 19) dX9_hangOf_19 rfl ?_
    refine go_iald (pc := 20) rfl rfl dX9_hangOf_20 (fun _ => ?_)
    refine go_aload_n (pc := 21) dX9_hangOf_21 rfl ?_
    refine go_getS (pc := 22) 13500555 flX9_41 rfl rfl sM_10_10 (by decide) dX9_hangOf_22 ?_
    refine go_iload_n (pc := 25) dX9_hangOf_25 rfl ?_
    refine go_iald (pc := 26) rfl rfl dX9_hangOf_26 (fun _ => ?_)
    refine go_isub (pc := 27) dX9_hangOf_27 ?_
    refine go_goto (pc := 28) 32 dX9_hangOf_28 (by decide) ?_
    exact o_M_hangOf_b32 M p1 ((mI M 13369483 p1.toNatClampNeg) - (mI M 13500555 p1.toNatClampNeg))
def f_M_gapBy (p1 : Int32) (p2 : Int32) (p3 : Int32) (p4 : Int32) (p5 : Int32) (p6 : Int32) (M : Mem) : Option Int32 := gd (inR ((6 * p1) + p2) 24) (lt (mI M 13632267 ((6 * p1) + p2).toNatClampNeg) fun x1 => if p2 = 0 then some (x1 - p5) else if p2 = 1 then some ((x1 + p4) - p5) else if p2 = 2 then some (((x1 - p3) - p4) - p6) else if p2 = 3 then some (((x1 - p3) + p4) - p6) else if p2 = 4 then some (x1 - p4) else gd (inR p1 4) (some (x1 - (mI M 13500555 p1.toNatClampNeg))))
theorem o_M_gapBy (p1 : Int32) (p2 : Int32) (p3 : Int32) (p4 : Int32) (p5 : Int32) (p6 : Int32) (M : Mem) : Ct sRM g_M_gapBy (fRi M) [.ref 12451850, .int p1, .int p2, .int p3, .int p4, .int p5, .int p6] (f_M_gapBy p1 p2 p3 p4 p5 p6 M) M := by
  refine ⟨Nat.le_of_ble_eq_true rfl, ?_⟩
  show Go sRM g_M_gapBy (fRi M) (f_M_gapBy p1 p2 p3 p4 p5 p6 M) 0 [.ref 12451850, .int p1, .int p2, .int p3, .int p4, .int p5, .int p6, .null] [] M
  refine go_def (f_M_gapBy.eq_1 ..) ?_
  refine go_aload_n (pc := 0) dX9_gapBy_0 rfl ?_
  refine go_getS (pc := 1) 13632267 flX9_44 rfl rfl sM_10_11 (by decide) dX9_gapBy_1 ?_
  refine go_bipush (pc := 4) 6 dX9_gapBy_4 kb_6 ?_
  refine go_iload_n (pc := 6) dX9_gapBy_6 rfl ?_
  refine go_imul (pc := 7) dX9_gapBy_7 ?_
  refine go_iload_n (pc := 8) dX9_gapBy_8 rfl ?_
  refine go_iadd (pc := 9) dX9_gapBy_9 ?_
  refine go_iald (pc := 10) rfl rfl dX9_gapBy_10 (fun _ => ?_)
  refine go_istoreL (pc := 11) (L := fun x1 => [.ref 12451850, .int p1, .int p2, .int p3, .int p4, .int p5, .int p6, .int x1]) dX9_gapBy_11 (Nat.le_of_ble_eq_true rfl) rfl (fun _ => rfl) (fun x1 => ?_)
  refine go_iload_n (pc := 13) dX9_gapBy_13 rfl ?_
  refine go_tswC (pc := 14) (v := 0) (off := 34) 48 dX9_gapBy_14 (by decide) (by decide) (by decide) (fun _ => ?_) (fun n2 => ?_)
  · refine go_iload (pc := 48) dX9_gapBy_48 rfl ?_
    refine go_iload (pc := 50) dX9_gapBy_50 rfl ?_
    refine go_isub (pc := 52) dX9_gapBy_52 ?_
    exact go_ret dX9_gapBy_53 rii rfl rfl
  refine go_tswC (pc := 14) (v := 1) (off := 40) 54 dX9_gapBy_14 (by decide) (by decide) (by decide) (fun _ => ?_) (fun n3 => ?_)
  · refine go_iload (pc := 54) dX9_gapBy_54 rfl ?_
    refine go_iload (pc := 56) dX9_gapBy_56 rfl ?_
    refine go_iadd (pc := 58) dX9_gapBy_58 ?_
    refine go_iload (pc := 59) dX9_gapBy_59 rfl ?_
    refine go_isub (pc := 61) dX9_gapBy_61 ?_
    exact go_ret dX9_gapBy_62 rii rfl rfl
  refine go_tswC (pc := 14) (v := 2) (off := 49) 63 dX9_gapBy_14 (by decide) (by decide) (by decide) (fun _ => ?_) (fun n4 => ?_)
  · refine go_iload (pc := 63) dX9_gapBy_63 rfl ?_
    refine go_iload_n (pc := 65) dX9_gapBy_65 rfl ?_
    refine go_isub (pc := 66) dX9_gapBy_66 ?_
    refine go_iload (pc := 67) dX9_gapBy_67 rfl ?_
    refine go_isub (pc := 69) dX9_gapBy_69 ?_
    refine go_iload (pc := 70) dX9_gapBy_70 rfl ?_
    refine go_isub (pc := 72) dX9_gapBy_72 ?_
    exact go_ret dX9_gapBy_73 rii rfl rfl
  refine go_tswC (pc := 14) (v := 3) (off := 60) 74 dX9_gapBy_14 (by decide) (by decide) (by decide) (fun _ => ?_) (fun n5 => ?_)
  · refine go_iload (pc := 74) dX9_gapBy_74 rfl ?_
    refine go_iload_n (pc := 76) dX9_gapBy_76 rfl ?_
    refine go_isub (pc := 77) dX9_gapBy_77 ?_
    refine go_iload (pc := 78) dX9_gapBy_78 rfl ?_
    refine go_iadd (pc := 80) dX9_gapBy_80 ?_
    refine go_iload (pc := 81) dX9_gapBy_81 rfl ?_
    refine go_isub (pc := 83) dX9_gapBy_83 ?_
    exact go_ret dX9_gapBy_84 rii rfl rfl
  refine go_tswC (pc := 14) (v := 4) (off := 71) 85 dX9_gapBy_14 (by decide) (by decide) (by decide) (fun _ => ?_) (fun n6 => ?_)
  · refine go_iload (pc := 85) dX9_gapBy_85 rfl ?_
    refine go_iload (pc := 87) dX9_gapBy_87 rfl ?_
    refine go_isub (pc := 89) dX9_gapBy_89 ?_
    exact go_ret dX9_gapBy_90 rii rfl rfl
  refine go_tswD (pc := 14) 91 dX9_gapBy_14 (by have n2t := lv_neT n2 (show (0 : Int32).toInt = 0 by decide); have n3t := lv_neT n3 (show (1 : Int32).toInt = 1 by decide); have n4t := lv_neT n4 (show (2 : Int32).toInt = 2 by decide); have n5t := lv_neT n5 (show (3 : Int32).toInt = 3 by decide); have n6t := lv_neT n6 (show (4 : Int32).toInt = 4 by decide); rcases (show p2.toInt < 0 ∨ 4 < p2.toInt by omega) with h | h <;> first | exact Or.inl h | exact Or.inr (Or.inl h) | exact Or.inr (Or.inr (by rw [h]; decide))) (by decide) ?_
  refine go_iload (pc := 91) dX9_gapBy_91 rfl ?_
  refine go_aload_n (pc := 93) dX9_gapBy_93 rfl ?_
  refine go_getS (pc := 94) 13500555 flX9_41 rfl rfl sM_10_10 (by decide) dX9_gapBy_94 ?_
  refine go_iload_n (pc := 97) dX9_gapBy_97 rfl ?_
  refine go_iald (pc := 98) rfl rfl dX9_gapBy_98 (fun _ => ?_)
  refine go_isub (pc := 99) dX9_gapBy_99 ?_
  exact go_ret dX9_gapBy_100 rii rfl rfl
def f_M_gap (p1 : Int32) (p2 : Int32) (M : Mem) : Option (Int32 × Mem) := b2 (f_M_swellOf p1 M) fun r2 M1 => bd (f_M_hangOf p1 M1) fun r3 => bd (f_M_bendOf p1 M1) fun r4 => bd (f_M_gapBy p1 p2 r2 r3 (mI M1 12451850 2) r4 M1) fun r5 => some (r5, M1)
theorem o_M_gap (p1 : Int32) (p2 : Int32) (M : Mem) : Ct sRM g_M_gap fWi [.ref 12451850, .int p1, .int p2] (f_M_gap p1 p2 M) M := by
  refine ⟨Nat.le_of_ble_eq_true rfl, ?_⟩
  show Go sRM g_M_gap fWi (f_M_gap p1 p2 M) 0 [.ref 12451850, .int p1, .int p2] [] M
  refine go_def (f_M_gap.eq_1 ..) ?_
  refine go_aload_n (pc := 0) dX9_gap_0 rfl ?_
  refine go_iload_n (pc := 1) dX9_gap_1 rfl ?_
  refine go_iload_n (pc := 2) dX9_gap_2 rfl ?_
  refine go_aload_n (pc := 3) dX9_gap_3 rfl ?_
  refine go_iload_n (pc := 4) dX9_gap_4 rfl ?_
  refine go_callV (pc := 5) (a := 12451850) (as := [.int p1]) (st := [.int p2, .int p1, .ref 12451850]) (o_M_swellOf p1 M) ic_M_swellOf ivX9_286 (rcvk (a := 12451850) (t := 10) rfl (by decide) (by decide) rfl) rfl (by decide) (Nat.le_of_ble_eq_true rfl) dX9_gap_5 (kWi fun r2 M1 => ?_)
  refine go_aload_n (pc := 8) dX9_gap_8 rfl ?_
  refine go_iload_n (pc := 9) dX9_gap_9 rfl ?_
  refine go_callV (pc := 10) (a := 12451850) (as := [.int p1]) (st := [.int r2, .int p2, .int p1, .ref 12451850]) (o_M_hangOf p1 M1) ic_M_hangOf ivX9_289 (rcvk (a := 12451850) (t := 10) rfl (by decide) (by decide) rfl) rfl (by decide) (Nat.le_of_ble_eq_true rfl) dX9_gap_10 (kRi fun r3 => ?_)
  refine go_aload_n (pc := 13) dX9_gap_13 rfl ?_
  refine go_getI (pc := 14) flX9_17 rfl rfl dX9_gap_14 ?_
  refine go_aload_n (pc := 17) dX9_gap_17 rfl ?_
  refine go_iload_n (pc := 18) dX9_gap_18 rfl ?_
  refine go_callV (pc := 19) (a := 12451850) (as := [.int p1]) (st := [.int (mI M1 12451850 2), .int r3, .int r2, .int p2, .int p1, .ref 12451850]) (o_M_bendOf p1 M1) ic_M_bendOf ivX9_292 (rcvk (a := 12451850) (t := 10) rfl (by decide) (by decide) rfl) rfl (by decide) (Nat.le_of_ble_eq_true rfl) dX9_gap_19 (kRi fun r4 => ?_)
  refine go_callV (pc := 22) (a := 12451850) (as := [.int p1, .int p2, .int r2, .int r3, .int (mI M1 12451850 2), .int r4]) (st := []) (o_M_gapBy p1 p2 r2 r3 (mI M1 12451850 2) r4 M1) ic_M_gapBy ivX9_295 (rcvk (a := 12451850) (t := 10) rfl (by decide) (by decide) rfl) rfl (by decide) (Nat.le_of_ble_eq_true rfl) dX9_gap_22 (kRi fun r5 => ?_)
  exact go_ret dX9_gap_25 rii rfl rfl
def f_M_rubs_l4 : Nat → Int32 → Int32 → Int32 → Mem → Option (Int32 × Mem)
  | 0, _, _, _, _ => none
  | n + 1, v1, v2, v3, M => if 6 ≤ v3 then some (v2, M) else b2 (f_M_gap v1 v3 M) fun r2 M1 => if 0 ≤ r2 then lt (v2 ||| 0) fun x3 => lt (v3 + 1) fun x4 => f_M_rubs_l4 n v1 x3 x4 M1 else lt (v2 ||| (1 <<< (v3 &&& 31))) fun x5 => lt (v3 + 1) fun x6 => f_M_rubs_l4 n v1 x5 x6 M1
def f_M_rubs (p1 : Int32) (M : Mem) : Option (Int32 × Mem) := f_M_rubs_l4 200 p1 0 0 M
theorem o_M_rubs_l4 : ∀ (n : Nat) (v1 : Int32) (v2 : Int32) (v3 : Int32) (M : Mem), Go sRM g_M_rubs fWi (f_M_rubs_l4 n v1 v2 v3 M) 4 [.ref 12451850, .int v1, .int v2, .int v3] [] M := by
  intro n
  induction n with
  | zero =>
    intro v1 v2 v3 M
    exact go_def (f_M_rubs_l4.eq_1 ..) go_none
  | succ n ih =>
    intro v1 v2 v3 M
    refine go_def (f_M_rubs_l4.eq_2 ..) ?_
    refine go_iload_n (pc := 4) dX9_rubs_4 rfl ?_
    refine go_bipush (pc := 5) 6 dX9_rubs_5 kb_6 ?_
    refine go_icmpge (pc := 7) 35 dX9_rubs_7 (by decide) (fun _ => ?_) (fun _ => ?_)
    · refine go_iload_n (pc := 35) dX9_rubs_35 rfl ?_
      exact go_ret dX9_rubs_36 rii rfl rfl
    · refine go_iload_n (pc := 10) dX9_rubs_10 rfl ?_
      refine go_aload_n (pc := 11) dX9_rubs_11 rfl ?_
      refine go_iload_n (pc := 12) dX9_rubs_12 rfl ?_
      refine go_iload_n (pc := 13) dX9_rubs_13 rfl ?_
      refine go_callV (pc := 14) (a := 12451850) (as := [.int v1, .int v3]) (st := [.int v2]) (o_M_gap v1 v3 M) ic_M_gap ivX9_299 (rcvk (a := 12451850) (t := 10) rfl (by decide) (by decide) rfl) rfl (by decide) (Nat.le_of_ble_eq_true rfl) dX9_rubs_14 (kWi fun r2 M1 => ?_)
      refine go_ifge (pc := 17) 26 dX9_rubs_17 (by decide) (fun _ => ?_) (fun _ => ?_)
      · refine go_iconst (pc := 26) 0 dX9_rubs_26 ki_0 ?_
        refine go_ior (pc := 27) dX9_rubs_27 ?_
        refine go_istore_nL (pc := 28) (L := fun x3 => [.ref 12451850, .int v1, .int x3, .int v3]) dX9_rubs_28 (Nat.le_of_ble_eq_true rfl) rfl (fun _ => rfl) (fun x3 => ?_)
        refine go_iincL (pc := 29) (L := fun x4 => [.ref 12451850, .int v1, .int x3, .int x4]) 1 dX9_rubs_29 rfl ki_1 (Nat.le_of_ble_eq_true rfl) rfl (fun _ => rfl) (fun x4 => ?_)
        refine go_goto (pc := 32) 4 dX9_rubs_32 (by decide) ?_
        exact ih v1 x3 x4 M1
      · refine go_iconst (pc := 20) 1 dX9_rubs_20 ki_1 ?_
        refine go_iload_n (pc := 21) dX9_rubs_21 rfl ?_
        refine go_ishl (pc := 22) dX9_rubs_22 ?_
        refine go_goto (pc := 23) 27 dX9_rubs_23 (by decide) ?_
        refine go_ior (pc := 27) dX9_rubs_27 ?_
        refine go_istore_nL (pc := 28) (L := fun x5 => [.ref 12451850, .int v1, .int x5, .int v3]) dX9_rubs_28 (Nat.le_of_ble_eq_true rfl) rfl (fun _ => rfl) (fun x5 => ?_)
        refine go_iincL (pc := 29) (L := fun x6 => [.ref 12451850, .int v1, .int x5, .int x6]) 1 dX9_rubs_29 rfl ki_1 (Nat.le_of_ble_eq_true rfl) rfl (fun _ => rfl) (fun x6 => ?_)
        refine go_goto (pc := 32) 4 dX9_rubs_32 (by decide) ?_
        exact ih v1 x5 x6 M1
theorem o_M_rubs (p1 : Int32) (M : Mem) : Ct sRM g_M_rubs fWi [.ref 12451850, .int p1] (f_M_rubs p1 M) M := by
  refine ⟨Nat.le_of_ble_eq_true rfl, ?_⟩
  show Go sRM g_M_rubs fWi (f_M_rubs p1 M) 0 [.ref 12451850, .int p1, .null, .null] [] M
  refine go_def (f_M_rubs.eq_1 ..) ?_
  refine go_iconst (pc := 0) 0 dX9_rubs_0 ki_0 ?_
  refine go_istore_n (pc := 1) (ls' := [.ref 12451850, .int p1, .int 0, .null]) dX9_rubs_1 (Nat.le_of_ble_eq_true rfl) rfl rfl ?_
  refine go_iconst (pc := 2) 0 dX9_rubs_2 ki_0 ?_
  refine go_istore_n (pc := 3) (ls' := [.ref 12451850, .int p1, .int 0, .int 0]) dX9_rubs_3 (Nat.le_of_ble_eq_true rfl) rfl rfl ?_
  exact o_M_rubs_l4 200 p1 0 0 M
def f_M_draughts_l4 : Nat → Int32 → Int32 → Int32 → Mem → Option (Int32 × Mem)
  | 0, _, _, _, _ => none
  | n + 1, v1, v2, v3, M => if 6 ≤ v3 then some (v2, M) else b2 (f_M_gap v1 v3 M) fun r2 M1 => bd (f_M_lastOf 3 9 M1) fun r3 => if r2 ≤ r3 then lt (v2 ||| 0) fun x4 => lt (v3 + 1) fun x5 => f_M_draughts_l4 n v1 x4 x5 M1 else lt (v2 ||| (1 <<< (v3 &&& 31))) fun x6 => lt (v3 + 1) fun x7 => f_M_draughts_l4 n v1 x6 x7 M1
def f_M_draughts (p1 : Int32) (M : Mem) : Option (Int32 × Mem) := f_M_draughts_l4 200 p1 0 0 M
theorem o_M_draughts_l4 : ∀ (n : Nat) (v1 : Int32) (v2 : Int32) (v3 : Int32) (M : Mem), Go sRM g_M_draughts fWi (f_M_draughts_l4 n v1 v2 v3 M) 4 [.ref 12451850, .int v1, .int v2, .int v3] [] M := by
  intro n
  induction n with
  | zero =>
    intro v1 v2 v3 M
    exact go_def (f_M_draughts_l4.eq_1 ..) go_none
  | succ n ih =>
    intro v1 v2 v3 M
    refine go_def (f_M_draughts_l4.eq_2 ..) ?_
    refine go_iload_n (pc := 4) dX9_draughts_4 rfl ?_
    refine go_bipush (pc := 5) 6 dX9_draughts_5 kb_6 ?_
    refine go_icmpge (pc := 7) 42 dX9_draughts_7 (by decide) (fun _ => ?_) (fun _ => ?_)
    · refine go_iload_n (pc := 42) dX9_draughts_42 rfl ?_
      exact go_ret dX9_draughts_43 rii rfl rfl
    · refine go_iload_n (pc := 10) dX9_draughts_10 rfl ?_
      refine go_aload_n (pc := 11) dX9_draughts_11 rfl ?_
      refine go_iload_n (pc := 12) dX9_draughts_12 rfl ?_
      refine go_iload_n (pc := 13) dX9_draughts_13 rfl ?_
      refine go_callV (pc := 14) (a := 12451850) (as := [.int v1, .int v3]) (st := [.int v2]) (o_M_gap v1 v3 M) ic_M_gap ivX9_299 (rcvk (a := 12451850) (t := 10) rfl (by decide) (by decide) rfl) rfl (by decide) (Nat.le_of_ble_eq_true rfl) dX9_draughts_14 (kWi fun r2 M1 => ?_)
      refine go_aload_n (pc := 17) dX9_draughts_17 rfl ?_
      refine go_iconst (pc := 18) 3 dX9_draughts_18 ki_3 ?_
      refine go_bipush (pc := 19) 9 dX9_draughts_19 kb_9 ?_
      refine go_callV (pc := 21) (a := 12451850) (as := [.int 3, .int 9]) (st := [.int r2, .int v2]) (o_M_lastOf 3 9 M1) ic_M_lastOf ivX9_302 (rcvk (a := 12451850) (t := 10) rfl (by decide) (by decide) rfl) rfl (by decide) (Nat.le_of_ble_eq_true rfl) dX9_draughts_21 (kRi fun r3 => ?_)
      refine go_icmple (pc := 24) 33 dX9_draughts_24 (by decide) (fun _ => ?_) (fun _ => ?_)
      · refine go_iconst (pc := 33) 0 dX9_draughts_33 ki_0 ?_
        refine go_ior (pc := 34) dX9_draughts_34 ?_
        refine go_istore_nL (pc := 35) (L := fun x4 => [.ref 12451850, .int v1, .int x4, .int v3]) dX9_draughts_35 (Nat.le_of_ble_eq_true rfl) rfl (fun _ => rfl) (fun x4 => ?_)
        refine go_iincL (pc := 36) (L := fun x5 => [.ref 12451850, .int v1, .int x4, .int x5]) 1 dX9_draughts_36 rfl ki_1 (Nat.le_of_ble_eq_true rfl) rfl (fun _ => rfl) (fun x5 => ?_)
        refine go_goto (pc := 39) 4 dX9_draughts_39 (by decide) ?_
        exact ih v1 x4 x5 M1
      · refine go_iconst (pc := 27) 1 dX9_draughts_27 ki_1 ?_
        refine go_iload_n (pc := 28) dX9_draughts_28 rfl ?_
        refine go_ishl (pc := 29) dX9_draughts_29 ?_
        refine go_goto (pc := 30) 34 dX9_draughts_30 (by decide) ?_
        refine go_ior (pc := 34) dX9_draughts_34 ?_
        refine go_istore_nL (pc := 35) (L := fun x6 => [.ref 12451850, .int v1, .int x6, .int v3]) dX9_draughts_35 (Nat.le_of_ble_eq_true rfl) rfl (fun _ => rfl) (fun x6 => ?_)
        refine go_iincL (pc := 36) (L := fun x7 => [.ref 12451850, .int v1, .int x6, .int x7]) 1 dX9_draughts_36 rfl ki_1 (Nat.le_of_ble_eq_true rfl) rfl (fun _ => rfl) (fun x7 => ?_)
        refine go_goto (pc := 39) 4 dX9_draughts_39 (by decide) ?_
        exact ih v1 x6 x7 M1
theorem o_M_draughts (p1 : Int32) (M : Mem) : Ct sRM g_M_draughts fWi [.ref 12451850, .int p1] (f_M_draughts p1 M) M := by
  refine ⟨Nat.le_of_ble_eq_true rfl, ?_⟩
  show Go sRM g_M_draughts fWi (f_M_draughts p1 M) 0 [.ref 12451850, .int p1, .null, .null] [] M
  refine go_def (f_M_draughts.eq_1 ..) ?_
  refine go_iconst (pc := 0) 0 dX9_draughts_0 ki_0 ?_
  refine go_istore_n (pc := 1) (ls' := [.ref 12451850, .int p1, .int 0, .null]) dX9_draughts_1 (Nat.le_of_ble_eq_true rfl) rfl rfl ?_
  refine go_iconst (pc := 2) 0 dX9_draughts_2 ki_0 ?_
  refine go_istore_n (pc := 3) (ls' := [.ref 12451850, .int p1, .int 0, .int 0]) dX9_draughts_3 (Nat.le_of_ble_eq_true rfl) rfl rfl ?_
  exact o_M_draughts_l4 200 p1 0 0 M
def f_M_of (p1 : Int32) (p2 : Int32) (M : Mem) : Option (Int32 × Mem) := if (f_M_isDoor p1 M) = 0 then some ((-10001), M) else if (f_M_in p2 20 25 M) = 0 then if (f_M_in p2 30 35 M) = 0 then if p2 = 0 then gd (inR p1 4) (some (mI M 12714123 p1.toNatClampNeg, M)) else if p2 = 1 then gd (inR p1 4) (some (mI M 12845195 p1.toNatClampNeg, M)) else if p2 = 2 then gd (inR p1 4) (some (mI M 12976267 p1.toNatClampNeg, M)) else if p2 = 3 then gd (inR p1 4) (some (mI M 13107339 p1.toNatClampNeg, M)) else if p2 = 4 then gd (inR p1 4) (some (mI M 13238411 p1.toNatClampNeg, M)) else if p2 = 5 then gd (inR p1 4) (some (mI M 13369483 p1.toNatClampNeg, M)) else if p2 = 6 then gd (inR p1 4) (some (mI M 13500555 p1.toNatClampNeg, M)) else if p2 = 7 then b2 (f_M_swellOf p1 M) fun r2 M1 => some (r2, M1) else if p2 = 8 then bd (f_M_bendOf p1 M) fun r3 => some (r3, M) else if p2 = 9 then bd (f_M_hangOf p1 M) fun r4 => some (r4, M) else if p2 = 10 then b2 (f_M_rubs p1 M) fun r6 M5 => some (r6, M5) else if p2 = 11 then b2 (f_M_draughts p1 M) fun r8 M7 => some (r8, M7) else some ((-10001), M) else b2 (f_M_gap p1 (p2 - 30) M) fun r22 M21 => some (r22, M21) else gd (inR (((6 * p1) + p2) - 20) 24) (some (mI M 13632267 (((6 * p1) + p2) - 20).toNatClampNeg, M))
theorem o_M_of (p1 : Int32) (p2 : Int32) (M : Mem) : Ct sRM g_M_of fWi [.ref 12451850, .int p1, .int p2] (f_M_of p1 p2 M) M := by
  refine ⟨Nat.le_of_ble_eq_true rfl, ?_⟩
  show Go sRM g_M_of fWi (f_M_of p1 p2 M) 0 [.ref 12451850, .int p1, .int p2] [] M
  refine go_def (f_M_of.eq_1 ..) ?_
  refine go_aload_n (pc := 0) dX9_of_0 rfl ?_
  refine go_iload_n (pc := 1) dX9_of_1 rfl ?_
  refine go_T (v := f_M_isDoor p1 M) ?_
  refine go_callV (pc := 2) (a := 12451850) (as := [.int p1]) (st := []) (o_M_isDoor p1 M) ic_M_isDoor ivX9_207 (rcvk (a := 12451850) (t := 10) rfl (by decide) (by decide) rfl) rfl (by decide) (Nat.le_of_ble_eq_true rfl) dX9_of_2 (kTi ?_)
  refine go_ifne (pc := 5) 12 dX9_of_5 (by decide) (fun _ => ?_) (fun _ => ?_)
  · refine go_sipush (pc := 8) (-10001) dX9_of_8 ks_m10001 ?_
    exact go_ret dX9_of_11 rii rfl rfl
  · refine go_aload_n (pc := 12) dX9_of_12 rfl ?_
    refine go_iload_n (pc := 13) dX9_of_13 rfl ?_
    refine go_bipush (pc := 14) 20 dX9_of_14 kb_20 ?_
    refine go_bipush (pc := 16) 25 dX9_of_16 kb_25 ?_
    refine go_T (v := f_M_in p2 20 25 M) ?_
    refine go_callV (pc := 18) (a := 12451850) (as := [.int p2, .int 20, .int 25]) (st := []) (o_M_in p2 20 25 M) ic_M_in ivX9_203 (rcvk (a := 12451850) (t := 10) rfl (by decide) (by decide) rfl) rfl (by decide) (Nat.le_of_ble_eq_true rfl) dX9_of_18 (kTi ?_)
    refine go_ifeq (pc := 21) 39 dX9_of_21 (by decide) (fun _ => ?_) (fun _ => ?_)
    · refine go_aload_n (pc := 39) dX9_of_39 rfl ?_
      refine go_iload_n (pc := 40) dX9_of_40 rfl ?_
      refine go_bipush (pc := 41) 30 dX9_of_41 kb_30 ?_
      refine go_bipush (pc := 43) 35 dX9_of_43 kb_35 ?_
      refine go_T (v := f_M_in p2 30 35 M) ?_
      refine go_callV (pc := 45) (a := 12451850) (as := [.int p2, .int 30, .int 35]) (st := []) (o_M_in p2 30 35 M) ic_M_in ivX9_203 (rcvk (a := 12451850) (t := 10) rfl (by decide) (by decide) rfl) rfl (by decide) (Nat.le_of_ble_eq_true rfl) dX9_of_45 (kTi ?_)
      refine go_ifeq (pc := 48) 61 dX9_of_48 (by decide) (fun _ => ?_) (fun _ => ?_)
      · refine go_iload_n (pc := 61) dX9_of_61 rfl ?_
        refine go_tswC (pc := 62) (v := 0) (off := 62) 124 dX9_of_62 (by decide) (by decide) (by decide) (fun _ => ?_) (fun n9 => ?_)
        · refine go_aload_n (pc := 124) dX9_of_124 rfl ?_
          refine go_getS (pc := 125) 12714123 flX9_23 rfl rfl sM_10_4 (by decide) dX9_of_125 ?_
          refine go_iload_n (pc := 128) dX9_of_128 rfl ?_
          refine go_iald (pc := 129) rfl rfl dX9_of_129 (fun _ => ?_)
          exact go_ret dX9_of_130 rii rfl rfl
        refine go_tswC (pc := 62) (v := 1) (off := 69) 131 dX9_of_62 (by decide) (by decide) (by decide) (fun _ => ?_) (fun n10 => ?_)
        · refine go_aload_n (pc := 131) dX9_of_131 rfl ?_
          refine go_getS (pc := 132) 12845195 flX9_26 rfl rfl sM_10_5 (by decide) dX9_of_132 ?_
          refine go_iload_n (pc := 135) dX9_of_135 rfl ?_
          refine go_iald (pc := 136) rfl rfl dX9_of_136 (fun _ => ?_)
          exact go_ret dX9_of_137 rii rfl rfl
        refine go_tswC (pc := 62) (v := 2) (off := 76) 138 dX9_of_62 (by decide) (by decide) (by decide) (fun _ => ?_) (fun n11 => ?_)
        · refine go_aload_n (pc := 138) dX9_of_138 rfl ?_
          refine go_getS (pc := 139) 12976267 flX9_29 rfl rfl sM_10_6 (by decide) dX9_of_139 ?_
          refine go_iload_n (pc := 142) dX9_of_142 rfl ?_
          refine go_iald (pc := 143) rfl rfl dX9_of_143 (fun _ => ?_)
          exact go_ret dX9_of_144 rii rfl rfl
        refine go_tswC (pc := 62) (v := 3) (off := 83) 145 dX9_of_62 (by decide) (by decide) (by decide) (fun _ => ?_) (fun n12 => ?_)
        · refine go_aload_n (pc := 145) dX9_of_145 rfl ?_
          refine go_getS (pc := 146) 13107339 flX9_32 rfl rfl sM_10_7 (by decide) dX9_of_146 ?_
          refine go_iload_n (pc := 149) dX9_of_149 rfl ?_
          refine go_iald (pc := 150) rfl rfl dX9_of_150 (fun _ => ?_)
          exact go_ret dX9_of_151 rii rfl rfl
        refine go_tswC (pc := 62) (v := 4) (off := 90) 152 dX9_of_62 (by decide) (by decide) (by decide) (fun _ => ?_) (fun n13 => ?_)
        · refine go_aload_n (pc := 152) dX9_of_152 rfl ?_
          refine go_getS (pc := 153) 13238411 flX9_35 rfl rfl sM_10_8 (by decide) dX9_of_153 ?_
          refine go_iload_n (pc := 156) dX9_of_156 rfl ?_
          refine go_iald (pc := 157) rfl rfl dX9_of_157 (fun _ => ?_)
          exact go_ret dX9_of_158 rii rfl rfl
        refine go_tswC (pc := 62) (v := 5) (off := 97) 159 dX9_of_62 (by decide) (by decide) (by decide) (fun _ => ?_) (fun n14 => ?_)
        · refine go_aload_n (pc := 159) dX9_of_159 rfl ?_
          refine go_getS (pc := 160) 13369483 flX9_38 rfl rfl sM_10_9 (by decide) dX9_of_160 ?_
          refine go_iload_n (pc := 163) dX9_of_163 rfl ?_
          refine go_iald (pc := 164) rfl rfl dX9_of_164 (fun _ => ?_)
          exact go_ret dX9_of_165 rii rfl rfl
        refine go_tswC (pc := 62) (v := 6) (off := 104) 166 dX9_of_62 (by decide) (by decide) (by decide) (fun _ => ?_) (fun n15 => ?_)
        · refine go_aload_n (pc := 166) dX9_of_166 rfl ?_
          refine go_getS (pc := 167) 13500555 flX9_41 rfl rfl sM_10_10 (by decide) dX9_of_167 ?_
          refine go_iload_n (pc := 170) dX9_of_170 rfl ?_
          refine go_iald (pc := 171) rfl rfl dX9_of_171 (fun _ => ?_)
          exact go_ret dX9_of_172 rii rfl rfl
        refine go_tswC (pc := 62) (v := 7) (off := 111) 173 dX9_of_62 (by decide) (by decide) (by decide) (fun _ => ?_) (fun n16 => ?_)
        · refine go_aload_n (pc := 173) dX9_of_173 rfl ?_
          refine go_iload_n (pc := 174) dX9_of_174 rfl ?_
          refine go_callV (pc := 175) (a := 12451850) (as := [.int p1]) (st := []) (o_M_swellOf p1 M) ic_M_swellOf ivX9_286 (rcvk (a := 12451850) (t := 10) rfl (by decide) (by decide) rfl) rfl (by decide) (Nat.le_of_ble_eq_true rfl) dX9_of_175 (kWi fun r2 M1 => ?_)
          exact go_ret dX9_of_178 rii rfl rfl
        refine go_tswC (pc := 62) (v := 8) (off := 117) 179 dX9_of_62 (by decide) (by decide) (by decide) (fun _ => ?_) (fun n17 => ?_)
        · refine go_aload_n (pc := 179) dX9_of_179 rfl ?_
          refine go_iload_n (pc := 180) dX9_of_180 rfl ?_
          refine go_callV (pc := 181) (a := 12451850) (as := [.int p1]) (st := []) (o_M_bendOf p1 M) ic_M_bendOf ivX9_292 (rcvk (a := 12451850) (t := 10) rfl (by decide) (by decide) rfl) rfl (by decide) (Nat.le_of_ble_eq_true rfl) dX9_of_181 (kRi fun r3 => ?_)
          exact go_ret dX9_of_184 rii rfl rfl
        refine go_tswC (pc := 62) (v := 9) (off := 123) 185 dX9_of_62 (by decide) (by decide) (by decide) (fun _ => ?_) (fun n18 => ?_)
        · refine go_aload_n (pc := 185) dX9_of_185 rfl ?_
          refine go_iload_n (pc := 186) dX9_of_186 rfl ?_
          refine go_callV (pc := 187) (a := 12451850) (as := [.int p1]) (st := []) (o_M_hangOf p1 M) ic_M_hangOf ivX9_289 (rcvk (a := 12451850) (t := 10) rfl (by decide) (by decide) rfl) rfl (by decide) (Nat.le_of_ble_eq_true rfl) dX9_of_187 (kRi fun r4 => ?_)
          exact go_ret dX9_of_190 rii rfl rfl
        refine go_tswC (pc := 62) (v := 10) (off := 129) 191 dX9_of_62 (by decide) (by decide) (by decide) (fun _ => ?_) (fun n19 => ?_)
        · refine go_aload_n (pc := 191) dX9_of_191 rfl ?_
          refine go_iload_n (pc := 192) dX9_of_192 rfl ?_
          refine go_callV (pc := 193) (a := 12451850) (as := [.int p1]) (st := []) (o_M_rubs p1 M) ic_M_rubs ivX9_305 (rcvk (a := 12451850) (t := 10) rfl (by decide) (by decide) rfl) rfl (by decide) (Nat.le_of_ble_eq_true rfl) dX9_of_193 (kWi fun r6 M5 => ?_)
          exact go_ret dX9_of_196 rii rfl rfl
        refine go_tswC (pc := 62) (v := 11) (off := 135) 197 dX9_of_62 (by decide) (by decide) (by decide) (fun _ => ?_) (fun n20 => ?_)
        · refine go_aload_n (pc := 197) dX9_of_197 rfl ?_
          refine go_iload_n (pc := 198) dX9_of_198 rfl ?_
          refine go_callV (pc := 199) (a := 12451850) (as := [.int p1]) (st := []) (o_M_draughts p1 M) ic_M_draughts ivX9_308 (rcvk (a := 12451850) (t := 10) rfl (by decide) (by decide) rfl) rfl (by decide) (Nat.le_of_ble_eq_true rfl) dX9_of_199 (kWi fun r8 M7 => ?_)
          exact go_ret dX9_of_202 rii rfl rfl
        refine go_tswD (pc := 62) 203 dX9_of_62 (by have n9t := lv_neT n9 (show (0 : Int32).toInt = 0 by decide); have n10t := lv_neT n10 (show (1 : Int32).toInt = 1 by decide); have n11t := lv_neT n11 (show (2 : Int32).toInt = 2 by decide); have n12t := lv_neT n12 (show (3 : Int32).toInt = 3 by decide); have n13t := lv_neT n13 (show (4 : Int32).toInt = 4 by decide); have n14t := lv_neT n14 (show (5 : Int32).toInt = 5 by decide); have n15t := lv_neT n15 (show (6 : Int32).toInt = 6 by decide); have n16t := lv_neT n16 (show (7 : Int32).toInt = 7 by decide); have n17t := lv_neT n17 (show (8 : Int32).toInt = 8 by decide); have n18t := lv_neT n18 (show (9 : Int32).toInt = 9 by decide); have n19t := lv_neT n19 (show (10 : Int32).toInt = 10 by decide); have n20t := lv_neT n20 (show (11 : Int32).toInt = 11 by decide); rcases (show p2.toInt < 0 ∨ 11 < p2.toInt by omega) with h | h <;> first | exact Or.inl h | exact Or.inr (Or.inl h) | exact Or.inr (Or.inr (by rw [h]; decide))) (by decide) ?_
        refine go_sipush (pc := 203) (-10001) dX9_of_203 ks_m10001 ?_
        exact go_ret dX9_of_206 rii rfl rfl
      · refine go_aload_n (pc := 51) dX9_of_51 rfl ?_
        refine go_iload_n (pc := 52) dX9_of_52 rfl ?_
        refine go_iload_n (pc := 53) dX9_of_53 rfl ?_
        refine go_bipush (pc := 54) 30 dX9_of_54 kb_30 ?_
        refine go_isub (pc := 56) dX9_of_56 ?_
        refine go_callV (pc := 57) (a := 12451850) (as := [.int p1, .int (p2 - 30)]) (st := []) (o_M_gap p1 (p2 - 30) M) ic_M_gap ivX9_299 (rcvk (a := 12451850) (t := 10) rfl (by decide) (by decide) rfl) rfl (by decide) (Nat.le_of_ble_eq_true rfl) dX9_of_57 (kWi fun r22 M21 => ?_)
        exact go_ret dX9_of_60 rii rfl rfl
    · refine go_aload_n (pc := 24) dX9_of_24 rfl ?_
      refine go_getS (pc := 25) 13632267 flX9_44 rfl rfl sM_10_11 (by decide) dX9_of_25 ?_
      refine go_bipush (pc := 28) 6 dX9_of_28 kb_6 ?_
      refine go_iload_n (pc := 30) dX9_of_30 rfl ?_
      refine go_imul (pc := 31) dX9_of_31 ?_
      refine go_iload_n (pc := 32) dX9_of_32 rfl ?_
      refine go_iadd (pc := 33) dX9_of_33 ?_
      refine go_bipush (pc := 34) 20 dX9_of_34 kb_20 ?_
      refine go_isub (pc := 36) dX9_of_36 ?_
      refine go_iald (pc := 37) rfl rfl dX9_of_37 (fun _ => ?_)
      exact go_ret dX9_of_38 rii rfl rfl
def f_M_told (p1 : Int32) (M : Mem) : Option Int32 := if (f_M_in p1 10 21 M) = 0 then if p1 = 0 then bd (f_M_lastOf 2 0 M) fun r1 => some r1 else if p1 = 1 then bd (f_M_lastOf 3 9 M) fun r2 => some r2 else if p1 = 2 then some (mI M 12451850 3) else if p1 = 3 then some (mI M 12451850 2) else some (-1) else gd (inR (p1 - 10) 12) (some (mI M 12583307 (p1 - 10).toNatClampNeg))
theorem o_M_told (p1 : Int32) (M : Mem) : Ct sRM g_M_told (fRi M) [.ref 12451850, .int p1] (f_M_told p1 M) M := by
  refine ⟨Nat.le_of_ble_eq_true rfl, ?_⟩
  show Go sRM g_M_told (fRi M) (f_M_told p1 M) 0 [.ref 12451850, .int p1] [] M
  refine go_def (f_M_told.eq_1 ..) ?_
  refine go_aload_n (pc := 0) dX9_told_0 rfl ?_
  refine go_iload_n (pc := 1) dX9_told_1 rfl ?_
  refine go_bipush (pc := 2) 10 dX9_told_2 kb_10 ?_
  refine go_bipush (pc := 4) 21 dX9_told_4 kb_21 ?_
  refine go_T (v := f_M_in p1 10 21 M) ?_
  refine go_callV (pc := 6) (a := 12451850) (as := [.int p1, .int 10, .int 21]) (st := []) (o_M_in p1 10 21 M) ic_M_in ivX9_203 (rcvk (a := 12451850) (t := 10) rfl (by decide) (by decide) rfl) rfl (by decide) (Nat.le_of_ble_eq_true rfl) dX9_told_6 (kTi ?_)
  refine go_ifeq (pc := 9) 22 dX9_told_9 (by decide) (fun _ => ?_) (fun _ => ?_)
  · refine go_iload_n (pc := 22) dX9_told_22 rfl ?_
    refine go_tswC (pc := 23) (v := 0) (off := 29) 52 dX9_told_23 (by decide) (by decide) (by decide) (fun _ => ?_) (fun n3 => ?_)
    · refine go_aload_n (pc := 52) dX9_told_52 rfl ?_
      refine go_iconst (pc := 53) 2 dX9_told_53 ki_2 ?_
      refine go_iconst (pc := 54) 0 dX9_told_54 ki_0 ?_
      refine go_callV (pc := 55) (a := 12451850) (as := [.int 2, .int 0]) (st := []) (o_M_lastOf 2 0 M) ic_M_lastOf ivX9_302 (rcvk (a := 12451850) (t := 10) rfl (by decide) (by decide) rfl) rfl (by decide) (Nat.le_of_ble_eq_true rfl) dX9_told_55 (kRi fun r1 => ?_)
      exact go_ret dX9_told_58 rii rfl rfl
    refine go_tswC (pc := 23) (v := 1) (off := 36) 59 dX9_told_23 (by decide) (by decide) (by decide) (fun _ => ?_) (fun n4 => ?_)
    · refine go_aload_n (pc := 59) dX9_told_59 rfl ?_
      refine go_iconst (pc := 60) 3 dX9_told_60 ki_3 ?_
      refine go_bipush (pc := 61) 9 dX9_told_61 kb_9 ?_
      refine go_callV (pc := 63) (a := 12451850) (as := [.int 3, .int 9]) (st := []) (o_M_lastOf 3 9 M) ic_M_lastOf ivX9_302 (rcvk (a := 12451850) (t := 10) rfl (by decide) (by decide) rfl) rfl (by decide) (Nat.le_of_ble_eq_true rfl) dX9_told_63 (kRi fun r2 => ?_)
      exact go_ret dX9_told_66 rii rfl rfl
    refine go_tswC (pc := 23) (v := 2) (off := 44) 67 dX9_told_23 (by decide) (by decide) (by decide) (fun _ => ?_) (fun n5 => ?_)
    · refine go_aload_n (pc := 67) dX9_told_67 rfl ?_
      refine go_getI (pc := 68) flX9_20 rfl rfl dX9_told_68 ?_
      exact go_ret dX9_told_71 rii rfl rfl
    refine go_tswC (pc := 23) (v := 3) (off := 49) 72 dX9_told_23 (by decide) (by decide) (by decide) (fun _ => ?_) (fun n6 => ?_)
    · refine go_aload_n (pc := 72) dX9_told_72 rfl ?_
      refine go_getI (pc := 73) flX9_17 rfl rfl dX9_told_73 ?_
      exact go_ret dX9_told_76 rii rfl rfl
    refine go_tswD (pc := 23) 77 dX9_told_23 (by have n3t := lv_neT n3 (show (0 : Int32).toInt = 0 by decide); have n4t := lv_neT n4 (show (1 : Int32).toInt = 1 by decide); have n5t := lv_neT n5 (show (2 : Int32).toInt = 2 by decide); have n6t := lv_neT n6 (show (3 : Int32).toInt = 3 by decide); rcases (show p1.toInt < 0 ∨ 3 < p1.toInt by omega) with h | h <;> first | exact Or.inl h | exact Or.inr (Or.inl h) | exact Or.inr (Or.inr (by rw [h]; decide))) (by decide) ?_
    refine go_iconst (pc := 77) (-1) dX9_told_77 ki_m1 ?_
    exact go_ret dX9_told_78 rii rfl rfl
  · refine go_aload_n (pc := 12) dX9_told_12 rfl ?_
    refine go_getS (pc := 13) 12583307 flX9_7 rfl rfl sM_10_0 (by decide) dX9_told_13 ?_
    refine go_iload_n (pc := 16) dX9_told_16 rfl ?_
    refine go_bipush (pc := 17) 10 dX9_told_17 kb_10 ?_
    refine go_isub (pc := 19) dX9_told_19 ?_
    refine go_iald (pc := 20) rfl rfl dX9_told_20 (fun _ => ?_)
    exact go_ret dX9_told_21 rii rfl rfl
def f_M_nearer (p1 : Int32) (p2 : Int32) (p3 : Int32) (M : Mem) : Int32 := if p3 = 0 then p1 + ((p2 - p1) / 2) else p1 + ((p2 - p1) / 8)
theorem o_M_nearer (p1 : Int32) (p2 : Int32) (p3 : Int32) (M : Mem) : Ct sRM g_M_nearer (fRi M) [.ref 12451850, .int p1, .int p2, .int p3] (some (f_M_nearer p1 p2 p3 M)) M := by
  refine ⟨Nat.le_of_ble_eq_true rfl, ?_⟩
  show Go sRM g_M_nearer (fRi M) (some (f_M_nearer p1 p2 p3 M)) 0 [.ref 12451850, .int p1, .int p2, .int p3] [] M
  refine go_def (congrArg some (f_M_nearer.eq_1 ..)) ?_
  refine go_iload_n (pc := 0) dX9_nearer_0 rfl ?_
  refine go_iload_n (pc := 1) dX9_nearer_1 rfl ?_
  refine go_site ?_
  refine go_ifeq (pc := 2) 14 dX9_nearer_2 (by decide) (fun _ => ?_) (fun _ => ?_)
  · refine go_iload_n (pc := 14) dX9_nearer_14 rfl ?_
    refine go_iload_n (pc := 15) dX9_nearer_15 rfl ?_
    refine go_isub (pc := 16) dX9_nearer_16 ?_
    refine go_iconst (pc := 17) 2 dX9_nearer_17 ki_2 ?_
    refine go_idiv' (pc := 18) (by decide) dX9_nearer_18 ?_
    refine go_iadd (pc := 19) dX9_nearer_19 ?_
    exact go_ret dX9_nearer_20 rii rfl rfl
  · refine go_iload_n (pc := 5) dX9_nearer_5 rfl ?_
    refine go_iload_n (pc := 6) dX9_nearer_6 rfl ?_
    refine go_isub (pc := 7) dX9_nearer_7 ?_
    refine go_bipush (pc := 8) 8 dX9_nearer_8 kb_8 ?_
    refine go_idiv' (pc := 10) (by decide) dX9_nearer_10 ?_
    refine go_goto (pc := 11) 19 dX9_nearer_11 (by decide) ?_
    refine go_iadd (pc := 19) dX9_nearer_19 ?_
    exact go_ret dX9_nearer_20 rii rfl rfl
def f_M_goMonth_b72 (K2 : Int32 → Int32 → Mem → Option Mem) (v1 : Int32) (v2 : Int32) (s0 : Int32) (s1 : Int32) (s2 : Int32) (s4 : Int32) (M : Mem) : Option Mem := gd (inR s4 4) (lt (setI M 13107339 s4.toNatClampNeg (f_M_nearer s2 s1 s0 M)) fun M7 => gd (inR v2 4) (b2 (f_M_sumOf 1 v2 M7) fun r9 M8 => lt ((mI M7 13369483 v2.toNatClampNeg) + r9) fun x10 => if x10 ≤ 20 then gd (inR v2 4) (lt (setI M8 13369483 v2.toNatClampNeg x10) fun M11 => lt (v2 + 1) fun x12 => K2 v1 x12 M11) else gd (inR v2 4) (lt (setI M8 13369483 v2.toNatClampNeg 20) fun M13 => lt (v2 + 1) fun x14 => K2 v1 x14 M13)))
def f_M_goMonth_b40 (K2 : Int32 → Int32 → Mem → Option Mem) (v1 : Int32) (v2 : Int32) (s0 : Int32) (s1 : Int32) (s2 : Int32) (s4 : Int32) (M : Mem) : Option Mem := gd (inR s4 4) (lt (setI M 12976267 s4.toNatClampNeg (f_M_nearer s2 s1 s0 M)) fun M6 => gd (inR v2 4) (gd (inR v2 4) (if (mI M6 13238411 v2.toNatClampNeg) ≤ 1 then f_M_goMonth_b72 K2 v1 v2 0 v1 (mI M6 13107339 v2.toNatClampNeg) v2 M6 else f_M_goMonth_b72 K2 v1 v2 1 v1 (mI M6 13107339 v2.toNatClampNeg) v2 M6)))
def f_M_goMonth_l2 : Nat → Int32 → Int32 → Mem → Option Mem
  | 0, _, _, _ => none
  | n + 1, v1, v2, M => if (mI M 12451850 1) ≤ v2 then lt (setI M 12451850 3 ((mI M 12451850 3) + 1)) fun M1 => if ((mI M1 12451850 3) - (mI M1 12451850 3) / 12 * 12) ≤ 0 then bd (f_M_lastOf 2 0 M1) fun r2 => lt ((mI M1 12451850 2) + r2) fun x3 => if x3 ≤ 20 then lt (setI M1 12451850 2 x3) fun M4 => some M4 else lt (setI M1 12451850 2 20) fun M5 => some M5 else some M1 else gd (inR v2 4) (gd (inR v2 4) (if ((mI M 13238411 v2.toNatClampNeg) - (mI M 13238411 v2.toNatClampNeg) / 2 * 2) = 1 then f_M_goMonth_b40 (f_M_goMonth_l2 n) v1 v2 1 v1 (mI M 12976267 v2.toNatClampNeg) v2 M else f_M_goMonth_b40 (f_M_goMonth_l2 n) v1 v2 0 v1 (mI M 12976267 v2.toNatClampNeg) v2 M))
def f_M_goMonth (p1 : Int32) (M : Mem) : Option Mem := f_M_goMonth_l2 200 p1 0 M
theorem o_M_goMonth_b72 (K2 : Int32 → Int32 → Mem → Option Mem) (hK2 : ∀ (y1 : Int32) (y2 : Int32) (M : Mem), Go sRM g_M_goMonth fWv (K2 y1 y2 M) 2 [.ref 12451850, .int y1, .int y2, .null] [] M) (v1 : Int32) (v2 : Int32) (s0 : Int32) (s1 : Int32) (s2 : Int32) (s4 : Int32) (M : Mem) : Go sRM g_M_goMonth fWv (f_M_goMonth_b72 K2 v1 v2 s0 s1 s2 s4 M) 72 [.ref 12451850, .int v1, .int v2, .null] [.int s0, .int s1, .int s2, .ref 12451850, .int s4, .ref 13107339] M := by
  refine go_def (f_M_goMonth_b72.eq_1 ..) ?_
  refine go_T (v := f_M_nearer s2 s1 s0 M) ?_
  refine go_callV (pc := 72) (a := 12451850) (as := [.int s2, .int s1, .int s0]) (st := [.int s4, .ref 13107339]) (o_M_nearer s2 s1 s0 M) ic_M_nearer ivX9_311 (rcvk (a := 12451850) (t := 10) rfl (by decide) (by decide) rfl) rfl (by decide) (Nat.le_of_ble_eq_true rfl) dX9_goMonth_72 (kTi ?_)
  refine go_iast (pc := 75) rfl rfl dX9_goMonth_75 (fun _ M7 => ?_)
  refine go_aload_n (pc := 76) dX9_goMonth_76 rfl ?_
  refine go_getS (pc := 77) 13369483 flX9_38 rfl rfl sM_10_9 (by decide) dX9_goMonth_77 ?_
  refine go_iload_n (pc := 80) dX9_goMonth_80 rfl ?_
  refine go_iald (pc := 81) rfl rfl dX9_goMonth_81 (fun _ => ?_)
  refine go_aload_n (pc := 82) dX9_goMonth_82 rfl ?_
  refine go_iconst (pc := 83) 1 dX9_goMonth_83 ki_1 ?_
  refine go_iload_n (pc := 84) dX9_goMonth_84 rfl ?_
  refine go_callV (pc := 85) (a := 12451850) (as := [.int 1, .int v2]) (st := [.int (mI M7 13369483 v2.toNatClampNeg)]) (o_M_sumOf 1 v2 M7) ic_M_sumOf ivX9_283 (rcvk (a := 12451850) (t := 10) rfl (by decide) (by decide) rfl) rfl (by decide) (Nat.le_of_ble_eq_true rfl) dX9_goMonth_85 (kWi fun r9 M8 => ?_)
  refine go_iadd (pc := 88) dX9_goMonth_88 ?_
  refine go_istore_nL (pc := 89) (L := fun x10 => [.ref 12451850, .int v1, .int v2, .int x10]) dX9_goMonth_89 (Nat.le_of_ble_eq_true rfl) rfl (fun _ => rfl) (fun x10 => ?_)
  refine go_aload_n (pc := 90) dX9_goMonth_90 rfl ?_
  refine go_getS (pc := 91) 13369483 flX9_38 rfl rfl sM_10_9 (by decide) dX9_goMonth_91 ?_
  refine go_iload_n (pc := 94) dX9_goMonth_94 rfl ?_
  refine go_iload_n (pc := 95) dX9_goMonth_95 rfl ?_
  refine go_bipush (pc := 96) 20 dX9_goMonth_96 kb_20 ?_
  refine go_icmple (pc := 98) 106 dX9_goMonth_98 (by decide) (fun _ => ?_) (fun _ => ?_)
  · refine go_iload_n (pc := 106) dX9_goMonth_106 rfl ?_
    refine go_iast (pc := 107) rfl rfl dX9_goMonth_107 (fun _ M11 => ?_)
    refine go_iincL (pc := 108) (L := fun x12 => [.ref 12451850, .int v1, .int x12, .int x10]) 1 dX9_goMonth_108 rfl ki_1 (Nat.le_of_ble_eq_true rfl) rfl (fun _ => rfl) (fun x12 => ?_)
    refine go_goto (pc := 111) 2 dX9_goMonth_111 (by decide) ?_
    refine go_sub (ls' := [.ref 12451850, .int v1, .int x12, .null]) ⟨Or.inr rfl, Or.inr rfl, Or.inr rfl, Or.inl rfl, trivial⟩ ?_
    exact hK2 v1 x12 M11
  · refine go_bipush (pc := 101) 20 dX9_goMonth_101 kb_20 ?_
    refine go_goto (pc := 103) 107 dX9_goMonth_103 (by decide) ?_
    refine go_iast (pc := 107) rfl rfl dX9_goMonth_107 (fun _ M13 => ?_)
    refine go_iincL (pc := 108) (L := fun x14 => [.ref 12451850, .int v1, .int x14, .int x10]) 1 dX9_goMonth_108 rfl ki_1 (Nat.le_of_ble_eq_true rfl) rfl (fun _ => rfl) (fun x14 => ?_)
    refine go_goto (pc := 111) 2 dX9_goMonth_111 (by decide) ?_
    refine go_sub (ls' := [.ref 12451850, .int v1, .int x14, .null]) ⟨Or.inr rfl, Or.inr rfl, Or.inr rfl, Or.inl rfl, trivial⟩ ?_
    exact hK2 v1 x14 M13
theorem o_M_goMonth_b40 (K2 : Int32 → Int32 → Mem → Option Mem) (hK2 : ∀ (y1 : Int32) (y2 : Int32) (M : Mem), Go sRM g_M_goMonth fWv (K2 y1 y2 M) 2 [.ref 12451850, .int y1, .int y2, .null] [] M) (v1 : Int32) (v2 : Int32) (s0 : Int32) (s1 : Int32) (s2 : Int32) (s4 : Int32) (M : Mem) : Go sRM g_M_goMonth fWv (f_M_goMonth_b40 K2 v1 v2 s0 s1 s2 s4 M) 40 [.ref 12451850, .int v1, .int v2, .null] [.int s0, .int s1, .int s2, .ref 12451850, .int s4, .ref 12976267] M := by
  refine go_def (f_M_goMonth_b40.eq_1 ..) ?_
  refine go_T (v := f_M_nearer s2 s1 s0 M) ?_
  refine go_callV (pc := 40) (a := 12451850) (as := [.int s2, .int s1, .int s0]) (st := [.int s4, .ref 12976267]) (o_M_nearer s2 s1 s0 M) ic_M_nearer ivX9_311 (rcvk (a := 12451850) (t := 10) rfl (by decide) (by decide) rfl) rfl (by decide) (Nat.le_of_ble_eq_true rfl) dX9_goMonth_40 (kTi ?_)
  refine go_iast (pc := 43) rfl rfl dX9_goMonth_43 (fun _ M6 => ?_)
  refine go_aload_n (pc := 44) dX9_goMonth_44 rfl ?_
  refine go_getS (pc := 45) 13107339 flX9_32 rfl rfl sM_10_7 (by decide) dX9_goMonth_45 ?_
  refine go_iload_n (pc := 48) dX9_goMonth_48 rfl ?_
  refine go_aload_n (pc := 49) dX9_goMonth_49 rfl ?_
  refine go_aload_n (pc := 50) dX9_goMonth_50 rfl ?_
  refine go_getS (pc := 51) 13107339 flX9_32 rfl rfl sM_10_7 (by decide) dX9_goMonth_51 ?_
  refine go_iload_n (pc := 54) dX9_goMonth_54 rfl ?_
  refine go_iald (pc := 55) rfl rfl dX9_goMonth_55 (fun _ => ?_)
  refine go_iload_n (pc := 56) dX9_goMonth_56 rfl ?_
  refine go_aload_n (pc := 57) dX9_goMonth_57 rfl ?_
  refine go_getS (pc := 58) 13238411 flX9_35 rfl rfl sM_10_8 (by decide) dX9_goMonth_58 ?_
  refine go_iload_n (pc := 61) dX9_goMonth_61 rfl ?_
  refine go_iald (pc := 62) rfl rfl dX9_goMonth_62 (fun _ => ?_)
  refine go_iconst (pc := 63) 1 dX9_goMonth_63 ki_1 ?_
  refine go_icmple (pc := 64) 71 dX9_goMonth_64 (by decide) (fun _ => ?_) (fun _ => ?_)
  · refine go_iconst (pc := 71) 0 dX9_goMonth_71 ki_0 ?_
    exact o_M_goMonth_b72 K2 hK2 v1 v2 0 v1 (mI M6 13107339 v2.toNatClampNeg) v2 M6
  · refine go_iconst (pc := 67) 1 dX9_goMonth_67 ki_1 ?_
    refine go_goto (pc := 68) 72 dX9_goMonth_68 (by decide) ?_
    exact o_M_goMonth_b72 K2 hK2 v1 v2 1 v1 (mI M6 13107339 v2.toNatClampNeg) v2 M6
theorem o_M_goMonth_l2 : ∀ (n : Nat) (v1 : Int32) (v2 : Int32) (M : Mem), Go sRM g_M_goMonth fWv (f_M_goMonth_l2 n v1 v2 M) 2 [.ref 12451850, .int v1, .int v2, .null] [] M := by
  intro n
  induction n with
  | zero =>
    intro v1 v2 M
    exact go_def (f_M_goMonth_l2.eq_1 ..) go_none
  | succ n ih =>
    intro v1 v2 M
    refine go_def (f_M_goMonth_l2.eq_2 ..) ?_
    refine go_iload_n (pc := 2) dX9_goMonth_2 rfl ?_
    refine go_aload_n (pc := 3) dX9_goMonth_3 rfl ?_
    refine go_getI (pc := 4) flX9_13 rfl rfl dX9_goMonth_4 ?_
    refine go_icmpge (pc := 7) 114 dX9_goMonth_7 (by decide) (fun _ => ?_) (fun _ => ?_)
    · refine go_aload_n (pc := 114) dX9_goMonth_114 rfl ?_
      refine go_dup (pc := 115) dX9_goMonth_115 rfl ?_
      refine go_getI (pc := 116) flX9_20 rfl rfl dX9_goMonth_116 ?_
      refine go_iconst (pc := 119) 1 dX9_goMonth_119 ki_1 ?_
      refine go_iadd (pc := 120) dX9_goMonth_120 ?_
      refine go_putI (pc := 121) flX9_20 rfl (Or.inl rfl) ⟨rfl, rfl⟩ rfl dX9_goMonth_121 (fun M1 => ?_)
      refine go_aload_n (pc := 124) dX9_goMonth_124 rfl ?_
      refine go_getI (pc := 125) flX9_20 rfl rfl dX9_goMonth_125 ?_
      refine go_bipush (pc := 128) 12 dX9_goMonth_128 kb_12 ?_
      refine go_irem' (pc := 130) (by decide) dX9_goMonth_130 ?_
      refine go_ifle (pc := 131) 135 dX9_goMonth_131 (by decide) (fun _ => ?_) (fun _ => ?_)
      · refine go_aload_n (pc := 135) dX9_goMonth_135 rfl ?_
        refine go_getI (pc := 136) flX9_17 rfl rfl dX9_goMonth_136 ?_
        refine go_aload_n (pc := 139) dX9_goMonth_139 rfl ?_
        refine go_iconst (pc := 140) 2 dX9_goMonth_140 ki_2 ?_
        refine go_iconst (pc := 141) 0 dX9_goMonth_141 ki_0 ?_
        refine go_callV (pc := 142) (a := 12451850) (as := [.int 2, .int 0]) (st := [.int (mI M1 12451850 2)]) (o_M_lastOf 2 0 M1) ic_M_lastOf ivX9_302 (rcvk (a := 12451850) (t := 10) rfl (by decide) (by decide) rfl) rfl (by decide) (Nat.le_of_ble_eq_true rfl) dX9_goMonth_142 (kRi fun r2 => ?_)
        refine go_iadd (pc := 145) dX9_goMonth_145 ?_
        refine go_istore_nL (pc := 146) (L := fun x3 => [.ref 12451850, .int v1, .int x3, .null]) dX9_goMonth_146 (Nat.le_of_ble_eq_true rfl) rfl (fun _ => rfl) (fun x3 => ?_)
        refine go_aload_n (pc := 147) dX9_goMonth_147 rfl ?_
        refine go_iload_n (pc := 148) dX9_goMonth_148 rfl ?_
        refine go_bipush (pc := 149) 20 dX9_goMonth_149 kb_20 ?_
        refine go_icmple (pc := 151) 159 dX9_goMonth_151 (by decide) (fun _ => ?_) (fun _ => ?_)
        · refine go_iload_n (pc := 159) dX9_goMonth_159 rfl ?_
          refine go_putI (pc := 160) flX9_17 rfl (Or.inl rfl) ⟨rfl, rfl⟩ rfl dX9_goMonth_160 (fun M4 => ?_)
          exact go_ret dX9_goMonth_163 rfl rfl rfl
        · refine go_bipush (pc := 154) 20 dX9_goMonth_154 kb_20 ?_
          refine go_goto (pc := 156) 160 dX9_goMonth_156 (by decide) ?_
          refine go_putI (pc := 160) flX9_17 rfl (Or.inl rfl) ⟨rfl, rfl⟩ rfl dX9_goMonth_160 (fun M5 => ?_)
          exact go_ret dX9_goMonth_163 rfl rfl rfl
      · exact go_ret dX9_goMonth_134 rfl rfl rfl
    · refine go_aload_n (pc := 10) dX9_goMonth_10 rfl ?_
      refine go_getS (pc := 11) 12976267 flX9_29 rfl rfl sM_10_6 (by decide) dX9_goMonth_11 ?_
      refine go_iload_n (pc := 14) dX9_goMonth_14 rfl ?_
      refine go_aload_n (pc := 15) dX9_goMonth_15 rfl ?_
      refine go_aload_n (pc := 16) dX9_goMonth_16 rfl ?_
      refine go_getS (pc := 17) 12976267 flX9_29 rfl rfl sM_10_6 (by decide) dX9_goMonth_17 ?_
      refine go_iload_n (pc := 20) dX9_goMonth_20 rfl ?_
      refine go_iald (pc := 21) rfl rfl dX9_goMonth_21 (fun _ => ?_)
      refine go_iload_n (pc := 22) dX9_goMonth_22 rfl ?_
      refine go_aload_n (pc := 23) dX9_goMonth_23 rfl ?_
      refine go_getS (pc := 24) 13238411 flX9_35 rfl rfl sM_10_8 (by decide) dX9_goMonth_24 ?_
      refine go_iload_n (pc := 27) dX9_goMonth_27 rfl ?_
      refine go_iald (pc := 28) rfl rfl dX9_goMonth_28 (fun _ => ?_)
      refine go_iconst (pc := 29) 2 dX9_goMonth_29 ki_2 ?_
      refine go_irem' (pc := 30) (by decide) dX9_goMonth_30 ?_
      refine go_iconst (pc := 31) 1 dX9_goMonth_31 ki_1 ?_
      refine go_icmpne (pc := 32) 39 dX9_goMonth_32 (by decide) (fun _ => ?_) (fun _ => ?_)
      · refine go_iconst (pc := 35) 1 dX9_goMonth_35 ki_1 ?_
        refine go_goto (pc := 36) 40 dX9_goMonth_36 (by decide) ?_
        exact o_M_goMonth_b40 (f_M_goMonth_l2 n) ih v1 v2 1 v1 (mI M 12976267 v2.toNatClampNeg) v2 M
      · refine go_iconst (pc := 39) 0 dX9_goMonth_39 ki_0 ?_
        exact o_M_goMonth_b40 (f_M_goMonth_l2 n) ih v1 v2 0 v1 (mI M 12976267 v2.toNatClampNeg) v2 M
theorem o_M_goMonth (p1 : Int32) (M : Mem) : Ct sRM g_M_goMonth fWv [.ref 12451850, .int p1] (f_M_goMonth p1 M) M := by
  refine ⟨Nat.le_of_ble_eq_true rfl, ?_⟩
  show Go sRM g_M_goMonth fWv (f_M_goMonth p1 M) 0 [.ref 12451850, .int p1, .null, .null] [] M
  refine go_def (f_M_goMonth.eq_1 ..) ?_
  refine go_iconst (pc := 0) 0 dX9_goMonth_0 ki_0 ?_
  refine go_istore_n (pc := 1) (ls' := [.ref 12451850, .int p1, .int 0, .null]) dX9_goMonth_1 (Nat.le_of_ble_eq_true rfl) rfl rfl ?_
  exact o_M_goMonth_l2 200 p1 0 M
def f_M_goOn (M : Mem) : Option Mem := gd (inR ((mI M 12451850 3) - (mI M 12451850 3) / 12 * 12) 12) (bd (f_M_goMonth (mI M 12583307 ((mI M 12451850 3) - (mI M 12451850 3) / 12 * 12).toNatClampNeg) M) fun M1 => some M1)
theorem o_M_goOn (M : Mem) : Ct sRM g_M_goOn fWv [.ref 12451850] (f_M_goOn M) M := by
  refine ⟨Nat.le_of_ble_eq_true rfl, ?_⟩
  show Go sRM g_M_goOn fWv (f_M_goOn M) 0 [.ref 12451850] [] M
  refine go_def (f_M_goOn.eq_1 ..) ?_
  refine go_aload_n (pc := 0) dX9_goOn_0 rfl ?_
  refine go_aload_n (pc := 1) dX9_goOn_1 rfl ?_
  refine go_getS (pc := 2) 12583307 flX9_7 rfl rfl sM_10_0 (by decide) dX9_goOn_2 ?_
  refine go_aload_n (pc := 5) dX9_goOn_5 rfl ?_
  refine go_getI (pc := 6) flX9_20 rfl rfl dX9_goOn_6 ?_
  refine go_bipush (pc := 9) 12 dX9_goOn_9 kb_12 ?_
  refine go_irem' (pc := 11) (by decide) dX9_goOn_11 ?_
  refine go_iald (pc := 12) rfl rfl dX9_goOn_12 (fun _ => ?_)
  refine go_callV (pc := 13) (a := 12451850) (as := [.int (mI M 12583307 ((mI M 12451850 3) - (mI M 12451850 3) / 12 * 12).toNatClampNeg)]) (st := []) (o_M_goMonth (mI M 12583307 ((mI M 12451850 3) - (mI M 12451850 3) / 12 * 12).toNatClampNeg) M) ic_M_goMonth ivX9_315 (rcvk (a := 12451850) (t := 10) rfl (by decide) (by decide) rfl) rfl (by decide) (Nat.le_of_ble_eq_true rfl) dX9_goOn_13 (kWv fun M1 => ?_)
  exact go_ret dX9_goOn_16 rfl rfl rfl
def f_M_month (M : Mem) : Option (Int32 × Mem) := if (mI M 12451850 3) = 9999 then some ((-3), M) else bd (f_M_goOn M) fun M1 => some (mI M1 12451850 3, M1)
theorem o_M_month (M : Mem) : Ct sRM g_M_month fWi [.ref 12451850] (f_M_month M) M := by
  refine ⟨Nat.le_of_ble_eq_true rfl, ?_⟩
  show Go sRM g_M_month fWi (f_M_month M) 0 [.ref 12451850] [] M
  refine go_def (f_M_month.eq_1 ..) ?_
  refine go_aload_n (pc := 0) dX9_month_0 rfl ?_
  refine go_getI (pc := 1) flX9_20 rfl rfl dX9_month_1 ?_
  refine go_sipush (pc := 4) 9999 dX9_month_4 ks_9999 ?_
  refine go_icmpne (pc := 7) 13 dX9_month_7 (by decide) (fun _ => ?_) (fun _ => ?_)
  · refine go_bipush (pc := 10) (-3) dX9_month_10 kb_m3 ?_
    exact go_ret dX9_month_12 rii rfl rfl
  · refine go_aload_n (pc := 13) dX9_month_13 rfl ?_
    refine go_callV (pc := 14) (a := 12451850) (as := []) (st := []) (o_M_goOn M) ic_M_goOn ivX9_318 (rcvk (a := 12451850) (t := 10) rfl (by decide) (by decide) rfl) rfl (by decide) (Nat.le_of_ble_eq_true rfl) dX9_month_14 (kWv fun M1 => ?_)
    refine go_aload_n (pc := 17) dX9_month_17 rfl ?_
    refine go_getI (pc := 18) flX9_20 rfl rfl dX9_month_18 ?_
    exact go_ret dX9_month_21 rii rfl rfl
def f_M_isWhere (p1 : Int32) (p2 : Int32) (M : Mem) : Int32 := if p1 = 0 then f_M_isSpot p2 M else if p1 = 3 then f_M_in p2 0 1 M else if p1 = 4 then f_M_isSpot p2 M else 1
theorem o_M_isWhere (p1 : Int32) (p2 : Int32) (M : Mem) : Ct sRM g_M_isWhere (fRi M) [.ref 12451850, .int p1, .int p2] (some (f_M_isWhere p1 p2 M)) M := by
  refine ⟨Nat.le_of_ble_eq_true rfl, ?_⟩
  show Go sRM g_M_isWhere (fRi M) (some (f_M_isWhere p1 p2 M)) 0 [.ref 12451850, .int p1, .int p2] [] M
  refine go_def (congrArg some (f_M_isWhere.eq_1 ..)) ?_
  refine go_iload_n (pc := 0) dX9_isWhere_0 rfl ?_
  refine go_site ?_
  refine go_tswC (pc := 1) (v := 0) (off := 35) 36 dX9_isWhere_1 (by decide) (by decide) (by decide) (fun _ => ?_) (fun n1 => ?_)
  · refine go_aload_n (pc := 36) dX9_isWhere_36 rfl ?_
    refine go_iload_n (pc := 37) dX9_isWhere_37 rfl ?_
    refine go_T (v := f_M_isSpot p2 M) ?_
    refine go_callV (pc := 38) (a := 12451850) (as := [.int p2]) (st := []) (o_M_isSpot p2 M) ic_M_isSpot ivX9_321 (rcvk (a := 12451850) (t := 10) rfl (by decide) (by decide) rfl) rfl (by decide) (Nat.le_of_ble_eq_true rfl) dX9_isWhere_38 (kTi ?_)
    exact go_ret dX9_isWhere_41 (rbz (o_M_isSpot_b p2 M)) rfl rfl
  refine go_site ?_
  refine go_tswC (pc := 1) (v := 3) (off := 41) 42 dX9_isWhere_1 (by decide) (by decide) (by decide) (fun _ => ?_) (fun n2 => ?_)
  · refine go_aload_n (pc := 42) dX9_isWhere_42 rfl ?_
    refine go_iload_n (pc := 43) dX9_isWhere_43 rfl ?_
    refine go_iconst (pc := 44) 0 dX9_isWhere_44 ki_0 ?_
    refine go_iconst (pc := 45) 1 dX9_isWhere_45 ki_1 ?_
    refine go_T (v := f_M_in p2 0 1 M) ?_
    refine go_callV (pc := 46) (a := 12451850) (as := [.int p2, .int 0, .int 1]) (st := []) (o_M_in p2 0 1 M) ic_M_in ivX9_203 (rcvk (a := 12451850) (t := 10) rfl (by decide) (by decide) rfl) rfl (by decide) (Nat.le_of_ble_eq_true rfl) dX9_isWhere_46 (kTi ?_)
    exact go_ret dX9_isWhere_49 (rbz (o_M_in_b p2 0 1 M)) rfl rfl
  refine go_site ?_
  refine go_tswC (pc := 1) (v := 4) (off := 35) 36 dX9_isWhere_1 (by decide) (by decide) (by decide) (fun _ => ?_) (fun n3 => ?_)
  · refine go_aload_n (pc := 36) dX9_isWhere_36 rfl ?_
    refine go_iload_n (pc := 37) dX9_isWhere_37 rfl ?_
    refine go_T (v := f_M_isSpot p2 M) ?_
    refine go_callV (pc := 38) (a := 12451850) (as := [.int p2]) (st := []) (o_M_isSpot p2 M) ic_M_isSpot ivX9_321 (rcvk (a := 12451850) (t := 10) rfl (by decide) (by decide) rfl) rfl (by decide) (Nat.le_of_ble_eq_true rfl) dX9_isWhere_38 (kTi ?_)
    exact go_ret dX9_isWhere_41 (rbz (o_M_isSpot_b p2 M)) rfl rfl
  refine go_tswD (pc := 1) 50 dX9_isWhere_1 (by have n1t := lv_neT n1 (show (0 : Int32).toInt = 0 by decide); have n2t := lv_neT n2 (show (3 : Int32).toInt = 3 by decide); have n3t := lv_neT n3 (show (4 : Int32).toInt = 4 by decide); rcases (show p1.toInt < 0 ∨ 4 < p1.toInt ∨ p1.toInt = 1 ∨ p1.toInt = 2 by omega) with h | h | h | h <;> first | exact Or.inl h | exact Or.inr (Or.inl h) | exact Or.inr (Or.inr (by rw [h]; decide))) (by decide) ?_
  refine go_iconst (pc := 50) 1 dX9_isWhere_50 ki_1 ?_
  exact go_ret dX9_isWhere_51 (rbz (Or.inr rfl)) rfl rfl
theorem o_M_isWhere_b (p1 : Int32) (p2 : Int32) (M : Mem) : f_M_isWhere p1 p2 M = 0 ∨ f_M_isWhere p1 p2 M = 1 := by
  unfold f_M_isWhere
  first | exact Or.inl rfl | (repeat' split) <;> first | exact Or.inl rfl | exact Or.inr rfl | assumption | exact o_M_in_b .. | exact o_M_isSpot_b ..
def f_M_planes (p1 : Int32) (p2 : Int32) (p3 : Int32) (M : Mem) : Option (Int32 × Mem) := gd (inR ((6 * p1) + p2) 24) (lt (mI M 13632267 ((6 * p1) + p2).toNatClampNeg) fun x1 => lt (x1 + p3) fun x2 => if x2 ≤ 99 then if 0 ≤ x2 then gd (inR ((6 * p1) + p2) 24) (lt (setI M 13632267 ((6 * p1) + p2).toNatClampNeg x2) fun M3 => some (x1, M3)) else gd (inR ((6 * p1) + p2) 24) (lt (setI M 13632267 ((6 * p1) + p2).toNatClampNeg 0) fun M4 => some (x1, M4)) else gd (inR ((6 * p1) + p2) 24) (lt (setI M 13632267 ((6 * p1) + p2).toNatClampNeg 99) fun M5 => some (x1, M5)))
theorem o_M_planes (p1 : Int32) (p2 : Int32) (p3 : Int32) (M : Mem) : Ct sRM g_M_planes fWi [.ref 12451850, .int p1, .int p2, .int p3] (f_M_planes p1 p2 p3 M) M := by
  refine ⟨Nat.le_of_ble_eq_true rfl, ?_⟩
  show Go sRM g_M_planes fWi (f_M_planes p1 p2 p3 M) 0 [.ref 12451850, .int p1, .int p2, .int p3, .null, .null] [] M
  refine go_def (f_M_planes.eq_1 ..) ?_
  refine go_aload_n (pc := 0) dX9_planes_0 rfl ?_
  refine go_getS (pc := 1) 13632267 flX9_44 rfl rfl sM_10_11 (by decide) dX9_planes_1 ?_
  refine go_bipush (pc := 4) 6 dX9_planes_4 kb_6 ?_
  refine go_iload_n (pc := 6) dX9_planes_6 rfl ?_
  refine go_imul (pc := 7) dX9_planes_7 ?_
  refine go_iload_n (pc := 8) dX9_planes_8 rfl ?_
  refine go_iadd (pc := 9) dX9_planes_9 ?_
  refine go_iald (pc := 10) rfl rfl dX9_planes_10 (fun _ => ?_)
  refine go_istoreL (pc := 11) (L := fun x1 => [.ref 12451850, .int p1, .int p2, .int p3, .int x1, .null]) dX9_planes_11 (Nat.le_of_ble_eq_true rfl) rfl (fun _ => rfl) (fun x1 => ?_)
  refine go_iload (pc := 13) dX9_planes_13 rfl ?_
  refine go_iload_n (pc := 15) dX9_planes_15 rfl ?_
  refine go_iadd (pc := 16) dX9_planes_16 ?_
  refine go_istoreL (pc := 17) (L := fun x2 => [.ref 12451850, .int p1, .int p2, .int p3, .int x1, .int x2]) dX9_planes_17 (Nat.le_of_ble_eq_true rfl) rfl (fun _ => rfl) (fun x2 => ?_)
  refine go_aload_n (pc := 19) dX9_planes_19 rfl ?_
  refine go_getS (pc := 20) 13632267 flX9_44 rfl rfl sM_10_11 (by decide) dX9_planes_20 ?_
  refine go_bipush (pc := 23) 6 dX9_planes_23 kb_6 ?_
  refine go_iload_n (pc := 25) dX9_planes_25 rfl ?_
  refine go_imul (pc := 26) dX9_planes_26 ?_
  refine go_iload_n (pc := 27) dX9_planes_27 rfl ?_
  refine go_iadd (pc := 28) dX9_planes_28 ?_
  refine go_iload (pc := 29) dX9_planes_29 rfl ?_
  refine go_bipush (pc := 31) 99 dX9_planes_31 kb_99 ?_
  refine go_icmple (pc := 33) 41 dX9_planes_33 (by decide) (fun _ => ?_) (fun _ => ?_)
  · refine go_iload (pc := 41) dX9_planes_41 rfl ?_
    refine go_ifge (pc := 43) 50 dX9_planes_43 (by decide) (fun _ => ?_) (fun _ => ?_)
    · refine go_iload (pc := 50) dX9_planes_50 rfl ?_
      refine go_iast (pc := 52) rfl rfl dX9_planes_52 (fun _ M3 => ?_)
      refine go_iload (pc := 53) dX9_planes_53 rfl ?_
      exact go_ret dX9_planes_55 rii rfl rfl
    · refine go_iconst (pc := 46) 0 dX9_planes_46 ki_0 ?_
      refine go_goto (pc := 47) 52 dX9_planes_47 (by decide) ?_
      refine go_iast (pc := 52) rfl rfl dX9_planes_52 (fun _ M4 => ?_)
      refine go_iload (pc := 53) dX9_planes_53 rfl ?_
      exact go_ret dX9_planes_55 rii rfl rfl
  · refine go_bipush (pc := 36) 99 dX9_planes_36 kb_99 ?_
    refine go_goto (pc := 38) 52 dX9_planes_38 (by decide) ?_
    refine go_iast (pc := 52) rfl rfl dX9_planes_52 (fun _ M5 => ?_)
    refine go_iload (pc := 53) dX9_planes_53 rfl ?_
    exact go_ret dX9_planes_55 rii rfl rfl
def f_M_packed (p1 : Int32) (p2 : Int32) (M : Mem) : Option (Int32 × Mem) := gd (inR p1 4) (lt (mI M 13500555 p1.toNatClampNeg) fun x1 => if (x1 + p2) ≤ 9 then gd (inR p1 4) (lt (setI M 13500555 p1.toNatClampNeg (x1 + p2)) fun M2 => some (x1, M2)) else gd (inR p1 4) (lt (setI M 13500555 p1.toNatClampNeg 9) fun M3 => some (x1, M3)))
theorem o_M_packed (p1 : Int32) (p2 : Int32) (M : Mem) : Ct sRM g_M_packed fWi [.ref 12451850, .int p1, .int p2] (f_M_packed p1 p2 M) M := by
  refine ⟨Nat.le_of_ble_eq_true rfl, ?_⟩
  show Go sRM g_M_packed fWi (f_M_packed p1 p2 M) 0 [.ref 12451850, .int p1, .int p2, .null] [] M
  refine go_def (f_M_packed.eq_1 ..) ?_
  refine go_aload_n (pc := 0) dX9_packed_0 rfl ?_
  refine go_getS (pc := 1) 13500555 flX9_41 rfl rfl sM_10_10 (by decide) dX9_packed_1 ?_
  refine go_iload_n (pc := 4) dX9_packed_4 rfl ?_
  refine go_iald (pc := 5) rfl rfl dX9_packed_5 (fun _ => ?_)
  refine go_istore_nL (pc := 6) (L := fun x1 => [.ref 12451850, .int p1, .int p2, .int x1]) dX9_packed_6 (Nat.le_of_ble_eq_true rfl) rfl (fun _ => rfl) (fun x1 => ?_)
  refine go_aload_n (pc := 7) dX9_packed_7 rfl ?_
  refine go_getS (pc := 8) 13500555 flX9_41 rfl rfl sM_10_10 (by decide) dX9_packed_8 ?_
  refine go_iload_n (pc := 11) dX9_packed_11 rfl ?_
  refine go_iload_n (pc := 12) dX9_packed_12 rfl ?_
  refine go_iload_n (pc := 13) dX9_packed_13 rfl ?_
  refine go_iadd (pc := 14) dX9_packed_14 ?_
  refine go_bipush (pc := 15) 9 dX9_packed_15 kb_9 ?_
  refine go_icmple (pc := 17) 25 dX9_packed_17 (by decide) (fun _ => ?_) (fun _ => ?_)
  · refine go_iload_n (pc := 25) dX9_packed_25 rfl ?_
    refine go_iload_n (pc := 26) dX9_packed_26 rfl ?_
    refine go_iadd (pc := 27) dX9_packed_27 ?_
    refine go_iast (pc := 28) rfl rfl dX9_packed_28 (fun _ M2 => ?_)
    refine go_iload_n (pc := 29) dX9_packed_29 rfl ?_
    exact go_ret dX9_packed_30 rii rfl rfl
  · refine go_bipush (pc := 20) 9 dX9_packed_20 kb_9 ?_
    refine go_goto (pc := 22) 28 dX9_packed_22 (by decide) ?_
    refine go_iast (pc := 28) rfl rfl dX9_packed_28 (fun _ M3 => ?_)
    refine go_iload_n (pc := 29) dX9_packed_29 rfl ?_
    exact go_ret dX9_packed_30 rii rfl rfl
def f_M_paints (p1 : Int32) (p2 : Int32) (M : Mem) : Option (Int32 × Mem) := gd (inR p1 4) (lt (((mI M 13238411 p1.toNatClampNeg) >>> (p2 &&& 31)) &&& 1) fun x1 => gd (inR p1 4) (gd (inR p1 4) (lt (setI M 13238411 p1.toNatClampNeg ((mI M 13238411 p1.toNatClampNeg) ||| (1 <<< (p2 &&& 31)))) fun M2 => some (x1, M2))))
theorem o_M_paints (p1 : Int32) (p2 : Int32) (M : Mem) : Ct sRM g_M_paints fWi [.ref 12451850, .int p1, .int p2] (f_M_paints p1 p2 M) M := by
  refine ⟨Nat.le_of_ble_eq_true rfl, ?_⟩
  show Go sRM g_M_paints fWi (f_M_paints p1 p2 M) 0 [.ref 12451850, .int p1, .int p2, .null] [] M
  refine go_def (f_M_paints.eq_1 ..) ?_
  refine go_aload_n (pc := 0) dX9_paints_0 rfl ?_
  refine go_getS (pc := 1) 13238411 flX9_35 rfl rfl sM_10_8 (by decide) dX9_paints_1 ?_
  refine go_iload_n (pc := 4) dX9_paints_4 rfl ?_
  refine go_iald (pc := 5) rfl rfl dX9_paints_5 (fun _ => ?_)
  refine go_iload_n (pc := 6) dX9_paints_6 rfl ?_
  refine go_ishr (pc := 7) dX9_paints_7 ?_
  refine go_iconst (pc := 8) 1 dX9_paints_8 ki_1 ?_
  refine go_iand (pc := 9) dX9_paints_9 ?_
  refine go_istore_nL (pc := 10) (L := fun x1 => [.ref 12451850, .int p1, .int p2, .int x1]) dX9_paints_10 (Nat.le_of_ble_eq_true rfl) rfl (fun _ => rfl) (fun x1 => ?_)
  refine go_aload_n (pc := 11) dX9_paints_11 rfl ?_
  refine go_getS (pc := 12) 13238411 flX9_35 rfl rfl sM_10_8 (by decide) dX9_paints_12 ?_
  refine go_iload_n (pc := 15) dX9_paints_15 rfl ?_
  refine go_dup2 (pc := 16) dX9_paints_16 rfl rfl ?_
  refine go_iald (pc := 17) rfl rfl dX9_paints_17 (fun _ => ?_)
  refine go_iconst (pc := 18) 1 dX9_paints_18 ki_1 ?_
  refine go_iload_n (pc := 19) dX9_paints_19 rfl ?_
  refine go_ishl (pc := 20) dX9_paints_20 ?_
  refine go_ior (pc := 21) dX9_paints_21 ?_
  refine go_iast (pc := 22) rfl rfl dX9_paints_22 (fun _ M2 => ?_)
  refine go_iload_n (pc := 23) dX9_paints_23 rfl ?_
  exact go_ret dX9_paints_24 rii rfl rfl
def f_M_mend_b54 (v1 : Int32) (v2 : Int32) (v3 : Int32) (v4 : Int32) (M : Mem) : Option (Int32 × Mem) := if v2 = 0 then b2 (f_M_planes v1 v3 v4 M) fun r2 M1 => some (r2, M1) else if v2 = 1 then b2 (f_M_packed v1 v4 M) fun r4 M3 => some (r4, M3) else if v2 = 2 then gd (inR v1 4) (lt (mI M 13369483 v1.toNatClampNeg) fun x5 => gd (inR v1 4) (lt (setI M 13369483 v1.toNatClampNeg 0) fun M6 => some (x5, M6))) else if v2 = 3 then b2 (f_M_paints v1 v3 M) fun r8 M7 => some (r8, M7) else b2 (f_M_planes v1 v3 (-v4) M) fun r10 M9 => some (r10, M9)
def f_M_mend (p1 : Int32) (p2 : Int32) (p3 : Int32) (p4 : Int32) (M : Mem) : Option (Int32 × Mem) := if (f_M_isDoor p1 M) = 0 then some ((-1), M) else if (f_M_in p2 0 4 M) = 0 then some ((-1), M) else if (f_M_isWhere p2 p3 M) = 0 then some ((-1), M) else if p2 = 2 then f_M_mend_b54 p1 p2 p3 p4 M else if p2 = 3 then f_M_mend_b54 p1 p2 p3 p4 M else if (f_M_in p4 0 9 M) = 0 then some ((-2), M) else f_M_mend_b54 p1 p2 p3 p4 M
theorem o_M_mend_b54 (v1 : Int32) (v2 : Int32) (v3 : Int32) (v4 : Int32) (M : Mem) : Go sRM g_M_mend fWi (f_M_mend_b54 v1 v2 v3 v4 M) 54 [.ref 12451850, .int v1, .int v2, .int v3, .int v4, .null] [] M := by
  refine go_def (f_M_mend_b54.eq_1 ..) ?_
  refine go_iload_n (pc := 54) dX9_mend_54 rfl ?_
  refine go_tswC (pc := 55) (v := 0) (off := 29) 84 dX9_mend_55 (by decide) (by decide) (by decide) (fun _ => ?_) (fun n11 => ?_)
  · refine go_aload_n (pc := 84) dX9_mend_84 rfl ?_
    refine go_iload_n (pc := 85) dX9_mend_85 rfl ?_
    refine go_iload_n (pc := 86) dX9_mend_86 rfl ?_
    refine go_iload (pc := 87) dX9_mend_87 rfl ?_
    refine go_callV (pc := 89) (a := 12451850) (as := [.int v1, .int v3, .int v4]) (st := []) (o_M_planes v1 v3 v4 M) ic_M_planes ivX9_327 (rcvk (a := 12451850) (t := 10) rfl (by decide) (by decide) rfl) rfl (by decide) (Nat.le_of_ble_eq_true rfl) dX9_mend_89 (kWi fun r2 M1 => ?_)
    exact go_ret dX9_mend_92 rii rfl rfl
  refine go_tswC (pc := 55) (v := 1) (off := 38) 93 dX9_mend_55 (by decide) (by decide) (by decide) (fun _ => ?_) (fun n12 => ?_)
  · refine go_aload_n (pc := 93) dX9_mend_93 rfl ?_
    refine go_iload_n (pc := 94) dX9_mend_94 rfl ?_
    refine go_iload (pc := 95) dX9_mend_95 rfl ?_
    refine go_callV (pc := 97) (a := 12451850) (as := [.int v1, .int v4]) (st := []) (o_M_packed v1 v4 M) ic_M_packed ivX9_331 (rcvk (a := 12451850) (t := 10) rfl (by decide) (by decide) rfl) rfl (by decide) (Nat.le_of_ble_eq_true rfl) dX9_mend_97 (kWi fun r4 M3 => ?_)
    exact go_ret dX9_mend_100 rii rfl rfl
  refine go_tswC (pc := 55) (v := 2) (off := 46) 101 dX9_mend_55 (by decide) (by decide) (by decide) (fun _ => ?_) (fun n13 => ?_)
  · refine go_aload_n (pc := 101) dX9_mend_101 rfl ?_
    refine go_getS (pc := 102) 13369483 flX9_38 rfl rfl sM_10_9 (by decide) dX9_mend_102 ?_
    refine go_iload_n (pc := 105) dX9_mend_105 rfl ?_
    refine go_iald (pc := 106) rfl rfl dX9_mend_106 (fun _ => ?_)
    refine go_istoreL (pc := 107) (L := fun x5 => [.ref 12451850, .int v1, .int v2, .int v3, .int v4, .int x5]) dX9_mend_107 (Nat.le_of_ble_eq_true rfl) rfl (fun _ => rfl) (fun x5 => ?_)
    refine go_aload_n (pc := 109) dX9_mend_109 rfl ?_
    refine go_getS (pc := 110) 13369483 flX9_38 rfl rfl sM_10_9 (by decide) dX9_mend_110 ?_
    refine go_iload_n (pc := 113) dX9_mend_113 rfl ?_
    refine go_iconst (pc := 114) 0 dX9_mend_114 ki_0 ?_
    refine go_iast (pc := 115) rfl rfl dX9_mend_115 (fun _ M6 => ?_)
    refine go_iload (pc := 116) dX9_mend_116 rfl ?_
    exact go_ret dX9_mend_118 rii rfl rfl
  refine go_tswC (pc := 55) (v := 3) (off := 64) 119 dX9_mend_55 (by decide) (by decide) (by decide) (fun _ => ?_) (fun n14 => ?_)
  · refine go_aload_n (pc := 119) dX9_mend_119 rfl ?_
    refine go_iload_n (pc := 120) dX9_mend_120 rfl ?_
    refine go_iload_n (pc := 121) dX9_mend_121 rfl ?_
    refine go_callV (pc := 122) (a := 12451850) (as := [.int v1, .int v3]) (st := []) (o_M_paints v1 v3 M) ic_M_paints ivX9_334 (rcvk (a := 12451850) (t := 10) rfl (by decide) (by decide) rfl) rfl (by decide) (Nat.le_of_ble_eq_true rfl) dX9_mend_122 (kWi fun r8 M7 => ?_)
    exact go_ret dX9_mend_125 rii rfl rfl
  refine go_tswD (pc := 55) 126 dX9_mend_55 (by have n11t := lv_neT n11 (show (0 : Int32).toInt = 0 by decide); have n12t := lv_neT n12 (show (1 : Int32).toInt = 1 by decide); have n13t := lv_neT n13 (show (2 : Int32).toInt = 2 by decide); have n14t := lv_neT n14 (show (3 : Int32).toInt = 3 by decide); rcases (show v2.toInt < 0 ∨ 3 < v2.toInt by omega) with h | h <;> first | exact Or.inl h | exact Or.inr (Or.inl h) | exact Or.inr (Or.inr (by rw [h]; decide))) (by decide) ?_
  refine go_aload_n (pc := 126) dX9_mend_126 rfl ?_
  refine go_iload_n (pc := 127) dX9_mend_127 rfl ?_
  refine go_iload_n (pc := 128) dX9_mend_128 rfl ?_
  refine go_iload (pc := 129) dX9_mend_129 rfl ?_
  refine go_ineg (pc := 131) dX9_mend_131 ?_
  refine go_callV (pc := 132) (a := 12451850) (as := [.int v1, .int v3, .int (-v4)]) (st := []) (o_M_planes v1 v3 (-v4) M) ic_M_planes ivX9_327 (rcvk (a := 12451850) (t := 10) rfl (by decide) (by decide) rfl) rfl (by decide) (Nat.le_of_ble_eq_true rfl) dX9_mend_132 (kWi fun r10 M9 => ?_)
  exact go_ret dX9_mend_135 rii rfl rfl
theorem o_M_mend (p1 : Int32) (p2 : Int32) (p3 : Int32) (p4 : Int32) (M : Mem) : Ct sRM g_M_mend fWi [.ref 12451850, .int p1, .int p2, .int p3, .int p4] (f_M_mend p1 p2 p3 p4 M) M := by
  refine ⟨Nat.le_of_ble_eq_true rfl, ?_⟩
  show Go sRM g_M_mend fWi (f_M_mend p1 p2 p3 p4 M) 0 [.ref 12451850, .int p1, .int p2, .int p3, .int p4, .null] [] M
  refine go_def (f_M_mend.eq_1 ..) ?_
  refine go_aload_n (pc := 0) dX9_mend_0 rfl ?_
  refine go_iload_n (pc := 1) dX9_mend_1 rfl ?_
  refine go_T (v := f_M_isDoor p1 M) ?_
  refine go_callV (pc := 2) (a := 12451850) (as := [.int p1]) (st := []) (o_M_isDoor p1 M) ic_M_isDoor ivX9_207 (rcvk (a := 12451850) (t := 10) rfl (by decide) (by decide) rfl) rfl (by decide) (Nat.le_of_ble_eq_true rfl) dX9_mend_2 (kTi ?_)
  refine go_ifeq (pc := 5) 27 dX9_mend_5 (by decide) (fun _ => ?_) (fun _ => ?_)
  · refine go_iconst (pc := 27) (-1) dX9_mend_27 ki_m1 ?_
    exact go_ret dX9_mend_28 rii rfl rfl
  · refine go_aload_n (pc := 8) dX9_mend_8 rfl ?_
    refine go_iload_n (pc := 9) dX9_mend_9 rfl ?_
    refine go_iconst (pc := 10) 0 dX9_mend_10 ki_0 ?_
    refine go_iconst (pc := 11) 4 dX9_mend_11 ki_4 ?_
    refine go_T (v := f_M_in p2 0 4 M) ?_
    refine go_callV (pc := 12) (a := 12451850) (as := [.int p2, .int 0, .int 4]) (st := []) (o_M_in p2 0 4 M) ic_M_in ivX9_203 (rcvk (a := 12451850) (t := 10) rfl (by decide) (by decide) rfl) rfl (by decide) (Nat.le_of_ble_eq_true rfl) dX9_mend_12 (kTi ?_)
    refine go_ifeq (pc := 15) 27 dX9_mend_15 (by decide) (fun _ => ?_) (fun _ => ?_)
    · refine go_iconst (pc := 27) (-1) dX9_mend_27 ki_m1 ?_
      exact go_ret dX9_mend_28 rii rfl rfl
    · refine go_aload_n (pc := 18) dX9_mend_18 rfl ?_
      refine go_iload_n (pc := 19) dX9_mend_19 rfl ?_
      refine go_iload_n (pc := 20) dX9_mend_20 rfl ?_
      refine go_T (v := f_M_isWhere p2 p3 M) ?_
      refine go_callV (pc := 21) (a := 12451850) (as := [.int p2, .int p3]) (st := []) (o_M_isWhere p2 p3 M) ic_M_isWhere ivX9_324 (rcvk (a := 12451850) (t := 10) rfl (by decide) (by decide) rfl) rfl (by decide) (Nat.le_of_ble_eq_true rfl) dX9_mend_21 (kTi ?_)
      refine go_ifne (pc := 24) 29 dX9_mend_24 (by decide) (fun _ => ?_) (fun _ => ?_)
      · refine go_iconst (pc := 27) (-1) dX9_mend_27 ki_m1 ?_
        exact go_ret dX9_mend_28 rii rfl rfl
      · refine go_iload_n (pc := 29) dX9_mend_29 rfl ?_
        refine go_iconst (pc := 30) 2 dX9_mend_30 ki_2 ?_
        refine go_icmpeq (pc := 31) 54 dX9_mend_31 (by decide) (fun _ => ?_) (fun _ => ?_)
        · exact o_M_mend_b54 p1 p2 p3 p4 M
        · refine go_iload_n (pc := 34) dX9_mend_34 rfl ?_
          refine go_iconst (pc := 35) 3 dX9_mend_35 ki_3 ?_
          refine go_icmpeq (pc := 36) 54 dX9_mend_36 (by decide) (fun _ => ?_) (fun _ => ?_)
          · exact o_M_mend_b54 p1 p2 p3 p4 M
          · refine go_aload_n (pc := 39) dX9_mend_39 rfl ?_
            refine go_iload (pc := 40) dX9_mend_40 rfl ?_
            refine go_iconst (pc := 42) 0 dX9_mend_42 ki_0 ?_
            refine go_bipush (pc := 43) 9 dX9_mend_43 kb_9 ?_
            refine go_T (v := f_M_in p4 0 9 M) ?_
            refine go_callV (pc := 45) (a := 12451850) (as := [.int p4, .int 0, .int 9]) (st := []) (o_M_in p4 0 9 M) ic_M_in ivX9_203 (rcvk (a := 12451850) (t := 10) rfl (by decide) (by decide) rfl) rfl (by decide) (Nat.le_of_ble_eq_true rfl) dX9_mend_45 (kTi ?_)
            refine go_ifne (pc := 48) 54 dX9_mend_48 (by decide) (fun _ => ?_) (fun _ => ?_)
            · refine go_bipush (pc := 51) (-2) dX9_mend_51 kb_m2 ?_
              exact go_ret dX9_mend_53 rii rfl rfl
            · exact o_M_mend_b54 p1 p2 p3 p4 M
def f_M_keep_l2 : Nat → Int32 → Mem → Option Mem
  | 0, _, _ => none
  | n + 1, v1, M => if 4 ≤ v1 then lt (setI M 12451850 33 (mI M 12451850 2)) fun M1 => lt (setI M1 12451850 34 (mI M1 12451850 3)) fun M2 => some M2 else gd (inR v1 4) (gd (inR v1 4) (lt (setI M 15073419 v1.toNatClampNeg (mI M 12976267 v1.toNatClampNeg)) fun M3 => gd (inR v1 4) (gd (inR v1 4) (lt (setI M3 15204491 v1.toNatClampNeg (mI M3 13107339 v1.toNatClampNeg)) fun M4 => gd (inR v1 4) (gd (inR v1 4) (lt (setI M4 15335563 v1.toNatClampNeg (mI M4 13369483 v1.toNatClampNeg)) fun M5 => lt (v1 + 1) fun x6 => f_M_keep_l2 n x6 M5))))))
def f_M_keep (M : Mem) : Option Mem := f_M_keep_l2 200 0 M
theorem o_M_keep_l2 : ∀ (n : Nat) (v1 : Int32) (M : Mem), Go sRM g_M_keep fWv (f_M_keep_l2 n v1 M) 2 [.ref 12451850, .int v1] [] M := by
  intro n
  induction n with
  | zero =>
    intro v1 M
    exact go_def (f_M_keep_l2.eq_1 ..) go_none
  | succ n ih =>
    intro v1 M
    refine go_def (f_M_keep_l2.eq_2 ..) ?_
    refine go_iload_n (pc := 2) dX9_keep_2 rfl ?_
    refine go_iconst (pc := 3) 4 dX9_keep_3 ki_4 ?_
    refine go_icmpge (pc := 4) 49 dX9_keep_4 (by decide) (fun _ => ?_) (fun _ => ?_)
    · refine go_aload_n (pc := 49) dX9_keep_49 rfl ?_
      refine go_aload_n (pc := 50) dX9_keep_50 rfl ?_
      refine go_getI (pc := 51) flX9_17 rfl rfl dX9_keep_51 ?_
      refine go_putI (pc := 54) flX9_111 rfl (Or.inl rfl) ⟨rfl, rfl⟩ rfl dX9_keep_54 (fun M1 => ?_)
      refine go_aload_n (pc := 57) dX9_keep_57 rfl ?_
      refine go_aload_n (pc := 58) dX9_keep_58 rfl ?_
      refine go_getI (pc := 59) flX9_20 rfl rfl dX9_keep_59 ?_
      refine go_putI (pc := 62) flX9_114 rfl (Or.inl rfl) ⟨rfl, rfl⟩ rfl dX9_keep_62 (fun M2 => ?_)
      exact go_ret dX9_keep_65 rfl rfl rfl
    · refine go_aload_n (pc := 7) dX9_keep_7 rfl ?_
      refine go_getS (pc := 8) 15073419 flX9_102 rfl rfl sM_10_30 (by decide) dX9_keep_8 ?_
      refine go_iload_n (pc := 11) dX9_keep_11 rfl ?_
      refine go_aload_n (pc := 12) dX9_keep_12 rfl ?_
      refine go_getS (pc := 13) 12976267 flX9_29 rfl rfl sM_10_6 (by decide) dX9_keep_13 ?_
      refine go_iload_n (pc := 16) dX9_keep_16 rfl ?_
      refine go_iald (pc := 17) rfl rfl dX9_keep_17 (fun _ => ?_)
      refine go_iast (pc := 18) rfl rfl dX9_keep_18 (fun _ M3 => ?_)
      refine go_aload_n (pc := 19) dX9_keep_19 rfl ?_
      refine go_getS (pc := 20) 15204491 flX9_105 rfl rfl sM_10_31 (by decide) dX9_keep_20 ?_
      refine go_iload_n (pc := 23) dX9_keep_23 rfl ?_
      refine go_aload_n (pc := 24) dX9_keep_24 rfl ?_
      refine go_getS (pc := 25) 13107339 flX9_32 rfl rfl sM_10_7 (by decide) dX9_keep_25 ?_
      refine go_iload_n (pc := 28) dX9_keep_28 rfl ?_
      refine go_iald (pc := 29) rfl rfl dX9_keep_29 (fun _ => ?_)
      refine go_iast (pc := 30) rfl rfl dX9_keep_30 (fun _ M4 => ?_)
      refine go_aload_n (pc := 31) dX9_keep_31 rfl ?_
      refine go_getS (pc := 32) 15335563 flX9_108 rfl rfl sM_10_32 (by decide) dX9_keep_32 ?_
      refine go_iload_n (pc := 35) dX9_keep_35 rfl ?_
      refine go_aload_n (pc := 36) dX9_keep_36 rfl ?_
      refine go_getS (pc := 37) 13369483 flX9_38 rfl rfl sM_10_9 (by decide) dX9_keep_37 ?_
      refine go_iload_n (pc := 40) dX9_keep_40 rfl ?_
      refine go_iald (pc := 41) rfl rfl dX9_keep_41 (fun _ => ?_)
      refine go_iast (pc := 42) rfl rfl dX9_keep_42 (fun _ M5 => ?_)
      refine go_iincL (pc := 43) (L := fun x6 => [.ref 12451850, .int x6]) 1 dX9_keep_43 rfl ki_1 (Nat.le_of_ble_eq_true rfl) rfl (fun _ => rfl) (fun x6 => ?_)
      refine go_goto (pc := 46) 2 dX9_keep_46 (by decide) ?_
      exact ih x6 M5
theorem o_M_keep (M : Mem) : Ct sRM g_M_keep fWv [.ref 12451850] (f_M_keep M) M := by
  refine ⟨Nat.le_of_ble_eq_true rfl, ?_⟩
  show Go sRM g_M_keep fWv (f_M_keep M) 0 [.ref 12451850, .null] [] M
  refine go_def (f_M_keep.eq_1 ..) ?_
  refine go_iconst (pc := 0) 0 dX9_keep_0 ki_0 ?_
  refine go_istore_n (pc := 1) (ls' := [.ref 12451850, .int 0]) dX9_keep_1 (Nat.le_of_ble_eq_true rfl) rfl rfl ?_
  exact o_M_keep_l2 200 0 M
def f_M_putBack_l2 : Nat → Int32 → Mem → Option Mem
  | 0, _, _ => none
  | n + 1, v1, M => if 4 ≤ v1 then lt (setI M 12451850 2 (mI M 12451850 33)) fun M1 => lt (setI M1 12451850 3 (mI M1 12451850 34)) fun M2 => some M2 else gd (inR v1 4) (gd (inR v1 4) (lt (setI M 12976267 v1.toNatClampNeg (mI M 15073419 v1.toNatClampNeg)) fun M3 => gd (inR v1 4) (gd (inR v1 4) (lt (setI M3 13107339 v1.toNatClampNeg (mI M3 15204491 v1.toNatClampNeg)) fun M4 => gd (inR v1 4) (gd (inR v1 4) (lt (setI M4 13369483 v1.toNatClampNeg (mI M4 15335563 v1.toNatClampNeg)) fun M5 => lt (v1 + 1) fun x6 => f_M_putBack_l2 n x6 M5))))))
def f_M_putBack (M : Mem) : Option Mem := f_M_putBack_l2 200 0 M
theorem o_M_putBack_l2 : ∀ (n : Nat) (v1 : Int32) (M : Mem), Go sRM g_M_putBack fWv (f_M_putBack_l2 n v1 M) 2 [.ref 12451850, .int v1] [] M := by
  intro n
  induction n with
  | zero =>
    intro v1 M
    exact go_def (f_M_putBack_l2.eq_1 ..) go_none
  | succ n ih =>
    intro v1 M
    refine go_def (f_M_putBack_l2.eq_2 ..) ?_
    refine go_iload_n (pc := 2) dX9_putBack_2 rfl ?_
    refine go_iconst (pc := 3) 4 dX9_putBack_3 ki_4 ?_
    refine go_icmpge (pc := 4) 49 dX9_putBack_4 (by decide) (fun _ => ?_) (fun _ => ?_)
    · refine go_aload_n (pc := 49) dX9_putBack_49 rfl ?_
      refine go_aload_n (pc := 50) dX9_putBack_50 rfl ?_
      refine go_getI (pc := 51) flX9_111 rfl rfl dX9_putBack_51 ?_
      refine go_putI (pc := 54) flX9_17 rfl (Or.inl rfl) ⟨rfl, rfl⟩ rfl dX9_putBack_54 (fun M1 => ?_)
      refine go_aload_n (pc := 57) dX9_putBack_57 rfl ?_
      refine go_aload_n (pc := 58) dX9_putBack_58 rfl ?_
      refine go_getI (pc := 59) flX9_114 rfl rfl dX9_putBack_59 ?_
      refine go_putI (pc := 62) flX9_20 rfl (Or.inl rfl) ⟨rfl, rfl⟩ rfl dX9_putBack_62 (fun M2 => ?_)
      exact go_ret dX9_putBack_65 rfl rfl rfl
    · refine go_aload_n (pc := 7) dX9_putBack_7 rfl ?_
      refine go_getS (pc := 8) 12976267 flX9_29 rfl rfl sM_10_6 (by decide) dX9_putBack_8 ?_
      refine go_iload_n (pc := 11) dX9_putBack_11 rfl ?_
      refine go_aload_n (pc := 12) dX9_putBack_12 rfl ?_
      refine go_getS (pc := 13) 15073419 flX9_102 rfl rfl sM_10_30 (by decide) dX9_putBack_13 ?_
      refine go_iload_n (pc := 16) dX9_putBack_16 rfl ?_
      refine go_iald (pc := 17) rfl rfl dX9_putBack_17 (fun _ => ?_)
      refine go_iast (pc := 18) rfl rfl dX9_putBack_18 (fun _ M3 => ?_)
      refine go_aload_n (pc := 19) dX9_putBack_19 rfl ?_
      refine go_getS (pc := 20) 13107339 flX9_32 rfl rfl sM_10_7 (by decide) dX9_putBack_20 ?_
      refine go_iload_n (pc := 23) dX9_putBack_23 rfl ?_
      refine go_aload_n (pc := 24) dX9_putBack_24 rfl ?_
      refine go_getS (pc := 25) 15204491 flX9_105 rfl rfl sM_10_31 (by decide) dX9_putBack_25 ?_
      refine go_iload_n (pc := 28) dX9_putBack_28 rfl ?_
      refine go_iald (pc := 29) rfl rfl dX9_putBack_29 (fun _ => ?_)
      refine go_iast (pc := 30) rfl rfl dX9_putBack_30 (fun _ M4 => ?_)
      refine go_aload_n (pc := 31) dX9_putBack_31 rfl ?_
      refine go_getS (pc := 32) 13369483 flX9_38 rfl rfl sM_10_9 (by decide) dX9_putBack_32 ?_
      refine go_iload_n (pc := 35) dX9_putBack_35 rfl ?_
      refine go_aload_n (pc := 36) dX9_putBack_36 rfl ?_
      refine go_getS (pc := 37) 15335563 flX9_108 rfl rfl sM_10_32 (by decide) dX9_putBack_37 ?_
      refine go_iload_n (pc := 40) dX9_putBack_40 rfl ?_
      refine go_iald (pc := 41) rfl rfl dX9_putBack_41 (fun _ => ?_)
      refine go_iast (pc := 42) rfl rfl dX9_putBack_42 (fun _ M5 => ?_)
      refine go_iincL (pc := 43) (L := fun x6 => [.ref 12451850, .int x6]) 1 dX9_putBack_43 rfl ki_1 (Nat.le_of_ble_eq_true rfl) rfl (fun _ => rfl) (fun x6 => ?_)
      refine go_goto (pc := 46) 2 dX9_putBack_46 (by decide) ?_
      exact ih x6 M5
theorem o_M_putBack (M : Mem) : Ct sRM g_M_putBack fWv [.ref 12451850] (f_M_putBack M) M := by
  refine ⟨Nat.le_of_ble_eq_true rfl, ?_⟩
  show Go sRM g_M_putBack fWv (f_M_putBack M) 0 [.ref 12451850, .null] [] M
  refine go_def (f_M_putBack.eq_1 ..) ?_
  refine go_iconst (pc := 0) 0 dX9_putBack_0 ki_0 ?_
  refine go_istore_n (pc := 1) (ls' := [.ref 12451850, .int 0]) dX9_putBack_1 (Nat.le_of_ble_eq_true rfl) rfl rfl ?_
  exact o_M_putBack_l2 200 0 M
def f_M_run_l45 : Nat → Int32 → Int32 → Int32 → Int32 → Mem → Option (Int32 × Mem)
  | 0, _, _, _, _, _ => none
  | n + 1, v1, v2, v3, v4, M => if v2 ≤ v4 then if 6 ≤ v3 then if v3 = 6 then gd (inR v1 4) (lt (mI M 12976267 v1.toNatClampNeg) fun x6 => bd (f_M_putBack M) fun M7 => some (x6, M7)) else if v3 = 7 then gd (inR v1 4) (lt (mI M 13107339 v1.toNatClampNeg) fun x4 => bd (f_M_putBack M) fun M5 => some (x4, M5)) else gd (inR v1 4) (lt (mI M 13369483 v1.toNatClampNeg) fun x2 => bd (f_M_putBack M) fun M3 => some (x2, M3)) else b2 (f_M_gap v1 v3 M) fun r9 M8 => bd (f_M_putBack M8) fun M10 => some (r9, M10) else bd (f_M_goOn M) fun M11 => lt (v4 + 1) fun x12 => f_M_run_l45 n v1 v2 v3 x12 M11
def f_M_run (p1 : Int32) (p2 : Int32) (p3 : Int32) (M : Mem) : Option (Int32 × Mem) := if (f_M_isDoor p1 M) = 0 then some ((-10001), M) else if (f_M_in p3 0 8 M) = 0 then some ((-10001), M) else if (f_M_in p2 0 60 M) = 0 then some ((-10002), M) else bd (f_M_keep M) fun M1 => f_M_run_l45 200 p1 p2 p3 0 M1
theorem o_M_run_l45 : ∀ (n : Nat) (v1 : Int32) (v2 : Int32) (v3 : Int32) (v4 : Int32) (M : Mem), Go sRM g_M_run fWi (f_M_run_l45 n v1 v2 v3 v4 M) 45 [.ref 12451850, .int v1, .int v2, .int v3, .int v4] [] M := by
  intro n
  induction n with
  | zero =>
    intro v1 v2 v3 v4 M
    exact go_def (f_M_run_l45.eq_1 ..) go_none
  | succ n ih =>
    intro v1 v2 v3 v4 M
    refine go_def (f_M_run_l45.eq_2 ..) ?_
    refine go_iload (pc := 45) dX9_run_45 rfl ?_
    refine go_iload_n (pc := 47) dX9_run_47 rfl ?_
    refine go_icmpge (pc := 48) 61 dX9_run_48 (by decide) (fun _ => ?_) (fun _ => ?_)
    · refine go_iload_n (pc := 61) dX9_run_61 rfl ?_
      refine go_bipush (pc := 62) 6 dX9_run_62 kb_6 ?_
      refine go_icmpge (pc := 64) 76 dX9_run_64 (by decide) (fun _ => ?_) (fun _ => ?_)
      · refine go_iload_n (pc := 76) dX9_run_76 rfl ?_
        refine go_bipush (pc := 77) 6 dX9_run_77 kb_6 ?_
        refine go_icmpne (pc := 79) 91 dX9_run_79 (by decide) (fun _ => ?_) (fun _ => ?_)
        · refine go_aload_n (pc := 82) dX9_run_82 rfl ?_
          refine go_getS (pc := 83) 12976267 flX9_29 rfl rfl sM_10_6 (by decide) dX9_run_83 ?_
          refine go_iload_n (pc := 86) dX9_run_86 rfl ?_
          refine go_iald (pc := 87) rfl rfl dX9_run_87 (fun _ => ?_)
          refine go_goto (pc := 88) 112 dX9_run_88 (by decide) ?_
          refine go_istoreL (pc := 112) (L := fun x6 => [.ref 12451850, .int v1, .int v2, .int v3, .int x6]) dX9_run_112 (Nat.le_of_ble_eq_true rfl) rfl (fun _ => rfl) (fun x6 => ?_)
          refine go_aload_n (pc := 114) dX9_run_114 rfl ?_
          refine go_callV (pc := 115) (a := 12451850) (as := []) (st := []) (o_M_putBack M) ic_M_putBack ivX9_340 (rcvk (a := 12451850) (t := 10) rfl (by decide) (by decide) rfl) rfl (by decide) (Nat.le_of_ble_eq_true rfl) dX9_run_115 (kWv fun M7 => ?_)
          refine go_iload (pc := 118) dX9_run_118 rfl ?_
          exact go_ret dX9_run_120 rii rfl rfl
        · refine go_iload_n (pc := 91) dX9_run_91 rfl ?_
          refine go_bipush (pc := 92) 7 dX9_run_92 kb_7 ?_
          refine go_icmpne (pc := 94) 106 dX9_run_94 (by decide) (fun _ => ?_) (fun _ => ?_)
          · refine go_aload_n (pc := 97) dX9_run_97 rfl ?_
            refine go_getS (pc := 98) 13107339 flX9_32 rfl rfl sM_10_7 (by decide) dX9_run_98 ?_
            refine go_iload_n (pc := 101) dX9_run_101 rfl ?_
            refine go_iald (pc := 102) rfl rfl dX9_run_102 (fun _ => ?_)
            refine go_goto (pc := 103) 112 dX9_run_103 (by decide) ?_
            refine go_istoreL (pc := 112) (L := fun x4 => [.ref 12451850, .int v1, .int v2, .int v3, .int x4]) dX9_run_112 (Nat.le_of_ble_eq_true rfl) rfl (fun _ => rfl) (fun x4 => ?_)
            refine go_aload_n (pc := 114) dX9_run_114 rfl ?_
            refine go_callV (pc := 115) (a := 12451850) (as := []) (st := []) (o_M_putBack M) ic_M_putBack ivX9_340 (rcvk (a := 12451850) (t := 10) rfl (by decide) (by decide) rfl) rfl (by decide) (Nat.le_of_ble_eq_true rfl) dX9_run_115 (kWv fun M5 => ?_)
            refine go_iload (pc := 118) dX9_run_118 rfl ?_
            exact go_ret dX9_run_120 rii rfl rfl
          · refine go_aload_n (pc := 106) dX9_run_106 rfl ?_
            refine go_getS (pc := 107) 13369483 flX9_38 rfl rfl sM_10_9 (by decide) dX9_run_107 ?_
            refine go_iload_n (pc := 110) dX9_run_110 rfl ?_
            refine go_iald (pc := 111) rfl rfl dX9_run_111 (fun _ => ?_)
            refine go_istoreL (pc := 112) (L := fun x2 => [.ref 12451850, .int v1, .int v2, .int v3, .int x2]) dX9_run_112 (Nat.le_of_ble_eq_true rfl) rfl (fun _ => rfl) (fun x2 => ?_)
            refine go_aload_n (pc := 114) dX9_run_114 rfl ?_
            refine go_callV (pc := 115) (a := 12451850) (as := []) (st := []) (o_M_putBack M) ic_M_putBack ivX9_340 (rcvk (a := 12451850) (t := 10) rfl (by decide) (by decide) rfl) rfl (by decide) (Nat.le_of_ble_eq_true rfl) dX9_run_115 (kWv fun M3 => ?_)
            refine go_iload (pc := 118) dX9_run_118 rfl ?_
            exact go_ret dX9_run_120 rii rfl rfl
      · refine go_aload_n (pc := 67) dX9_run_67 rfl ?_
        refine go_iload_n (pc := 68) dX9_run_68 rfl ?_
        refine go_iload_n (pc := 69) dX9_run_69 rfl ?_
        refine go_callV (pc := 70) (a := 12451850) (as := [.int v1, .int v3]) (st := []) (o_M_gap v1 v3 M) ic_M_gap ivX9_299 (rcvk (a := 12451850) (t := 10) rfl (by decide) (by decide) rfl) rfl (by decide) (Nat.le_of_ble_eq_true rfl) dX9_run_70 (kWi fun r9 M8 => ?_)
        refine go_goto (pc := 73) 112 dX9_run_73 (by decide) ?_
        refine go_istore (pc := 112) (ls' := [.ref 12451850, .int v1, .int v2, .int v3, .int r9]) dX9_run_112 (Nat.le_of_ble_eq_true rfl) rfl rfl ?_
        refine go_aload_n (pc := 114) dX9_run_114 rfl ?_
        refine go_callV (pc := 115) (a := 12451850) (as := []) (st := []) (o_M_putBack M8) ic_M_putBack ivX9_340 (rcvk (a := 12451850) (t := 10) rfl (by decide) (by decide) rfl) rfl (by decide) (Nat.le_of_ble_eq_true rfl) dX9_run_115 (kWv fun M10 => ?_)
        refine go_iload (pc := 118) dX9_run_118 rfl ?_
        exact go_ret dX9_run_120 rii rfl rfl
    · refine go_aload_n (pc := 51) dX9_run_51 rfl ?_
      refine go_callV (pc := 52) (a := 12451850) (as := []) (st := []) (o_M_goOn M) ic_M_goOn ivX9_318 (rcvk (a := 12451850) (t := 10) rfl (by decide) (by decide) rfl) rfl (by decide) (Nat.le_of_ble_eq_true rfl) dX9_run_52 (kWv fun M11 => ?_)
      refine go_iincL (pc := 55) (L := fun x12 => [.ref 12451850, .int v1, .int v2, .int v3, .int x12]) 1 dX9_run_55 rfl ki_1 (Nat.le_of_ble_eq_true rfl) rfl (fun _ => rfl) (fun x12 => ?_)
      refine go_goto (pc := 58) 45 dX9_run_58 (by decide) ?_
      exact ih v1 v2 v3 x12 M11
theorem o_M_run (p1 : Int32) (p2 : Int32) (p3 : Int32) (M : Mem) : Ct sRM g_M_run fWi [.ref 12451850, .int p1, .int p2, .int p3] (f_M_run p1 p2 p3 M) M := by
  refine ⟨Nat.le_of_ble_eq_true rfl, ?_⟩
  show Go sRM g_M_run fWi (f_M_run p1 p2 p3 M) 0 [.ref 12451850, .int p1, .int p2, .int p3, .null] [] M
  refine go_def (f_M_run.eq_1 ..) ?_
  refine go_aload_n (pc := 0) dX9_run_0 rfl ?_
  refine go_iload_n (pc := 1) dX9_run_1 rfl ?_
  refine go_T (v := f_M_isDoor p1 M) ?_
  refine go_callV (pc := 2) (a := 12451850) (as := [.int p1]) (st := []) (o_M_isDoor p1 M) ic_M_isDoor ivX9_207 (rcvk (a := 12451850) (t := 10) rfl (by decide) (by decide) rfl) rfl (by decide) (Nat.le_of_ble_eq_true rfl) dX9_run_2 (kTi ?_)
  refine go_ifeq (pc := 5) 19 dX9_run_5 (by decide) (fun _ => ?_) (fun _ => ?_)
  · refine go_sipush (pc := 19) (-10001) dX9_run_19 ks_m10001 ?_
    exact go_ret dX9_run_22 rii rfl rfl
  · refine go_aload_n (pc := 8) dX9_run_8 rfl ?_
    refine go_iload_n (pc := 9) dX9_run_9 rfl ?_
    refine go_iconst (pc := 10) 0 dX9_run_10 ki_0 ?_
    refine go_bipush (pc := 11) 8 dX9_run_11 kb_8 ?_
    refine go_T (v := f_M_in p3 0 8 M) ?_
    refine go_callV (pc := 13) (a := 12451850) (as := [.int p3, .int 0, .int 8]) (st := []) (o_M_in p3 0 8 M) ic_M_in ivX9_203 (rcvk (a := 12451850) (t := 10) rfl (by decide) (by decide) rfl) rfl (by decide) (Nat.le_of_ble_eq_true rfl) dX9_run_13 (kTi ?_)
    refine go_ifne (pc := 16) 23 dX9_run_16 (by decide) (fun _ => ?_) (fun _ => ?_)
    · refine go_sipush (pc := 19) (-10001) dX9_run_19 ks_m10001 ?_
      exact go_ret dX9_run_22 rii rfl rfl
    · refine go_aload_n (pc := 23) dX9_run_23 rfl ?_
      refine go_iload_n (pc := 24) dX9_run_24 rfl ?_
      refine go_iconst (pc := 25) 0 dX9_run_25 ki_0 ?_
      refine go_bipush (pc := 26) 60 dX9_run_26 kb_60 ?_
      refine go_T (v := f_M_in p2 0 60 M) ?_
      refine go_callV (pc := 28) (a := 12451850) (as := [.int p2, .int 0, .int 60]) (st := []) (o_M_in p2 0 60 M) ic_M_in ivX9_203 (rcvk (a := 12451850) (t := 10) rfl (by decide) (by decide) rfl) rfl (by decide) (Nat.le_of_ble_eq_true rfl) dX9_run_28 (kTi ?_)
      refine go_ifne (pc := 31) 38 dX9_run_31 (by decide) (fun _ => ?_) (fun _ => ?_)
      · refine go_sipush (pc := 34) (-10002) dX9_run_34 ks_m10002 ?_
        exact go_ret dX9_run_37 rii rfl rfl
      · refine go_aload_n (pc := 38) dX9_run_38 rfl ?_
        refine go_callV (pc := 39) (a := 12451850) (as := []) (st := []) (o_M_keep M) ic_M_keep ivX9_337 (rcvk (a := 12451850) (t := 10) rfl (by decide) (by decide) rfl) rfl (by decide) (Nat.le_of_ble_eq_true rfl) dX9_run_39 (kWv fun M1 => ?_)
        refine go_iconst (pc := 42) 0 dX9_run_42 ki_0 ?_
        refine go_istore (pc := 43) (ls' := [.ref 12451850, .int p1, .int p2, .int p3, .int 0]) dX9_run_43 (Nat.le_of_ble_eq_true rfl) rfl rfl ?_
        exact o_M_run_l45 200 p1 p2 p3 0 M1
def f_M_first_l73 : Nat → Int32 → Int32 → Int32 → Int32 → Mem → Option (Int32 × Mem)
  | 0, _, _, _, _, _ => none
  | n + 1, v2, v3, v4, v5, M => if ((v4 >>> (v5 &&& 31)) &&& 1) = 0 then lt (v5 + 1) fun x9 => f_M_first_l73 n v2 v3 v4 x9 M else if v2 = 0 then some (v3, M) else some (v5, M)
def f_M_first_b50 (v1 : Int32) (v2 : Int32) (v3 : Int32) (M : Mem) : Option (Int32 × Mem) := b2 (f_M_rubs v1 M) fun r7 M6 => bd (f_M_putBack M6) fun M8 => if v3 = 61 then some ((-5), M8) else f_M_first_l73 200 v2 v3 r7 0 M8
def f_M_first_l26 : Nat → Int32 → Int32 → Int32 → Mem → Option (Int32 × Mem)
  | 0, _, _, _, _ => none
  | n + 1, v1, v2, v3, M => if 61 ≤ v3 then f_M_first_b50 v1 v2 v3 M else b2 (f_M_rubs v1 M) fun r3 M2 => if r3 = 0 then bd (f_M_goOn M2) fun M4 => lt (v3 + 1) fun x5 => f_M_first_l26 n v1 v2 x5 M4 else f_M_first_b50 v1 v2 v3 M2
def f_M_first (p1 : Int32) (p2 : Int32) (M : Mem) : Option (Int32 × Mem) := if (f_M_isDoor p1 M) = 0 then some ((-1), M) else if (f_M_in p2 0 1 M) = 0 then some ((-1), M) else bd (f_M_keep M) fun M1 => f_M_first_l26 200 p1 p2 0 M1
theorem o_M_first_l73 : ∀ (n : Nat) (v2 : Int32) (v3 : Int32) (v4 : Int32) (v5 : Int32) (M : Mem), Go sRM g_M_first fWi (f_M_first_l73 n v2 v3 v4 v5 M) 73 [.ref 12451850, .null, .int v2, .int v3, .int v4, .int v5] [] M := by
  intro n
  induction n with
  | zero =>
    intro v2 v3 v4 v5 M
    exact go_def (f_M_first_l73.eq_1 ..) go_none
  | succ n ih =>
    intro v2 v3 v4 v5 M
    refine go_def (f_M_first_l73.eq_2 ..) ?_
    refine go_iload (pc := 73) dX9_first_73 rfl ?_
    refine go_iload (pc := 75) dX9_first_75 rfl ?_
    refine go_ishr (pc := 77) dX9_first_77 ?_
    refine go_iconst (pc := 78) 1 dX9_first_78 ki_1 ?_
    refine go_iand (pc := 79) dX9_first_79 ?_
    refine go_ifne (pc := 80) 89 dX9_first_80 (by decide) (fun _ => ?_) (fun _ => ?_)
    · refine go_iincL (pc := 83) (L := fun x9 => [.ref 12451850, .null, .int v2, .int v3, .int v4, .int x9]) 1 dX9_first_83 rfl ki_1 (Nat.le_of_ble_eq_true rfl) rfl (fun _ => rfl) (fun x9 => ?_)
      refine go_goto (pc := 86) 73 dX9_first_86 (by decide) ?_
      exact ih v2 v3 v4 x9 M
    · refine go_iload_n (pc := 89) dX9_first_89 rfl ?_
      refine go_ifne (pc := 90) 97 dX9_first_90 (by decide) (fun _ => ?_) (fun _ => ?_)
      · refine go_iload_n (pc := 93) dX9_first_93 rfl ?_
        refine go_goto (pc := 94) 99 dX9_first_94 (by decide) ?_
        exact go_ret dX9_first_99 rii rfl rfl
      · refine go_iload (pc := 97) dX9_first_97 rfl ?_
        exact go_ret dX9_first_99 rii rfl rfl
theorem o_M_first_b50 (v1 : Int32) (v2 : Int32) (v3 : Int32) (M : Mem) : Go sRM g_M_first fWi (f_M_first_b50 v1 v2 v3 M) 50 [.ref 12451850, .int v1, .int v2, .int v3, .null, .null] [] M := by
  refine go_def (f_M_first_b50.eq_1 ..) ?_
  refine go_aload_n (pc := 50) dX9_first_50 rfl ?_
  refine go_iload_n (pc := 51) dX9_first_51 rfl ?_
  refine go_callV (pc := 52) (a := 12451850) (as := [.int v1]) (st := []) (o_M_rubs v1 M) ic_M_rubs ivX9_305 (rcvk (a := 12451850) (t := 10) rfl (by decide) (by decide) rfl) rfl (by decide) (Nat.le_of_ble_eq_true rfl) dX9_first_52 (kWi fun r7 M6 => ?_)
  refine go_istore (pc := 55) (ls' := [.ref 12451850, .int v1, .int v2, .int v3, .int r7, .null]) dX9_first_55 (Nat.le_of_ble_eq_true rfl) rfl rfl ?_
  refine go_aload_n (pc := 57) dX9_first_57 rfl ?_
  refine go_callV (pc := 58) (a := 12451850) (as := []) (st := []) (o_M_putBack M6) ic_M_putBack ivX9_340 (rcvk (a := 12451850) (t := 10) rfl (by decide) (by decide) rfl) rfl (by decide) (Nat.le_of_ble_eq_true rfl) dX9_first_58 (kWv fun M8 => ?_)
  refine go_iload_n (pc := 61) dX9_first_61 rfl ?_
  refine go_bipush (pc := 62) 61 dX9_first_62 kb_61 ?_
  refine go_icmpne (pc := 64) 70 dX9_first_64 (by decide) (fun _ => ?_) (fun _ => ?_)
  · refine go_bipush (pc := 67) (-5) dX9_first_67 kb_m5 ?_
    exact go_ret dX9_first_69 rii rfl rfl
  · refine go_iconst (pc := 70) 0 dX9_first_70 ki_0 ?_
    refine go_istore (pc := 71) (ls' := [.ref 12451850, .int v1, .int v2, .int v3, .int r7, .int 0]) dX9_first_71 (Nat.le_of_ble_eq_true rfl) rfl rfl ?_
    refine go_sub (ls' := [.ref 12451850, .null, .int v2, .int v3, .int r7, .int 0]) ⟨Or.inr rfl, Or.inl rfl, Or.inr rfl, Or.inr rfl, Or.inr rfl, Or.inr rfl, trivial⟩ ?_
    exact o_M_first_l73 200 v2 v3 r7 0 M8
theorem o_M_first_l26 : ∀ (n : Nat) (v1 : Int32) (v2 : Int32) (v3 : Int32) (M : Mem), Go sRM g_M_first fWi (f_M_first_l26 n v1 v2 v3 M) 26 [.ref 12451850, .int v1, .int v2, .int v3, .null, .null] [] M := by
  intro n
  induction n with
  | zero =>
    intro v1 v2 v3 M
    exact go_def (f_M_first_l26.eq_1 ..) go_none
  | succ n ih =>
    intro v1 v2 v3 M
    refine go_def (f_M_first_l26.eq_2 ..) ?_
    refine go_iload_n (pc := 26) dX9_first_26 rfl ?_
    refine go_bipush (pc := 27) 61 dX9_first_27 kb_61 ?_
    refine go_icmpge (pc := 29) 50 dX9_first_29 (by decide) (fun _ => ?_) (fun _ => ?_)
    · exact o_M_first_b50 v1 v2 v3 M
    · refine go_aload_n (pc := 32) dX9_first_32 rfl ?_
      refine go_iload_n (pc := 33) dX9_first_33 rfl ?_
      refine go_callV (pc := 34) (a := 12451850) (as := [.int v1]) (st := []) (o_M_rubs v1 M) ic_M_rubs ivX9_305 (rcvk (a := 12451850) (t := 10) rfl (by decide) (by decide) rfl) rfl (by decide) (Nat.le_of_ble_eq_true rfl) dX9_first_34 (kWi fun r3 M2 => ?_)
      refine go_ifne (pc := 37) 50 dX9_first_37 (by decide) (fun _ => ?_) (fun _ => ?_)
      · refine go_aload_n (pc := 40) dX9_first_40 rfl ?_
        refine go_callV (pc := 41) (a := 12451850) (as := []) (st := []) (o_M_goOn M2) ic_M_goOn ivX9_318 (rcvk (a := 12451850) (t := 10) rfl (by decide) (by decide) rfl) rfl (by decide) (Nat.le_of_ble_eq_true rfl) dX9_first_41 (kWv fun M4 => ?_)
        refine go_iincL (pc := 44) (L := fun x5 => [.ref 12451850, .int v1, .int v2, .int x5, .null, .null]) 1 dX9_first_44 rfl ki_1 (Nat.le_of_ble_eq_true rfl) rfl (fun _ => rfl) (fun x5 => ?_)
        refine go_goto (pc := 47) 26 dX9_first_47 (by decide) ?_
        exact ih v1 v2 x5 M4
      · exact o_M_first_b50 v1 v2 v3 M2
theorem o_M_first (p1 : Int32) (p2 : Int32) (M : Mem) : Ct sRM g_M_first fWi [.ref 12451850, .int p1, .int p2] (f_M_first p1 p2 M) M := by
  refine ⟨Nat.le_of_ble_eq_true rfl, ?_⟩
  show Go sRM g_M_first fWi (f_M_first p1 p2 M) 0 [.ref 12451850, .int p1, .int p2, .null, .null, .null] [] M
  refine go_def (f_M_first.eq_1 ..) ?_
  refine go_aload_n (pc := 0) dX9_first_0 rfl ?_
  refine go_iload_n (pc := 1) dX9_first_1 rfl ?_
  refine go_T (v := f_M_isDoor p1 M) ?_
  refine go_callV (pc := 2) (a := 12451850) (as := [.int p1]) (st := []) (o_M_isDoor p1 M) ic_M_isDoor ivX9_207 (rcvk (a := 12451850) (t := 10) rfl (by decide) (by decide) rfl) rfl (by decide) (Nat.le_of_ble_eq_true rfl) dX9_first_2 (kTi ?_)
  refine go_ifeq (pc := 5) 18 dX9_first_5 (by decide) (fun _ => ?_) (fun _ => ?_)
  · refine go_iconst (pc := 18) (-1) dX9_first_18 ki_m1 ?_
    exact go_ret dX9_first_19 rii rfl rfl
  · refine go_aload_n (pc := 8) dX9_first_8 rfl ?_
    refine go_iload_n (pc := 9) dX9_first_9 rfl ?_
    refine go_iconst (pc := 10) 0 dX9_first_10 ki_0 ?_
    refine go_iconst (pc := 11) 1 dX9_first_11 ki_1 ?_
    refine go_T (v := f_M_in p2 0 1 M) ?_
    refine go_callV (pc := 12) (a := 12451850) (as := [.int p2, .int 0, .int 1]) (st := []) (o_M_in p2 0 1 M) ic_M_in ivX9_203 (rcvk (a := 12451850) (t := 10) rfl (by decide) (by decide) rfl) rfl (by decide) (Nat.le_of_ble_eq_true rfl) dX9_first_12 (kTi ?_)
    refine go_ifne (pc := 15) 20 dX9_first_15 (by decide) (fun _ => ?_) (fun _ => ?_)
    · refine go_iconst (pc := 18) (-1) dX9_first_18 ki_m1 ?_
      exact go_ret dX9_first_19 rii rfl rfl
    · refine go_aload_n (pc := 20) dX9_first_20 rfl ?_
      refine go_callV (pc := 21) (a := 12451850) (as := []) (st := []) (o_M_keep M) ic_M_keep ivX9_337 (rcvk (a := 12451850) (t := 10) rfl (by decide) (by decide) rfl) rfl (by decide) (Nat.le_of_ble_eq_true rfl) dX9_first_21 (kWv fun M1 => ?_)
      refine go_iconst (pc := 24) 0 dX9_first_24 ki_0 ?_
      refine go_istore_n (pc := 25) (ls' := [.ref 12451850, .int p1, .int p2, .int 0, .null, .null]) dX9_first_25 (Nat.le_of_ble_eq_true rfl) rfl rfl ?_
      exact o_M_first_l26 200 p1 p2 0 M1
def f_M_layGaps_b62 (K25 : Int32 → Int32 → Int32 → Int32 → Mem → Option Mem) (v1 : Int32) (v2 : Int32) (v3 : Int32) (v4 : Int32) (v5 : Int32) (s0 : Int32) (M : Mem) : Option Mem := lt (setI M 12451850 35 s0) fun M10 => if v5 ≤ (mI M10 12451850 36) then lt (setI M10 12451850 36 (mI M10 12451850 36)) fun M11 => lt (v4 + 1) fun x12 => K25 v1 v2 v3 x12 M11 else lt (setI M10 12451850 36 v5) fun M13 => lt (v4 + 1) fun x14 => K25 v1 v2 v3 x14 M13
def f_M_layGaps_l25 : Nat → Int32 → Int32 → Int32 → Int32 → Mem → Option Mem
  | 0, _, _, _, _, _ => none
  | n + 1, v1, v2, v3, v4, M => if v3 ≤ v4 then bd (f_M_putBack M) fun M6 => some M6 else bd (f_M_goOn M) fun M7 => b2 (f_M_gap v1 v2 M7) fun r9 M8 => if (mI M8 12451850 35) ≤ r9 then f_M_layGaps_b62 (f_M_layGaps_l25 n) v1 v2 v3 v4 r9 (mI M8 12451850 35) M8 else f_M_layGaps_b62 (f_M_layGaps_l25 n) v1 v2 v3 v4 r9 r9 M8
def f_M_layGaps (p1 : Int32) (p2 : Int32) (p3 : Int32) (M : Mem) : Option Mem := bd (f_M_keep M) fun M1 => b2 (f_M_gap p1 p2 M1) fun r3 M2 => lt (setI M2 12451850 35 r3) fun M4 => lt (setI M4 12451850 36 (mI M4 12451850 35)) fun M5 => f_M_layGaps_l25 200 p1 p2 p3 0 M5
theorem o_M_layGaps_b62 (K25 : Int32 → Int32 → Int32 → Int32 → Mem → Option Mem) (hK25 : ∀ (y1 : Int32) (y2 : Int32) (y3 : Int32) (y4 : Int32) (M : Mem), Go sRM g_M_layGaps fWv (K25 y1 y2 y3 y4 M) 25 [.ref 12451850, .int y1, .int y2, .int y3, .int y4, .null] [] M) (v1 : Int32) (v2 : Int32) (v3 : Int32) (v4 : Int32) (v5 : Int32) (s0 : Int32) (M : Mem) : Go sRM g_M_layGaps fWv (f_M_layGaps_b62 K25 v1 v2 v3 v4 v5 s0 M) 62 [.ref 12451850, .int v1, .int v2, .int v3, .int v4, .int v5] [.int s0, .ref 12451850] M := by
  refine go_def (f_M_layGaps_b62.eq_1 ..) ?_
  refine go_putI (pc := 62) flX9_117 rfl (Or.inl rfl) ⟨rfl, rfl⟩ rfl dX9_layGaps_62 (fun M10 => ?_)
  refine go_aload_n (pc := 65) dX9_layGaps_65 rfl ?_
  refine go_iload (pc := 66) dX9_layGaps_66 rfl ?_
  refine go_aload_n (pc := 68) dX9_layGaps_68 rfl ?_
  refine go_getI (pc := 69) flX9_120 rfl rfl dX9_layGaps_69 ?_
  refine go_icmple (pc := 72) 80 dX9_layGaps_72 (by decide) (fun _ => ?_) (fun _ => ?_)
  · refine go_aload_n (pc := 80) dX9_layGaps_80 rfl ?_
    refine go_getI (pc := 81) flX9_120 rfl rfl dX9_layGaps_81 ?_
    refine go_putI (pc := 84) flX9_120 rfl (Or.inl rfl) ⟨rfl, rfl⟩ rfl dX9_layGaps_84 (fun M11 => ?_)
    refine go_iincL (pc := 87) (L := fun x12 => [.ref 12451850, .int v1, .int v2, .int v3, .int x12, .int v5]) 1 dX9_layGaps_87 rfl ki_1 (Nat.le_of_ble_eq_true rfl) rfl (fun _ => rfl) (fun x12 => ?_)
    refine go_goto (pc := 90) 25 dX9_layGaps_90 (by decide) ?_
    refine go_sub (ls' := [.ref 12451850, .int v1, .int v2, .int v3, .int x12, .null]) ⟨Or.inr rfl, Or.inr rfl, Or.inr rfl, Or.inr rfl, Or.inr rfl, Or.inl rfl, trivial⟩ ?_
    exact hK25 v1 v2 v3 x12 M11
  · refine go_iload (pc := 75) dX9_layGaps_75 rfl ?_
    refine go_goto (pc := 77) 84 dX9_layGaps_77 (by decide) ?_
    refine go_putI (pc := 84) flX9_120 rfl (Or.inl rfl) ⟨rfl, rfl⟩ rfl dX9_layGaps_84 (fun M13 => ?_)
    refine go_iincL (pc := 87) (L := fun x14 => [.ref 12451850, .int v1, .int v2, .int v3, .int x14, .int v5]) 1 dX9_layGaps_87 rfl ki_1 (Nat.le_of_ble_eq_true rfl) rfl (fun _ => rfl) (fun x14 => ?_)
    refine go_goto (pc := 90) 25 dX9_layGaps_90 (by decide) ?_
    refine go_sub (ls' := [.ref 12451850, .int v1, .int v2, .int v3, .int x14, .null]) ⟨Or.inr rfl, Or.inr rfl, Or.inr rfl, Or.inr rfl, Or.inr rfl, Or.inl rfl, trivial⟩ ?_
    exact hK25 v1 v2 v3 x14 M13
theorem o_M_layGaps_l25 : ∀ (n : Nat) (v1 : Int32) (v2 : Int32) (v3 : Int32) (v4 : Int32) (M : Mem), Go sRM g_M_layGaps fWv (f_M_layGaps_l25 n v1 v2 v3 v4 M) 25 [.ref 12451850, .int v1, .int v2, .int v3, .int v4, .null] [] M := by
  intro n
  induction n with
  | zero =>
    intro v1 v2 v3 v4 M
    exact go_def (f_M_layGaps_l25.eq_1 ..) go_none
  | succ n ih =>
    intro v1 v2 v3 v4 M
    refine go_def (f_M_layGaps_l25.eq_2 ..) ?_
    refine go_iload (pc := 25) dX9_layGaps_25 rfl ?_
    refine go_iload_n (pc := 27) dX9_layGaps_27 rfl ?_
    refine go_icmpge (pc := 28) 93 dX9_layGaps_28 (by decide) (fun _ => ?_) (fun _ => ?_)
    · refine go_aload_n (pc := 93) dX9_layGaps_93 rfl ?_
      refine go_callV (pc := 94) (a := 12451850) (as := []) (st := []) (o_M_putBack M) ic_M_putBack ivX9_340 (rcvk (a := 12451850) (t := 10) rfl (by decide) (by decide) rfl) rfl (by decide) (Nat.le_of_ble_eq_true rfl) dX9_layGaps_94 (kWv fun M6 => ?_)
      exact go_ret dX9_layGaps_97 rfl rfl rfl
    · refine go_aload_n (pc := 31) dX9_layGaps_31 rfl ?_
      refine go_callV (pc := 32) (a := 12451850) (as := []) (st := []) (o_M_goOn M) ic_M_goOn ivX9_318 (rcvk (a := 12451850) (t := 10) rfl (by decide) (by decide) rfl) rfl (by decide) (Nat.le_of_ble_eq_true rfl) dX9_layGaps_32 (kWv fun M7 => ?_)
      refine go_aload_n (pc := 35) dX9_layGaps_35 rfl ?_
      refine go_iload_n (pc := 36) dX9_layGaps_36 rfl ?_
      refine go_iload_n (pc := 37) dX9_layGaps_37 rfl ?_
      refine go_callV (pc := 38) (a := 12451850) (as := [.int v1, .int v2]) (st := []) (o_M_gap v1 v2 M7) ic_M_gap ivX9_299 (rcvk (a := 12451850) (t := 10) rfl (by decide) (by decide) rfl) rfl (by decide) (Nat.le_of_ble_eq_true rfl) dX9_layGaps_38 (kWi fun r9 M8 => ?_)
      refine go_istore (pc := 41) (ls' := [.ref 12451850, .int v1, .int v2, .int v3, .int v4, .int r9]) dX9_layGaps_41 (Nat.le_of_ble_eq_true rfl) rfl rfl ?_
      refine go_aload_n (pc := 43) dX9_layGaps_43 rfl ?_
      refine go_iload (pc := 44) dX9_layGaps_44 rfl ?_
      refine go_aload_n (pc := 46) dX9_layGaps_46 rfl ?_
      refine go_getI (pc := 47) flX9_117 rfl rfl dX9_layGaps_47 ?_
      refine go_icmpge (pc := 50) 58 dX9_layGaps_50 (by decide) (fun _ => ?_) (fun _ => ?_)
      · refine go_aload_n (pc := 58) dX9_layGaps_58 rfl ?_
        refine go_getI (pc := 59) flX9_117 rfl rfl dX9_layGaps_59 ?_
        exact o_M_layGaps_b62 (f_M_layGaps_l25 n) ih v1 v2 v3 v4 r9 (mI M8 12451850 35) M8
      · refine go_iload (pc := 53) dX9_layGaps_53 rfl ?_
        refine go_goto (pc := 55) 62 dX9_layGaps_55 (by decide) ?_
        exact o_M_layGaps_b62 (f_M_layGaps_l25 n) ih v1 v2 v3 v4 r9 r9 M8
theorem o_M_layGaps (p1 : Int32) (p2 : Int32) (p3 : Int32) (M : Mem) : Ct sRM g_M_layGaps fWv [.ref 12451850, .int p1, .int p2, .int p3] (f_M_layGaps p1 p2 p3 M) M := by
  refine ⟨Nat.le_of_ble_eq_true rfl, ?_⟩
  show Go sRM g_M_layGaps fWv (f_M_layGaps p1 p2 p3 M) 0 [.ref 12451850, .int p1, .int p2, .int p3, .null, .null] [] M
  refine go_def (f_M_layGaps.eq_1 ..) ?_
  refine go_aload_n (pc := 0) dX9_layGaps_0 rfl ?_
  refine go_callV (pc := 1) (a := 12451850) (as := []) (st := []) (o_M_keep M) ic_M_keep ivX9_337 (rcvk (a := 12451850) (t := 10) rfl (by decide) (by decide) rfl) rfl (by decide) (Nat.le_of_ble_eq_true rfl) dX9_layGaps_1 (kWv fun M1 => ?_)
  refine go_aload_n (pc := 4) dX9_layGaps_4 rfl ?_
  refine go_aload_n (pc := 5) dX9_layGaps_5 rfl ?_
  refine go_iload_n (pc := 6) dX9_layGaps_6 rfl ?_
  refine go_iload_n (pc := 7) dX9_layGaps_7 rfl ?_
  refine go_callV (pc := 8) (a := 12451850) (as := [.int p1, .int p2]) (st := [.ref 12451850]) (o_M_gap p1 p2 M1) ic_M_gap ivX9_299 (rcvk (a := 12451850) (t := 10) rfl (by decide) (by decide) rfl) rfl (by decide) (Nat.le_of_ble_eq_true rfl) dX9_layGaps_8 (kWi fun r3 M2 => ?_)
  refine go_putI (pc := 11) flX9_117 rfl (Or.inl rfl) ⟨rfl, rfl⟩ rfl dX9_layGaps_11 (fun M4 => ?_)
  refine go_aload_n (pc := 14) dX9_layGaps_14 rfl ?_
  refine go_aload_n (pc := 15) dX9_layGaps_15 rfl ?_
  refine go_getI (pc := 16) flX9_117 rfl rfl dX9_layGaps_16 ?_
  refine go_putI (pc := 19) flX9_120 rfl (Or.inl rfl) ⟨rfl, rfl⟩ rfl dX9_layGaps_19 (fun M5 => ?_)
  refine go_iconst (pc := 22) 0 dX9_layGaps_22 ki_0 ?_
  refine go_istore (pc := 23) (ls' := [.ref 12451850, .int p1, .int p2, .int p3, .int 0, .null]) dX9_layGaps_23 (Nat.le_of_ble_eq_true rfl) rfl rfl ?_
  exact o_M_layGaps_l25 200 p1 p2 p3 0 M5
def f_M_worst (p1 : Int32) (p2 : Int32) (p3 : Int32) (p4 : Int32) (M : Mem) : Option (Int32 × Mem) := if (f_M_isDoor p1 M) = 0 then some ((-10001), M) else if (f_M_isSpot p2 M) = 0 then some ((-10001), M) else if (f_M_in p4 0 1 M) = 0 then some ((-10001), M) else if (f_M_in p3 0 60 M) = 0 then some ((-10002), M) else bd (f_M_layGaps p1 p2 p3 M) fun M1 => if p4 = 0 then some (mI M1 12451850 35, M1) else some (mI M1 12451850 36, M1)
theorem o_M_worst (p1 : Int32) (p2 : Int32) (p3 : Int32) (p4 : Int32) (M : Mem) : Ct sRM g_M_worst fWi [.ref 12451850, .int p1, .int p2, .int p3, .int p4] (f_M_worst p1 p2 p3 p4 M) M := by
  refine ⟨Nat.le_of_ble_eq_true rfl, ?_⟩
  show Go sRM g_M_worst fWi (f_M_worst p1 p2 p3 p4 M) 0 [.ref 12451850, .int p1, .int p2, .int p3, .int p4] [] M
  refine go_def (f_M_worst.eq_1 ..) ?_
  refine go_aload_n (pc := 0) dX9_worst_0 rfl ?_
  refine go_iload_n (pc := 1) dX9_worst_1 rfl ?_
  refine go_T (v := f_M_isDoor p1 M) ?_
  refine go_callV (pc := 2) (a := 12451850) (as := [.int p1]) (st := []) (o_M_isDoor p1 M) ic_M_isDoor ivX9_207 (rcvk (a := 12451850) (t := 10) rfl (by decide) (by decide) rfl) rfl (by decide) (Nat.le_of_ble_eq_true rfl) dX9_worst_2 (kTi ?_)
  refine go_ifeq (pc := 5) 27 dX9_worst_5 (by decide) (fun _ => ?_) (fun _ => ?_)
  · refine go_sipush (pc := 27) (-10001) dX9_worst_27 ks_m10001 ?_
    exact go_ret dX9_worst_30 rii rfl rfl
  · refine go_aload_n (pc := 8) dX9_worst_8 rfl ?_
    refine go_iload_n (pc := 9) dX9_worst_9 rfl ?_
    refine go_T (v := f_M_isSpot p2 M) ?_
    refine go_callV (pc := 10) (a := 12451850) (as := [.int p2]) (st := []) (o_M_isSpot p2 M) ic_M_isSpot ivX9_321 (rcvk (a := 12451850) (t := 10) rfl (by decide) (by decide) rfl) rfl (by decide) (Nat.le_of_ble_eq_true rfl) dX9_worst_10 (kTi ?_)
    refine go_ifeq (pc := 13) 27 dX9_worst_13 (by decide) (fun _ => ?_) (fun _ => ?_)
    · refine go_sipush (pc := 27) (-10001) dX9_worst_27 ks_m10001 ?_
      exact go_ret dX9_worst_30 rii rfl rfl
    · refine go_aload_n (pc := 16) dX9_worst_16 rfl ?_
      refine go_iload (pc := 17) dX9_worst_17 rfl ?_
      refine go_iconst (pc := 19) 0 dX9_worst_19 ki_0 ?_
      refine go_iconst (pc := 20) 1 dX9_worst_20 ki_1 ?_
      refine go_T (v := f_M_in p4 0 1 M) ?_
      refine go_callV (pc := 21) (a := 12451850) (as := [.int p4, .int 0, .int 1]) (st := []) (o_M_in p4 0 1 M) ic_M_in ivX9_203 (rcvk (a := 12451850) (t := 10) rfl (by decide) (by decide) rfl) rfl (by decide) (Nat.le_of_ble_eq_true rfl) dX9_worst_21 (kTi ?_)
      refine go_ifne (pc := 24) 31 dX9_worst_24 (by decide) (fun _ => ?_) (fun _ => ?_)
      · refine go_sipush (pc := 27) (-10001) dX9_worst_27 ks_m10001 ?_
        exact go_ret dX9_worst_30 rii rfl rfl
      · refine go_aload_n (pc := 31) dX9_worst_31 rfl ?_
        refine go_iload_n (pc := 32) dX9_worst_32 rfl ?_
        refine go_iconst (pc := 33) 0 dX9_worst_33 ki_0 ?_
        refine go_bipush (pc := 34) 60 dX9_worst_34 kb_60 ?_
        refine go_T (v := f_M_in p3 0 60 M) ?_
        refine go_callV (pc := 36) (a := 12451850) (as := [.int p3, .int 0, .int 60]) (st := []) (o_M_in p3 0 60 M) ic_M_in ivX9_203 (rcvk (a := 12451850) (t := 10) rfl (by decide) (by decide) rfl) rfl (by decide) (Nat.le_of_ble_eq_true rfl) dX9_worst_36 (kTi ?_)
        refine go_ifne (pc := 39) 46 dX9_worst_39 (by decide) (fun _ => ?_) (fun _ => ?_)
        · refine go_sipush (pc := 42) (-10002) dX9_worst_42 ks_m10002 ?_
          exact go_ret dX9_worst_45 rii rfl rfl
        · refine go_aload_n (pc := 46) dX9_worst_46 rfl ?_
          refine go_iload_n (pc := 47) dX9_worst_47 rfl ?_
          refine go_iload_n (pc := 48) dX9_worst_48 rfl ?_
          refine go_iload_n (pc := 49) dX9_worst_49 rfl ?_
          refine go_callV (pc := 50) (a := 12451850) (as := [.int p1, .int p2, .int p3]) (st := []) (o_M_layGaps p1 p2 p3 M) ic_M_layGaps ivX9_343 (rcvk (a := 12451850) (t := 10) rfl (by decide) (by decide) rfl) rfl (by decide) (Nat.le_of_ble_eq_true rfl) dX9_worst_50 (kWv fun M1 => ?_)
          refine go_iload (pc := 53) dX9_worst_53 rfl ?_
          refine go_ifne (pc := 55) 65 dX9_worst_55 (by decide) (fun _ => ?_) (fun _ => ?_)
          · refine go_aload_n (pc := 58) dX9_worst_58 rfl ?_
            refine go_getI (pc := 59) flX9_117 rfl rfl dX9_worst_59 ?_
            refine go_goto (pc := 62) 69 dX9_worst_62 (by decide) ?_
            exact go_ret dX9_worst_69 rii rfl rfl
          · refine go_aload_n (pc := 65) dX9_worst_65 rfl ?_
            refine go_getI (pc := 66) flX9_120 rfl rfl dX9_worst_66 ?_
            exact go_ret dX9_worst_69 rii rfl rfl
def f_M_offOf (p1 : Int32) (p2 : Int32) (M : Mem) : Option (Int32 × Mem) := bd (f_M_layGaps p1 p2 12 M) fun M1 => if 0 ≤ (mI M1 12451850 35) then some (0, M1) else some (-(mI M1 12451850 35), M1)
theorem o_M_offOf (p1 : Int32) (p2 : Int32) (M : Mem) : Ct sRM g_M_offOf fWi [.ref 12451850, .int p1, .int p2] (f_M_offOf p1 p2 M) M := by
  refine ⟨Nat.le_of_ble_eq_true rfl, ?_⟩
  show Go sRM g_M_offOf fWi (f_M_offOf p1 p2 M) 0 [.ref 12451850, .int p1, .int p2] [] M
  refine go_def (f_M_offOf.eq_1 ..) ?_
  refine go_aload_n (pc := 0) dX9_offOf_0 rfl ?_
  refine go_iload_n (pc := 1) dX9_offOf_1 rfl ?_
  refine go_iload_n (pc := 2) dX9_offOf_2 rfl ?_
  refine go_bipush (pc := 3) 12 dX9_offOf_3 kb_12 ?_
  refine go_callV (pc := 5) (a := 12451850) (as := [.int p1, .int p2, .int 12]) (st := []) (o_M_layGaps p1 p2 12 M) ic_M_layGaps ivX9_343 (rcvk (a := 12451850) (t := 10) rfl (by decide) (by decide) rfl) rfl (by decide) (Nat.le_of_ble_eq_true rfl) dX9_offOf_5 (kWv fun M1 => ?_)
  refine go_aload_n (pc := 8) dX9_offOf_8 rfl ?_
  refine go_getI (pc := 9) flX9_117 rfl rfl dX9_offOf_9 ?_
  refine go_ifge (pc := 12) 23 dX9_offOf_12 (by decide) (fun _ => ?_) (fun _ => ?_)
  · refine go_iconst (pc := 23) 0 dX9_offOf_23 ki_0 ?_
    exact go_ret dX9_offOf_24 rii rfl rfl
  · refine go_aload_n (pc := 15) dX9_offOf_15 rfl ?_
    refine go_getI (pc := 16) flX9_117 rfl rfl dX9_offOf_16 ?_
    refine go_ineg (pc := 19) dX9_offOf_19 ?_
    refine go_goto (pc := 20) 24 dX9_offOf_20 (by decide) ?_
    exact go_ret dX9_offOf_24 rii rfl rfl
