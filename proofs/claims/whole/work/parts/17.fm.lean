/-! functions read off the bytecode, and that the code runs so (written by program) -/
def f_M_off_l45 : Nat → Int32 → Int32 → Int32 → Mem → Option (Int32 × Mem)
  | 0, _, _, _, _ => none
  | n + 1, v1, v3, v4, M => if 6 ≤ v4 then some (1, M) else b2 (f_M_offOf v1 v4 M) fun r5 M4 => if ((mI M4 12451850 36) + r5) ≤ v3 then lt (v4 + 1) fun x6 => f_M_off_l45 n v1 v3 x6 M4 else some (0, M4)
def f_M_off_b23 (v1 : Int32) (v2 : Int32) (M : Mem) : Option (Int32 × Mem) := if v2 < 0 then bd (f_M_lastOf 3 9 M) fun r1 => f_M_off_l45 200 v1 r1 0 M else b2 (f_M_offOf v1 v2 M) fun r3 M2 => some (r3, M2)
def f_M_off (p1 : Int32) (p2 : Int32) (M : Mem) : Option (Int32 × Mem) := if (f_M_isDoor p1 M) = 0 then some ((-1), M) else if p2 = (-1) then f_M_off_b23 p1 p2 M else if (f_M_isSpot p2 M) = 0 then some ((-1), M) else f_M_off_b23 p1 p2 M
theorem o_M_off_l45 : ∀ (n : Nat) (v1 : Int32) (v3 : Int32) (v4 : Int32) (M : Mem), Go sRM g_M_off fWi (f_M_off_l45 n v1 v3 v4 M) 45 [.ref 12451850, .int v1, .null, .int v3, .int v4, .null] [] M := by
  intro n
  induction n with
  | zero =>
    intro v1 v3 v4 M
    exact go_def (f_M_off_l45.eq_1 ..) go_none
  | succ n ih =>
    intro v1 v3 v4 M
    refine go_def (f_M_off_l45.eq_2 ..) ?_
    refine go_iload (pc := 45) dX9_off_45 rfl ?_
    refine go_bipush (pc := 47) 6 dX9_off_47 kb_6 ?_
    refine go_icmpge (pc := 49) 80 dX9_off_49 (by decide) (fun _ => ?_) (fun _ => ?_)
    · refine go_iconst (pc := 80) 1 dX9_off_80 ki_1 ?_
      exact go_ret dX9_off_81 rii rfl rfl
    · refine go_aload_n (pc := 52) dX9_off_52 rfl ?_
      refine go_iload_n (pc := 53) dX9_off_53 rfl ?_
      refine go_iload (pc := 54) dX9_off_54 rfl ?_
      refine go_callV (pc := 56) (a := 12451850) (as := [.int v1, .int v4]) (st := []) (o_M_offOf v1 v4 M) ic_M_offOf ivX9_347 (rcvk (a := 12451850) (t := 10) rfl (by decide) (by decide) rfl) rfl (by decide) (Nat.le_of_ble_eq_true rfl) dX9_off_56 (kWi fun r5 M4 => ?_)
      refine go_istore (pc := 59) (ls' := [.ref 12451850, .int v1, .null, .int v3, .int v4, .int r5]) dX9_off_59 (Nat.le_of_ble_eq_true rfl) rfl rfl ?_
      refine go_aload_n (pc := 61) dX9_off_61 rfl ?_
      refine go_getI (pc := 62) flX9_120 rfl rfl dX9_off_62 ?_
      refine go_iload (pc := 65) dX9_off_65 rfl ?_
      refine go_iadd (pc := 67) dX9_off_67 ?_
      refine go_iload_n (pc := 68) dX9_off_68 rfl ?_
      refine go_icmple (pc := 69) 74 dX9_off_69 (by decide) (fun _ => ?_) (fun _ => ?_)
      · refine go_iincL (pc := 74) (L := fun x6 => [.ref 12451850, .int v1, .null, .int v3, .int x6, .int r5]) 1 dX9_off_74 rfl ki_1 (Nat.le_of_ble_eq_true rfl) rfl (fun _ => rfl) (fun x6 => ?_)
        refine go_goto (pc := 77) 45 dX9_off_77 (by decide) ?_
        refine go_sub (ls' := [.ref 12451850, .int v1, .null, .int v3, .int x6, .null]) ⟨Or.inr rfl, Or.inr rfl, Or.inl rfl, Or.inr rfl, Or.inr rfl, Or.inl rfl, trivial⟩ ?_
        exact ih v1 v3 x6 M4
      · refine go_iconst (pc := 72) 0 dX9_off_72 ki_0 ?_
        exact go_ret dX9_off_73 rii rfl rfl
theorem o_M_off_b23 (v1 : Int32) (v2 : Int32) (M : Mem) : Go sRM g_M_off fWi (f_M_off_b23 v1 v2 M) 23 [.ref 12451850, .int v1, .int v2, .null, .null, .null] [] M := by
  refine go_def (f_M_off_b23.eq_1 ..) ?_
  refine go_iload_n (pc := 23) dX9_off_23 rfl ?_
  refine go_iflt (pc := 24) 34 dX9_off_24 (by decide) (fun _ => ?_) (fun _ => ?_)
  · refine go_aload_n (pc := 34) dX9_off_34 rfl ?_
    refine go_iconst (pc := 35) 3 dX9_off_35 ki_3 ?_
    refine go_bipush (pc := 36) 9 dX9_off_36 kb_9 ?_
    refine go_callV (pc := 38) (a := 12451850) (as := [.int 3, .int 9]) (st := []) (o_M_lastOf 3 9 M) ic_M_lastOf ivX9_302 (rcvk (a := 12451850) (t := 10) rfl (by decide) (by decide) rfl) rfl (by decide) (Nat.le_of_ble_eq_true rfl) dX9_off_38 (kRi fun r1 => ?_)
    refine go_istore_n (pc := 41) (ls' := [.ref 12451850, .int v1, .int v2, .int r1, .null, .null]) dX9_off_41 (Nat.le_of_ble_eq_true rfl) rfl rfl ?_
    refine go_iconst (pc := 42) 0 dX9_off_42 ki_0 ?_
    refine go_istore (pc := 43) (ls' := [.ref 12451850, .int v1, .int v2, .int r1, .int 0, .null]) dX9_off_43 (Nat.le_of_ble_eq_true rfl) rfl rfl ?_
    refine go_sub (ls' := [.ref 12451850, .int v1, .null, .int r1, .int 0, .null]) ⟨Or.inr rfl, Or.inr rfl, Or.inl rfl, Or.inr rfl, Or.inr rfl, Or.inl rfl, trivial⟩ ?_
    exact o_M_off_l45 200 v1 r1 0 M
  · refine go_aload_n (pc := 27) dX9_off_27 rfl ?_
    refine go_iload_n (pc := 28) dX9_off_28 rfl ?_
    refine go_iload_n (pc := 29) dX9_off_29 rfl ?_
    refine go_callV (pc := 30) (a := 12451850) (as := [.int v1, .int v2]) (st := []) (o_M_offOf v1 v2 M) ic_M_offOf ivX9_347 (rcvk (a := 12451850) (t := 10) rfl (by decide) (by decide) rfl) rfl (by decide) (Nat.le_of_ble_eq_true rfl) dX9_off_30 (kWi fun r3 M2 => ?_)
    exact go_ret dX9_off_33 rii rfl rfl
theorem o_M_off (p1 : Int32) (p2 : Int32) (M : Mem) : Ct sRM g_M_off fWi [.ref 12451850, .int p1, .int p2] (f_M_off p1 p2 M) M := by
  refine ⟨Nat.le_of_ble_eq_true rfl, ?_⟩
  show Go sRM g_M_off fWi (f_M_off p1 p2 M) 0 [.ref 12451850, .int p1, .int p2, .null, .null, .null] [] M
  refine go_def (f_M_off.eq_1 ..) ?_
  refine go_aload_n (pc := 0) dX9_off_0 rfl ?_
  refine go_iload_n (pc := 1) dX9_off_1 rfl ?_
  refine go_T (v := f_M_isDoor p1 M) ?_
  refine go_callV (pc := 2) (a := 12451850) (as := [.int p1]) (st := []) (o_M_isDoor p1 M) ic_M_isDoor ivX9_207 (rcvk (a := 12451850) (t := 10) rfl (by decide) (by decide) rfl) rfl (by decide) (Nat.le_of_ble_eq_true rfl) dX9_off_2 (kTi ?_)
  refine go_ifeq (pc := 5) 21 dX9_off_5 (by decide) (fun _ => ?_) (fun _ => ?_)
  · refine go_iconst (pc := 21) (-1) dX9_off_21 ki_m1 ?_
    exact go_ret dX9_off_22 rii rfl rfl
  · refine go_iload_n (pc := 8) dX9_off_8 rfl ?_
    refine go_iconst (pc := 9) (-1) dX9_off_9 ki_m1 ?_
    refine go_icmpeq (pc := 10) 23 dX9_off_10 (by decide) (fun _ => ?_) (fun _ => ?_)
    · exact o_M_off_b23 p1 p2 M
    · refine go_aload_n (pc := 13) dX9_off_13 rfl ?_
      refine go_iload_n (pc := 14) dX9_off_14 rfl ?_
      refine go_T (v := f_M_isSpot p2 M) ?_
      refine go_callV (pc := 15) (a := 12451850) (as := [.int p2]) (st := []) (o_M_isSpot p2 M) ic_M_isSpot ivX9_321 (rcvk (a := 12451850) (t := 10) rfl (by decide) (by decide) rfl) rfl (by decide) (Nat.le_of_ble_eq_true rfl) dX9_off_15 (kTi ?_)
      refine go_ifne (pc := 18) 23 dX9_off_18 (by decide) (fun _ => ?_) (fun _ => ?_)
      · refine go_iconst (pc := 21) (-1) dX9_off_21 ki_m1 ?_
        exact go_ret dX9_off_22 rii rfl rfl
      · exact o_M_off_b23 p1 p2 M
def f_M_costOf_b183 (v2 : Int32) (v6 : Int32) (s0 : Int32) (s1 : Int32) (M : Mem) : Option (Int32 × Mem) := lt (s1 + s0) fun x15 => if (v2 - v2 / 2 * 2) = 0 then if v6 ≤ 0 then some (x15, M) else some ((-1), M) else some (x15 + (3 * v6), M)
def f_M_costOf_b170 (v2 : Int32) (v6 : Int32) (s0 : Int32) (s1 : Int32) (M : Mem) : Option (Int32 × Mem) := if (v2 &&& 8) ≤ 0 then f_M_costOf_b183 v2 v6 0 (s1 + s0) M else f_M_costOf_b183 v2 v6 5 (s1 + s0) M
def f_M_costOf_b159 (v2 : Int32) (v6 : Int32) (s0 : Int32) (M : Mem) : Option (Int32 × Mem) := if (v2 &&& 4) ≤ 0 then f_M_costOf_b170 v2 v6 0 s0 M else f_M_costOf_b170 v2 v6 2 s0 M
def f_M_costOf_l92 : Nat → Int32 → Int32 → Int32 → Int32 → Int32 → Int32 → Int32 → Mem → Option (Int32 × Mem)
  | 0, _, _, _, _, _, _, _, _ => none
  | n + 1, v1, v2, v3, v4, v5, v6, v7, M => if 6 ≤ v7 then gd (inR v1 4) (lt (setI M 13500555 v1.toNatClampNeg v3) fun M6 => gd (inR v1 4) (lt (setI M6 13369483 v1.toNatClampNeg v4) fun M7 => gd (inR v1 4) (lt (setI M7 13238411 v1.toNatClampNeg v5) fun M8 => if (v2 &&& 2) ≤ 0 then f_M_costOf_b159 v2 v6 0 M8 else f_M_costOf_b159 v2 v6 1 M8))) else b2 (f_M_offOf v1 v7 M) fun r10 M9 => if r10 ≤ 0 then lt (v6 + 0) fun x11 => lt (v7 + 1) fun x12 => f_M_costOf_l92 n v1 v2 v3 v4 v5 x11 x12 M9 else lt (v6 + 1) fun x13 => lt (v7 + 1) fun x14 => f_M_costOf_l92 n v1 v2 v3 v4 v5 x13 x14 M9
def f_M_costOf_b86 (v1 : Int32) (v2 : Int32) (v3 : Int32) (v4 : Int32) (v5 : Int32) (M : Mem) : Option (Int32 × Mem) := f_M_costOf_l92 200 v1 v2 v3 v4 v5 0 0 M
def f_M_costOf_b72 (v1 : Int32) (v2 : Int32) (v3 : Int32) (v4 : Int32) (v5 : Int32) (M : Mem) : Option (Int32 × Mem) := if (v2 &&& 8) ≤ 0 then f_M_costOf_b86 v1 v2 v3 v4 v5 M else gd (inR v1 4) (lt (setI M 13238411 v1.toNatClampNeg 3) fun M5 => f_M_costOf_b86 v1 v2 v3 v4 v5 M5)
def f_M_costOf_b59 (v1 : Int32) (v2 : Int32) (v3 : Int32) (v4 : Int32) (v5 : Int32) (M : Mem) : Option (Int32 × Mem) := if (v2 &&& 4) ≤ 0 then f_M_costOf_b72 v1 v2 v3 v4 v5 M else gd (inR v1 4) (lt (setI M 13369483 v1.toNatClampNeg 0) fun M4 => f_M_costOf_b72 v1 v2 v3 v4 v5 M4)
def f_M_costOf_b58 (v1 : Int32) (v2 : Int32) (v3 : Int32) (v4 : Int32) (v5 : Int32) (s0 : Int32) (s1 : Int32) (M : Mem) : Option (Int32 × Mem) := gd (inR s1 4) (lt (setI M 13500555 s1.toNatClampNeg s0) fun M16 => f_M_costOf_b59 v1 v2 v3 v4 v5 M16)
def f_M_costOf (p1 : Int32) (p2 : Int32) (M : Mem) : Option (Int32 × Mem) := gd (inR p1 4) (lt (mI M 13500555 p1.toNatClampNeg) fun x1 => gd (inR p1 4) (lt (mI M 13369483 p1.toNatClampNeg) fun x2 => gd (inR p1 4) (lt (mI M 13238411 p1.toNatClampNeg) fun x3 => if (p2 &&& 2) ≤ 0 then f_M_costOf_b59 p1 p2 x1 x2 x3 M else gd (inR p1 4) (if (mI M 13500555 p1.toNatClampNeg) ≤ 7 then gd (inR p1 4) (f_M_costOf_b58 p1 p2 x1 x2 x3 ((mI M 13500555 p1.toNatClampNeg) + 2) p1 M) else f_M_costOf_b58 p1 p2 x1 x2 x3 9 p1 M))))
theorem o_M_costOf_b183 (v2 : Int32) (v6 : Int32) (s0 : Int32) (s1 : Int32) (M : Mem) : Go sRM g_M_costOf fWi (f_M_costOf_b183 v2 v6 s0 s1 M) 183 [.ref 12451850, .null, .int v2, .null, .null, .null, .int v6, .null] [.int s0, .int s1] M := by
  refine go_def (f_M_costOf_b183.eq_1 ..) ?_
  refine go_iadd (pc := 183) dX9_costOf_183 ?_
  refine go_istoreL (pc := 184) (L := fun x15 => [.ref 12451850, .null, .int v2, .null, .null, .null, .int v6, .int x15]) dX9_costOf_184 (Nat.le_of_ble_eq_true rfl) rfl (fun _ => rfl) (fun x15 => ?_)
  refine go_iload_n (pc := 186) dX9_costOf_186 rfl ?_
  refine go_iconst (pc := 187) 2 dX9_costOf_187 ki_2 ?_
  refine go_irem' (pc := 188) (by decide) dX9_costOf_188 ?_
  refine go_ifne (pc := 189) 204 dX9_costOf_189 (by decide) (fun _ => ?_) (fun _ => ?_)
  · refine go_iload (pc := 192) dX9_costOf_192 rfl ?_
    refine go_ifle (pc := 194) 201 dX9_costOf_194 (by decide) (fun _ => ?_) (fun _ => ?_)
    · refine go_iload (pc := 201) dX9_costOf_201 rfl ?_
      exact go_ret dX9_costOf_203 rii rfl rfl
    · refine go_iconst (pc := 197) (-1) dX9_costOf_197 ki_m1 ?_
      refine go_goto (pc := 198) 203 dX9_costOf_198 (by decide) ?_
      exact go_ret dX9_costOf_203 rii rfl rfl
  · refine go_iload (pc := 204) dX9_costOf_204 rfl ?_
    refine go_iconst (pc := 206) 3 dX9_costOf_206 ki_3 ?_
    refine go_iload (pc := 207) dX9_costOf_207 rfl ?_
    refine go_imul (pc := 209) dX9_costOf_209 ?_
    refine go_iadd (pc := 210) dX9_costOf_210 ?_
    exact go_ret dX9_costOf_211 rii rfl rfl
theorem o_M_costOf_b170 (v2 : Int32) (v6 : Int32) (s0 : Int32) (s1 : Int32) (M : Mem) : Go sRM g_M_costOf fWi (f_M_costOf_b170 v2 v6 s0 s1 M) 170 [.ref 12451850, .null, .int v2, .null, .null, .null, .int v6, .null] [.int s0, .int s1] M := by
  refine go_def (f_M_costOf_b170.eq_1 ..) ?_
  refine go_iadd (pc := 170) dX9_costOf_170 ?_
  refine go_iload_n (pc := 171) dX9_costOf_171 rfl ?_
  refine go_bipush (pc := 172) 8 dX9_costOf_172 kb_8 ?_
  refine go_iand (pc := 174) dX9_costOf_174 ?_
  refine go_ifle (pc := 175) 182 dX9_costOf_175 (by decide) (fun _ => ?_) (fun _ => ?_)
  · refine go_iconst (pc := 182) 0 dX9_costOf_182 ki_0 ?_
    exact o_M_costOf_b183 v2 v6 0 (s1 + s0) M
  · refine go_iconst (pc := 178) 5 dX9_costOf_178 ki_5 ?_
    refine go_goto (pc := 179) 183 dX9_costOf_179 (by decide) ?_
    exact o_M_costOf_b183 v2 v6 5 (s1 + s0) M
theorem o_M_costOf_b159 (v2 : Int32) (v6 : Int32) (s0 : Int32) (M : Mem) : Go sRM g_M_costOf fWi (f_M_costOf_b159 v2 v6 s0 M) 159 [.ref 12451850, .null, .int v2, .null, .null, .null, .int v6, .null] [.int s0] M := by
  refine go_def (f_M_costOf_b159.eq_1 ..) ?_
  refine go_iload_n (pc := 159) dX9_costOf_159 rfl ?_
  refine go_iconst (pc := 160) 4 dX9_costOf_160 ki_4 ?_
  refine go_iand (pc := 161) dX9_costOf_161 ?_
  refine go_ifle (pc := 162) 169 dX9_costOf_162 (by decide) (fun _ => ?_) (fun _ => ?_)
  · refine go_iconst (pc := 169) 0 dX9_costOf_169 ki_0 ?_
    exact o_M_costOf_b170 v2 v6 0 s0 M
  · refine go_iconst (pc := 165) 2 dX9_costOf_165 ki_2 ?_
    refine go_goto (pc := 166) 170 dX9_costOf_166 (by decide) ?_
    exact o_M_costOf_b170 v2 v6 2 s0 M
theorem o_M_costOf_l92 : ∀ (n : Nat) (v1 : Int32) (v2 : Int32) (v3 : Int32) (v4 : Int32) (v5 : Int32) (v6 : Int32) (v7 : Int32) (M : Mem), Go sRM g_M_costOf fWi (f_M_costOf_l92 n v1 v2 v3 v4 v5 v6 v7 M) 92 [.ref 12451850, .int v1, .int v2, .int v3, .int v4, .int v5, .int v6, .int v7] [] M := by
  intro n
  induction n with
  | zero =>
    intro v1 v2 v3 v4 v5 v6 v7 M
    exact go_def (f_M_costOf_l92.eq_1 ..) go_none
  | succ n ih =>
    intro v1 v2 v3 v4 v5 v6 v7 M
    refine go_def (f_M_costOf_l92.eq_2 ..) ?_
    refine go_iload (pc := 92) dX9_costOf_92 rfl ?_
    refine go_bipush (pc := 94) 6 dX9_costOf_94 kb_6 ?_
    refine go_icmpge (pc := 96) 125 dX9_costOf_96 (by decide) (fun _ => ?_) (fun _ => ?_)
    · refine go_aload_n (pc := 125) dX9_costOf_125 rfl ?_
      refine go_getS (pc := 126) 13500555 flX9_41 rfl rfl sM_10_10 (by decide) dX9_costOf_126 ?_
      refine go_iload_n (pc := 129) dX9_costOf_129 rfl ?_
      refine go_iload_n (pc := 130) dX9_costOf_130 rfl ?_
      refine go_iast (pc := 131) rfl rfl dX9_costOf_131 (fun _ M6 => ?_)
      refine go_aload_n (pc := 132) dX9_costOf_132 rfl ?_
      refine go_getS (pc := 133) 13369483 flX9_38 rfl rfl sM_10_9 (by decide) dX9_costOf_133 ?_
      refine go_iload_n (pc := 136) dX9_costOf_136 rfl ?_
      refine go_iload (pc := 137) dX9_costOf_137 rfl ?_
      refine go_iast (pc := 139) rfl rfl dX9_costOf_139 (fun _ M7 => ?_)
      refine go_aload_n (pc := 140) dX9_costOf_140 rfl ?_
      refine go_getS (pc := 141) 13238411 flX9_35 rfl rfl sM_10_8 (by decide) dX9_costOf_141 ?_
      refine go_iload_n (pc := 144) dX9_costOf_144 rfl ?_
      refine go_iload (pc := 145) dX9_costOf_145 rfl ?_
      refine go_iast (pc := 147) rfl rfl dX9_costOf_147 (fun _ M8 => ?_)
      refine go_iload_n (pc := 148) dX9_costOf_148 rfl ?_
      refine go_iconst (pc := 149) 2 dX9_costOf_149 ki_2 ?_
      refine go_iand (pc := 150) dX9_costOf_150 ?_
      refine go_ifle (pc := 151) 158 dX9_costOf_151 (by decide) (fun _ => ?_) (fun _ => ?_)
      · refine go_iconst (pc := 158) 0 dX9_costOf_158 ki_0 ?_
        refine go_sub (ls' := [.ref 12451850, .null, .int v2, .null, .null, .null, .int v6, .null]) ⟨Or.inr rfl, Or.inl rfl, Or.inr rfl, Or.inl rfl, Or.inl rfl, Or.inl rfl, Or.inr rfl, Or.inl rfl, trivial⟩ ?_
        exact o_M_costOf_b159 v2 v6 0 M8
      · refine go_iconst (pc := 154) 1 dX9_costOf_154 ki_1 ?_
        refine go_goto (pc := 155) 159 dX9_costOf_155 (by decide) ?_
        refine go_sub (ls' := [.ref 12451850, .null, .int v2, .null, .null, .null, .int v6, .null]) ⟨Or.inr rfl, Or.inl rfl, Or.inr rfl, Or.inl rfl, Or.inl rfl, Or.inl rfl, Or.inr rfl, Or.inl rfl, trivial⟩ ?_
        exact o_M_costOf_b159 v2 v6 1 M8
    · refine go_iload (pc := 99) dX9_costOf_99 rfl ?_
      refine go_aload_n (pc := 101) dX9_costOf_101 rfl ?_
      refine go_iload_n (pc := 102) dX9_costOf_102 rfl ?_
      refine go_iload (pc := 103) dX9_costOf_103 rfl ?_
      refine go_callV (pc := 105) (a := 12451850) (as := [.int v1, .int v7]) (st := [.int v6]) (o_M_offOf v1 v7 M) ic_M_offOf ivX9_347 (rcvk (a := 12451850) (t := 10) rfl (by decide) (by decide) rfl) rfl (by decide) (Nat.le_of_ble_eq_true rfl) dX9_costOf_105 (kWi fun r10 M9 => ?_)
      refine go_ifle (pc := 108) 115 dX9_costOf_108 (by decide) (fun _ => ?_) (fun _ => ?_)
      · refine go_iconst (pc := 115) 0 dX9_costOf_115 ki_0 ?_
        refine go_iadd (pc := 116) dX9_costOf_116 ?_
        refine go_istoreL (pc := 117) (L := fun x11 => [.ref 12451850, .int v1, .int v2, .int v3, .int v4, .int v5, .int x11, .int v7]) dX9_costOf_117 (Nat.le_of_ble_eq_true rfl) rfl (fun _ => rfl) (fun x11 => ?_)
        refine go_iincL (pc := 119) (L := fun x12 => [.ref 12451850, .int v1, .int v2, .int v3, .int v4, .int v5, .int x11, .int x12]) 1 dX9_costOf_119 rfl ki_1 (Nat.le_of_ble_eq_true rfl) rfl (fun _ => rfl) (fun x12 => ?_)
        refine go_goto (pc := 122) 92 dX9_costOf_122 (by decide) ?_
        exact ih v1 v2 v3 v4 v5 x11 x12 M9
      · refine go_iconst (pc := 111) 1 dX9_costOf_111 ki_1 ?_
        refine go_goto (pc := 112) 116 dX9_costOf_112 (by decide) ?_
        refine go_iadd (pc := 116) dX9_costOf_116 ?_
        refine go_istoreL (pc := 117) (L := fun x13 => [.ref 12451850, .int v1, .int v2, .int v3, .int v4, .int v5, .int x13, .int v7]) dX9_costOf_117 (Nat.le_of_ble_eq_true rfl) rfl (fun _ => rfl) (fun x13 => ?_)
        refine go_iincL (pc := 119) (L := fun x14 => [.ref 12451850, .int v1, .int v2, .int v3, .int v4, .int v5, .int x13, .int x14]) 1 dX9_costOf_119 rfl ki_1 (Nat.le_of_ble_eq_true rfl) rfl (fun _ => rfl) (fun x14 => ?_)
        refine go_goto (pc := 122) 92 dX9_costOf_122 (by decide) ?_
        exact ih v1 v2 v3 v4 v5 x13 x14 M9
theorem o_M_costOf_b86 (v1 : Int32) (v2 : Int32) (v3 : Int32) (v4 : Int32) (v5 : Int32) (M : Mem) : Go sRM g_M_costOf fWi (f_M_costOf_b86 v1 v2 v3 v4 v5 M) 86 [.ref 12451850, .int v1, .int v2, .int v3, .int v4, .int v5, .null, .null] [] M := by
  refine go_def (f_M_costOf_b86.eq_1 ..) ?_
  refine go_iconst (pc := 86) 0 dX9_costOf_86 ki_0 ?_
  refine go_istore (pc := 87) (ls' := [.ref 12451850, .int v1, .int v2, .int v3, .int v4, .int v5, .int 0, .null]) dX9_costOf_87 (Nat.le_of_ble_eq_true rfl) rfl rfl ?_
  refine go_iconst (pc := 89) 0 dX9_costOf_89 ki_0 ?_
  refine go_istore (pc := 90) (ls' := [.ref 12451850, .int v1, .int v2, .int v3, .int v4, .int v5, .int 0, .int 0]) dX9_costOf_90 (Nat.le_of_ble_eq_true rfl) rfl rfl ?_
  exact o_M_costOf_l92 200 v1 v2 v3 v4 v5 0 0 M
theorem o_M_costOf_b72 (v1 : Int32) (v2 : Int32) (v3 : Int32) (v4 : Int32) (v5 : Int32) (M : Mem) : Go sRM g_M_costOf fWi (f_M_costOf_b72 v1 v2 v3 v4 v5 M) 72 [.ref 12451850, .int v1, .int v2, .int v3, .int v4, .int v5, .null, .null] [] M := by
  refine go_def (f_M_costOf_b72.eq_1 ..) ?_
  refine go_iload_n (pc := 72) dX9_costOf_72 rfl ?_
  refine go_bipush (pc := 73) 8 dX9_costOf_73 kb_8 ?_
  refine go_iand (pc := 75) dX9_costOf_75 ?_
  refine go_ifle (pc := 76) 86 dX9_costOf_76 (by decide) (fun _ => ?_) (fun _ => ?_)
  · exact o_M_costOf_b86 v1 v2 v3 v4 v5 M
  · refine go_aload_n (pc := 79) dX9_costOf_79 rfl ?_
    refine go_getS (pc := 80) 13238411 flX9_35 rfl rfl sM_10_8 (by decide) dX9_costOf_80 ?_
    refine go_iload_n (pc := 83) dX9_costOf_83 rfl ?_
    refine go_iconst (pc := 84) 3 dX9_costOf_84 ki_3 ?_
    refine go_iast (pc := 85) rfl rfl dX9_costOf_85 (fun _ M5 => ?_)
    exact o_M_costOf_b86 v1 v2 v3 v4 v5 M5
theorem o_M_costOf_b59 (v1 : Int32) (v2 : Int32) (v3 : Int32) (v4 : Int32) (v5 : Int32) (M : Mem) : Go sRM g_M_costOf fWi (f_M_costOf_b59 v1 v2 v3 v4 v5 M) 59 [.ref 12451850, .int v1, .int v2, .int v3, .int v4, .int v5, .null, .null] [] M := by
  refine go_def (f_M_costOf_b59.eq_1 ..) ?_
  refine go_iload_n (pc := 59) dX9_costOf_59 rfl ?_
  refine go_iconst (pc := 60) 4 dX9_costOf_60 ki_4 ?_
  refine go_iand (pc := 61) dX9_costOf_61 ?_
  refine go_ifle (pc := 62) 72 dX9_costOf_62 (by decide) (fun _ => ?_) (fun _ => ?_)
  · exact o_M_costOf_b72 v1 v2 v3 v4 v5 M
  · refine go_aload_n (pc := 65) dX9_costOf_65 rfl ?_
    refine go_getS (pc := 66) 13369483 flX9_38 rfl rfl sM_10_9 (by decide) dX9_costOf_66 ?_
    refine go_iload_n (pc := 69) dX9_costOf_69 rfl ?_
    refine go_iconst (pc := 70) 0 dX9_costOf_70 ki_0 ?_
    refine go_iast (pc := 71) rfl rfl dX9_costOf_71 (fun _ M4 => ?_)
    exact o_M_costOf_b72 v1 v2 v3 v4 v5 M4
theorem o_M_costOf_b58 (v1 : Int32) (v2 : Int32) (v3 : Int32) (v4 : Int32) (v5 : Int32) (s0 : Int32) (s1 : Int32) (M : Mem) : Go sRM g_M_costOf fWi (f_M_costOf_b58 v1 v2 v3 v4 v5 s0 s1 M) 58 [.ref 12451850, .int v1, .int v2, .int v3, .int v4, .int v5, .null, .null] [.int s0, .int s1, .ref 13500555] M := by
  refine go_def (f_M_costOf_b58.eq_1 ..) ?_
  refine go_iast (pc := 58) rfl rfl dX9_costOf_58 (fun _ M16 => ?_)
  exact o_M_costOf_b59 v1 v2 v3 v4 v5 M16
theorem o_M_costOf (p1 : Int32) (p2 : Int32) (M : Mem) : Ct sRM g_M_costOf fWi [.ref 12451850, .int p1, .int p2] (f_M_costOf p1 p2 M) M := by
  refine ⟨Nat.le_of_ble_eq_true rfl, ?_⟩
  show Go sRM g_M_costOf fWi (f_M_costOf p1 p2 M) 0 [.ref 12451850, .int p1, .int p2, .null, .null, .null, .null, .null] [] M
  refine go_def (f_M_costOf.eq_1 ..) ?_
  refine go_aload_n (pc := 0) dX9_costOf_0 rfl ?_
  refine go_getS (pc := 1) 13500555 flX9_41 rfl rfl sM_10_10 (by decide) dX9_costOf_1 ?_
  refine go_iload_n (pc := 4) dX9_costOf_4 rfl ?_
  refine go_iald (pc := 5) rfl rfl dX9_costOf_5 (fun _ => ?_)
  refine go_istore_nL (pc := 6) (L := fun x1 => [.ref 12451850, .int p1, .int p2, .int x1, .null, .null, .null, .null]) dX9_costOf_6 (Nat.le_of_ble_eq_true rfl) rfl (fun _ => rfl) (fun x1 => ?_)
  refine go_aload_n (pc := 7) dX9_costOf_7 rfl ?_
  refine go_getS (pc := 8) 13369483 flX9_38 rfl rfl sM_10_9 (by decide) dX9_costOf_8 ?_
  refine go_iload_n (pc := 11) dX9_costOf_11 rfl ?_
  refine go_iald (pc := 12) rfl rfl dX9_costOf_12 (fun _ => ?_)
  refine go_istoreL (pc := 13) (L := fun x2 => [.ref 12451850, .int p1, .int p2, .int x1, .int x2, .null, .null, .null]) dX9_costOf_13 (Nat.le_of_ble_eq_true rfl) rfl (fun _ => rfl) (fun x2 => ?_)
  refine go_aload_n (pc := 15) dX9_costOf_15 rfl ?_
  refine go_getS (pc := 16) 13238411 flX9_35 rfl rfl sM_10_8 (by decide) dX9_costOf_16 ?_
  refine go_iload_n (pc := 19) dX9_costOf_19 rfl ?_
  refine go_iald (pc := 20) rfl rfl dX9_costOf_20 (fun _ => ?_)
  refine go_istoreL (pc := 21) (L := fun x3 => [.ref 12451850, .int p1, .int p2, .int x1, .int x2, .int x3, .null, .null]) dX9_costOf_21 (Nat.le_of_ble_eq_true rfl) rfl (fun _ => rfl) (fun x3 => ?_)
  refine go_iload_n (pc := 23) dX9_costOf_23 rfl ?_
  refine go_iconst (pc := 24) 2 dX9_costOf_24 ki_2 ?_
  refine go_iand (pc := 25) dX9_costOf_25 ?_
  refine go_ifle (pc := 26) 59 dX9_costOf_26 (by decide) (fun _ => ?_) (fun _ => ?_)
  · exact o_M_costOf_b59 p1 p2 x1 x2 x3 M
  · refine go_aload_n (pc := 29) dX9_costOf_29 rfl ?_
    refine go_getS (pc := 30) 13500555 flX9_41 rfl rfl sM_10_10 (by decide) dX9_costOf_30 ?_
    refine go_iload_n (pc := 33) dX9_costOf_33 rfl ?_
    refine go_aload_n (pc := 34) dX9_costOf_34 rfl ?_
    refine go_getS (pc := 35) 13500555 flX9_41 rfl rfl sM_10_10 (by decide) dX9_costOf_35 ?_
    refine go_iload_n (pc := 38) dX9_costOf_38 rfl ?_
    refine go_iald (pc := 39) rfl rfl dX9_costOf_39 (fun _ => ?_)
    refine go_bipush (pc := 40) 7 dX9_costOf_40 kb_7 ?_
    refine go_icmple (pc := 42) 50 dX9_costOf_42 (by decide) (fun _ => ?_) (fun _ => ?_)
    · refine go_aload_n (pc := 50) dX9_costOf_50 rfl ?_
      refine go_getS (pc := 51) 13500555 flX9_41 rfl rfl sM_10_10 (by decide) dX9_costOf_51 ?_
      refine go_iload_n (pc := 54) dX9_costOf_54 rfl ?_
      refine go_iald (pc := 55) rfl rfl dX9_costOf_55 (fun _ => ?_)
      refine go_iconst (pc := 56) 2 dX9_costOf_56 ki_2 ?_
      refine go_iadd (pc := 57) dX9_costOf_57 ?_
      exact o_M_costOf_b58 p1 p2 x1 x2 x3 ((mI M 13500555 p1.toNatClampNeg) + 2) p1 M
    · refine go_bipush (pc := 45) 9 dX9_costOf_45 kb_9 ?_
      refine go_goto (pc := 47) 58 dX9_costOf_47 (by decide) ?_
      exact o_M_costOf_b58 p1 p2 x1 x2 x3 9 p1 M
def f_M_cheapest_l28 : Nat → Int32 → Int32 → Int32 → Int32 → Int32 → Mem → Option (Int32 × Mem)
  | 0, _, _, _, _, _, _ => none
  | n + 1, v1, v2, v3, v4, v5, M => if 16 ≤ v5 then if v2 = 0 then some (v3, M) else some (v4, M) else b2 (f_M_costOf v1 v5 M) fun r2 M1 => if r2 < 0 then lt (v5 + 1) fun x3 => f_M_cheapest_l28 n v1 v2 v3 v4 x3 M1 else if v3 < 0 then lt (v5 + 1) fun x4 => f_M_cheapest_l28 n v1 v2 v5 r2 x4 M1 else if r2 < v4 then lt (v5 + 1) fun x5 => f_M_cheapest_l28 n v1 v2 v5 r2 x5 M1 else lt (v5 + 1) fun x6 => f_M_cheapest_l28 n v1 v2 v3 v4 x6 M1
def f_M_cheapest (p1 : Int32) (p2 : Int32) (M : Mem) : Option (Int32 × Mem) := if (f_M_isDoor p1 M) = 0 then some ((-1), M) else if (f_M_in p2 0 1 M) = 0 then some ((-1), M) else f_M_cheapest_l28 200 p1 p2 (-1) 0 0 M
theorem o_M_cheapest_l28 : ∀ (n : Nat) (v1 : Int32) (v2 : Int32) (v3 : Int32) (v4 : Int32) (v5 : Int32) (M : Mem), Go sRM g_M_cheapest fWi (f_M_cheapest_l28 n v1 v2 v3 v4 v5 M) 28 [.ref 12451850, .int v1, .int v2, .int v3, .int v4, .int v5, .null] [] M := by
  intro n
  induction n with
  | zero =>
    intro v1 v2 v3 v4 v5 M
    exact go_def (f_M_cheapest_l28.eq_1 ..) go_none
  | succ n ih =>
    intro v1 v2 v3 v4 v5 M
    refine go_def (f_M_cheapest_l28.eq_2 ..) ?_
    refine go_iload (pc := 28) dX9_cheapest_28 rfl ?_
    refine go_bipush (pc := 30) 16 dX9_cheapest_30 kb_16 ?_
    refine go_icmpge (pc := 32) 76 dX9_cheapest_32 (by decide) (fun _ => ?_) (fun _ => ?_)
    · refine go_iload_n (pc := 76) dX9_cheapest_76 rfl ?_
      refine go_ifne (pc := 77) 84 dX9_cheapest_77 (by decide) (fun _ => ?_) (fun _ => ?_)
      · refine go_iload_n (pc := 80) dX9_cheapest_80 rfl ?_
        refine go_goto (pc := 81) 86 dX9_cheapest_81 (by decide) ?_
        exact go_ret dX9_cheapest_86 rii rfl rfl
      · refine go_iload (pc := 84) dX9_cheapest_84 rfl ?_
        exact go_ret dX9_cheapest_86 rii rfl rfl
    · refine go_aload_n (pc := 35) dX9_cheapest_35 rfl ?_
      refine go_iload_n (pc := 36) dX9_cheapest_36 rfl ?_
      refine go_iload (pc := 37) dX9_cheapest_37 rfl ?_
      refine go_callV (pc := 39) (a := 12451850) (as := [.int v1, .int v5]) (st := []) (o_M_costOf v1 v5 M) ic_M_costOf ivX9_350 (rcvk (a := 12451850) (t := 10) rfl (by decide) (by decide) rfl) rfl (by decide) (Nat.le_of_ble_eq_true rfl) dX9_cheapest_39 (kWi fun r2 M1 => ?_)
      refine go_istore (pc := 42) (ls' := [.ref 12451850, .int v1, .int v2, .int v3, .int v4, .int v5, .int r2]) dX9_cheapest_42 (Nat.le_of_ble_eq_true rfl) rfl rfl ?_
      refine go_iload (pc := 44) dX9_cheapest_44 rfl ?_
      refine go_iflt (pc := 46) 70 dX9_cheapest_46 (by decide) (fun _ => ?_) (fun _ => ?_)
      · refine go_iincL (pc := 70) (L := fun x3 => [.ref 12451850, .int v1, .int v2, .int v3, .int v4, .int x3, .int r2]) 1 dX9_cheapest_70 rfl ki_1 (Nat.le_of_ble_eq_true rfl) rfl (fun _ => rfl) (fun x3 => ?_)
        refine go_goto (pc := 73) 28 dX9_cheapest_73 (by decide) ?_
        refine go_sub (ls' := [.ref 12451850, .int v1, .int v2, .int v3, .int v4, .int x3, .null]) ⟨Or.inr rfl, Or.inr rfl, Or.inr rfl, Or.inr rfl, Or.inr rfl, Or.inr rfl, Or.inl rfl, trivial⟩ ?_
        exact ih v1 v2 v3 v4 x3 M1
      · refine go_iload_n (pc := 49) dX9_cheapest_49 rfl ?_
        refine go_iflt (pc := 50) 63 dX9_cheapest_50 (by decide) (fun _ => ?_) (fun _ => ?_)
        · refine go_iload (pc := 63) dX9_cheapest_63 rfl ?_
          refine go_istore_n (pc := 65) (ls' := [.ref 12451850, .int v1, .int v2, .int v5, .int v4, .int v5, .int r2]) dX9_cheapest_65 (Nat.le_of_ble_eq_true rfl) rfl rfl ?_
          refine go_iload (pc := 66) dX9_cheapest_66 rfl ?_
          refine go_istore (pc := 68) (ls' := [.ref 12451850, .int v1, .int v2, .int v5, .int r2, .int v5, .int r2]) dX9_cheapest_68 (Nat.le_of_ble_eq_true rfl) rfl rfl ?_
          refine go_iincL (pc := 70) (L := fun x4 => [.ref 12451850, .int v1, .int v2, .int v5, .int r2, .int x4, .int r2]) 1 dX9_cheapest_70 rfl ki_1 (Nat.le_of_ble_eq_true rfl) rfl (fun _ => rfl) (fun x4 => ?_)
          refine go_goto (pc := 73) 28 dX9_cheapest_73 (by decide) ?_
          refine go_sub (ls' := [.ref 12451850, .int v1, .int v2, .int v5, .int r2, .int x4, .null]) ⟨Or.inr rfl, Or.inr rfl, Or.inr rfl, Or.inr rfl, Or.inr rfl, Or.inr rfl, Or.inl rfl, trivial⟩ ?_
          exact ih v1 v2 v5 r2 x4 M1
        · refine go_iload (pc := 53) dX9_cheapest_53 rfl ?_
          refine go_iload (pc := 55) dX9_cheapest_55 rfl ?_
          refine go_icmplt (pc := 57) 63 dX9_cheapest_57 (by decide) (fun _ => ?_) (fun _ => ?_)
          · refine go_iload (pc := 63) dX9_cheapest_63 rfl ?_
            refine go_istore_n (pc := 65) (ls' := [.ref 12451850, .int v1, .int v2, .int v5, .int v4, .int v5, .int r2]) dX9_cheapest_65 (Nat.le_of_ble_eq_true rfl) rfl rfl ?_
            refine go_iload (pc := 66) dX9_cheapest_66 rfl ?_
            refine go_istore (pc := 68) (ls' := [.ref 12451850, .int v1, .int v2, .int v5, .int r2, .int v5, .int r2]) dX9_cheapest_68 (Nat.le_of_ble_eq_true rfl) rfl rfl ?_
            refine go_iincL (pc := 70) (L := fun x5 => [.ref 12451850, .int v1, .int v2, .int v5, .int r2, .int x5, .int r2]) 1 dX9_cheapest_70 rfl ki_1 (Nat.le_of_ble_eq_true rfl) rfl (fun _ => rfl) (fun x5 => ?_)
            refine go_goto (pc := 73) 28 dX9_cheapest_73 (by decide) ?_
            refine go_sub (ls' := [.ref 12451850, .int v1, .int v2, .int v5, .int r2, .int x5, .null]) ⟨Or.inr rfl, Or.inr rfl, Or.inr rfl, Or.inr rfl, Or.inr rfl, Or.inr rfl, Or.inl rfl, trivial⟩ ?_
            exact ih v1 v2 v5 r2 x5 M1
          · refine go_goto (pc := 60) 70 dX9_cheapest_60 (by decide) ?_
            refine go_iincL (pc := 70) (L := fun x6 => [.ref 12451850, .int v1, .int v2, .int v3, .int v4, .int x6, .int r2]) 1 dX9_cheapest_70 rfl ki_1 (Nat.le_of_ble_eq_true rfl) rfl (fun _ => rfl) (fun x6 => ?_)
            refine go_goto (pc := 73) 28 dX9_cheapest_73 (by decide) ?_
            refine go_sub (ls' := [.ref 12451850, .int v1, .int v2, .int v3, .int v4, .int x6, .null]) ⟨Or.inr rfl, Or.inr rfl, Or.inr rfl, Or.inr rfl, Or.inr rfl, Or.inr rfl, Or.inl rfl, trivial⟩ ?_
            exact ih v1 v2 v3 v4 x6 M1
theorem o_M_cheapest (p1 : Int32) (p2 : Int32) (M : Mem) : Ct sRM g_M_cheapest fWi [.ref 12451850, .int p1, .int p2] (f_M_cheapest p1 p2 M) M := by
  refine ⟨Nat.le_of_ble_eq_true rfl, ?_⟩
  show Go sRM g_M_cheapest fWi (f_M_cheapest p1 p2 M) 0 [.ref 12451850, .int p1, .int p2, .null, .null, .null, .null] [] M
  refine go_def (f_M_cheapest.eq_1 ..) ?_
  refine go_aload_n (pc := 0) dX9_cheapest_0 rfl ?_
  refine go_iload_n (pc := 1) dX9_cheapest_1 rfl ?_
  refine go_T (v := f_M_isDoor p1 M) ?_
  refine go_callV (pc := 2) (a := 12451850) (as := [.int p1]) (st := []) (o_M_isDoor p1 M) ic_M_isDoor ivX9_207 (rcvk (a := 12451850) (t := 10) rfl (by decide) (by decide) rfl) rfl (by decide) (Nat.le_of_ble_eq_true rfl) dX9_cheapest_2 (kTi ?_)
  refine go_ifeq (pc := 5) 18 dX9_cheapest_5 (by decide) (fun _ => ?_) (fun _ => ?_)
  · refine go_iconst (pc := 18) (-1) dX9_cheapest_18 ki_m1 ?_
    exact go_ret dX9_cheapest_19 rii rfl rfl
  · refine go_aload_n (pc := 8) dX9_cheapest_8 rfl ?_
    refine go_iload_n (pc := 9) dX9_cheapest_9 rfl ?_
    refine go_iconst (pc := 10) 0 dX9_cheapest_10 ki_0 ?_
    refine go_iconst (pc := 11) 1 dX9_cheapest_11 ki_1 ?_
    refine go_T (v := f_M_in p2 0 1 M) ?_
    refine go_callV (pc := 12) (a := 12451850) (as := [.int p2, .int 0, .int 1]) (st := []) (o_M_in p2 0 1 M) ic_M_in ivX9_203 (rcvk (a := 12451850) (t := 10) rfl (by decide) (by decide) rfl) rfl (by decide) (Nat.le_of_ble_eq_true rfl) dX9_cheapest_12 (kTi ?_)
    refine go_ifne (pc := 15) 20 dX9_cheapest_15 (by decide) (fun _ => ?_) (fun _ => ?_)
    · refine go_iconst (pc := 18) (-1) dX9_cheapest_18 ki_m1 ?_
      exact go_ret dX9_cheapest_19 rii rfl rfl
    · refine go_iconst (pc := 20) (-1) dX9_cheapest_20 ki_m1 ?_
      refine go_istore_n (pc := 21) (ls' := [.ref 12451850, .int p1, .int p2, .int (-1), .null, .null, .null]) dX9_cheapest_21 (Nat.le_of_ble_eq_true rfl) rfl rfl ?_
      refine go_iconst (pc := 22) 0 dX9_cheapest_22 ki_0 ?_
      refine go_istore (pc := 23) (ls' := [.ref 12451850, .int p1, .int p2, .int (-1), .int 0, .null, .null]) dX9_cheapest_23 (Nat.le_of_ble_eq_true rfl) rfl rfl ?_
      refine go_iconst (pc := 25) 0 dX9_cheapest_25 ki_0 ?_
      refine go_istore (pc := 26) (ls' := [.ref 12451850, .int p1, .int p2, .int (-1), .int 0, .int 0, .null]) dX9_cheapest_26 (Nat.le_of_ble_eq_true rfl) rfl rfl ?_
      exact o_M_cheapest_l28 200 p1 p2 (-1) 0 0 M
def f_M_why_b124 (v1 : Int32) (v2 : Int32) (v3 : Int32) (v4 : Int32) (s0 : Int32) (s1 : Int32) (M : Mem) : Option (Int32 × Mem) := lt (s1 + s0) fun x11 => bd (f_M_gapBy v1 v2 v3 v4 (mI M 12451850 2) 0 M) fun r12 => if r12 < 0 then some (x11 + 0, M) else some (x11 + 8, M)
def f_M_why_b99 (v1 : Int32) (v2 : Int32) (v3 : Int32) (v4 : Int32) (v5 : Int32) (s0 : Int32) (s1 : Int32) (M : Mem) : Option (Int32 × Mem) := lt (s1 + s0) fun x9 => bd (f_M_gapBy v1 v2 v3 v4 0 v5 M) fun r10 => if r10 < 0 then f_M_why_b124 v1 v2 v3 v4 0 x9 M else f_M_why_b124 v1 v2 v3 v4 4 x9 M
def f_M_why_b73 (v1 : Int32) (v2 : Int32) (v3 : Int32) (v4 : Int32) (v5 : Int32) (s0 : Int32) (M : Mem) : Option (Int32 × Mem) := bd (f_M_gapBy v1 v2 v3 0 (mI M 12451850 2) v5 M) fun r8 => if r8 < 0 then f_M_why_b99 v1 v2 v3 v4 v5 0 s0 M else f_M_why_b99 v1 v2 v3 v4 v5 2 s0 M
def f_M_why (p1 : Int32) (p2 : Int32) (M : Mem) : Option (Int32 × Mem) := if (f_M_isDoor p1 M) = 0 then some ((-1), M) else if (f_M_isSpot p2 M) = 0 then some ((-1), M) else b2 (f_M_gap p1 p2 M) fun r2 M1 => if r2 < 0 then b2 (f_M_swellOf p1 M1) fun r4 M3 => bd (f_M_hangOf p1 M3) fun r5 => bd (f_M_bendOf p1 M3) fun r6 => bd (f_M_gapBy p1 p2 0 r5 (mI M3 12451850 2) r6 M3) fun r7 => if r7 < 0 then f_M_why_b73 p1 p2 r4 r5 r6 0 M3 else f_M_why_b73 p1 p2 r4 r5 r6 1 M3 else some ((-3), M1)
theorem o_M_why_b124 (v1 : Int32) (v2 : Int32) (v3 : Int32) (v4 : Int32) (s0 : Int32) (s1 : Int32) (M : Mem) : Go sRM g_M_why fWi (f_M_why_b124 v1 v2 v3 v4 s0 s1 M) 124 [.ref 12451850, .int v1, .int v2, .int v3, .int v4, .null, .null] [.int s0, .int s1] M := by
  refine go_def (f_M_why_b124.eq_1 ..) ?_
  refine go_iadd (pc := 124) dX9_why_124 ?_
  refine go_istoreL (pc := 125) (L := fun x11 => [.ref 12451850, .int v1, .int v2, .int v3, .int v4, .null, .int x11]) dX9_why_125 (Nat.le_of_ble_eq_true rfl) rfl (fun _ => rfl) (fun x11 => ?_)
  refine go_iload (pc := 127) dX9_why_127 rfl ?_
  refine go_aload_n (pc := 129) dX9_why_129 rfl ?_
  refine go_iload_n (pc := 130) dX9_why_130 rfl ?_
  refine go_iload_n (pc := 131) dX9_why_131 rfl ?_
  refine go_iload_n (pc := 132) dX9_why_132 rfl ?_
  refine go_iload (pc := 133) dX9_why_133 rfl ?_
  refine go_aload_n (pc := 135) dX9_why_135 rfl ?_
  refine go_getI (pc := 136) flX9_17 rfl rfl dX9_why_136 ?_
  refine go_iconst (pc := 139) 0 dX9_why_139 ki_0 ?_
  refine go_callV (pc := 140) (a := 12451850) (as := [.int v1, .int v2, .int v3, .int v4, .int (mI M 12451850 2), .int 0]) (st := [.int x11]) (o_M_gapBy v1 v2 v3 v4 (mI M 12451850 2) 0 M) ic_M_gapBy ivX9_295 (rcvk (a := 12451850) (t := 10) rfl (by decide) (by decide) rfl) rfl (by decide) (Nat.le_of_ble_eq_true rfl) dX9_why_140 (kRi fun r12 => ?_)
  refine go_iflt (pc := 143) 151 dX9_why_143 (by decide) (fun _ => ?_) (fun _ => ?_)
  · refine go_iconst (pc := 151) 0 dX9_why_151 ki_0 ?_
    refine go_iadd (pc := 152) dX9_why_152 ?_
    exact go_ret dX9_why_153 rii rfl rfl
  · refine go_bipush (pc := 146) 8 dX9_why_146 kb_8 ?_
    refine go_goto (pc := 148) 152 dX9_why_148 (by decide) ?_
    refine go_iadd (pc := 152) dX9_why_152 ?_
    exact go_ret dX9_why_153 rii rfl rfl
theorem o_M_why_b99 (v1 : Int32) (v2 : Int32) (v3 : Int32) (v4 : Int32) (v5 : Int32) (s0 : Int32) (s1 : Int32) (M : Mem) : Go sRM g_M_why fWi (f_M_why_b99 v1 v2 v3 v4 v5 s0 s1 M) 99 [.ref 12451850, .int v1, .int v2, .int v3, .int v4, .int v5, .null] [.int s0, .int s1] M := by
  refine go_def (f_M_why_b99.eq_1 ..) ?_
  refine go_iadd (pc := 99) dX9_why_99 ?_
  refine go_istoreL (pc := 100) (L := fun x9 => [.ref 12451850, .int v1, .int v2, .int v3, .int v4, .int v5, .int x9]) dX9_why_100 (Nat.le_of_ble_eq_true rfl) rfl (fun _ => rfl) (fun x9 => ?_)
  refine go_iload (pc := 102) dX9_why_102 rfl ?_
  refine go_aload_n (pc := 104) dX9_why_104 rfl ?_
  refine go_iload_n (pc := 105) dX9_why_105 rfl ?_
  refine go_iload_n (pc := 106) dX9_why_106 rfl ?_
  refine go_iload_n (pc := 107) dX9_why_107 rfl ?_
  refine go_iload (pc := 108) dX9_why_108 rfl ?_
  refine go_iconst (pc := 110) 0 dX9_why_110 ki_0 ?_
  refine go_iload (pc := 111) dX9_why_111 rfl ?_
  refine go_callV (pc := 113) (a := 12451850) (as := [.int v1, .int v2, .int v3, .int v4, .int 0, .int v5]) (st := [.int x9]) (o_M_gapBy v1 v2 v3 v4 0 v5 M) ic_M_gapBy ivX9_295 (rcvk (a := 12451850) (t := 10) rfl (by decide) (by decide) rfl) rfl (by decide) (Nat.le_of_ble_eq_true rfl) dX9_why_113 (kRi fun r10 => ?_)
  refine go_iflt (pc := 116) 123 dX9_why_116 (by decide) (fun _ => ?_) (fun _ => ?_)
  · refine go_iconst (pc := 123) 0 dX9_why_123 ki_0 ?_
    refine go_sub (ls' := [.ref 12451850, .int v1, .int v2, .int v3, .int v4, .null, .null]) ⟨Or.inr rfl, Or.inr rfl, Or.inr rfl, Or.inr rfl, Or.inr rfl, Or.inl rfl, Or.inl rfl, trivial⟩ ?_
    exact o_M_why_b124 v1 v2 v3 v4 0 x9 M
  · refine go_iconst (pc := 119) 4 dX9_why_119 ki_4 ?_
    refine go_goto (pc := 120) 124 dX9_why_120 (by decide) ?_
    refine go_sub (ls' := [.ref 12451850, .int v1, .int v2, .int v3, .int v4, .null, .null]) ⟨Or.inr rfl, Or.inr rfl, Or.inr rfl, Or.inr rfl, Or.inr rfl, Or.inl rfl, Or.inl rfl, trivial⟩ ?_
    exact o_M_why_b124 v1 v2 v3 v4 4 x9 M
theorem o_M_why_b73 (v1 : Int32) (v2 : Int32) (v3 : Int32) (v4 : Int32) (v5 : Int32) (s0 : Int32) (M : Mem) : Go sRM g_M_why fWi (f_M_why_b73 v1 v2 v3 v4 v5 s0 M) 73 [.ref 12451850, .int v1, .int v2, .int v3, .int v4, .int v5, .null] [.int s0] M := by
  refine go_def (f_M_why_b73.eq_1 ..) ?_
  refine go_istore (pc := 73) (ls' := [.ref 12451850, .int v1, .int v2, .int v3, .int v4, .int v5, .int s0]) dX9_why_73 (Nat.le_of_ble_eq_true rfl) rfl rfl ?_
  refine go_iload (pc := 75) dX9_why_75 rfl ?_
  refine go_aload_n (pc := 77) dX9_why_77 rfl ?_
  refine go_iload_n (pc := 78) dX9_why_78 rfl ?_
  refine go_iload_n (pc := 79) dX9_why_79 rfl ?_
  refine go_iload_n (pc := 80) dX9_why_80 rfl ?_
  refine go_iconst (pc := 81) 0 dX9_why_81 ki_0 ?_
  refine go_aload_n (pc := 82) dX9_why_82 rfl ?_
  refine go_getI (pc := 83) flX9_17 rfl rfl dX9_why_83 ?_
  refine go_iload (pc := 86) dX9_why_86 rfl ?_
  refine go_callV (pc := 88) (a := 12451850) (as := [.int v1, .int v2, .int v3, .int 0, .int (mI M 12451850 2), .int v5]) (st := [.int s0]) (o_M_gapBy v1 v2 v3 0 (mI M 12451850 2) v5 M) ic_M_gapBy ivX9_295 (rcvk (a := 12451850) (t := 10) rfl (by decide) (by decide) rfl) rfl (by decide) (Nat.le_of_ble_eq_true rfl) dX9_why_88 (kRi fun r8 => ?_)
  refine go_iflt (pc := 91) 98 dX9_why_91 (by decide) (fun _ => ?_) (fun _ => ?_)
  · refine go_iconst (pc := 98) 0 dX9_why_98 ki_0 ?_
    refine go_sub (ls' := [.ref 12451850, .int v1, .int v2, .int v3, .int v4, .int v5, .null]) ⟨Or.inr rfl, Or.inr rfl, Or.inr rfl, Or.inr rfl, Or.inr rfl, Or.inr rfl, Or.inl rfl, trivial⟩ ?_
    exact o_M_why_b99 v1 v2 v3 v4 v5 0 s0 M
  · refine go_iconst (pc := 94) 2 dX9_why_94 ki_2 ?_
    refine go_goto (pc := 95) 99 dX9_why_95 (by decide) ?_
    refine go_sub (ls' := [.ref 12451850, .int v1, .int v2, .int v3, .int v4, .int v5, .null]) ⟨Or.inr rfl, Or.inr rfl, Or.inr rfl, Or.inr rfl, Or.inr rfl, Or.inr rfl, Or.inl rfl, trivial⟩ ?_
    exact o_M_why_b99 v1 v2 v3 v4 v5 2 s0 M
theorem o_M_why (p1 : Int32) (p2 : Int32) (M : Mem) : Ct sRM g_M_why fWi [.ref 12451850, .int p1, .int p2] (f_M_why p1 p2 M) M := by
  refine ⟨Nat.le_of_ble_eq_true rfl, ?_⟩
  show Go sRM g_M_why fWi (f_M_why p1 p2 M) 0 [.ref 12451850, .int p1, .int p2, .null, .null, .null, .null] [] M
  refine go_def (f_M_why.eq_1 ..) ?_
  refine go_aload_n (pc := 0) dX9_why_0 rfl ?_
  refine go_iload_n (pc := 1) dX9_why_1 rfl ?_
  refine go_T (v := f_M_isDoor p1 M) ?_
  refine go_callV (pc := 2) (a := 12451850) (as := [.int p1]) (st := []) (o_M_isDoor p1 M) ic_M_isDoor ivX9_207 (rcvk (a := 12451850) (t := 10) rfl (by decide) (by decide) rfl) rfl (by decide) (Nat.le_of_ble_eq_true rfl) dX9_why_2 (kTi ?_)
  refine go_ifeq (pc := 5) 16 dX9_why_5 (by decide) (fun _ => ?_) (fun _ => ?_)
  · refine go_iconst (pc := 16) (-1) dX9_why_16 ki_m1 ?_
    exact go_ret dX9_why_17 rii rfl rfl
  · refine go_aload_n (pc := 8) dX9_why_8 rfl ?_
    refine go_iload_n (pc := 9) dX9_why_9 rfl ?_
    refine go_T (v := f_M_isSpot p2 M) ?_
    refine go_callV (pc := 10) (a := 12451850) (as := [.int p2]) (st := []) (o_M_isSpot p2 M) ic_M_isSpot ivX9_321 (rcvk (a := 12451850) (t := 10) rfl (by decide) (by decide) rfl) rfl (by decide) (Nat.le_of_ble_eq_true rfl) dX9_why_10 (kTi ?_)
    refine go_ifne (pc := 13) 18 dX9_why_13 (by decide) (fun _ => ?_) (fun _ => ?_)
    · refine go_iconst (pc := 16) (-1) dX9_why_16 ki_m1 ?_
      exact go_ret dX9_why_17 rii rfl rfl
    · refine go_aload_n (pc := 18) dX9_why_18 rfl ?_
      refine go_iload_n (pc := 19) dX9_why_19 rfl ?_
      refine go_iload_n (pc := 20) dX9_why_20 rfl ?_
      refine go_callV (pc := 21) (a := 12451850) (as := [.int p1, .int p2]) (st := []) (o_M_gap p1 p2 M) ic_M_gap ivX9_299 (rcvk (a := 12451850) (t := 10) rfl (by decide) (by decide) rfl) rfl (by decide) (Nat.le_of_ble_eq_true rfl) dX9_why_21 (kWi fun r2 M1 => ?_)
      refine go_iflt (pc := 24) 30 dX9_why_24 (by decide) (fun _ => ?_) (fun _ => ?_)
      · refine go_aload_n (pc := 30) dX9_why_30 rfl ?_
        refine go_iload_n (pc := 31) dX9_why_31 rfl ?_
        refine go_callV (pc := 32) (a := 12451850) (as := [.int p1]) (st := []) (o_M_swellOf p1 M1) ic_M_swellOf ivX9_286 (rcvk (a := 12451850) (t := 10) rfl (by decide) (by decide) rfl) rfl (by decide) (Nat.le_of_ble_eq_true rfl) dX9_why_32 (kWi fun r4 M3 => ?_)
        refine go_istore_n (pc := 35) (ls' := [.ref 12451850, .int p1, .int p2, .int r4, .null, .null, .null]) dX9_why_35 (Nat.le_of_ble_eq_true rfl) rfl rfl ?_
        refine go_aload_n (pc := 36) dX9_why_36 rfl ?_
        refine go_iload_n (pc := 37) dX9_why_37 rfl ?_
        refine go_callV (pc := 38) (a := 12451850) (as := [.int p1]) (st := []) (o_M_hangOf p1 M3) ic_M_hangOf ivX9_289 (rcvk (a := 12451850) (t := 10) rfl (by decide) (by decide) rfl) rfl (by decide) (Nat.le_of_ble_eq_true rfl) dX9_why_38 (kRi fun r5 => ?_)
        refine go_istore (pc := 41) (ls' := [.ref 12451850, .int p1, .int p2, .int r4, .int r5, .null, .null]) dX9_why_41 (Nat.le_of_ble_eq_true rfl) rfl rfl ?_
        refine go_aload_n (pc := 43) dX9_why_43 rfl ?_
        refine go_iload_n (pc := 44) dX9_why_44 rfl ?_
        refine go_callV (pc := 45) (a := 12451850) (as := [.int p1]) (st := []) (o_M_bendOf p1 M3) ic_M_bendOf ivX9_292 (rcvk (a := 12451850) (t := 10) rfl (by decide) (by decide) rfl) rfl (by decide) (Nat.le_of_ble_eq_true rfl) dX9_why_45 (kRi fun r6 => ?_)
        refine go_istore (pc := 48) (ls' := [.ref 12451850, .int p1, .int p2, .int r4, .int r5, .int r6, .null]) dX9_why_48 (Nat.le_of_ble_eq_true rfl) rfl rfl ?_
        refine go_aload_n (pc := 50) dX9_why_50 rfl ?_
        refine go_iload_n (pc := 51) dX9_why_51 rfl ?_
        refine go_iload_n (pc := 52) dX9_why_52 rfl ?_
        refine go_iconst (pc := 53) 0 dX9_why_53 ki_0 ?_
        refine go_iload (pc := 54) dX9_why_54 rfl ?_
        refine go_aload_n (pc := 56) dX9_why_56 rfl ?_
        refine go_getI (pc := 57) flX9_17 rfl rfl dX9_why_57 ?_
        refine go_iload (pc := 60) dX9_why_60 rfl ?_
        refine go_callV (pc := 62) (a := 12451850) (as := [.int p1, .int p2, .int 0, .int r5, .int (mI M3 12451850 2), .int r6]) (st := []) (o_M_gapBy p1 p2 0 r5 (mI M3 12451850 2) r6 M3) ic_M_gapBy ivX9_295 (rcvk (a := 12451850) (t := 10) rfl (by decide) (by decide) rfl) rfl (by decide) (Nat.le_of_ble_eq_true rfl) dX9_why_62 (kRi fun r7 => ?_)
        refine go_iflt (pc := 65) 72 dX9_why_65 (by decide) (fun _ => ?_) (fun _ => ?_)
        · refine go_iconst (pc := 72) 0 dX9_why_72 ki_0 ?_
          exact o_M_why_b73 p1 p2 r4 r5 r6 0 M3
        · refine go_iconst (pc := 68) 1 dX9_why_68 ki_1 ?_
          refine go_goto (pc := 69) 73 dX9_why_69 (by decide) ?_
          exact o_M_why_b73 p1 p2 r4 r5 r6 1 M3
      · refine go_bipush (pc := 27) (-3) dX9_why_27 kb_m3 ?_
        exact go_ret dX9_why_29 rii rfl rfl
def f_M_divisor_l5 (M : Mem) : Nat → Int32 → Int32 → Option Int32
  | 0, _, _ => none
  | n + 1, v3, v4 => if v4 = 0 then some v3 else gd (¬ v4 = 0) (lt (v3 - v3 / v4 * v4) fun x1 => f_M_divisor_l5 M n v4 x1)
def f_M_divisor (p1 : Int32) (p2 : Int32) (M : Mem) : Option Int32 := f_M_divisor_l5 M 200 p1 p2
theorem o_M_divisor_l5 (M : Mem) : ∀ (n : Nat) (v3 : Int32) (v4 : Int32), Go sRM g_M_divisor (fRi M) (f_M_divisor_l5 M n v3 v4) 5 [.ref 12451850, .null, .null, .int v3, .int v4, .null] [] M := by
  intro n
  induction n with
  | zero =>
    intro v3 v4
    exact go_def (f_M_divisor_l5.eq_1 ..) go_none
  | succ n ih =>
    intro v3 v4
    refine go_def (f_M_divisor_l5.eq_2 ..) ?_
    refine go_iload (pc := 5) dX9_divisor_5 rfl ?_
    refine go_ifeq (pc := 7) 26 dX9_divisor_7 (by decide) (fun _ => ?_) (fun _ => ?_)
    · refine go_iload_n (pc := 26) dX9_divisor_26 rfl ?_
      exact go_ret dX9_divisor_27 rii rfl rfl
    · refine go_iload_n (pc := 10) dX9_divisor_10 rfl ?_
      refine go_iload (pc := 11) dX9_divisor_11 rfl ?_
      refine go_irem (pc := 13) dX9_divisor_13 (fun _ => ?_)
      refine go_istoreL (pc := 14) (L := fun x1 => [.ref 12451850, .null, .null, .int v3, .int v4, .int x1]) dX9_divisor_14 (Nat.le_of_ble_eq_true rfl) rfl (fun _ => rfl) (fun x1 => ?_)
      refine go_iload (pc := 16) dX9_divisor_16 rfl ?_
      refine go_istore_n (pc := 18) (ls' := [.ref 12451850, .null, .null, .int v4, .int v4, .int x1]) dX9_divisor_18 (Nat.le_of_ble_eq_true rfl) rfl rfl ?_
      refine go_iload (pc := 19) dX9_divisor_19 rfl ?_
      refine go_istore (pc := 21) (ls' := [.ref 12451850, .null, .null, .int v4, .int x1, .int x1]) dX9_divisor_21 (Nat.le_of_ble_eq_true rfl) rfl rfl ?_
      refine go_goto (pc := 23) 5 dX9_divisor_23 (by decide) ?_
      refine go_sub (ls' := [.ref 12451850, .null, .null, .int v4, .int x1, .null]) ⟨Or.inr rfl, Or.inl rfl, Or.inl rfl, Or.inr rfl, Or.inr rfl, Or.inl rfl, trivial⟩ ?_
      exact ih v4 x1
theorem o_M_divisor (p1 : Int32) (p2 : Int32) (M : Mem) : Ct sRM g_M_divisor (fRi M) [.ref 12451850, .int p1, .int p2] (f_M_divisor p1 p2 M) M := by
  refine ⟨Nat.le_of_ble_eq_true rfl, ?_⟩
  show Go sRM g_M_divisor (fRi M) (f_M_divisor p1 p2 M) 0 [.ref 12451850, .int p1, .int p2, .null, .null, .null] [] M
  refine go_def (f_M_divisor.eq_1 ..) ?_
  refine go_iload_n (pc := 0) dX9_divisor_0 rfl ?_
  refine go_istore_n (pc := 1) (ls' := [.ref 12451850, .int p1, .int p2, .int p1, .null, .null]) dX9_divisor_1 (Nat.le_of_ble_eq_true rfl) rfl rfl ?_
  refine go_iload_n (pc := 2) dX9_divisor_2 rfl ?_
  refine go_istore (pc := 3) (ls' := [.ref 12451850, .int p1, .int p2, .int p1, .int p2, .null]) dX9_divisor_3 (Nat.le_of_ble_eq_true rfl) rfl rfl ?_
  refine go_sub (ls' := [.ref 12451850, .null, .null, .int p1, .int p2, .null]) ⟨Or.inr rfl, Or.inl rfl, Or.inl rfl, Or.inr rfl, Or.inr rfl, Or.inl rfl, trivial⟩ ?_
  exact o_M_divisor_l5 M 200 p1 p2
def f_M_byTwelve (p1 : Int32) (p2 : Int32) (M : Mem) : Option Int64 := bd (f_M_divisor p1 12 M) fun r1 => if p2 = 0 then gd (¬ r1 = 0) (some ((p1 / r1).toInt64)) else gd (¬ r1 = 0) (some ((12 / r1).toInt64))
theorem o_M_byTwelve (p1 : Int32) (p2 : Int32) (M : Mem) : Ct sRM g_M_byTwelve (fRl M) [.ref 12451850, .int p1, .int p2] (f_M_byTwelve p1 p2 M) M := by
  refine ⟨Nat.le_of_ble_eq_true rfl, ?_⟩
  show Go sRM g_M_byTwelve (fRl M) (f_M_byTwelve p1 p2 M) 0 [.ref 12451850, .int p1, .int p2, .null] [] M
  refine go_def (f_M_byTwelve.eq_1 ..) ?_
  refine go_aload_n (pc := 0) dX9_byTwelve_0 rfl ?_
  refine go_iload_n (pc := 1) dX9_byTwelve_1 rfl ?_
  refine go_bipush (pc := 2) 12 dX9_byTwelve_2 kb_12 ?_
  refine go_callV (pc := 4) (a := 12451850) (as := [.int p1, .int 12]) (st := []) (o_M_divisor p1 12 M) ic_M_divisor ivX9_353 (rcvk (a := 12451850) (t := 10) rfl (by decide) (by decide) rfl) rfl (by decide) (Nat.le_of_ble_eq_true rfl) dX9_byTwelve_4 (kRi fun r1 => ?_)
  refine go_istore_n (pc := 7) (ls' := [.ref 12451850, .int p1, .int p2, .int r1]) dX9_byTwelve_7 (Nat.le_of_ble_eq_true rfl) rfl rfl ?_
  refine go_iload_n (pc := 8) dX9_byTwelve_8 rfl ?_
  refine go_ifne (pc := 9) 19 dX9_byTwelve_9 (by decide) (fun _ => ?_) (fun _ => ?_)
  · refine go_iload_n (pc := 12) dX9_byTwelve_12 rfl ?_
    refine go_iload_n (pc := 13) dX9_byTwelve_13 rfl ?_
    refine go_idiv (pc := 14) dX9_byTwelve_14 (fun _ => ?_)
    refine go_i2l (pc := 15) dX9_byTwelve_15 ?_
    refine go_goto (pc := 16) 24 dX9_byTwelve_16 (by decide) ?_
    exact go_ret dX9_byTwelve_24 rfl rfl rfl
  · refine go_bipush (pc := 19) 12 dX9_byTwelve_19 kb_12 ?_
    refine go_iload_n (pc := 21) dX9_byTwelve_21 rfl ?_
    refine go_idiv (pc := 22) dX9_byTwelve_22 (fun _ => ?_)
    refine go_i2l (pc := 23) dX9_byTwelve_23 ?_
    exact go_ret dX9_byTwelve_24 rfl rfl rfl
def f_M_odds_l31 : Nat → Int32 → Int32 → Int32 → Int32 → Mem → Option (Int64 × Mem)
  | 0, _, _, _, _, _ => none
  | n + 1, v1, v2, v3, v4, M => if 12 ≤ v4 then bd (f_M_byTwelve v3 v2 M) fun r2 => some (r2, M) else gd (inR v4 12) (bd (f_M_goMonth (mI M 12583307 v4.toNatClampNeg) M) fun M3 => b2 (f_M_rubs v1 M3) fun r5 M4 => if r5 = 0 then lt (v3 + 0) fun x6 => bd (f_M_putBack M4) fun M7 => lt (v4 + 1) fun x8 => f_M_odds_l31 n v1 v2 x6 x8 M7 else lt (v3 + 1) fun x9 => bd (f_M_putBack M4) fun M10 => lt (v4 + 1) fun x11 => f_M_odds_l31 n v1 v2 x9 x11 M10)
def f_M_odds (p1 : Int32) (p2 : Int32) (M : Mem) : Option (Int64 × Mem) := if (f_M_isDoor p1 M) = 0 then some ((-9223372036854775808), M) else if (f_M_in p2 0 1 M) = 0 then some ((-9223372036854775808), M) else bd (f_M_keep M) fun M1 => f_M_odds_l31 200 p1 p2 0 0 M1
theorem o_M_odds_l31 : ∀ (n : Nat) (v1 : Int32) (v2 : Int32) (v3 : Int32) (v4 : Int32) (M : Mem), Go sRM g_M_odds fWl (f_M_odds_l31 n v1 v2 v3 v4 M) 31 [.ref 12451850, .int v1, .int v2, .int v3, .int v4] [] M := by
  intro n
  induction n with
  | zero =>
    intro v1 v2 v3 v4 M
    exact go_def (f_M_odds_l31.eq_1 ..) go_none
  | succ n ih =>
    intro v1 v2 v3 v4 M
    refine go_def (f_M_odds_l31.eq_2 ..) ?_
    refine go_iload (pc := 31) dX9_odds_31 rfl ?_
    refine go_bipush (pc := 33) 12 dX9_odds_33 kb_12 ?_
    refine go_icmpge (pc := 35) 75 dX9_odds_35 (by decide) (fun _ => ?_) (fun _ => ?_)
    · refine go_aload_n (pc := 75) dX9_odds_75 rfl ?_
      refine go_iload_n (pc := 76) dX9_odds_76 rfl ?_
      refine go_iload_n (pc := 77) dX9_odds_77 rfl ?_
      refine go_callV (pc := 78) (a := 12451850) (as := [.int v3, .int v2]) (st := []) (o_M_byTwelve v3 v2 M) ic_M_byTwelve ivX9_358 (rcvk (a := 12451850) (t := 10) rfl (by decide) (by decide) rfl) rfl (by decide) (Nat.le_of_ble_eq_true rfl) dX9_odds_78 (kRl fun r2 => ?_)
      exact go_ret dX9_odds_81 rfl rfl rfl
    · refine go_aload_n (pc := 38) dX9_odds_38 rfl ?_
      refine go_aload_n (pc := 39) dX9_odds_39 rfl ?_
      refine go_getS (pc := 40) 12583307 flX9_7 rfl rfl sM_10_0 (by decide) dX9_odds_40 ?_
      refine go_iload (pc := 43) dX9_odds_43 rfl ?_
      refine go_iald (pc := 45) rfl rfl dX9_odds_45 (fun _ => ?_)
      refine go_callV (pc := 46) (a := 12451850) (as := [.int (mI M 12583307 v4.toNatClampNeg)]) (st := []) (o_M_goMonth (mI M 12583307 v4.toNatClampNeg) M) ic_M_goMonth ivX9_315 (rcvk (a := 12451850) (t := 10) rfl (by decide) (by decide) rfl) rfl (by decide) (Nat.le_of_ble_eq_true rfl) dX9_odds_46 (kWv fun M3 => ?_)
      refine go_iload_n (pc := 49) dX9_odds_49 rfl ?_
      refine go_aload_n (pc := 50) dX9_odds_50 rfl ?_
      refine go_iload_n (pc := 51) dX9_odds_51 rfl ?_
      refine go_callV (pc := 52) (a := 12451850) (as := [.int v1]) (st := [.int v3]) (o_M_rubs v1 M3) ic_M_rubs ivX9_305 (rcvk (a := 12451850) (t := 10) rfl (by decide) (by decide) rfl) rfl (by decide) (Nat.le_of_ble_eq_true rfl) dX9_odds_52 (kWi fun r5 M4 => ?_)
      refine go_ifeq (pc := 55) 62 dX9_odds_55 (by decide) (fun _ => ?_) (fun _ => ?_)
      · refine go_iconst (pc := 62) 0 dX9_odds_62 ki_0 ?_
        refine go_iadd (pc := 63) dX9_odds_63 ?_
        refine go_istore_nL (pc := 64) (L := fun x6 => [.ref 12451850, .int v1, .int v2, .int x6, .int v4]) dX9_odds_64 (Nat.le_of_ble_eq_true rfl) rfl (fun _ => rfl) (fun x6 => ?_)
        refine go_aload_n (pc := 65) dX9_odds_65 rfl ?_
        refine go_callV (pc := 66) (a := 12451850) (as := []) (st := []) (o_M_putBack M4) ic_M_putBack ivX9_340 (rcvk (a := 12451850) (t := 10) rfl (by decide) (by decide) rfl) rfl (by decide) (Nat.le_of_ble_eq_true rfl) dX9_odds_66 (kWv fun M7 => ?_)
        refine go_iincL (pc := 69) (L := fun x8 => [.ref 12451850, .int v1, .int v2, .int x6, .int x8]) 1 dX9_odds_69 rfl ki_1 (Nat.le_of_ble_eq_true rfl) rfl (fun _ => rfl) (fun x8 => ?_)
        refine go_goto (pc := 72) 31 dX9_odds_72 (by decide) ?_
        exact ih v1 v2 x6 x8 M7
      · refine go_iconst (pc := 58) 1 dX9_odds_58 ki_1 ?_
        refine go_goto (pc := 59) 63 dX9_odds_59 (by decide) ?_
        refine go_iadd (pc := 63) dX9_odds_63 ?_
        refine go_istore_nL (pc := 64) (L := fun x9 => [.ref 12451850, .int v1, .int v2, .int x9, .int v4]) dX9_odds_64 (Nat.le_of_ble_eq_true rfl) rfl (fun _ => rfl) (fun x9 => ?_)
        refine go_aload_n (pc := 65) dX9_odds_65 rfl ?_
        refine go_callV (pc := 66) (a := 12451850) (as := []) (st := []) (o_M_putBack M4) ic_M_putBack ivX9_340 (rcvk (a := 12451850) (t := 10) rfl (by decide) (by decide) rfl) rfl (by decide) (Nat.le_of_ble_eq_true rfl) dX9_odds_66 (kWv fun M10 => ?_)
        refine go_iincL (pc := 69) (L := fun x11 => [.ref 12451850, .int v1, .int v2, .int x9, .int x11]) 1 dX9_odds_69 rfl ki_1 (Nat.le_of_ble_eq_true rfl) rfl (fun _ => rfl) (fun x11 => ?_)
        refine go_goto (pc := 72) 31 dX9_odds_72 (by decide) ?_
        exact ih v1 v2 x9 x11 M10
theorem o_M_odds (p1 : Int32) (p2 : Int32) (M : Mem) : Ct sRM g_M_odds fWl [.ref 12451850, .int p1, .int p2] (f_M_odds p1 p2 M) M := by
  refine ⟨Nat.le_of_ble_eq_true rfl, ?_⟩
  show Go sRM g_M_odds fWl (f_M_odds p1 p2 M) 0 [.ref 12451850, .int p1, .int p2, .null, .null] [] M
  refine go_def (f_M_odds.eq_1 ..) ?_
  refine go_aload_n (pc := 0) dX9_odds_0 rfl ?_
  refine go_iload_n (pc := 1) dX9_odds_1 rfl ?_
  refine go_T (v := f_M_isDoor p1 M) ?_
  refine go_callV (pc := 2) (a := 12451850) (as := [.int p1]) (st := []) (o_M_isDoor p1 M) ic_M_isDoor ivX9_207 (rcvk (a := 12451850) (t := 10) rfl (by decide) (by decide) rfl) rfl (by decide) (Nat.le_of_ble_eq_true rfl) dX9_odds_2 (kTi ?_)
  refine go_ifeq (pc := 5) 18 dX9_odds_5 (by decide) (fun _ => ?_) (fun _ => ?_)
  · refine go_ldc2 (pc := 18) (v := (-9223372036854775808)) (gT_of (mtb6 (mt64 (mt64 (mt16 (mt1 (mt1 (mt1 (List.Mem.head _)))))))) rfl) dX9_odds_18 ?_
    exact go_ret dX9_odds_21 rfl rfl rfl
  · refine go_aload_n (pc := 8) dX9_odds_8 rfl ?_
    refine go_iload_n (pc := 9) dX9_odds_9 rfl ?_
    refine go_iconst (pc := 10) 0 dX9_odds_10 ki_0 ?_
    refine go_iconst (pc := 11) 1 dX9_odds_11 ki_1 ?_
    refine go_T (v := f_M_in p2 0 1 M) ?_
    refine go_callV (pc := 12) (a := 12451850) (as := [.int p2, .int 0, .int 1]) (st := []) (o_M_in p2 0 1 M) ic_M_in ivX9_203 (rcvk (a := 12451850) (t := 10) rfl (by decide) (by decide) rfl) rfl (by decide) (Nat.le_of_ble_eq_true rfl) dX9_odds_12 (kTi ?_)
    refine go_ifne (pc := 15) 22 dX9_odds_15 (by decide) (fun _ => ?_) (fun _ => ?_)
    · refine go_ldc2 (pc := 18) (v := (-9223372036854775808)) (gT_of (mtb6 (mt64 (mt64 (mt16 (mt1 (mt1 (mt1 (List.Mem.head _)))))))) rfl) dX9_odds_18 ?_
      exact go_ret dX9_odds_21 rfl rfl rfl
    · refine go_iconst (pc := 22) 0 dX9_odds_22 ki_0 ?_
      refine go_istore_n (pc := 23) (ls' := [.ref 12451850, .int p1, .int p2, .int 0, .null]) dX9_odds_23 (Nat.le_of_ble_eq_true rfl) rfl rfl ?_
      refine go_aload_n (pc := 24) dX9_odds_24 rfl ?_
      refine go_callV (pc := 25) (a := 12451850) (as := []) (st := []) (o_M_keep M) ic_M_keep ivX9_337 (rcvk (a := 12451850) (t := 10) rfl (by decide) (by decide) rfl) rfl (by decide) (Nat.le_of_ble_eq_true rfl) dX9_odds_25 (kWv fun M1 => ?_)
      refine go_iconst (pc := 28) 0 dX9_odds_28 ki_0 ?_
      refine go_istore (pc := 29) (ls' := [.ref 12451850, .int p1, .int p2, .int 0, .int 0]) dX9_odds_29 (Nat.le_of_ble_eq_true rfl) rfl rfl ?_
      exact o_M_odds_l31 200 p1 p2 0 0 M1
def f_M_mean_l42 : Nat → Int32 → Int32 → Int32 → Int32 → Int32 → Mem → Option (Int64 × Mem)
  | 0, _, _, _, _, _, _ => none
  | n + 1, v1, v2, v3, v4, v5, M => if 12 ≤ v5 then bd (f_M_byTwelve v4 v3 M) fun r2 => some (r2, M) else gd (inR v5 12) (bd (f_M_goMonth (mI M 12583307 v5.toNatClampNeg) M) fun M3 => if v2 = 0 then gd (inR v1 4) (lt (v4 + (mI M3 12976267 v1.toNatClampNeg)) fun x7 => bd (f_M_putBack M3) fun M8 => lt (v5 + 1) fun x9 => f_M_mean_l42 n v1 v2 v3 x7 x9 M8) else gd (inR v1 4) (lt (v4 + (mI M3 13107339 v1.toNatClampNeg)) fun x4 => bd (f_M_putBack M3) fun M5 => lt (v5 + 1) fun x6 => f_M_mean_l42 n v1 v2 v3 x4 x6 M5))
def f_M_mean (p1 : Int32) (p2 : Int32) (p3 : Int32) (M : Mem) : Option (Int64 × Mem) := if (f_M_isDoor p1 M) = 0 then some ((-9223372036854775808), M) else if (f_M_in p2 0 1 M) = 0 then some ((-9223372036854775808), M) else if (f_M_in p3 0 1 M) = 0 then some ((-9223372036854775808), M) else bd (f_M_keep M) fun M1 => f_M_mean_l42 200 p1 p2 p3 0 0 M1
theorem o_M_mean_l42 : ∀ (n : Nat) (v1 : Int32) (v2 : Int32) (v3 : Int32) (v4 : Int32) (v5 : Int32) (M : Mem), Go sRM g_M_mean fWl (f_M_mean_l42 n v1 v2 v3 v4 v5 M) 42 [.ref 12451850, .int v1, .int v2, .int v3, .int v4, .int v5] [] M := by
  intro n
  induction n with
  | zero =>
    intro v1 v2 v3 v4 v5 M
    exact go_def (f_M_mean_l42.eq_1 ..) go_none
  | succ n ih =>
    intro v1 v2 v3 v4 v5 M
    refine go_def (f_M_mean_l42.eq_2 ..) ?_
    refine go_iload (pc := 42) dX9_mean_42 rfl ?_
    refine go_bipush (pc := 44) 12 dX9_mean_44 kb_12 ?_
    refine go_icmpge (pc := 46) 94 dX9_mean_46 (by decide) (fun _ => ?_) (fun _ => ?_)
    · refine go_aload_n (pc := 94) dX9_mean_94 rfl ?_
      refine go_iload (pc := 95) dX9_mean_95 rfl ?_
      refine go_iload_n (pc := 97) dX9_mean_97 rfl ?_
      refine go_callV (pc := 98) (a := 12451850) (as := [.int v4, .int v3]) (st := []) (o_M_byTwelve v4 v3 M) ic_M_byTwelve ivX9_358 (rcvk (a := 12451850) (t := 10) rfl (by decide) (by decide) rfl) rfl (by decide) (Nat.le_of_ble_eq_true rfl) dX9_mean_98 (kRl fun r2 => ?_)
      exact go_ret dX9_mean_101 rfl rfl rfl
    · refine go_aload_n (pc := 49) dX9_mean_49 rfl ?_
      refine go_aload_n (pc := 50) dX9_mean_50 rfl ?_
      refine go_getS (pc := 51) 12583307 flX9_7 rfl rfl sM_10_0 (by decide) dX9_mean_51 ?_
      refine go_iload (pc := 54) dX9_mean_54 rfl ?_
      refine go_iald (pc := 56) rfl rfl dX9_mean_56 (fun _ => ?_)
      refine go_callV (pc := 57) (a := 12451850) (as := [.int (mI M 12583307 v5.toNatClampNeg)]) (st := []) (o_M_goMonth (mI M 12583307 v5.toNatClampNeg) M) ic_M_goMonth ivX9_315 (rcvk (a := 12451850) (t := 10) rfl (by decide) (by decide) rfl) rfl (by decide) (Nat.le_of_ble_eq_true rfl) dX9_mean_57 (kWv fun M3 => ?_)
      refine go_iload (pc := 60) dX9_mean_60 rfl ?_
      refine go_iload_n (pc := 62) dX9_mean_62 rfl ?_
      refine go_ifne (pc := 63) 75 dX9_mean_63 (by decide) (fun _ => ?_) (fun _ => ?_)
      · refine go_aload_n (pc := 66) dX9_mean_66 rfl ?_
        refine go_getS (pc := 67) 12976267 flX9_29 rfl rfl sM_10_6 (by decide) dX9_mean_67 ?_
        refine go_iload_n (pc := 70) dX9_mean_70 rfl ?_
        refine go_iald (pc := 71) rfl rfl dX9_mean_71 (fun _ => ?_)
        refine go_goto (pc := 72) 81 dX9_mean_72 (by decide) ?_
        refine go_iadd (pc := 81) dX9_mean_81 ?_
        refine go_istoreL (pc := 82) (L := fun x7 => [.ref 12451850, .int v1, .int v2, .int v3, .int x7, .int v5]) dX9_mean_82 (Nat.le_of_ble_eq_true rfl) rfl (fun _ => rfl) (fun x7 => ?_)
        refine go_aload_n (pc := 84) dX9_mean_84 rfl ?_
        refine go_callV (pc := 85) (a := 12451850) (as := []) (st := []) (o_M_putBack M3) ic_M_putBack ivX9_340 (rcvk (a := 12451850) (t := 10) rfl (by decide) (by decide) rfl) rfl (by decide) (Nat.le_of_ble_eq_true rfl) dX9_mean_85 (kWv fun M8 => ?_)
        refine go_iincL (pc := 88) (L := fun x9 => [.ref 12451850, .int v1, .int v2, .int v3, .int x7, .int x9]) 1 dX9_mean_88 rfl ki_1 (Nat.le_of_ble_eq_true rfl) rfl (fun _ => rfl) (fun x9 => ?_)
        refine go_goto (pc := 91) 42 dX9_mean_91 (by decide) ?_
        exact ih v1 v2 v3 x7 x9 M8
      · refine go_aload_n (pc := 75) dX9_mean_75 rfl ?_
        refine go_getS (pc := 76) 13107339 flX9_32 rfl rfl sM_10_7 (by decide) dX9_mean_76 ?_
        refine go_iload_n (pc := 79) dX9_mean_79 rfl ?_
        refine go_iald (pc := 80) rfl rfl dX9_mean_80 (fun _ => ?_)
        refine go_iadd (pc := 81) dX9_mean_81 ?_
        refine go_istoreL (pc := 82) (L := fun x4 => [.ref 12451850, .int v1, .int v2, .int v3, .int x4, .int v5]) dX9_mean_82 (Nat.le_of_ble_eq_true rfl) rfl (fun _ => rfl) (fun x4 => ?_)
        refine go_aload_n (pc := 84) dX9_mean_84 rfl ?_
        refine go_callV (pc := 85) (a := 12451850) (as := []) (st := []) (o_M_putBack M3) ic_M_putBack ivX9_340 (rcvk (a := 12451850) (t := 10) rfl (by decide) (by decide) rfl) rfl (by decide) (Nat.le_of_ble_eq_true rfl) dX9_mean_85 (kWv fun M5 => ?_)
        refine go_iincL (pc := 88) (L := fun x6 => [.ref 12451850, .int v1, .int v2, .int v3, .int x4, .int x6]) 1 dX9_mean_88 rfl ki_1 (Nat.le_of_ble_eq_true rfl) rfl (fun _ => rfl) (fun x6 => ?_)
        refine go_goto (pc := 91) 42 dX9_mean_91 (by decide) ?_
        exact ih v1 v2 v3 x4 x6 M5
theorem o_M_mean (p1 : Int32) (p2 : Int32) (p3 : Int32) (M : Mem) : Ct sRM g_M_mean fWl [.ref 12451850, .int p1, .int p2, .int p3] (f_M_mean p1 p2 p3 M) M := by
  refine ⟨Nat.le_of_ble_eq_true rfl, ?_⟩
  show Go sRM g_M_mean fWl (f_M_mean p1 p2 p3 M) 0 [.ref 12451850, .int p1, .int p2, .int p3, .null, .null] [] M
  refine go_def (f_M_mean.eq_1 ..) ?_
  refine go_aload_n (pc := 0) dX9_mean_0 rfl ?_
  refine go_iload_n (pc := 1) dX9_mean_1 rfl ?_
  refine go_T (v := f_M_isDoor p1 M) ?_
  refine go_callV (pc := 2) (a := 12451850) (as := [.int p1]) (st := []) (o_M_isDoor p1 M) ic_M_isDoor ivX9_207 (rcvk (a := 12451850) (t := 10) rfl (by decide) (by decide) rfl) rfl (by decide) (Nat.le_of_ble_eq_true rfl) dX9_mean_2 (kTi ?_)
  refine go_ifeq (pc := 5) 28 dX9_mean_5 (by decide) (fun _ => ?_) (fun _ => ?_)
  · refine go_ldc2 (pc := 28) (v := (-9223372036854775808)) (gT_of (mtb6 (mt64 (mt64 (mt16 (mt1 (mt1 (mt1 (List.Mem.head _)))))))) rfl) dX9_mean_28 ?_
    exact go_ret dX9_mean_31 rfl rfl rfl
  · refine go_aload_n (pc := 8) dX9_mean_8 rfl ?_
    refine go_iload_n (pc := 9) dX9_mean_9 rfl ?_
    refine go_iconst (pc := 10) 0 dX9_mean_10 ki_0 ?_
    refine go_iconst (pc := 11) 1 dX9_mean_11 ki_1 ?_
    refine go_T (v := f_M_in p2 0 1 M) ?_
    refine go_callV (pc := 12) (a := 12451850) (as := [.int p2, .int 0, .int 1]) (st := []) (o_M_in p2 0 1 M) ic_M_in ivX9_203 (rcvk (a := 12451850) (t := 10) rfl (by decide) (by decide) rfl) rfl (by decide) (Nat.le_of_ble_eq_true rfl) dX9_mean_12 (kTi ?_)
    refine go_ifeq (pc := 15) 28 dX9_mean_15 (by decide) (fun _ => ?_) (fun _ => ?_)
    · refine go_ldc2 (pc := 28) (v := (-9223372036854775808)) (gT_of (mtb6 (mt64 (mt64 (mt16 (mt1 (mt1 (mt1 (List.Mem.head _)))))))) rfl) dX9_mean_28 ?_
      exact go_ret dX9_mean_31 rfl rfl rfl
    · refine go_aload_n (pc := 18) dX9_mean_18 rfl ?_
      refine go_iload_n (pc := 19) dX9_mean_19 rfl ?_
      refine go_iconst (pc := 20) 0 dX9_mean_20 ki_0 ?_
      refine go_iconst (pc := 21) 1 dX9_mean_21 ki_1 ?_
      refine go_T (v := f_M_in p3 0 1 M) ?_
      refine go_callV (pc := 22) (a := 12451850) (as := [.int p3, .int 0, .int 1]) (st := []) (o_M_in p3 0 1 M) ic_M_in ivX9_203 (rcvk (a := 12451850) (t := 10) rfl (by decide) (by decide) rfl) rfl (by decide) (Nat.le_of_ble_eq_true rfl) dX9_mean_22 (kTi ?_)
      refine go_ifne (pc := 25) 32 dX9_mean_25 (by decide) (fun _ => ?_) (fun _ => ?_)
      · refine go_ldc2 (pc := 28) (v := (-9223372036854775808)) (gT_of (mtb6 (mt64 (mt64 (mt16 (mt1 (mt1 (mt1 (List.Mem.head _)))))))) rfl) dX9_mean_28 ?_
        exact go_ret dX9_mean_31 rfl rfl rfl
      · refine go_iconst (pc := 32) 0 dX9_mean_32 ki_0 ?_
        refine go_istore (pc := 33) (ls' := [.ref 12451850, .int p1, .int p2, .int p3, .int 0, .null]) dX9_mean_33 (Nat.le_of_ble_eq_true rfl) rfl rfl ?_
        refine go_aload_n (pc := 35) dX9_mean_35 rfl ?_
        refine go_callV (pc := 36) (a := 12451850) (as := []) (st := []) (o_M_keep M) ic_M_keep ivX9_337 (rcvk (a := 12451850) (t := 10) rfl (by decide) (by decide) rfl) rfl (by decide) (Nat.le_of_ble_eq_true rfl) dX9_mean_36 (kWv fun M1 => ?_)
        refine go_iconst (pc := 39) 0 dX9_mean_39 ki_0 ?_
        refine go_istore (pc := 40) (ls' := [.ref 12451850, .int p1, .int p2, .int p3, .int 0, .int 0]) dX9_mean_40 (Nat.le_of_ble_eq_true rfl) rfl rfl ?_
        exact o_M_mean_l42 200 p1 p2 p3 0 0 M1
def f_M_ones_l4 (M : Mem) : Nat → Int32 → Int32 → Option Int32
  | 0, _, _ => none
  | n + 1, v2, v3 => if v3 = 0 then some v2 else lt (v2 + 1) fun x1 => lt (v3 &&& (v3 - 1)) fun x2 => f_M_ones_l4 M n x1 x2
def f_M_ones (p1 : Int32) (M : Mem) : Option Int32 := f_M_ones_l4 M 200 0 p1
theorem o_M_ones_l4 (M : Mem) : ∀ (n : Nat) (v2 : Int32) (v3 : Int32), Go sRM g_M_ones (fRi M) (f_M_ones_l4 M n v2 v3) 4 [.ref 12451850, .null, .int v2, .int v3] [] M := by
  intro n
  induction n with
  | zero =>
    intro v2 v3
    exact go_def (f_M_ones_l4.eq_1 ..) go_none
  | succ n ih =>
    intro v2 v3
    refine go_def (f_M_ones_l4.eq_2 ..) ?_
    refine go_iload_n (pc := 4) dX9_ones_4 rfl ?_
    refine go_ifeq (pc := 5) 20 dX9_ones_5 (by decide) (fun _ => ?_) (fun _ => ?_)
    · refine go_iload_n (pc := 20) dX9_ones_20 rfl ?_
      exact go_ret dX9_ones_21 rii rfl rfl
    · refine go_iincL (pc := 8) (L := fun x1 => [.ref 12451850, .null, .int x1, .int v3]) 1 dX9_ones_8 rfl ki_1 (Nat.le_of_ble_eq_true rfl) rfl (fun _ => rfl) (fun x1 => ?_)
      refine go_iload_n (pc := 11) dX9_ones_11 rfl ?_
      refine go_iload_n (pc := 12) dX9_ones_12 rfl ?_
      refine go_iconst (pc := 13) 1 dX9_ones_13 ki_1 ?_
      refine go_isub (pc := 14) dX9_ones_14 ?_
      refine go_iand (pc := 15) dX9_ones_15 ?_
      refine go_istore_nL (pc := 16) (L := fun x2 => [.ref 12451850, .null, .int x1, .int x2]) dX9_ones_16 (Nat.le_of_ble_eq_true rfl) rfl (fun _ => rfl) (fun x2 => ?_)
      refine go_goto (pc := 17) 4 dX9_ones_17 (by decide) ?_
      exact ih x1 x2
theorem o_M_ones (p1 : Int32) (M : Mem) : Ct sRM g_M_ones (fRi M) [.ref 12451850, .int p1] (f_M_ones p1 M) M := by
  refine ⟨Nat.le_of_ble_eq_true rfl, ?_⟩
  show Go sRM g_M_ones (fRi M) (f_M_ones p1 M) 0 [.ref 12451850, .int p1, .null, .null] [] M
  refine go_def (f_M_ones.eq_1 ..) ?_
  refine go_iconst (pc := 0) 0 dX9_ones_0 ki_0 ?_
  refine go_istore_n (pc := 1) (ls' := [.ref 12451850, .int p1, .int 0, .null]) dX9_ones_1 (Nat.le_of_ble_eq_true rfl) rfl rfl ?_
  refine go_iload_n (pc := 2) dX9_ones_2 rfl ?_
  refine go_istore_n (pc := 3) (ls' := [.ref 12451850, .int p1, .int 0, .int p1]) dX9_ones_3 (Nat.le_of_ble_eq_true rfl) rfl rfl ?_
  refine go_sub (ls' := [.ref 12451850, .null, .int 0, .int p1]) ⟨Or.inr rfl, Or.inl rfl, Or.inr rfl, Or.inr rfl, trivial⟩ ?_
  exact o_M_ones_l4 M 200 0 p1
def f_M_swapCuts_l2 : Nat → Int32 → Int32 → Int32 → Mem → Option Mem
  | 0, _, _, _, _ => none
  | n + 1, v1, v2, v3, M => if 6 ≤ v3 then some M else gd (inR ((6 * v1) + v3) 24) (lt (mI M 13632267 ((6 * v1) + v3).toNatClampNeg) fun x1 => gd (inR ((6 * v2) + v3) 24) (gd (inR ((6 * v1) + v3) 24) (lt (setI M 13632267 ((6 * v1) + v3).toNatClampNeg (mI M 13632267 ((6 * v2) + v3).toNatClampNeg)) fun M2 => gd (inR ((6 * v2) + v3) 24) (lt (setI M2 13632267 ((6 * v2) + v3).toNatClampNeg x1) fun M3 => lt (v3 + 1) fun x4 => f_M_swapCuts_l2 n v1 v2 x4 M3))))
def f_M_swapCuts (p1 : Int32) (p2 : Int32) (M : Mem) : Option Mem := f_M_swapCuts_l2 200 p1 p2 0 M
theorem o_M_swapCuts_l2 : ∀ (n : Nat) (v1 : Int32) (v2 : Int32) (v3 : Int32) (M : Mem), Go sRM g_M_swapCuts fWv (f_M_swapCuts_l2 n v1 v2 v3 M) 2 [.ref 12451850, .int v1, .int v2, .int v3, .null] [] M := by
  intro n
  induction n with
  | zero =>
    intro v1 v2 v3 M
    exact go_def (f_M_swapCuts_l2.eq_1 ..) go_none
  | succ n ih =>
    intro v1 v2 v3 M
    refine go_def (f_M_swapCuts_l2.eq_2 ..) ?_
    refine go_iload_n (pc := 2) dX9_swapCuts_2 rfl ?_
    refine go_bipush (pc := 3) 6 dX9_swapCuts_3 kb_6 ?_
    refine go_icmpge (pc := 5) 62 dX9_swapCuts_5 (by decide) (fun _ => ?_) (fun _ => ?_)
    · exact go_ret dX9_swapCuts_62 rfl rfl rfl
    · refine go_aload_n (pc := 8) dX9_swapCuts_8 rfl ?_
      refine go_getS (pc := 9) 13632267 flX9_44 rfl rfl sM_10_11 (by decide) dX9_swapCuts_9 ?_
      refine go_bipush (pc := 12) 6 dX9_swapCuts_12 kb_6 ?_
      refine go_iload_n (pc := 14) dX9_swapCuts_14 rfl ?_
      refine go_imul (pc := 15) dX9_swapCuts_15 ?_
      refine go_iload_n (pc := 16) dX9_swapCuts_16 rfl ?_
      refine go_iadd (pc := 17) dX9_swapCuts_17 ?_
      refine go_iald (pc := 18) rfl rfl dX9_swapCuts_18 (fun _ => ?_)
      refine go_istoreL (pc := 19) (L := fun x1 => [.ref 12451850, .int v1, .int v2, .int v3, .int x1]) dX9_swapCuts_19 (Nat.le_of_ble_eq_true rfl) rfl (fun _ => rfl) (fun x1 => ?_)
      refine go_aload_n (pc := 21) dX9_swapCuts_21 rfl ?_
      refine go_getS (pc := 22) 13632267 flX9_44 rfl rfl sM_10_11 (by decide) dX9_swapCuts_22 ?_
      refine go_bipush (pc := 25) 6 dX9_swapCuts_25 kb_6 ?_
      refine go_iload_n (pc := 27) dX9_swapCuts_27 rfl ?_
      refine go_imul (pc := 28) dX9_swapCuts_28 ?_
      refine go_iload_n (pc := 29) dX9_swapCuts_29 rfl ?_
      refine go_iadd (pc := 30) dX9_swapCuts_30 ?_
      refine go_aload_n (pc := 31) dX9_swapCuts_31 rfl ?_
      refine go_getS (pc := 32) 13632267 flX9_44 rfl rfl sM_10_11 (by decide) dX9_swapCuts_32 ?_
      refine go_bipush (pc := 35) 6 dX9_swapCuts_35 kb_6 ?_
      refine go_iload_n (pc := 37) dX9_swapCuts_37 rfl ?_
      refine go_imul (pc := 38) dX9_swapCuts_38 ?_
      refine go_iload_n (pc := 39) dX9_swapCuts_39 rfl ?_
      refine go_iadd (pc := 40) dX9_swapCuts_40 ?_
      refine go_iald (pc := 41) rfl rfl dX9_swapCuts_41 (fun _ => ?_)
      refine go_iast (pc := 42) rfl rfl dX9_swapCuts_42 (fun _ M2 => ?_)
      refine go_aload_n (pc := 43) dX9_swapCuts_43 rfl ?_
      refine go_getS (pc := 44) 13632267 flX9_44 rfl rfl sM_10_11 (by decide) dX9_swapCuts_44 ?_
      refine go_bipush (pc := 47) 6 dX9_swapCuts_47 kb_6 ?_
      refine go_iload_n (pc := 49) dX9_swapCuts_49 rfl ?_
      refine go_imul (pc := 50) dX9_swapCuts_50 ?_
      refine go_iload_n (pc := 51) dX9_swapCuts_51 rfl ?_
      refine go_iadd (pc := 52) dX9_swapCuts_52 ?_
      refine go_iload (pc := 53) dX9_swapCuts_53 rfl ?_
      refine go_iast (pc := 55) rfl rfl dX9_swapCuts_55 (fun _ M3 => ?_)
      refine go_iincL (pc := 56) (L := fun x4 => [.ref 12451850, .int v1, .int v2, .int x4, .int x1]) 1 dX9_swapCuts_56 rfl ki_1 (Nat.le_of_ble_eq_true rfl) rfl (fun _ => rfl) (fun x4 => ?_)
      refine go_goto (pc := 59) 2 dX9_swapCuts_59 (by decide) ?_
      refine go_sub (ls' := [.ref 12451850, .int v1, .int v2, .int x4, .null]) ⟨Or.inr rfl, Or.inr rfl, Or.inr rfl, Or.inr rfl, Or.inl rfl, trivial⟩ ?_
      exact ih v1 v2 x4 M3
theorem o_M_swapCuts (p1 : Int32) (p2 : Int32) (M : Mem) : Ct sRM g_M_swapCuts fWv [.ref 12451850, .int p1, .int p2] (f_M_swapCuts p1 p2 M) M := by
  refine ⟨Nat.le_of_ble_eq_true rfl, ?_⟩
  show Go sRM g_M_swapCuts fWv (f_M_swapCuts p1 p2 M) 0 [.ref 12451850, .int p1, .int p2, .null, .null] [] M
  refine go_def (f_M_swapCuts.eq_1 ..) ?_
  refine go_iconst (pc := 0) 0 dX9_swapCuts_0 ki_0 ?_
  refine go_istore_n (pc := 1) (ls' := [.ref 12451850, .int p1, .int p2, .int 0, .null]) dX9_swapCuts_1 (Nat.le_of_ble_eq_true rfl) rfl rfl ?_
  exact o_M_swapCuts_l2 200 p1 p2 0 M
def f_M_areChanged (p1 : Int32) (p2 : Int32) (M : Mem) : Option (Int32 × Mem) := b2 (f_M_rubs p1 M) fun r2 M1 => bd (f_M_ones r2 M1) fun r3 => b2 (f_M_rubs p2 M1) fun r5 M4 => bd (f_M_ones r5 M4) fun r6 => lt (r3 + r6) fun x7 => bd (f_M_swapCuts p1 p2 M4) fun M8 => b2 (f_M_rubs p1 M8) fun r10 M9 => bd (f_M_ones r10 M9) fun r11 => b2 (f_M_rubs p2 M9) fun r13 M12 => bd (f_M_ones r13 M12) fun r14 => lt (r11 + r14) fun x15 => bd (f_M_swapCuts p1 p2 M12) fun M16 => if x7 ≤ x15 then some (0, M16) else some (1, M16)
theorem o_M_areChanged (p1 : Int32) (p2 : Int32) (M : Mem) : Ct sRM g_M_areChanged fWi [.ref 12451850, .int p1, .int p2] (f_M_areChanged p1 p2 M) M := by
  refine ⟨Nat.le_of_ble_eq_true rfl, ?_⟩
  show Go sRM g_M_areChanged fWi (f_M_areChanged p1 p2 M) 0 [.ref 12451850, .int p1, .int p2, .null, .null] [] M
  refine go_def (f_M_areChanged.eq_1 ..) ?_
  refine go_aload_n (pc := 0) dX9_areChanged_0 rfl ?_
  refine go_aload_n (pc := 1) dX9_areChanged_1 rfl ?_
  refine go_iload_n (pc := 2) dX9_areChanged_2 rfl ?_
  refine go_callV (pc := 3) (a := 12451850) (as := [.int p1]) (st := [.ref 12451850]) (o_M_rubs p1 M) ic_M_rubs ivX9_305 (rcvk (a := 12451850) (t := 10) rfl (by decide) (by decide) rfl) rfl (by decide) (Nat.le_of_ble_eq_true rfl) dX9_areChanged_3 (kWi fun r2 M1 => ?_)
  refine go_callV (pc := 6) (a := 12451850) (as := [.int r2]) (st := []) (o_M_ones r2 M1) ic_M_ones ivX9_362 (rcvk (a := 12451850) (t := 10) rfl (by decide) (by decide) rfl) rfl (by decide) (Nat.le_of_ble_eq_true rfl) dX9_areChanged_6 (kRi fun r3 => ?_)
  refine go_aload_n (pc := 9) dX9_areChanged_9 rfl ?_
  refine go_aload_n (pc := 10) dX9_areChanged_10 rfl ?_
  refine go_iload_n (pc := 11) dX9_areChanged_11 rfl ?_
  refine go_callV (pc := 12) (a := 12451850) (as := [.int p2]) (st := [.ref 12451850, .int r3]) (o_M_rubs p2 M1) ic_M_rubs ivX9_305 (rcvk (a := 12451850) (t := 10) rfl (by decide) (by decide) rfl) rfl (by decide) (Nat.le_of_ble_eq_true rfl) dX9_areChanged_12 (kWi fun r5 M4 => ?_)
  refine go_callV (pc := 15) (a := 12451850) (as := [.int r5]) (st := [.int r3]) (o_M_ones r5 M4) ic_M_ones ivX9_362 (rcvk (a := 12451850) (t := 10) rfl (by decide) (by decide) rfl) rfl (by decide) (Nat.le_of_ble_eq_true rfl) dX9_areChanged_15 (kRi fun r6 => ?_)
  refine go_iadd (pc := 18) dX9_areChanged_18 ?_
  refine go_istore_nL (pc := 19) (L := fun x7 => [.ref 12451850, .int p1, .int p2, .int x7, .null]) dX9_areChanged_19 (Nat.le_of_ble_eq_true rfl) rfl (fun _ => rfl) (fun x7 => ?_)
  refine go_aload_n (pc := 20) dX9_areChanged_20 rfl ?_
  refine go_iload_n (pc := 21) dX9_areChanged_21 rfl ?_
  refine go_iload_n (pc := 22) dX9_areChanged_22 rfl ?_
  refine go_callV (pc := 23) (a := 12451850) (as := [.int p1, .int p2]) (st := []) (o_M_swapCuts p1 p2 M4) ic_M_swapCuts ivX9_365 (rcvk (a := 12451850) (t := 10) rfl (by decide) (by decide) rfl) rfl (by decide) (Nat.le_of_ble_eq_true rfl) dX9_areChanged_23 (kWv fun M8 => ?_)
  refine go_aload_n (pc := 26) dX9_areChanged_26 rfl ?_
  refine go_aload_n (pc := 27) dX9_areChanged_27 rfl ?_
  refine go_iload_n (pc := 28) dX9_areChanged_28 rfl ?_
  refine go_callV (pc := 29) (a := 12451850) (as := [.int p1]) (st := [.ref 12451850]) (o_M_rubs p1 M8) ic_M_rubs ivX9_305 (rcvk (a := 12451850) (t := 10) rfl (by decide) (by decide) rfl) rfl (by decide) (Nat.le_of_ble_eq_true rfl) dX9_areChanged_29 (kWi fun r10 M9 => ?_)
  refine go_callV (pc := 32) (a := 12451850) (as := [.int r10]) (st := []) (o_M_ones r10 M9) ic_M_ones ivX9_362 (rcvk (a := 12451850) (t := 10) rfl (by decide) (by decide) rfl) rfl (by decide) (Nat.le_of_ble_eq_true rfl) dX9_areChanged_32 (kRi fun r11 => ?_)
  refine go_aload_n (pc := 35) dX9_areChanged_35 rfl ?_
  refine go_aload_n (pc := 36) dX9_areChanged_36 rfl ?_
  refine go_iload_n (pc := 37) dX9_areChanged_37 rfl ?_
  refine go_callV (pc := 38) (a := 12451850) (as := [.int p2]) (st := [.ref 12451850, .int r11]) (o_M_rubs p2 M9) ic_M_rubs ivX9_305 (rcvk (a := 12451850) (t := 10) rfl (by decide) (by decide) rfl) rfl (by decide) (Nat.le_of_ble_eq_true rfl) dX9_areChanged_38 (kWi fun r13 M12 => ?_)
  refine go_callV (pc := 41) (a := 12451850) (as := [.int r13]) (st := [.int r11]) (o_M_ones r13 M12) ic_M_ones ivX9_362 (rcvk (a := 12451850) (t := 10) rfl (by decide) (by decide) rfl) rfl (by decide) (Nat.le_of_ble_eq_true rfl) dX9_areChanged_41 (kRi fun r14 => ?_)
  refine go_iadd (pc := 44) dX9_areChanged_44 ?_
  refine go_istoreL (pc := 45) (L := fun x15 => [.ref 12451850, .int p1, .int p2, .int x7, .int x15]) dX9_areChanged_45 (Nat.le_of_ble_eq_true rfl) rfl (fun _ => rfl) (fun x15 => ?_)
  refine go_aload_n (pc := 47) dX9_areChanged_47 rfl ?_
  refine go_iload_n (pc := 48) dX9_areChanged_48 rfl ?_
  refine go_iload_n (pc := 49) dX9_areChanged_49 rfl ?_
  refine go_callV (pc := 50) (a := 12451850) (as := [.int p1, .int p2]) (st := []) (o_M_swapCuts p1 p2 M12) ic_M_swapCuts ivX9_365 (rcvk (a := 12451850) (t := 10) rfl (by decide) (by decide) rfl) rfl (by decide) (Nat.le_of_ble_eq_true rfl) dX9_areChanged_50 (kWv fun M16 => ?_)
  refine go_iload (pc := 53) dX9_areChanged_53 rfl ?_
  refine go_iload_n (pc := 55) dX9_areChanged_55 rfl ?_
  refine go_icmpge (pc := 56) 63 dX9_areChanged_56 (by decide) (fun _ => ?_) (fun _ => ?_)
  · refine go_iconst (pc := 63) 0 dX9_areChanged_63 ki_0 ?_
    exact go_ret dX9_areChanged_64 (rbz (Or.inl rfl)) rfl rfl
  · refine go_iconst (pc := 59) 1 dX9_areChanged_59 ki_1 ?_
    refine go_goto (pc := 60) 64 dX9_areChanged_60 (by decide) ?_
    exact go_ret dX9_areChanged_64 (rbz (Or.inr rfl)) rfl rfl
def f_M_changed_l35 (K20 : Int32 → Int32 → Int32 → Int32 → Mem → Option (Int32 × Mem)) : Nat → Int32 → Int32 → Int32 → Int32 → Int32 → Mem → Option (Int32 × Mem)
  | 0, _, _, _, _, _, _ => none
  | n + 1, v1, v2, v3, v4, v5, M => if (mI M 12451850 1) ≤ v5 then lt (v4 + 1) fun x2 => K20 v1 v2 v3 x2 M else b2 (f_M_areChanged v4 v5 M) fun r4 M3 => if r4 = 0 then lt (v5 + 1) fun x10 => f_M_changed_l35 K20 n v1 v2 v3 v4 x10 M3 else if v2 = 0 then lt ((10 * v4) + v5) fun x7 => lt (v2 + 1) fun x8 => lt (v5 + 1) fun x9 => f_M_changed_l35 K20 n v1 x8 x7 v4 x9 M3 else lt (v2 + 1) fun x5 => lt (v5 + 1) fun x6 => f_M_changed_l35 K20 n v1 x5 v3 v4 x6 M3
def f_M_changed_l20 : Nat → Int32 → Int32 → Int32 → Int32 → Mem → Option (Int32 × Mem)
  | 0, _, _, _, _, _ => none
  | n + 1, v1, v2, v3, v4, M => if (mI M 12451850 1) ≤ v4 then if v1 = 0 then some (v2, M) else some (v3, M) else lt (v4 + 1) fun x1 => f_M_changed_l35 (f_M_changed_l20 n) 200 v1 v2 v3 v4 x1 M
def f_M_changed (p1 : Int32) (M : Mem) : Option (Int32 × Mem) := if (f_M_in p1 0 1 M) = 0 then some ((-1), M) else f_M_changed_l20 200 p1 0 (-5) 0 M
theorem o_M_changed_l35 (K20 : Int32 → Int32 → Int32 → Int32 → Mem → Option (Int32 × Mem)) (hK20 : ∀ (y1 : Int32) (y2 : Int32) (y3 : Int32) (y4 : Int32) (M : Mem), Go sRM g_M_changed fWi (K20 y1 y2 y3 y4 M) 20 [.ref 12451850, .int y1, .int y2, .int y3, .int y4, .null] [] M) : ∀ (n : Nat) (v1 : Int32) (v2 : Int32) (v3 : Int32) (v4 : Int32) (v5 : Int32) (M : Mem), Go sRM g_M_changed fWi (f_M_changed_l35 K20 n v1 v2 v3 v4 v5 M) 35 [.ref 12451850, .int v1, .int v2, .int v3, .int v4, .int v5] [] M := by
  intro n
  induction n with
  | zero =>
    intro v1 v2 v3 v4 v5 M
    exact go_def (f_M_changed_l35.eq_1 ..) go_none
  | succ n ih =>
    intro v1 v2 v3 v4 v5 M
    refine go_def (f_M_changed_l35.eq_2 ..) ?_
    refine go_iload (pc := 35) dX9_changed_35 rfl ?_
    refine go_aload_n (pc := 37) dX9_changed_37 rfl ?_
    refine go_getI (pc := 38) flX9_13 rfl rfl dX9_changed_38 ?_
    refine go_icmpge (pc := 41) 80 dX9_changed_41 (by decide) (fun _ => ?_) (fun _ => ?_)
    · refine go_iincL (pc := 80) (L := fun x2 => [.ref 12451850, .int v1, .int v2, .int v3, .int x2, .int v5]) 1 dX9_changed_80 rfl ki_1 (Nat.le_of_ble_eq_true rfl) rfl (fun _ => rfl) (fun x2 => ?_)
      refine go_goto (pc := 83) 20 dX9_changed_83 (by decide) ?_
      refine go_sub (ls' := [.ref 12451850, .int v1, .int v2, .int v3, .int x2, .null]) ⟨Or.inr rfl, Or.inr rfl, Or.inr rfl, Or.inr rfl, Or.inr rfl, Or.inl rfl, trivial⟩ ?_
      exact hK20 v1 v2 v3 x2 M
    · refine go_aload_n (pc := 44) dX9_changed_44 rfl ?_
      refine go_iload (pc := 45) dX9_changed_45 rfl ?_
      refine go_iload (pc := 47) dX9_changed_47 rfl ?_
      refine go_callV (pc := 49) (a := 12451850) (as := [.int v4, .int v5]) (st := []) (o_M_areChanged v4 v5 M) ic_M_areChanged ivX9_369 (rcvk (a := 12451850) (t := 10) rfl (by decide) (by decide) rfl) rfl (by decide) (Nat.le_of_ble_eq_true rfl) dX9_changed_49 (kWi fun r4 M3 => ?_)
      refine go_ifne (pc := 52) 58 dX9_changed_52 (by decide) (fun _ => ?_) (fun _ => ?_)
      · refine go_goto (pc := 55) 74 dX9_changed_55 (by decide) ?_
        refine go_iincL (pc := 74) (L := fun x10 => [.ref 12451850, .int v1, .int v2, .int v3, .int v4, .int x10]) 1 dX9_changed_74 rfl ki_1 (Nat.le_of_ble_eq_true rfl) rfl (fun _ => rfl) (fun x10 => ?_)
        refine go_goto (pc := 77) 35 dX9_changed_77 (by decide) ?_
        exact ih v1 v2 v3 v4 x10 M3
      · refine go_iload_n (pc := 58) dX9_changed_58 rfl ?_
        refine go_ifne (pc := 59) 71 dX9_changed_59 (by decide) (fun _ => ?_) (fun _ => ?_)
        · refine go_bipush (pc := 62) 10 dX9_changed_62 kb_10 ?_
          refine go_iload (pc := 64) dX9_changed_64 rfl ?_
          refine go_imul (pc := 66) dX9_changed_66 ?_
          refine go_iload (pc := 67) dX9_changed_67 rfl ?_
          refine go_iadd (pc := 69) dX9_changed_69 ?_
          refine go_istore_nL (pc := 70) (L := fun x7 => [.ref 12451850, .int v1, .int v2, .int x7, .int v4, .int v5]) dX9_changed_70 (Nat.le_of_ble_eq_true rfl) rfl (fun _ => rfl) (fun x7 => ?_)
          refine go_iincL (pc := 71) (L := fun x8 => [.ref 12451850, .int v1, .int x8, .int x7, .int v4, .int v5]) 1 dX9_changed_71 rfl ki_1 (Nat.le_of_ble_eq_true rfl) rfl (fun _ => rfl) (fun x8 => ?_)
          refine go_iincL (pc := 74) (L := fun x9 => [.ref 12451850, .int v1, .int x8, .int x7, .int v4, .int x9]) 1 dX9_changed_74 rfl ki_1 (Nat.le_of_ble_eq_true rfl) rfl (fun _ => rfl) (fun x9 => ?_)
          refine go_goto (pc := 77) 35 dX9_changed_77 (by decide) ?_
          exact ih v1 x8 x7 v4 x9 M3
        · refine go_iincL (pc := 71) (L := fun x5 => [.ref 12451850, .int v1, .int x5, .int v3, .int v4, .int v5]) 1 dX9_changed_71 rfl ki_1 (Nat.le_of_ble_eq_true rfl) rfl (fun _ => rfl) (fun x5 => ?_)
          refine go_iincL (pc := 74) (L := fun x6 => [.ref 12451850, .int v1, .int x5, .int v3, .int v4, .int x6]) 1 dX9_changed_74 rfl ki_1 (Nat.le_of_ble_eq_true rfl) rfl (fun _ => rfl) (fun x6 => ?_)
          refine go_goto (pc := 77) 35 dX9_changed_77 (by decide) ?_
          exact ih v1 x5 v3 v4 x6 M3
theorem o_M_changed_l20 : ∀ (n : Nat) (v1 : Int32) (v2 : Int32) (v3 : Int32) (v4 : Int32) (M : Mem), Go sRM g_M_changed fWi (f_M_changed_l20 n v1 v2 v3 v4 M) 20 [.ref 12451850, .int v1, .int v2, .int v3, .int v4, .null] [] M := by
  intro n
  induction n with
  | zero =>
    intro v1 v2 v3 v4 M
    exact go_def (f_M_changed_l20.eq_1 ..) go_none
  | succ n ih =>
    intro v1 v2 v3 v4 M
    refine go_def (f_M_changed_l20.eq_2 ..) ?_
    refine go_iload (pc := 20) dX9_changed_20 rfl ?_
    refine go_aload_n (pc := 22) dX9_changed_22 rfl ?_
    refine go_getI (pc := 23) flX9_13 rfl rfl dX9_changed_23 ?_
    refine go_icmpge (pc := 26) 86 dX9_changed_26 (by decide) (fun _ => ?_) (fun _ => ?_)
    · refine go_iload_n (pc := 86) dX9_changed_86 rfl ?_
      refine go_ifne (pc := 87) 94 dX9_changed_87 (by decide) (fun _ => ?_) (fun _ => ?_)
      · refine go_iload_n (pc := 90) dX9_changed_90 rfl ?_
        refine go_goto (pc := 91) 95 dX9_changed_91 (by decide) ?_
        exact go_ret dX9_changed_95 rii rfl rfl
      · refine go_iload_n (pc := 94) dX9_changed_94 rfl ?_
        exact go_ret dX9_changed_95 rii rfl rfl
    · refine go_iload (pc := 29) dX9_changed_29 rfl ?_
      refine go_iconst (pc := 31) 1 dX9_changed_31 ki_1 ?_
      refine go_iadd (pc := 32) dX9_changed_32 ?_
      refine go_istoreL (pc := 33) (L := fun x1 => [.ref 12451850, .int v1, .int v2, .int v3, .int v4, .int x1]) dX9_changed_33 (Nat.le_of_ble_eq_true rfl) rfl (fun _ => rfl) (fun x1 => ?_)
      exact o_M_changed_l35 (f_M_changed_l20 n) ih 200 v1 v2 v3 v4 x1 M
theorem o_M_changed (p1 : Int32) (M : Mem) : Ct sRM g_M_changed fWi [.ref 12451850, .int p1] (f_M_changed p1 M) M := by
  refine ⟨Nat.le_of_ble_eq_true rfl, ?_⟩
  show Go sRM g_M_changed fWi (f_M_changed p1 M) 0 [.ref 12451850, .int p1, .null, .null, .null, .null] [] M
  refine go_def (f_M_changed.eq_1 ..) ?_
  refine go_aload_n (pc := 0) dX9_changed_0 rfl ?_
  refine go_iload_n (pc := 1) dX9_changed_1 rfl ?_
  refine go_iconst (pc := 2) 0 dX9_changed_2 ki_0 ?_
  refine go_iconst (pc := 3) 1 dX9_changed_3 ki_1 ?_
  refine go_T (v := f_M_in p1 0 1 M) ?_
  refine go_callV (pc := 4) (a := 12451850) (as := [.int p1, .int 0, .int 1]) (st := []) (o_M_in p1 0 1 M) ic_M_in ivX9_203 (rcvk (a := 12451850) (t := 10) rfl (by decide) (by decide) rfl) rfl (by decide) (Nat.le_of_ble_eq_true rfl) dX9_changed_4 (kTi ?_)
  refine go_ifne (pc := 7) 12 dX9_changed_7 (by decide) (fun _ => ?_) (fun _ => ?_)
  · refine go_iconst (pc := 10) (-1) dX9_changed_10 ki_m1 ?_
    exact go_ret dX9_changed_11 rii rfl rfl
  · refine go_iconst (pc := 12) 0 dX9_changed_12 ki_0 ?_
    refine go_istore_n (pc := 13) (ls' := [.ref 12451850, .int p1, .int 0, .null, .null, .null]) dX9_changed_13 (Nat.le_of_ble_eq_true rfl) rfl rfl ?_
    refine go_bipush (pc := 14) (-5) dX9_changed_14 kb_m5 ?_
    refine go_istore_n (pc := 16) (ls' := [.ref 12451850, .int p1, .int 0, .int (-5), .null, .null]) dX9_changed_16 (Nat.le_of_ble_eq_true rfl) rfl rfl ?_
    refine go_iconst (pc := 17) 0 dX9_changed_17 ki_0 ?_
    refine go_istore (pc := 18) (ls' := [.ref 12451850, .int p1, .int 0, .int (-5), .int 0, .null]) dX9_changed_18 (Nat.le_of_ble_eq_true rfl) rfl rfl ?_
    exact o_M_changed_l20 200 p1 0 (-5) 0 M
def f_M_book (p1 : Int32) (p2 : Int32) (M : Mem) : Option (Int32 × Mem) := if p1 = (-1) then lt (setI M 12451850 37 0) fun M4 => some (0, M4) else if (f_M_isSpot p1 M) = 0 then some ((-1), M) else if (f_M_in p2 (-99) 99 M) = 0 then some ((-2), M) else if (mI M 12451850 37) = 12 then some ((-4), M) else gd (inR (mI M 12451850 37) 12) (lt (setI M 15466891 (mI M 12451850 37).toNatClampNeg p1) fun M1 => gd (inR (mI M1 12451850 37) 12) (lt (setI M1 15597963 (mI M1 12451850 37).toNatClampNeg p2) fun M2 => lt (setI M2 12451850 37 ((mI M2 12451850 37) + 1)) fun M3 => some (mI M3 12451850 37, M3)))
theorem o_M_book (p1 : Int32) (p2 : Int32) (M : Mem) : Ct sRM g_M_book fWi [.ref 12451850, .int p1, .int p2] (f_M_book p1 p2 M) M := by
  refine ⟨Nat.le_of_ble_eq_true rfl, ?_⟩
  show Go sRM g_M_book fWi (f_M_book p1 p2 M) 0 [.ref 12451850, .int p1, .int p2] [] M
  refine go_def (f_M_book.eq_1 ..) ?_
  refine go_iload_n (pc := 0) dX9_book_0 rfl ?_
  refine go_iconst (pc := 1) (-1) dX9_book_1 ki_m1 ?_
  refine go_icmpne (pc := 2) 12 dX9_book_2 (by decide) (fun _ => ?_) (fun _ => ?_)
  · refine go_aload_n (pc := 5) dX9_book_5 rfl ?_
    refine go_iconst (pc := 6) 0 dX9_book_6 ki_0 ?_
    refine go_putI (pc := 7) flX9_123 rfl (Or.inl rfl) ⟨rfl, rfl⟩ rfl dX9_book_7 (fun M4 => ?_)
    refine go_iconst (pc := 10) 0 dX9_book_10 ki_0 ?_
    exact go_ret dX9_book_11 rii rfl rfl
  · refine go_aload_n (pc := 12) dX9_book_12 rfl ?_
    refine go_iload_n (pc := 13) dX9_book_13 rfl ?_
    refine go_T (v := f_M_isSpot p1 M) ?_
    refine go_callV (pc := 14) (a := 12451850) (as := [.int p1]) (st := []) (o_M_isSpot p1 M) ic_M_isSpot ivX9_321 (rcvk (a := 12451850) (t := 10) rfl (by decide) (by decide) rfl) rfl (by decide) (Nat.le_of_ble_eq_true rfl) dX9_book_14 (kTi ?_)
    refine go_ifne (pc := 17) 22 dX9_book_17 (by decide) (fun _ => ?_) (fun _ => ?_)
    · refine go_iconst (pc := 20) (-1) dX9_book_20 ki_m1 ?_
      exact go_ret dX9_book_21 rii rfl rfl
    · refine go_aload_n (pc := 22) dX9_book_22 rfl ?_
      refine go_iload_n (pc := 23) dX9_book_23 rfl ?_
      refine go_bipush (pc := 24) (-99) dX9_book_24 kb_m99 ?_
      refine go_bipush (pc := 26) 99 dX9_book_26 kb_99 ?_
      refine go_T (v := f_M_in p2 (-99) 99 M) ?_
      refine go_callV (pc := 28) (a := 12451850) (as := [.int p2, .int (-99), .int 99]) (st := []) (o_M_in p2 (-99) 99 M) ic_M_in ivX9_203 (rcvk (a := 12451850) (t := 10) rfl (by decide) (by decide) rfl) rfl (by decide) (Nat.le_of_ble_eq_true rfl) dX9_book_28 (kTi ?_)
      refine go_ifne (pc := 31) 37 dX9_book_31 (by decide) (fun _ => ?_) (fun _ => ?_)
      · refine go_bipush (pc := 34) (-2) dX9_book_34 kb_m2 ?_
        exact go_ret dX9_book_36 rii rfl rfl
      · refine go_aload_n (pc := 37) dX9_book_37 rfl ?_
        refine go_getI (pc := 38) flX9_123 rfl rfl dX9_book_38 ?_
        refine go_bipush (pc := 41) 12 dX9_book_41 kb_12 ?_
        refine go_icmpne (pc := 43) 49 dX9_book_43 (by decide) (fun _ => ?_) (fun _ => ?_)
        · refine go_bipush (pc := 46) (-4) dX9_book_46 kb_m4 ?_
          exact go_ret dX9_book_48 rii rfl rfl
        · refine go_aload_n (pc := 49) dX9_book_49 rfl ?_
          refine go_getS (pc := 50) 15466891 flX9_126 rfl rfl sM_10_38 (by decide) dX9_book_50 ?_
          refine go_aload_n (pc := 53) dX9_book_53 rfl ?_
          refine go_getI (pc := 54) flX9_123 rfl rfl dX9_book_54 ?_
          refine go_iload_n (pc := 57) dX9_book_57 rfl ?_
          refine go_iast (pc := 58) rfl rfl dX9_book_58 (fun _ M1 => ?_)
          refine go_aload_n (pc := 59) dX9_book_59 rfl ?_
          refine go_getS (pc := 60) 15597963 flX9_129 rfl rfl sM_10_39 (by decide) dX9_book_60 ?_
          refine go_aload_n (pc := 63) dX9_book_63 rfl ?_
          refine go_getI (pc := 64) flX9_123 rfl rfl dX9_book_64 ?_
          refine go_iload_n (pc := 67) dX9_book_67 rfl ?_
          refine go_iast (pc := 68) rfl rfl dX9_book_68 (fun _ M2 => ?_)
          refine go_aload_n (pc := 69) dX9_book_69 rfl ?_
          refine go_dup (pc := 70) dX9_book_70 rfl ?_
          refine go_getI (pc := 71) flX9_123 rfl rfl dX9_book_71 ?_
          refine go_iconst (pc := 74) 1 dX9_book_74 ki_1 ?_
          refine go_iadd (pc := 75) dX9_book_75 ?_
          refine go_putI (pc := 76) flX9_123 rfl (Or.inl rfl) ⟨rfl, rfl⟩ rfl dX9_book_76 (fun M3 => ?_)
          refine go_aload_n (pc := 79) dX9_book_79 rfl ?_
          refine go_getI (pc := 80) flX9_123 rfl rfl dX9_book_80 ?_
          exact go_ret dX9_book_83 rii rfl rfl
def f_M_looked_b56 (K34 : Int32 → Int32 → Int32 → Int32 → Mem → Option (Int32 × Mem)) (v1 : Int32) (v2 : Int32) (v4 : Int32) (M : Mem) : Option (Int32 × Mem) := gd (inR v4 12) (b2 (f_M_gap v1 (mI M 15466891 v4.toNatClampNeg) M) fun r6 M5 => gd (inR v4 12) (if (f_M_in (r6 - (mI M5 15597963 v4.toNatClampNeg)) (-v2) v2 M5) = 0 then lt (v4 + 1) fun x7 => K34 v1 v2 v4 x7 M5 else lt (v4 + 1) fun x8 => K34 v1 v2 (-5) x8 M5))
def f_M_looked_l34 : Nat → Int32 → Int32 → Int32 → Int32 → Mem → Option (Int32 × Mem)
  | 0, _, _, _, _, _ => none
  | n + 1, v1, v2, v3, v4, M => if (mI M 12451850 37) ≤ v4 then bd (f_M_putBack M) fun M2 => some (v3, M2) else if 0 ≤ v3 then bd (f_M_putBack M) fun M3 => some (v3, M3) else if v4 ≤ 0 then f_M_looked_b56 (f_M_looked_l34 n) v1 v2 v4 M else bd (f_M_goOn M) fun M4 => f_M_looked_b56 (f_M_looked_l34 n) v1 v2 v4 M4
def f_M_looked (p1 : Int32) (p2 : Int32) (M : Mem) : Option (Int32 × Mem) := if (f_M_isDoor p1 M) = 0 then some ((-1), M) else if (f_M_in p2 0 9 M) = 0 then some ((-2), M) else bd (f_M_keep M) fun M1 => f_M_looked_l34 200 p1 p2 (-5) 0 M1
theorem o_M_looked_b56 (K34 : Int32 → Int32 → Int32 → Int32 → Mem → Option (Int32 × Mem)) (hK34 : ∀ (y1 : Int32) (y2 : Int32) (y3 : Int32) (y4 : Int32) (M : Mem), Go sRM g_M_looked fWi (K34 y1 y2 y3 y4 M) 34 [.ref 12451850, .int y1, .int y2, .int y3, .int y4] [] M) (v1 : Int32) (v2 : Int32) (v4 : Int32) (M : Mem) : Go sRM g_M_looked fWi (f_M_looked_b56 K34 v1 v2 v4 M) 56 [.ref 12451850, .int v1, .int v2, .null, .int v4] [] M := by
  refine go_def (f_M_looked_b56.eq_1 ..) ?_
  refine go_aload_n (pc := 56) dX9_looked_56 rfl ?_
  refine go_aload_n (pc := 57) dX9_looked_57 rfl ?_
  refine go_iload_n (pc := 58) dX9_looked_58 rfl ?_
  refine go_aload_n (pc := 59) dX9_looked_59 rfl ?_
  refine go_getS (pc := 60) 15466891 flX9_126 rfl rfl sM_10_38 (by decide) dX9_looked_60 ?_
  refine go_iload (pc := 63) dX9_looked_63 rfl ?_
  refine go_iald (pc := 65) rfl rfl dX9_looked_65 (fun _ => ?_)
  refine go_callV (pc := 66) (a := 12451850) (as := [.int v1, .int (mI M 15466891 v4.toNatClampNeg)]) (st := [.ref 12451850]) (o_M_gap v1 (mI M 15466891 v4.toNatClampNeg) M) ic_M_gap ivX9_299 (rcvk (a := 12451850) (t := 10) rfl (by decide) (by decide) rfl) rfl (by decide) (Nat.le_of_ble_eq_true rfl) dX9_looked_66 (kWi fun r6 M5 => ?_)
  refine go_aload_n (pc := 69) dX9_looked_69 rfl ?_
  refine go_getS (pc := 70) 15597963 flX9_129 rfl rfl sM_10_39 (by decide) dX9_looked_70 ?_
  refine go_iload (pc := 73) dX9_looked_73 rfl ?_
  refine go_iald (pc := 75) rfl rfl dX9_looked_75 (fun _ => ?_)
  refine go_isub (pc := 76) dX9_looked_76 ?_
  refine go_iload_n (pc := 77) dX9_looked_77 rfl ?_
  refine go_ineg (pc := 78) dX9_looked_78 ?_
  refine go_iload_n (pc := 79) dX9_looked_79 rfl ?_
  refine go_T (v := f_M_in (r6 - (mI M5 15597963 v4.toNatClampNeg)) (-v2) v2 M5) ?_
  refine go_callV (pc := 80) (a := 12451850) (as := [.int (r6 - (mI M5 15597963 v4.toNatClampNeg)), .int (-v2), .int v2]) (st := []) (o_M_in (r6 - (mI M5 15597963 v4.toNatClampNeg)) (-v2) v2 M5) ic_M_in ivX9_203 (rcvk (a := 12451850) (t := 10) rfl (by decide) (by decide) rfl) rfl (by decide) (Nat.le_of_ble_eq_true rfl) dX9_looked_80 (kTi ?_)
  refine go_ifeq (pc := 83) 91 dX9_looked_83 (by decide) (fun _ => ?_) (fun _ => ?_)
  · refine go_iload (pc := 91) dX9_looked_91 rfl ?_
    refine go_istore_n (pc := 93) (ls' := [.ref 12451850, .int v1, .int v2, .int v4, .int v4]) dX9_looked_93 (Nat.le_of_ble_eq_true rfl) rfl rfl ?_
    refine go_iincL (pc := 94) (L := fun x7 => [.ref 12451850, .int v1, .int v2, .int v4, .int x7]) 1 dX9_looked_94 rfl ki_1 (Nat.le_of_ble_eq_true rfl) rfl (fun _ => rfl) (fun x7 => ?_)
    refine go_goto (pc := 97) 34 dX9_looked_97 (by decide) ?_
    exact hK34 v1 v2 v4 x7 M5
  · refine go_bipush (pc := 86) (-5) dX9_looked_86 kb_m5 ?_
    refine go_goto (pc := 88) 93 dX9_looked_88 (by decide) ?_
    refine go_istore_n (pc := 93) (ls' := [.ref 12451850, .int v1, .int v2, .int (-5), .int v4]) dX9_looked_93 (Nat.le_of_ble_eq_true rfl) rfl rfl ?_
    refine go_iincL (pc := 94) (L := fun x8 => [.ref 12451850, .int v1, .int v2, .int (-5), .int x8]) 1 dX9_looked_94 rfl ki_1 (Nat.le_of_ble_eq_true rfl) rfl (fun _ => rfl) (fun x8 => ?_)
    refine go_goto (pc := 97) 34 dX9_looked_97 (by decide) ?_
    exact hK34 v1 v2 (-5) x8 M5
theorem o_M_looked_l34 : ∀ (n : Nat) (v1 : Int32) (v2 : Int32) (v3 : Int32) (v4 : Int32) (M : Mem), Go sRM g_M_looked fWi (f_M_looked_l34 n v1 v2 v3 v4 M) 34 [.ref 12451850, .int v1, .int v2, .int v3, .int v4] [] M := by
  intro n
  induction n with
  | zero =>
    intro v1 v2 v3 v4 M
    exact go_def (f_M_looked_l34.eq_1 ..) go_none
  | succ n ih =>
    intro v1 v2 v3 v4 M
    refine go_def (f_M_looked_l34.eq_2 ..) ?_
    refine go_iload (pc := 34) dX9_looked_34 rfl ?_
    refine go_aload_n (pc := 36) dX9_looked_36 rfl ?_
    refine go_getI (pc := 37) flX9_123 rfl rfl dX9_looked_37 ?_
    refine go_icmpge (pc := 40) 100 dX9_looked_40 (by decide) (fun _ => ?_) (fun _ => ?_)
    · refine go_aload_n (pc := 100) dX9_looked_100 rfl ?_
      refine go_callV (pc := 101) (a := 12451850) (as := []) (st := []) (o_M_putBack M) ic_M_putBack ivX9_340 (rcvk (a := 12451850) (t := 10) rfl (by decide) (by decide) rfl) rfl (by decide) (Nat.le_of_ble_eq_true rfl) dX9_looked_101 (kWv fun M2 => ?_)
      refine go_iload_n (pc := 104) dX9_looked_104 rfl ?_
      exact go_ret dX9_looked_105 rii rfl rfl
    · refine go_iload_n (pc := 43) dX9_looked_43 rfl ?_
      refine go_ifge (pc := 44) 100 dX9_looked_44 (by decide) (fun _ => ?_) (fun _ => ?_)
      · refine go_aload_n (pc := 100) dX9_looked_100 rfl ?_
        refine go_callV (pc := 101) (a := 12451850) (as := []) (st := []) (o_M_putBack M) ic_M_putBack ivX9_340 (rcvk (a := 12451850) (t := 10) rfl (by decide) (by decide) rfl) rfl (by decide) (Nat.le_of_ble_eq_true rfl) dX9_looked_101 (kWv fun M3 => ?_)
        refine go_iload_n (pc := 104) dX9_looked_104 rfl ?_
        exact go_ret dX9_looked_105 rii rfl rfl
      · refine go_iload (pc := 47) dX9_looked_47 rfl ?_
        refine go_ifle (pc := 49) 56 dX9_looked_49 (by decide) (fun _ => ?_) (fun _ => ?_)
        · refine go_sub (ls' := [.ref 12451850, .int v1, .int v2, .null, .int v4]) ⟨Or.inr rfl, Or.inr rfl, Or.inr rfl, Or.inl rfl, Or.inr rfl, trivial⟩ ?_
          exact o_M_looked_b56 (f_M_looked_l34 n) ih v1 v2 v4 M
        · refine go_aload_n (pc := 52) dX9_looked_52 rfl ?_
          refine go_callV (pc := 53) (a := 12451850) (as := []) (st := []) (o_M_goOn M) ic_M_goOn ivX9_318 (rcvk (a := 12451850) (t := 10) rfl (by decide) (by decide) rfl) rfl (by decide) (Nat.le_of_ble_eq_true rfl) dX9_looked_53 (kWv fun M4 => ?_)
          refine go_sub (ls' := [.ref 12451850, .int v1, .int v2, .null, .int v4]) ⟨Or.inr rfl, Or.inr rfl, Or.inr rfl, Or.inl rfl, Or.inr rfl, trivial⟩ ?_
          exact o_M_looked_b56 (f_M_looked_l34 n) ih v1 v2 v4 M4
theorem o_M_looked (p1 : Int32) (p2 : Int32) (M : Mem) : Ct sRM g_M_looked fWi [.ref 12451850, .int p1, .int p2] (f_M_looked p1 p2 M) M := by
  refine ⟨Nat.le_of_ble_eq_true rfl, ?_⟩
  show Go sRM g_M_looked fWi (f_M_looked p1 p2 M) 0 [.ref 12451850, .int p1, .int p2, .null, .null] [] M
  refine go_def (f_M_looked.eq_1 ..) ?_
  refine go_aload_n (pc := 0) dX9_looked_0 rfl ?_
  refine go_iload_n (pc := 1) dX9_looked_1 rfl ?_
  refine go_T (v := f_M_isDoor p1 M) ?_
  refine go_callV (pc := 2) (a := 12451850) (as := [.int p1]) (st := []) (o_M_isDoor p1 M) ic_M_isDoor ivX9_207 (rcvk (a := 12451850) (t := 10) rfl (by decide) (by decide) rfl) rfl (by decide) (Nat.le_of_ble_eq_true rfl) dX9_looked_2 (kTi ?_)
  refine go_ifne (pc := 5) 10 dX9_looked_5 (by decide) (fun _ => ?_) (fun _ => ?_)
  · refine go_iconst (pc := 8) (-1) dX9_looked_8 ki_m1 ?_
    exact go_ret dX9_looked_9 rii rfl rfl
  · refine go_aload_n (pc := 10) dX9_looked_10 rfl ?_
    refine go_iload_n (pc := 11) dX9_looked_11 rfl ?_
    refine go_iconst (pc := 12) 0 dX9_looked_12 ki_0 ?_
    refine go_bipush (pc := 13) 9 dX9_looked_13 kb_9 ?_
    refine go_T (v := f_M_in p2 0 9 M) ?_
    refine go_callV (pc := 15) (a := 12451850) (as := [.int p2, .int 0, .int 9]) (st := []) (o_M_in p2 0 9 M) ic_M_in ivX9_203 (rcvk (a := 12451850) (t := 10) rfl (by decide) (by decide) rfl) rfl (by decide) (Nat.le_of_ble_eq_true rfl) dX9_looked_15 (kTi ?_)
    refine go_ifne (pc := 18) 24 dX9_looked_18 (by decide) (fun _ => ?_) (fun _ => ?_)
    · refine go_bipush (pc := 21) (-2) dX9_looked_21 kb_m2 ?_
      exact go_ret dX9_looked_23 rii rfl rfl
    · refine go_aload_n (pc := 24) dX9_looked_24 rfl ?_
      refine go_callV (pc := 25) (a := 12451850) (as := []) (st := []) (o_M_keep M) ic_M_keep ivX9_337 (rcvk (a := 12451850) (t := 10) rfl (by decide) (by decide) rfl) rfl (by decide) (Nat.le_of_ble_eq_true rfl) dX9_looked_25 (kWv fun M1 => ?_)
      refine go_bipush (pc := 28) (-5) dX9_looked_28 kb_m5 ?_
      refine go_istore_n (pc := 30) (ls' := [.ref 12451850, .int p1, .int p2, .int (-5), .null]) dX9_looked_30 (Nat.le_of_ble_eq_true rfl) rfl rfl ?_
      refine go_iconst (pc := 31) 0 dX9_looked_31 ki_0 ?_
      refine go_istore (pc := 32) (ls' := [.ref 12451850, .int p1, .int p2, .int (-5), .int 0]) dX9_looked_32 (Nat.le_of_ble_eq_true rfl) rfl rfl ?_
      exact o_M_looked_l34 200 p1 p2 (-5) 0 M1
def f_M_isTape (p1 : Int32) (M : Mem) : Int32 := f_M_in p1 0 5 M
theorem o_M_isTape (p1 : Int32) (M : Mem) : Ct sRM g_M_isTape (fRi M) [.ref 12451850, .int p1] (some (f_M_isTape p1 M)) M := by
  refine ⟨Nat.le_of_ble_eq_true rfl, ?_⟩
  show Go sRM g_M_isTape (fRi M) (some (f_M_isTape p1 M)) 0 [.ref 12451850, .int p1] [] M
  refine go_def (congrArg some (f_M_isTape.eq_1 ..)) ?_
  refine go_aload_n (pc := 0) dX9_isTape_0 rfl ?_
  refine go_iload_n (pc := 1) dX9_isTape_1 rfl ?_
  refine go_iconst (pc := 2) 0 dX9_isTape_2 ki_0 ?_
  refine go_iconst (pc := 3) 5 dX9_isTape_3 ki_5 ?_
  refine go_T (v := f_M_in p1 0 5 M) ?_
  refine go_callV (pc := 4) (a := 12451850) (as := [.int p1, .int 0, .int 5]) (st := []) (o_M_in p1 0 5 M) ic_M_in ivX9_203 (rcvk (a := 12451850) (t := 10) rfl (by decide) (by decide) rfl) rfl (by decide) (Nat.le_of_ble_eq_true rfl) dX9_isTape_4 (kTi ?_)
  exact go_ret dX9_isTape_7 (rbz (o_M_in_b p1 0 5 M)) rfl rfl
theorem o_M_isTape_b (p1 : Int32) (M : Mem) : f_M_isTape p1 M = 0 ∨ f_M_isTape p1 M = 1 := by
  unfold f_M_isTape
  first | exact o_M_in_b p1 0 5 M | (repeat' split) <;> first | exact Or.inl rfl | exact Or.inr rfl | assumption | exact o_M_in_b ..
def f_M_judge_l43 : Nat → Int32 → Int32 → Int32 → Int32 → Mem → Option (Int32 × Mem)
  | 0, _, _, _, _, _ => none
  | n + 1, v1, v2, v3, v4, M => if 6 ≤ v4 then some ((-5), M) else gd (inR v1 6) (if (mI M 17301707 v1.toNatClampNeg) < 0 then some (100 + v4, M) else if v2 < 0 then some (100 + v4, M) else gd (inR v1 6) (if v2 ≤ (((mI M 17432779 v1.toNatClampNeg) - v4) - 1) then gd (inR (((60 * v1) + v2) + v4) 360) (b2 (f_M_gap v3 v4 M) fun r2 M1 => if (lg_cmp (mL M 17575180 (((60 * v1) + v2) + v4).toNatClampNeg) r2.toInt64) = 0 then lt (v4 + 1) fun x3 => f_M_judge_l43 n v1 v2 v3 x3 M1 else some (v4, M1)) else some (100 + v4, M)))
def f_M_judge_b40 (v1 : Int32) (v2 : Int32) (v3 : Int32) (M : Mem) : Option (Int32 × Mem) := f_M_judge_l43 200 v1 v2 v3 0 M
def f_M_judge (p1 : Int32) (p2 : Int32) (p3 : Int32) (M : Mem) : Option (Int32 × Mem) := if (f_M_isTape p1 M) = 0 then some ((-1), M) else if (f_M_isDoor p3 M) = 0 then some ((-1), M) else gd (inR p1 6) (if (mI M 17301707 p1.toNatClampNeg) < 0 then f_M_judge_b40 p1 p2 p3 M else gd (inR p1 6) (if (mI M 17301707 p1.toNatClampNeg) = 1 then f_M_judge_b40 p1 p2 p3 M else some ((-12), M)))
theorem o_M_judge_l43 : ∀ (n : Nat) (v1 : Int32) (v2 : Int32) (v3 : Int32) (v4 : Int32) (M : Mem), Go sRM g_M_judge fWi (f_M_judge_l43 n v1 v2 v3 v4 M) 43 [.ref 12451850, .int v1, .int v2, .int v3, .int v4] [] M := by
  intro n
  induction n with
  | zero =>
    intro v1 v2 v3 v4 M
    exact go_def (f_M_judge_l43.eq_1 ..) go_none
  | succ n ih =>
    intro v1 v2 v3 v4 M
    refine go_def (f_M_judge_l43.eq_2 ..) ?_
    refine go_iload (pc := 43) dX9_judge_43 rfl ?_
    refine go_bipush (pc := 45) 6 dX9_judge_45 kb_6 ?_
    refine go_icmpge (pc := 47) 119 dX9_judge_47 (by decide) (fun _ => ?_) (fun _ => ?_)
    · refine go_bipush (pc := 119) (-5) dX9_judge_119 kb_m5 ?_
      exact go_ret dX9_judge_121 rii rfl rfl
    · refine go_aload_n (pc := 50) dX9_judge_50 rfl ?_
      refine go_getS (pc := 51) 17301707 flX9_190 rfl rfl sM_10_59 (by decide) dX9_judge_51 ?_
      refine go_iload_n (pc := 54) dX9_judge_54 rfl ?_
      refine go_iald (pc := 55) rfl rfl dX9_judge_55 (fun _ => ?_)
      refine go_iflt (pc := 56) 78 dX9_judge_56 (by decide) (fun _ => ?_) (fun _ => ?_)
      · refine go_bipush (pc := 78) 100 dX9_judge_78 kb_100 ?_
        refine go_iload (pc := 80) dX9_judge_80 rfl ?_
        refine go_iadd (pc := 82) dX9_judge_82 ?_
        exact go_ret dX9_judge_83 rii rfl rfl
      · refine go_iload_n (pc := 59) dX9_judge_59 rfl ?_
        refine go_iflt (pc := 60) 78 dX9_judge_60 (by decide) (fun _ => ?_) (fun _ => ?_)
        · refine go_bipush (pc := 78) 100 dX9_judge_78 kb_100 ?_
          refine go_iload (pc := 80) dX9_judge_80 rfl ?_
          refine go_iadd (pc := 82) dX9_judge_82 ?_
          exact go_ret dX9_judge_83 rii rfl rfl
        · refine go_iload_n (pc := 63) dX9_judge_63 rfl ?_
          refine go_aload_n (pc := 64) dX9_judge_64 rfl ?_
          refine go_getS (pc := 65) 17432779 flX9_193 rfl rfl sM_10_60 (by decide) dX9_judge_65 ?_
          refine go_iload_n (pc := 68) dX9_judge_68 rfl ?_
          refine go_iald (pc := 69) rfl rfl dX9_judge_69 (fun _ => ?_)
          refine go_iload (pc := 70) dX9_judge_70 rfl ?_
          refine go_isub (pc := 72) dX9_judge_72 ?_
          refine go_iconst (pc := 73) 1 dX9_judge_73 ki_1 ?_
          refine go_isub (pc := 74) dX9_judge_74 ?_
          refine go_icmple (pc := 75) 84 dX9_judge_75 (by decide) (fun _ => ?_) (fun _ => ?_)
          · refine go_aload_n (pc := 84) dX9_judge_84 rfl ?_
            refine go_getS (pc := 85) 17575180 flX9_196 rfl rfl sM_10_61 (by decide) dX9_judge_85 ?_
            refine go_bipush (pc := 88) 60 dX9_judge_88 kb_60 ?_
            refine go_iload_n (pc := 90) dX9_judge_90 rfl ?_
            refine go_imul (pc := 91) dX9_judge_91 ?_
            refine go_iload_n (pc := 92) dX9_judge_92 rfl ?_
            refine go_iadd (pc := 93) dX9_judge_93 ?_
            refine go_iload (pc := 94) dX9_judge_94 rfl ?_
            refine go_iadd (pc := 96) dX9_judge_96 ?_
            refine go_lald (pc := 97) rfl rfl dX9_judge_97 (fun _ => ?_)
            refine go_aload_n (pc := 98) dX9_judge_98 rfl ?_
            refine go_iload_n (pc := 99) dX9_judge_99 rfl ?_
            refine go_iload (pc := 100) dX9_judge_100 rfl ?_
            refine go_callV (pc := 102) (a := 12451850) (as := [.int v3, .int v4]) (st := [.long (mL M 17575180 (((60 * v1) + v2) + v4).toNatClampNeg)]) (o_M_gap v3 v4 M) ic_M_gap ivX9_299 (rcvk (a := 12451850) (t := 10) rfl (by decide) (by decide) rfl) rfl (by decide) (Nat.le_of_ble_eq_true rfl) dX9_judge_102 (kWi fun r2 M1 => ?_)
            refine go_i2l (pc := 105) dX9_judge_105 ?_
            refine go_lcmp (pc := 106) dX9_judge_106 ?_
            refine go_ifeq (pc := 107) 113 dX9_judge_107 (by decide) (fun _ => ?_) (fun _ => ?_)
            · refine go_iincL (pc := 113) (L := fun x3 => [.ref 12451850, .int v1, .int v2, .int v3, .int x3]) 1 dX9_judge_113 rfl ki_1 (Nat.le_of_ble_eq_true rfl) rfl (fun _ => rfl) (fun x3 => ?_)
              refine go_goto (pc := 116) 43 dX9_judge_116 (by decide) ?_
              exact ih v1 v2 v3 x3 M1
            · refine go_iload (pc := 110) dX9_judge_110 rfl ?_
              exact go_ret dX9_judge_112 rii rfl rfl
          · refine go_bipush (pc := 78) 100 dX9_judge_78 kb_100 ?_
            refine go_iload (pc := 80) dX9_judge_80 rfl ?_
            refine go_iadd (pc := 82) dX9_judge_82 ?_
            exact go_ret dX9_judge_83 rii rfl rfl
theorem o_M_judge_b40 (v1 : Int32) (v2 : Int32) (v3 : Int32) (M : Mem) : Go sRM g_M_judge fWi (f_M_judge_b40 v1 v2 v3 M) 40 [.ref 12451850, .int v1, .int v2, .int v3, .null] [] M := by
  refine go_def (f_M_judge_b40.eq_1 ..) ?_
  refine go_iconst (pc := 40) 0 dX9_judge_40 ki_0 ?_
  refine go_istore (pc := 41) (ls' := [.ref 12451850, .int v1, .int v2, .int v3, .int 0]) dX9_judge_41 (Nat.le_of_ble_eq_true rfl) rfl rfl ?_
  exact o_M_judge_l43 200 v1 v2 v3 0 M
theorem o_M_judge (p1 : Int32) (p2 : Int32) (p3 : Int32) (M : Mem) : Ct sRM g_M_judge fWi [.ref 12451850, .int p1, .int p2, .int p3] (f_M_judge p1 p2 p3 M) M := by
  refine ⟨Nat.le_of_ble_eq_true rfl, ?_⟩
  show Go sRM g_M_judge fWi (f_M_judge p1 p2 p3 M) 0 [.ref 12451850, .int p1, .int p2, .int p3, .null] [] M
  refine go_def (f_M_judge.eq_1 ..) ?_
  refine go_aload_n (pc := 0) dX9_judge_0 rfl ?_
  refine go_iload_n (pc := 1) dX9_judge_1 rfl ?_
  refine go_T (v := f_M_isTape p1 M) ?_
  refine go_callV (pc := 2) (a := 12451850) (as := [.int p1]) (st := []) (o_M_isTape p1 M) ic_M_isTape ivX9_372 (rcvk (a := 12451850) (t := 10) rfl (by decide) (by decide) rfl) rfl (by decide) (Nat.le_of_ble_eq_true rfl) dX9_judge_2 (kTi ?_)
  refine go_ifeq (pc := 5) 16 dX9_judge_5 (by decide) (fun _ => ?_) (fun _ => ?_)
  · refine go_iconst (pc := 16) (-1) dX9_judge_16 ki_m1 ?_
    exact go_ret dX9_judge_17 rii rfl rfl
  · refine go_aload_n (pc := 8) dX9_judge_8 rfl ?_
    refine go_iload_n (pc := 9) dX9_judge_9 rfl ?_
    refine go_T (v := f_M_isDoor p3 M) ?_
    refine go_callV (pc := 10) (a := 12451850) (as := [.int p3]) (st := []) (o_M_isDoor p3 M) ic_M_isDoor ivX9_207 (rcvk (a := 12451850) (t := 10) rfl (by decide) (by decide) rfl) rfl (by decide) (Nat.le_of_ble_eq_true rfl) dX9_judge_10 (kTi ?_)
    refine go_ifne (pc := 13) 18 dX9_judge_13 (by decide) (fun _ => ?_) (fun _ => ?_)
    · refine go_iconst (pc := 16) (-1) dX9_judge_16 ki_m1 ?_
      exact go_ret dX9_judge_17 rii rfl rfl
    · refine go_aload_n (pc := 18) dX9_judge_18 rfl ?_
      refine go_getS (pc := 19) 17301707 flX9_190 rfl rfl sM_10_59 (by decide) dX9_judge_19 ?_
      refine go_iload_n (pc := 22) dX9_judge_22 rfl ?_
      refine go_iald (pc := 23) rfl rfl dX9_judge_23 (fun _ => ?_)
      refine go_iflt (pc := 24) 40 dX9_judge_24 (by decide) (fun _ => ?_) (fun _ => ?_)
      · exact o_M_judge_b40 p1 p2 p3 M
      · refine go_aload_n (pc := 27) dX9_judge_27 rfl ?_
        refine go_getS (pc := 28) 17301707 flX9_190 rfl rfl sM_10_59 (by decide) dX9_judge_28 ?_
        refine go_iload_n (pc := 31) dX9_judge_31 rfl ?_
        refine go_iald (pc := 32) rfl rfl dX9_judge_32 (fun _ => ?_)
        refine go_iconst (pc := 33) 1 dX9_judge_33 ki_1 ?_
        refine go_icmpeq (pc := 34) 40 dX9_judge_34 (by decide) (fun _ => ?_) (fun _ => ?_)
        · exact o_M_judge_b40 p1 p2 p3 M
        · refine go_bipush (pc := 37) (-12) dX9_judge_37 kb_m12 ?_
          exact go_ret dX9_judge_39 rii rfl rfl
def f_M_image_l194 : Nat → Int32 → Mem → Option (Int32 × Mem)
  | 0, _, _ => none
  | n + 1, v1, M => if 24 ≤ v1 then some (mI M 12451850 1, M) else gd (inR v1 24) (gd (inR v1 24) (lt (setI M 16777995 v1.toNatClampNeg (mI M 13632267 v1.toNatClampNeg)) fun M19 => lt (v1 + 1) fun x20 => f_M_image_l194 n x20 M19))
def f_M_image_l97 : Nat → Int32 → Mem → Option (Int32 × Mem)
  | 0, _, _ => none
  | n + 1, v1, M => if 4 ≤ v1 then f_M_image_l194 200 0 M else gd (inR v1 4) (gd (inR v1 4) (lt (setI M 15859851 v1.toNatClampNeg (mI M 12714123 v1.toNatClampNeg)) fun M11 => gd (inR v1 4) (gd (inR v1 4) (lt (setI M11 15990923 v1.toNatClampNeg (mI M11 12845195 v1.toNatClampNeg)) fun M12 => gd (inR v1 4) (gd (inR v1 4) (lt (setI M12 16121995 v1.toNatClampNeg (mI M12 12976267 v1.toNatClampNeg)) fun M13 => gd (inR v1 4) (gd (inR v1 4) (lt (setI M13 16253067 v1.toNatClampNeg (mI M13 13107339 v1.toNatClampNeg)) fun M14 => gd (inR v1 4) (gd (inR v1 4) (lt (setI M14 16384139 v1.toNatClampNeg (mI M14 13238411 v1.toNatClampNeg)) fun M15 => gd (inR v1 4) (gd (inR v1 4) (lt (setI M15 16515211 v1.toNatClampNeg (mI M15 13369483 v1.toNatClampNeg)) fun M16 => gd (inR v1 4) (gd (inR v1 4) (lt (setI M16 16646283 v1.toNatClampNeg (mI M16 13500555 v1.toNatClampNeg)) fun M17 => lt (v1 + 1) fun x18 => f_M_image_l97 n x18 M17))))))))))))))
def f_M_image_l47 : Nat → Int32 → Mem → Option (Int32 × Mem)
  | 0, _, _ => none
  | n + 1, v1, M => if 12 ≤ v1 then f_M_image_l97 200 0 M else gd (inR v1 12) (gd (inR v1 12) (lt (setI M 15729035 v1.toNatClampNeg (mI M 12583307 v1.toNatClampNeg)) fun M7 => gd (inR v1 12) (gd (inR v1 12) (lt (setI M7 16908683 v1.toNatClampNeg (mI M7 15466891 v1.toNatClampNeg)) fun M8 => gd (inR v1 12) (gd (inR v1 12) (lt (setI M8 17039755 v1.toNatClampNeg (mI M8 15597963 v1.toNatClampNeg)) fun M9 => lt (v1 + 1) fun x10 => f_M_image_l47 n x10 M9))))))
def f_M_image (M : Mem) : Option (Int32 × Mem) := lt (setI M 12451850 40 1) fun M1 => lt (setI M1 12451850 41 (mI M1 12451850 13)) fun M2 => lt (setI M2 12451850 42 (mI M2 12451850 1)) fun M3 => lt (setI M3 12451850 43 (mI M3 12451850 2)) fun M4 => lt (setI M4 12451850 44 (mI M4 12451850 3)) fun M5 => lt (setI M5 12451850 45 (mI M5 12451850 37)) fun M6 => f_M_image_l47 200 0 M6
theorem o_M_image_l194 : ∀ (n : Nat) (v1 : Int32) (M : Mem), Go sRM g_M_image fWi (f_M_image_l194 n v1 M) 194 [.ref 12451850, .int v1] [] M := by
  intro n
  induction n with
  | zero =>
    intro v1 M
    exact go_def (f_M_image_l194.eq_1 ..) go_none
  | succ n ih =>
    intro v1 M
    refine go_def (f_M_image_l194.eq_2 ..) ?_
    refine go_iload_n (pc := 194) dX9_image_194 rfl ?_
    refine go_bipush (pc := 195) 24 dX9_image_195 kb_24 ?_
    refine go_icmpge (pc := 197) 218 dX9_image_197 (by decide) (fun _ => ?_) (fun _ => ?_)
    · refine go_aload_n (pc := 218) dX9_image_218 rfl ?_
      refine go_getI (pc := 219) flX9_13 rfl rfl dX9_image_219 ?_
      exact go_ret dX9_image_222 rii rfl rfl
    · refine go_aload_n (pc := 200) dX9_image_200 rfl ?_
      refine go_getS (pc := 201) 16777995 flX9_175 rfl rfl sM_10_54 (by decide) dX9_image_201 ?_
      refine go_iload_n (pc := 204) dX9_image_204 rfl ?_
      refine go_aload_n (pc := 205) dX9_image_205 rfl ?_
      refine go_getS (pc := 206) 13632267 flX9_44 rfl rfl sM_10_11 (by decide) dX9_image_206 ?_
      refine go_iload_n (pc := 209) dX9_image_209 rfl ?_
      refine go_iald (pc := 210) rfl rfl dX9_image_210 (fun _ => ?_)
      refine go_iast (pc := 211) rfl rfl dX9_image_211 (fun _ M19 => ?_)
      refine go_iincL (pc := 212) (L := fun x20 => [.ref 12451850, .int x20]) 1 dX9_image_212 rfl ki_1 (Nat.le_of_ble_eq_true rfl) rfl (fun _ => rfl) (fun x20 => ?_)
      refine go_goto (pc := 215) 194 dX9_image_215 (by decide) ?_
      exact ih x20 M19
theorem o_M_image_l97 : ∀ (n : Nat) (v1 : Int32) (M : Mem), Go sRM g_M_image fWi (f_M_image_l97 n v1 M) 97 [.ref 12451850, .int v1] [] M := by
  intro n
  induction n with
  | zero =>
    intro v1 M
    exact go_def (f_M_image_l97.eq_1 ..) go_none
  | succ n ih =>
    intro v1 M
    refine go_def (f_M_image_l97.eq_2 ..) ?_
    refine go_iload_n (pc := 97) dX9_image_97 rfl ?_
    refine go_iconst (pc := 98) 4 dX9_image_98 ki_4 ?_
    refine go_icmpge (pc := 99) 192 dX9_image_99 (by decide) (fun _ => ?_) (fun _ => ?_)
    · refine go_iconst (pc := 192) 0 dX9_image_192 ki_0 ?_
      refine go_istore_n (pc := 193) (ls' := [.ref 12451850, .int 0]) dX9_image_193 (Nat.le_of_ble_eq_true rfl) rfl rfl ?_
      exact o_M_image_l194 200 0 M
    · refine go_aload_n (pc := 102) dX9_image_102 rfl ?_
      refine go_getS (pc := 103) 15859851 flX9_154 rfl rfl sM_10_47 (by decide) dX9_image_103 ?_
      refine go_iload_n (pc := 106) dX9_image_106 rfl ?_
      refine go_aload_n (pc := 107) dX9_image_107 rfl ?_
      refine go_getS (pc := 108) 12714123 flX9_23 rfl rfl sM_10_4 (by decide) dX9_image_108 ?_
      refine go_iload_n (pc := 111) dX9_image_111 rfl ?_
      refine go_iald (pc := 112) rfl rfl dX9_image_112 (fun _ => ?_)
      refine go_iast (pc := 113) rfl rfl dX9_image_113 (fun _ M11 => ?_)
      refine go_aload_n (pc := 114) dX9_image_114 rfl ?_
      refine go_getS (pc := 115) 15990923 flX9_157 rfl rfl sM_10_48 (by decide) dX9_image_115 ?_
      refine go_iload_n (pc := 118) dX9_image_118 rfl ?_
      refine go_aload_n (pc := 119) dX9_image_119 rfl ?_
      refine go_getS (pc := 120) 12845195 flX9_26 rfl rfl sM_10_5 (by decide) dX9_image_120 ?_
      refine go_iload_n (pc := 123) dX9_image_123 rfl ?_
      refine go_iald (pc := 124) rfl rfl dX9_image_124 (fun _ => ?_)
      refine go_iast (pc := 125) rfl rfl dX9_image_125 (fun _ M12 => ?_)
      refine go_aload_n (pc := 126) dX9_image_126 rfl ?_
      refine go_getS (pc := 127) 16121995 flX9_160 rfl rfl sM_10_49 (by decide) dX9_image_127 ?_
      refine go_iload_n (pc := 130) dX9_image_130 rfl ?_
      refine go_aload_n (pc := 131) dX9_image_131 rfl ?_
      refine go_getS (pc := 132) 12976267 flX9_29 rfl rfl sM_10_6 (by decide) dX9_image_132 ?_
      refine go_iload_n (pc := 135) dX9_image_135 rfl ?_
      refine go_iald (pc := 136) rfl rfl dX9_image_136 (fun _ => ?_)
      refine go_iast (pc := 137) rfl rfl dX9_image_137 (fun _ M13 => ?_)
      refine go_aload_n (pc := 138) dX9_image_138 rfl ?_
      refine go_getS (pc := 139) 16253067 flX9_163 rfl rfl sM_10_50 (by decide) dX9_image_139 ?_
      refine go_iload_n (pc := 142) dX9_image_142 rfl ?_
      refine go_aload_n (pc := 143) dX9_image_143 rfl ?_
      refine go_getS (pc := 144) 13107339 flX9_32 rfl rfl sM_10_7 (by decide) dX9_image_144 ?_
      refine go_iload_n (pc := 147) dX9_image_147 rfl ?_
      refine go_iald (pc := 148) rfl rfl dX9_image_148 (fun _ => ?_)
      refine go_iast (pc := 149) rfl rfl dX9_image_149 (fun _ M14 => ?_)
      refine go_aload_n (pc := 150) dX9_image_150 rfl ?_
      refine go_getS (pc := 151) 16384139 flX9_166 rfl rfl sM_10_51 (by decide) dX9_image_151 ?_
      refine go_iload_n (pc := 154) dX9_image_154 rfl ?_
      refine go_aload_n (pc := 155) dX9_image_155 rfl ?_
      refine go_getS (pc := 156) 13238411 flX9_35 rfl rfl sM_10_8 (by decide) dX9_image_156 ?_
      refine go_iload_n (pc := 159) dX9_image_159 rfl ?_
      refine go_iald (pc := 160) rfl rfl dX9_image_160 (fun _ => ?_)
      refine go_iast (pc := 161) rfl rfl dX9_image_161 (fun _ M15 => ?_)
      refine go_aload_n (pc := 162) dX9_image_162 rfl ?_
      refine go_getS (pc := 163) 16515211 flX9_169 rfl rfl sM_10_52 (by decide) dX9_image_163 ?_
      refine go_iload_n (pc := 166) dX9_image_166 rfl ?_
      refine go_aload_n (pc := 167) dX9_image_167 rfl ?_
      refine go_getS (pc := 168) 13369483 flX9_38 rfl rfl sM_10_9 (by decide) dX9_image_168 ?_
      refine go_iload_n (pc := 171) dX9_image_171 rfl ?_
      refine go_iald (pc := 172) rfl rfl dX9_image_172 (fun _ => ?_)
      refine go_iast (pc := 173) rfl rfl dX9_image_173 (fun _ M16 => ?_)
      refine go_aload_n (pc := 174) dX9_image_174 rfl ?_
      refine go_getS (pc := 175) 16646283 flX9_172 rfl rfl sM_10_53 (by decide) dX9_image_175 ?_
      refine go_iload_n (pc := 178) dX9_image_178 rfl ?_
      refine go_aload_n (pc := 179) dX9_image_179 rfl ?_
      refine go_getS (pc := 180) 13500555 flX9_41 rfl rfl sM_10_10 (by decide) dX9_image_180 ?_
      refine go_iload_n (pc := 183) dX9_image_183 rfl ?_
      refine go_iald (pc := 184) rfl rfl dX9_image_184 (fun _ => ?_)
      refine go_iast (pc := 185) rfl rfl dX9_image_185 (fun _ M17 => ?_)
      refine go_iincL (pc := 186) (L := fun x18 => [.ref 12451850, .int x18]) 1 dX9_image_186 rfl ki_1 (Nat.le_of_ble_eq_true rfl) rfl (fun _ => rfl) (fun x18 => ?_)
      refine go_goto (pc := 189) 97 dX9_image_189 (by decide) ?_
      exact ih x18 M17
theorem o_M_image_l47 : ∀ (n : Nat) (v1 : Int32) (M : Mem), Go sRM g_M_image fWi (f_M_image_l47 n v1 M) 47 [.ref 12451850, .int v1] [] M := by
  intro n
  induction n with
  | zero =>
    intro v1 M
    exact go_def (f_M_image_l47.eq_1 ..) go_none
  | succ n ih =>
    intro v1 M
    refine go_def (f_M_image_l47.eq_2 ..) ?_
    refine go_iload_n (pc := 47) dX9_image_47 rfl ?_
    refine go_bipush (pc := 48) 12 dX9_image_48 kb_12 ?_
    refine go_icmpge (pc := 50) 95 dX9_image_50 (by decide) (fun _ => ?_) (fun _ => ?_)
    · refine go_iconst (pc := 95) 0 dX9_image_95 ki_0 ?_
      refine go_istore_n (pc := 96) (ls' := [.ref 12451850, .int 0]) dX9_image_96 (Nat.le_of_ble_eq_true rfl) rfl rfl ?_
      exact o_M_image_l97 200 0 M
    · refine go_aload_n (pc := 53) dX9_image_53 rfl ?_
      refine go_getS (pc := 54) 15729035 flX9_151 rfl rfl sM_10_46 (by decide) dX9_image_54 ?_
      refine go_iload_n (pc := 57) dX9_image_57 rfl ?_
      refine go_aload_n (pc := 58) dX9_image_58 rfl ?_
      refine go_getS (pc := 59) 12583307 flX9_7 rfl rfl sM_10_0 (by decide) dX9_image_59 ?_
      refine go_iload_n (pc := 62) dX9_image_62 rfl ?_
      refine go_iald (pc := 63) rfl rfl dX9_image_63 (fun _ => ?_)
      refine go_iast (pc := 64) rfl rfl dX9_image_64 (fun _ M7 => ?_)
      refine go_aload_n (pc := 65) dX9_image_65 rfl ?_
      refine go_getS (pc := 66) 16908683 flX9_178 rfl rfl sM_10_55 (by decide) dX9_image_66 ?_
      refine go_iload_n (pc := 69) dX9_image_69 rfl ?_
      refine go_aload_n (pc := 70) dX9_image_70 rfl ?_
      refine go_getS (pc := 71) 15466891 flX9_126 rfl rfl sM_10_38 (by decide) dX9_image_71 ?_
      refine go_iload_n (pc := 74) dX9_image_74 rfl ?_
      refine go_iald (pc := 75) rfl rfl dX9_image_75 (fun _ => ?_)
      refine go_iast (pc := 76) rfl rfl dX9_image_76 (fun _ M8 => ?_)
      refine go_aload_n (pc := 77) dX9_image_77 rfl ?_
      refine go_getS (pc := 78) 17039755 flX9_181 rfl rfl sM_10_56 (by decide) dX9_image_78 ?_
      refine go_iload_n (pc := 81) dX9_image_81 rfl ?_
      refine go_aload_n (pc := 82) dX9_image_82 rfl ?_
      refine go_getS (pc := 83) 15597963 flX9_129 rfl rfl sM_10_39 (by decide) dX9_image_83 ?_
      refine go_iload_n (pc := 86) dX9_image_86 rfl ?_
      refine go_iald (pc := 87) rfl rfl dX9_image_87 (fun _ => ?_)
      refine go_iast (pc := 88) rfl rfl dX9_image_88 (fun _ M9 => ?_)
      refine go_iincL (pc := 89) (L := fun x10 => [.ref 12451850, .int x10]) 1 dX9_image_89 rfl ki_1 (Nat.le_of_ble_eq_true rfl) rfl (fun _ => rfl) (fun x10 => ?_)
      refine go_goto (pc := 92) 47 dX9_image_92 (by decide) ?_
      exact ih x10 M9
theorem o_M_image (M : Mem) : Ct sRM g_M_image fWi [.ref 12451850] (f_M_image M) M := by
  refine ⟨Nat.le_of_ble_eq_true rfl, ?_⟩
  show Go sRM g_M_image fWi (f_M_image M) 0 [.ref 12451850, .null] [] M
  refine go_def (f_M_image.eq_1 ..) ?_
  refine go_aload_n (pc := 0) dX9_image_0 rfl ?_
  refine go_iconst (pc := 1) 1 dX9_image_1 ki_1 ?_
  refine go_putI (pc := 2) flX9_132 rfl (Or.inl rfl) (nbz (Or.inr rfl)) rfl dX9_image_2 (fun M1 => ?_)
  refine go_aload_n (pc := 5) dX9_image_5 rfl ?_
  refine go_aload_n (pc := 6) dX9_image_6 rfl ?_
  refine go_getI (pc := 7) flX9_50 rfl rfl dX9_image_7 ?_
  refine go_putI (pc := 10) flX9_136 rfl (Or.inl rfl) ⟨rfl, rfl⟩ rfl dX9_image_10 (fun M2 => ?_)
  refine go_aload_n (pc := 13) dX9_image_13 rfl ?_
  refine go_aload_n (pc := 14) dX9_image_14 rfl ?_
  refine go_getI (pc := 15) flX9_13 rfl rfl dX9_image_15 ?_
  refine go_putI (pc := 18) flX9_139 rfl (Or.inl rfl) ⟨rfl, rfl⟩ rfl dX9_image_18 (fun M3 => ?_)
  refine go_aload_n (pc := 21) dX9_image_21 rfl ?_
  refine go_aload_n (pc := 22) dX9_image_22 rfl ?_
  refine go_getI (pc := 23) flX9_17 rfl rfl dX9_image_23 ?_
  refine go_putI (pc := 26) flX9_142 rfl (Or.inl rfl) ⟨rfl, rfl⟩ rfl dX9_image_26 (fun M4 => ?_)
  refine go_aload_n (pc := 29) dX9_image_29 rfl ?_
  refine go_aload_n (pc := 30) dX9_image_30 rfl ?_
  refine go_getI (pc := 31) flX9_20 rfl rfl dX9_image_31 ?_
  refine go_putI (pc := 34) flX9_145 rfl (Or.inl rfl) ⟨rfl, rfl⟩ rfl dX9_image_34 (fun M5 => ?_)
  refine go_aload_n (pc := 37) dX9_image_37 rfl ?_
  refine go_aload_n (pc := 38) dX9_image_38 rfl ?_
  refine go_getI (pc := 39) flX9_123 rfl rfl dX9_image_39 ?_
  refine go_putI (pc := 42) flX9_148 rfl (Or.inl rfl) ⟨rfl, rfl⟩ rfl dX9_image_42 (fun M6 => ?_)
  refine go_iconst (pc := 45) 0 dX9_image_45 ki_0 ?_
  refine go_istore_n (pc := 46) (ls' := [.ref 12451850, .int 0]) dX9_image_46 (Nat.le_of_ble_eq_true rfl) rfl rfl ?_
  exact o_M_image_l47 200 0 M6
def f_M_undo_l199 : Nat → Int32 → Mem → Option (Int32 × Mem)
  | 0, _, _ => none
  | n + 1, v1, M => if 24 ≤ v1 then some (mI M 12451850 1, M) else gd (inR v1 24) (gd (inR v1 24) (lt (setI M 13632267 v1.toNatClampNeg (mI M 16777995 v1.toNatClampNeg)) fun M18 => lt (v1 + 1) fun x19 => f_M_undo_l199 n x19 M18))
def f_M_undo_l102 : Nat → Int32 → Mem → Option (Int32 × Mem)
  | 0, _, _ => none
  | n + 1, v1, M => if 4 ≤ v1 then f_M_undo_l199 200 0 M else gd (inR v1 4) (gd (inR v1 4) (lt (setI M 12714123 v1.toNatClampNeg (mI M 15859851 v1.toNatClampNeg)) fun M10 => gd (inR v1 4) (gd (inR v1 4) (lt (setI M10 12845195 v1.toNatClampNeg (mI M10 15990923 v1.toNatClampNeg)) fun M11 => gd (inR v1 4) (gd (inR v1 4) (lt (setI M11 12976267 v1.toNatClampNeg (mI M11 16121995 v1.toNatClampNeg)) fun M12 => gd (inR v1 4) (gd (inR v1 4) (lt (setI M12 13107339 v1.toNatClampNeg (mI M12 16253067 v1.toNatClampNeg)) fun M13 => gd (inR v1 4) (gd (inR v1 4) (lt (setI M13 13238411 v1.toNatClampNeg (mI M13 16384139 v1.toNatClampNeg)) fun M14 => gd (inR v1 4) (gd (inR v1 4) (lt (setI M14 13369483 v1.toNatClampNeg (mI M14 16515211 v1.toNatClampNeg)) fun M15 => gd (inR v1 4) (gd (inR v1 4) (lt (setI M15 13500555 v1.toNatClampNeg (mI M15 16646283 v1.toNatClampNeg)) fun M16 => lt (v1 + 1) fun x17 => f_M_undo_l102 n x17 M16))))))))))))))
def f_M_undo_l52 : Nat → Int32 → Mem → Option (Int32 × Mem)
  | 0, _, _ => none
  | n + 1, v1, M => if 12 ≤ v1 then f_M_undo_l102 200 0 M else gd (inR v1 12) (gd (inR v1 12) (lt (setI M 12583307 v1.toNatClampNeg (mI M 15729035 v1.toNatClampNeg)) fun M6 => gd (inR v1 12) (gd (inR v1 12) (lt (setI M6 15466891 v1.toNatClampNeg (mI M6 16908683 v1.toNatClampNeg)) fun M7 => gd (inR v1 12) (gd (inR v1 12) (lt (setI M7 15597963 v1.toNatClampNeg (mI M7 17039755 v1.toNatClampNeg)) fun M8 => lt (v1 + 1) fun x9 => f_M_undo_l52 n x9 M8))))))
def f_M_undo (M : Mem) : Option (Int32 × Mem) := if (mI M 12451850 40) = 0 then some ((-3), M) else lt (setI M 12451850 13 (mI M 12451850 41)) fun M1 => lt (setI M1 12451850 1 (mI M1 12451850 42)) fun M2 => lt (setI M2 12451850 2 (mI M2 12451850 43)) fun M3 => lt (setI M3 12451850 3 (mI M3 12451850 44)) fun M4 => lt (setI M4 12451850 37 (mI M4 12451850 45)) fun M5 => f_M_undo_l52 200 0 M5
theorem o_M_undo_l199 : ∀ (n : Nat) (v1 : Int32) (M : Mem), Go sRM g_M_undo fWi (f_M_undo_l199 n v1 M) 199 [.ref 12451850, .int v1] [] M := by
  intro n
  induction n with
  | zero =>
    intro v1 M
    exact go_def (f_M_undo_l199.eq_1 ..) go_none
  | succ n ih =>
    intro v1 M
    refine go_def (f_M_undo_l199.eq_2 ..) ?_
    refine go_iload_n (pc := 199) dX9_undo_199 rfl ?_
    refine go_bipush (pc := 200) 24 dX9_undo_200 kb_24 ?_
    refine go_icmpge (pc := 202) 223 dX9_undo_202 (by decide) (fun _ => ?_) (fun _ => ?_)
    · refine go_aload_n (pc := 223) dX9_undo_223 rfl ?_
      refine go_getI (pc := 224) flX9_13 rfl rfl dX9_undo_224 ?_
      exact go_ret dX9_undo_227 rii rfl rfl
    · refine go_aload_n (pc := 205) dX9_undo_205 rfl ?_
      refine go_getS (pc := 206) 13632267 flX9_44 rfl rfl sM_10_11 (by decide) dX9_undo_206 ?_
      refine go_iload_n (pc := 209) dX9_undo_209 rfl ?_
      refine go_aload_n (pc := 210) dX9_undo_210 rfl ?_
      refine go_getS (pc := 211) 16777995 flX9_175 rfl rfl sM_10_54 (by decide) dX9_undo_211 ?_
      refine go_iload_n (pc := 214) dX9_undo_214 rfl ?_
      refine go_iald (pc := 215) rfl rfl dX9_undo_215 (fun _ => ?_)
      refine go_iast (pc := 216) rfl rfl dX9_undo_216 (fun _ M18 => ?_)
      refine go_iincL (pc := 217) (L := fun x19 => [.ref 12451850, .int x19]) 1 dX9_undo_217 rfl ki_1 (Nat.le_of_ble_eq_true rfl) rfl (fun _ => rfl) (fun x19 => ?_)
      refine go_goto (pc := 220) 199 dX9_undo_220 (by decide) ?_
      exact ih x19 M18
theorem o_M_undo_l102 : ∀ (n : Nat) (v1 : Int32) (M : Mem), Go sRM g_M_undo fWi (f_M_undo_l102 n v1 M) 102 [.ref 12451850, .int v1] [] M := by
  intro n
  induction n with
  | zero =>
    intro v1 M
    exact go_def (f_M_undo_l102.eq_1 ..) go_none
  | succ n ih =>
    intro v1 M
    refine go_def (f_M_undo_l102.eq_2 ..) ?_
    refine go_iload_n (pc := 102) dX9_undo_102 rfl ?_
    refine go_iconst (pc := 103) 4 dX9_undo_103 ki_4 ?_
    refine go_icmpge (pc := 104) 197 dX9_undo_104 (by decide) (fun _ => ?_) (fun _ => ?_)
    · refine go_iconst (pc := 197) 0 dX9_undo_197 ki_0 ?_
      refine go_istore_n (pc := 198) (ls' := [.ref 12451850, .int 0]) dX9_undo_198 (Nat.le_of_ble_eq_true rfl) rfl rfl ?_
      exact o_M_undo_l199 200 0 M
    · refine go_aload_n (pc := 107) dX9_undo_107 rfl ?_
      refine go_getS (pc := 108) 12714123 flX9_23 rfl rfl sM_10_4 (by decide) dX9_undo_108 ?_
      refine go_iload_n (pc := 111) dX9_undo_111 rfl ?_
      refine go_aload_n (pc := 112) dX9_undo_112 rfl ?_
      refine go_getS (pc := 113) 15859851 flX9_154 rfl rfl sM_10_47 (by decide) dX9_undo_113 ?_
      refine go_iload_n (pc := 116) dX9_undo_116 rfl ?_
      refine go_iald (pc := 117) rfl rfl dX9_undo_117 (fun _ => ?_)
      refine go_iast (pc := 118) rfl rfl dX9_undo_118 (fun _ M10 => ?_)
      refine go_aload_n (pc := 119) dX9_undo_119 rfl ?_
      refine go_getS (pc := 120) 12845195 flX9_26 rfl rfl sM_10_5 (by decide) dX9_undo_120 ?_
      refine go_iload_n (pc := 123) dX9_undo_123 rfl ?_
      refine go_aload_n (pc := 124) dX9_undo_124 rfl ?_
      refine go_getS (pc := 125) 15990923 flX9_157 rfl rfl sM_10_48 (by decide) dX9_undo_125 ?_
      refine go_iload_n (pc := 128) dX9_undo_128 rfl ?_
      refine go_iald (pc := 129) rfl rfl dX9_undo_129 (fun _ => ?_)
      refine go_iast (pc := 130) rfl rfl dX9_undo_130 (fun _ M11 => ?_)
      refine go_aload_n (pc := 131) dX9_undo_131 rfl ?_
      refine go_getS (pc := 132) 12976267 flX9_29 rfl rfl sM_10_6 (by decide) dX9_undo_132 ?_
      refine go_iload_n (pc := 135) dX9_undo_135 rfl ?_
      refine go_aload_n (pc := 136) dX9_undo_136 rfl ?_
      refine go_getS (pc := 137) 16121995 flX9_160 rfl rfl sM_10_49 (by decide) dX9_undo_137 ?_
      refine go_iload_n (pc := 140) dX9_undo_140 rfl ?_
      refine go_iald (pc := 141) rfl rfl dX9_undo_141 (fun _ => ?_)
      refine go_iast (pc := 142) rfl rfl dX9_undo_142 (fun _ M12 => ?_)
      refine go_aload_n (pc := 143) dX9_undo_143 rfl ?_
      refine go_getS (pc := 144) 13107339 flX9_32 rfl rfl sM_10_7 (by decide) dX9_undo_144 ?_
      refine go_iload_n (pc := 147) dX9_undo_147 rfl ?_
      refine go_aload_n (pc := 148) dX9_undo_148 rfl ?_
      refine go_getS (pc := 149) 16253067 flX9_163 rfl rfl sM_10_50 (by decide) dX9_undo_149 ?_
      refine go_iload_n (pc := 152) dX9_undo_152 rfl ?_
      refine go_iald (pc := 153) rfl rfl dX9_undo_153 (fun _ => ?_)
      refine go_iast (pc := 154) rfl rfl dX9_undo_154 (fun _ M13 => ?_)
      refine go_aload_n (pc := 155) dX9_undo_155 rfl ?_
      refine go_getS (pc := 156) 13238411 flX9_35 rfl rfl sM_10_8 (by decide) dX9_undo_156 ?_
      refine go_iload_n (pc := 159) dX9_undo_159 rfl ?_
      refine go_aload_n (pc := 160) dX9_undo_160 rfl ?_
      refine go_getS (pc := 161) 16384139 flX9_166 rfl rfl sM_10_51 (by decide) dX9_undo_161 ?_
      refine go_iload_n (pc := 164) dX9_undo_164 rfl ?_
      refine go_iald (pc := 165) rfl rfl dX9_undo_165 (fun _ => ?_)
      refine go_iast (pc := 166) rfl rfl dX9_undo_166 (fun _ M14 => ?_)
      refine go_aload_n (pc := 167) dX9_undo_167 rfl ?_
      refine go_getS (pc := 168) 13369483 flX9_38 rfl rfl sM_10_9 (by decide) dX9_undo_168 ?_
      refine go_iload_n (pc := 171) dX9_undo_171 rfl ?_
      refine go_aload_n (pc := 172) dX9_undo_172 rfl ?_
      refine go_getS (pc := 173) 16515211 flX9_169 rfl rfl sM_10_52 (by decide) dX9_undo_173 ?_
      refine go_iload_n (pc := 176) dX9_undo_176 rfl ?_
      refine go_iald (pc := 177) rfl rfl dX9_undo_177 (fun _ => ?_)
      refine go_iast (pc := 178) rfl rfl dX9_undo_178 (fun _ M15 => ?_)
      refine go_aload_n (pc := 179) dX9_undo_179 rfl ?_
      refine go_getS (pc := 180) 13500555 flX9_41 rfl rfl sM_10_10 (by decide) dX9_undo_180 ?_
      refine go_iload_n (pc := 183) dX9_undo_183 rfl ?_
      refine go_aload_n (pc := 184) dX9_undo_184 rfl ?_
      refine go_getS (pc := 185) 16646283 flX9_172 rfl rfl sM_10_53 (by decide) dX9_undo_185 ?_
      refine go_iload_n (pc := 188) dX9_undo_188 rfl ?_
      refine go_iald (pc := 189) rfl rfl dX9_undo_189 (fun _ => ?_)
      refine go_iast (pc := 190) rfl rfl dX9_undo_190 (fun _ M16 => ?_)
      refine go_iincL (pc := 191) (L := fun x17 => [.ref 12451850, .int x17]) 1 dX9_undo_191 rfl ki_1 (Nat.le_of_ble_eq_true rfl) rfl (fun _ => rfl) (fun x17 => ?_)
      refine go_goto (pc := 194) 102 dX9_undo_194 (by decide) ?_
      exact ih x17 M16
theorem o_M_undo_l52 : ∀ (n : Nat) (v1 : Int32) (M : Mem), Go sRM g_M_undo fWi (f_M_undo_l52 n v1 M) 52 [.ref 12451850, .int v1] [] M := by
  intro n
  induction n with
  | zero =>
    intro v1 M
    exact go_def (f_M_undo_l52.eq_1 ..) go_none
  | succ n ih =>
    intro v1 M
    refine go_def (f_M_undo_l52.eq_2 ..) ?_
    refine go_iload_n (pc := 52) dX9_undo_52 rfl ?_
    refine go_bipush (pc := 53) 12 dX9_undo_53 kb_12 ?_
    refine go_icmpge (pc := 55) 100 dX9_undo_55 (by decide) (fun _ => ?_) (fun _ => ?_)
    · refine go_iconst (pc := 100) 0 dX9_undo_100 ki_0 ?_
      refine go_istore_n (pc := 101) (ls' := [.ref 12451850, .int 0]) dX9_undo_101 (Nat.le_of_ble_eq_true rfl) rfl rfl ?_
      exact o_M_undo_l102 200 0 M
    · refine go_aload_n (pc := 58) dX9_undo_58 rfl ?_
      refine go_getS (pc := 59) 12583307 flX9_7 rfl rfl sM_10_0 (by decide) dX9_undo_59 ?_
      refine go_iload_n (pc := 62) dX9_undo_62 rfl ?_
      refine go_aload_n (pc := 63) dX9_undo_63 rfl ?_
      refine go_getS (pc := 64) 15729035 flX9_151 rfl rfl sM_10_46 (by decide) dX9_undo_64 ?_
      refine go_iload_n (pc := 67) dX9_undo_67 rfl ?_
      refine go_iald (pc := 68) rfl rfl dX9_undo_68 (fun _ => ?_)
      refine go_iast (pc := 69) rfl rfl dX9_undo_69 (fun _ M6 => ?_)
      refine go_aload_n (pc := 70) dX9_undo_70 rfl ?_
      refine go_getS (pc := 71) 15466891 flX9_126 rfl rfl sM_10_38 (by decide) dX9_undo_71 ?_
      refine go_iload_n (pc := 74) dX9_undo_74 rfl ?_
      refine go_aload_n (pc := 75) dX9_undo_75 rfl ?_
      refine go_getS (pc := 76) 16908683 flX9_178 rfl rfl sM_10_55 (by decide) dX9_undo_76 ?_
      refine go_iload_n (pc := 79) dX9_undo_79 rfl ?_
      refine go_iald (pc := 80) rfl rfl dX9_undo_80 (fun _ => ?_)
      refine go_iast (pc := 81) rfl rfl dX9_undo_81 (fun _ M7 => ?_)
      refine go_aload_n (pc := 82) dX9_undo_82 rfl ?_
      refine go_getS (pc := 83) 15597963 flX9_129 rfl rfl sM_10_39 (by decide) dX9_undo_83 ?_
      refine go_iload_n (pc := 86) dX9_undo_86 rfl ?_
      refine go_aload_n (pc := 87) dX9_undo_87 rfl ?_
      refine go_getS (pc := 88) 17039755 flX9_181 rfl rfl sM_10_56 (by decide) dX9_undo_88 ?_
      refine go_iload_n (pc := 91) dX9_undo_91 rfl ?_
      refine go_iald (pc := 92) rfl rfl dX9_undo_92 (fun _ => ?_)
      refine go_iast (pc := 93) rfl rfl dX9_undo_93 (fun _ M8 => ?_)
      refine go_iincL (pc := 94) (L := fun x9 => [.ref 12451850, .int x9]) 1 dX9_undo_94 rfl ki_1 (Nat.le_of_ble_eq_true rfl) rfl (fun _ => rfl) (fun x9 => ?_)
      refine go_goto (pc := 97) 52 dX9_undo_97 (by decide) ?_
      exact ih x9 M8
theorem o_M_undo (M : Mem) : Ct sRM g_M_undo fWi [.ref 12451850] (f_M_undo M) M := by
  refine ⟨Nat.le_of_ble_eq_true rfl, ?_⟩
  show Go sRM g_M_undo fWi (f_M_undo M) 0 [.ref 12451850, .null] [] M
  refine go_def (f_M_undo.eq_1 ..) ?_
  refine go_aload_n (pc := 0) dX9_undo_0 rfl ?_
  refine go_getI (pc := 1) flX9_132 rfl rfl dX9_undo_1 ?_
  refine go_ifne (pc := 4) 10 dX9_undo_4 (by decide) (fun _ => ?_) (fun _ => ?_)
  · refine go_bipush (pc := 7) (-3) dX9_undo_7 kb_m3 ?_
    exact go_ret dX9_undo_9 rii rfl rfl
  · refine go_aload_n (pc := 10) dX9_undo_10 rfl ?_
    refine go_aload_n (pc := 11) dX9_undo_11 rfl ?_
    refine go_getI (pc := 12) flX9_136 rfl rfl dX9_undo_12 ?_
    refine go_putI (pc := 15) flX9_50 rfl (Or.inl rfl) ⟨rfl, rfl⟩ rfl dX9_undo_15 (fun M1 => ?_)
    refine go_aload_n (pc := 18) dX9_undo_18 rfl ?_
    refine go_aload_n (pc := 19) dX9_undo_19 rfl ?_
    refine go_getI (pc := 20) flX9_139 rfl rfl dX9_undo_20 ?_
    refine go_putI (pc := 23) flX9_13 rfl (Or.inl rfl) ⟨rfl, rfl⟩ rfl dX9_undo_23 (fun M2 => ?_)
    refine go_aload_n (pc := 26) dX9_undo_26 rfl ?_
    refine go_aload_n (pc := 27) dX9_undo_27 rfl ?_
    refine go_getI (pc := 28) flX9_142 rfl rfl dX9_undo_28 ?_
    refine go_putI (pc := 31) flX9_17 rfl (Or.inl rfl) ⟨rfl, rfl⟩ rfl dX9_undo_31 (fun M3 => ?_)
    refine go_aload_n (pc := 34) dX9_undo_34 rfl ?_
    refine go_aload_n (pc := 35) dX9_undo_35 rfl ?_
    refine go_getI (pc := 36) flX9_145 rfl rfl dX9_undo_36 ?_
    refine go_putI (pc := 39) flX9_20 rfl (Or.inl rfl) ⟨rfl, rfl⟩ rfl dX9_undo_39 (fun M4 => ?_)
    refine go_aload_n (pc := 42) dX9_undo_42 rfl ?_
    refine go_aload_n (pc := 43) dX9_undo_43 rfl ?_
    refine go_getI (pc := 44) flX9_148 rfl rfl dX9_undo_44 ?_
    refine go_putI (pc := 47) flX9_123 rfl (Or.inl rfl) ⟨rfl, rfl⟩ rfl dX9_undo_47 (fun M5 => ?_)
    refine go_iconst (pc := 50) 0 dX9_undo_50 ki_0 ?_
    refine go_istore_n (pc := 51) (ls' := [.ref 12451850, .int 0]) dX9_undo_51 (Nat.le_of_ble_eq_true rfl) rfl rfl ?_
    exact o_M_undo_l52 200 0 M5
def f_M_body (p1 : Int32) (M : Mem) : Option Mem := if 20 ≤ (mI M 12451850 57) then lt (setI M 12451850 57 ((mI M 12451850 57) + 1)) fun M1 => some M1 else gd (inR (mI M 12451850 57) 20) (lt (setI M 17171083 (mI M 12451850 57).toNatClampNeg p1) fun M2 => lt (setI M2 12451850 57 ((mI M2 12451850 57) + 1)) fun M3 => some M3)
theorem o_M_body (p1 : Int32) (M : Mem) : Ct sRM g_M_body fWv [.ref 12451850, .int p1] (f_M_body p1 M) M := by
  refine ⟨Nat.le_of_ble_eq_true rfl, ?_⟩
  show Go sRM g_M_body fWv (f_M_body p1 M) 0 [.ref 12451850, .int p1] [] M
  refine go_def (f_M_body.eq_1 ..) ?_
  refine go_aload_n (pc := 0) dX9_body_0 rfl ?_
  refine go_getI (pc := 1) flX9_184 rfl rfl dX9_body_1 ?_
  refine go_bipush (pc := 4) 20 dX9_body_4 kb_20 ?_
  refine go_icmpge (pc := 6) 19 dX9_body_6 (by decide) (fun _ => ?_) (fun _ => ?_)
  · refine go_aload_n (pc := 19) dX9_body_19 rfl ?_
    refine go_dup (pc := 20) dX9_body_20 rfl ?_
    refine go_getI (pc := 21) flX9_184 rfl rfl dX9_body_21 ?_
    refine go_iconst (pc := 24) 1 dX9_body_24 ki_1 ?_
    refine go_iadd (pc := 25) dX9_body_25 ?_
    refine go_putI (pc := 26) flX9_184 rfl (Or.inl rfl) ⟨rfl, rfl⟩ rfl dX9_body_26 (fun M1 => ?_)
    exact go_ret dX9_body_29 rfl rfl rfl
  · refine go_aload_n (pc := 9) dX9_body_9 rfl ?_
    refine go_getS (pc := 10) 17171083 flX9_187 rfl rfl sM_10_58 (by decide) dX9_body_10 ?_
    refine go_aload_n (pc := 13) dX9_body_13 rfl ?_
    refine go_getI (pc := 14) flX9_184 rfl rfl dX9_body_14 ?_
    refine go_iload_n (pc := 17) dX9_body_17 rfl ?_
    refine go_iast (pc := 18) rfl rfl dX9_body_18 (fun _ M2 => ?_)
    refine go_aload_n (pc := 19) dX9_body_19 rfl ?_
    refine go_dup (pc := 20) dX9_body_20 rfl ?_
    refine go_getI (pc := 21) flX9_184 rfl rfl dX9_body_21 ?_
    refine go_iconst (pc := 24) 1 dX9_body_24 ki_1 ?_
    refine go_iadd (pc := 25) dX9_body_25 ?_
    refine go_putI (pc := 26) flX9_184 rfl (Or.inl rfl) ⟨rfl, rfl⟩ rfl dX9_body_26 (fun M3 => ?_)
    exact go_ret dX9_body_29 rfl rfl rfl
def f_M_doorSwells (p1 : Int32) (p2 : Int32) (M : Mem) : Option (Int32 × Mem) := bd (f_M_body 10 M) fun M1 => some (p2 + p1, M1)
theorem o_M_doorSwells (p1 : Int32) (p2 : Int32) (M : Mem) : Ct sRM g_M_doorSwells fWi [.ref 12451850, .int p1, .int p2] (f_M_doorSwells p1 p2 M) M := by
  refine ⟨Nat.le_of_ble_eq_true rfl, ?_⟩
  show Go sRM g_M_doorSwells fWi (f_M_doorSwells p1 p2 M) 0 [.ref 12451850, .int p1, .int p2] [] M
  refine go_def (f_M_doorSwells.eq_1 ..) ?_
  refine go_aload_n (pc := 0) dX9_doorSwells_0 rfl ?_
  refine go_bipush (pc := 1) 10 dX9_doorSwells_1 kb_10 ?_
  refine go_callV (pc := 3) (a := 12451850) (as := [.int 10]) (st := []) (o_M_body 10 M) ic_M_body ivX9_375 (rcvk (a := 12451850) (t := 10) rfl (by decide) (by decide) rfl) rfl (by decide) (Nat.le_of_ble_eq_true rfl) dX9_doorSwells_3 (kWv fun M1 => ?_)
  refine go_iload_n (pc := 6) dX9_doorSwells_6 rfl ?_
  refine go_iload_n (pc := 7) dX9_doorSwells_7 rfl ?_
  refine go_iadd (pc := 8) dX9_doorSwells_8 ?_
  exact go_ret dX9_doorSwells_9 rii rfl rfl
def f_M_swellsAct_b40 (v1 : Int32) (v2 : Int32) (M : Mem) : Option (Int32 × Mem) := bd (f_M_body 30 M) fun M13 => b2 (f_M_doorSwells v1 (v2 * 3) M13) fun r15 M14 => some (r15, M14)
def f_M_swellsAct (p1 : Int32) (p2 : Int32) (M : Mem) : Option (Int32 × Mem) := gd (inR p1 4) (if (mI M 12714123 p1.toNatClampNeg) = 2 then f_M_swellsAct_b40 p1 p2 M else if (mI M 12714123 p1.toNatClampNeg) = 4 then bd (f_M_body 50 M) fun M1 => b2 (f_M_doorSwells p1 p2 M1) fun r3 M2 => some (-r3, M2) else if (mI M 12714123 p1.toNatClampNeg) = 5 then f_M_swellsAct_b40 p1 p2 M else if (mI M 12714123 p1.toNatClampNeg) = 6 then bd (f_M_body 71 M) fun M4 => b2 (f_M_doorSwells p1 p2 M4) fun r6 M5 => gd (inR p1 4) (some (r6 ^^^ (mI M5 12845195 p1.toNatClampNeg), M5)) else b2 (f_M_doorSwells p1 p2 M) fun r8 M7 => some (r8, M7))
theorem o_M_swellsAct_b40 (v1 : Int32) (v2 : Int32) (M : Mem) : Go sRM g_M_swellsAct fWi (f_M_swellsAct_b40 v1 v2 M) 40 [.ref 12451850, .int v1, .int v2] [] M := by
  refine go_def (f_M_swellsAct_b40.eq_1 ..) ?_
  refine go_aload_n (pc := 40) dX9_swellsAct_40 rfl ?_
  refine go_bipush (pc := 41) 30 dX9_swellsAct_41 kb_30 ?_
  refine go_callV (pc := 43) (a := 12451850) (as := [.int 30]) (st := []) (o_M_body 30 M) ic_M_body ivX9_375 (rcvk (a := 12451850) (t := 10) rfl (by decide) (by decide) rfl) rfl (by decide) (Nat.le_of_ble_eq_true rfl) dX9_swellsAct_43 (kWv fun M13 => ?_)
  refine go_aload_n (pc := 46) dX9_swellsAct_46 rfl ?_
  refine go_iload_n (pc := 47) dX9_swellsAct_47 rfl ?_
  refine go_iload_n (pc := 48) dX9_swellsAct_48 rfl ?_
  refine go_iconst (pc := 49) 3 dX9_swellsAct_49 ki_3 ?_
  refine go_imul (pc := 50) dX9_swellsAct_50 ?_
  refine go_callV (pc := 51) (a := 12451850) (as := [.int v1, .int (v2 * 3)]) (st := []) (o_M_doorSwells v1 (v2 * 3) M13) ic_M_doorSwells ivX9_378 (rcvk (a := 12451850) (t := 10) rfl (by decide) (by decide) rfl) rfl (by decide) (Nat.le_of_ble_eq_true rfl) dX9_swellsAct_51 (kWi fun r15 M14 => ?_)
  exact go_ret dX9_swellsAct_54 rii rfl rfl
theorem o_M_swellsAct (p1 : Int32) (p2 : Int32) (M : Mem) : Ct sRM g_M_swellsAct fWi [.ref 12451850, .int p1, .int p2] (f_M_swellsAct p1 p2 M) M := by
  refine ⟨Nat.le_of_ble_eq_true rfl, ?_⟩
  show Go sRM g_M_swellsAct fWi (f_M_swellsAct p1 p2 M) 0 [.ref 12451850, .int p1, .int p2] [] M
  refine go_def (f_M_swellsAct.eq_1 ..) ?_
  refine go_aload_n (pc := 0) dX9_swellsAct_0 rfl ?_
  refine go_getS (pc := 1) 12714123 flX9_23 rfl rfl sM_10_4 (by decide) dX9_swellsAct_1 ?_
  refine go_iload_n (pc := 4) dX9_swellsAct_4 rfl ?_
  refine go_iald (pc := 5) rfl rfl dX9_swellsAct_5 (fun _ => ?_)
  refine go_tswC (pc := 6) (v := 2) (off := 34) 40 dX9_swellsAct_6 (by decide) (by decide) (by decide) (fun _ => ?_) (fun n9 => ?_)
  · exact o_M_swellsAct_b40 p1 p2 M
  refine go_tswC (pc := 6) (v := 4) (off := 49) 55 dX9_swellsAct_6 (by decide) (by decide) (by decide) (fun _ => ?_) (fun n10 => ?_)
  · refine go_aload_n (pc := 55) dX9_swellsAct_55 rfl ?_
    refine go_bipush (pc := 56) 50 dX9_swellsAct_56 kb_50 ?_
    refine go_callV (pc := 58) (a := 12451850) (as := [.int 50]) (st := []) (o_M_body 50 M) ic_M_body ivX9_375 (rcvk (a := 12451850) (t := 10) rfl (by decide) (by decide) rfl) rfl (by decide) (Nat.le_of_ble_eq_true rfl) dX9_swellsAct_58 (kWv fun M1 => ?_)
    refine go_aload_n (pc := 61) dX9_swellsAct_61 rfl ?_
    refine go_iload_n (pc := 62) dX9_swellsAct_62 rfl ?_
    refine go_iload_n (pc := 63) dX9_swellsAct_63 rfl ?_
    refine go_callV (pc := 64) (a := 12451850) (as := [.int p1, .int p2]) (st := []) (o_M_doorSwells p1 p2 M1) ic_M_doorSwells ivX9_378 (rcvk (a := 12451850) (t := 10) rfl (by decide) (by decide) rfl) rfl (by decide) (Nat.le_of_ble_eq_true rfl) dX9_swellsAct_64 (kWi fun r3 M2 => ?_)
    refine go_ineg (pc := 67) dX9_swellsAct_67 ?_
    exact go_ret dX9_swellsAct_68 rii rfl rfl
  refine go_tswC (pc := 6) (v := 5) (off := 34) 40 dX9_swellsAct_6 (by decide) (by decide) (by decide) (fun _ => ?_) (fun n11 => ?_)
  · exact o_M_swellsAct_b40 p1 p2 M
  refine go_tswC (pc := 6) (v := 6) (off := 63) 69 dX9_swellsAct_6 (by decide) (by decide) (by decide) (fun _ => ?_) (fun n12 => ?_)
  · refine go_aload_n (pc := 69) dX9_swellsAct_69 rfl ?_
    refine go_bipush (pc := 70) 71 dX9_swellsAct_70 kb_71 ?_
    refine go_callV (pc := 72) (a := 12451850) (as := [.int 71]) (st := []) (o_M_body 71 M) ic_M_body ivX9_375 (rcvk (a := 12451850) (t := 10) rfl (by decide) (by decide) rfl) rfl (by decide) (Nat.le_of_ble_eq_true rfl) dX9_swellsAct_72 (kWv fun M4 => ?_)
    refine go_aload_n (pc := 75) dX9_swellsAct_75 rfl ?_
    refine go_iload_n (pc := 76) dX9_swellsAct_76 rfl ?_
    refine go_iload_n (pc := 77) dX9_swellsAct_77 rfl ?_
    refine go_callV (pc := 78) (a := 12451850) (as := [.int p1, .int p2]) (st := []) (o_M_doorSwells p1 p2 M4) ic_M_doorSwells ivX9_378 (rcvk (a := 12451850) (t := 10) rfl (by decide) (by decide) rfl) rfl (by decide) (Nat.le_of_ble_eq_true rfl) dX9_swellsAct_78 (kWi fun r6 M5 => ?_)
    refine go_aload_n (pc := 81) dX9_swellsAct_81 rfl ?_
    refine go_getS (pc := 82) 12845195 flX9_26 rfl rfl sM_10_5 (by decide) dX9_swellsAct_82 ?_
    refine go_iload_n (pc := 85) dX9_swellsAct_85 rfl ?_
    refine go_iald (pc := 86) rfl rfl dX9_swellsAct_86 (fun _ => ?_)
    refine go_ixor (pc := 87) dX9_swellsAct_87 ?_
    exact go_ret dX9_swellsAct_88 rii rfl rfl
  refine go_tswD (pc := 6) 89 dX9_swellsAct_6 (by have n9t := lv_neT n9 (show (2 : Int32).toInt = 2 by decide); have n10t := lv_neT n10 (show (4 : Int32).toInt = 4 by decide); have n11t := lv_neT n11 (show (5 : Int32).toInt = 5 by decide); have n12t := lv_neT n12 (show (6 : Int32).toInt = 6 by decide); rcases (show (mI M 12714123 p1.toNatClampNeg).toInt < 2 ∨ 6 < (mI M 12714123 p1.toNatClampNeg).toInt ∨ (mI M 12714123 p1.toNatClampNeg).toInt = 3 by omega) with h | h | h <;> first | exact Or.inl h | exact Or.inr (Or.inl h) | exact Or.inr (Or.inr (by rw [h]; decide))) (by decide) ?_
  refine go_aload_n (pc := 89) dX9_swellsAct_89 rfl ?_
  refine go_iload_n (pc := 90) dX9_swellsAct_90 rfl ?_
  refine go_iload_n (pc := 91) dX9_swellsAct_91 rfl ?_
  refine go_callV (pc := 92) (a := 12451850) (as := [.int p1, .int p2]) (st := []) (o_M_doorSwells p1 p2 M) ic_M_doorSwells ivX9_378 (rcvk (a := 12451850) (t := 10) rfl (by decide) (by decide) rfl) rfl (by decide) (Nat.le_of_ble_eq_true rfl) dX9_swellsAct_92 (kWi fun r8 M7 => ?_)
  exact go_ret dX9_swellsAct_95 rii rfl rfl
def f_M_doorHangs (p1 : Int32) (p2 : Int32) (M : Mem) : Option (Int32 × Mem) := bd (f_M_body 11 M) fun M1 => b2 (f_M_swellsAct p1 p2 M1) fun r3 M2 => gd (inR p1 4) (some (r3 - (mI M2 12845195 p1.toNatClampNeg), M2))
theorem o_M_doorHangs (p1 : Int32) (p2 : Int32) (M : Mem) : Ct sRM g_M_doorHangs fWi [.ref 12451850, .int p1, .int p2] (f_M_doorHangs p1 p2 M) M := by
  refine ⟨Nat.le_of_ble_eq_true rfl, ?_⟩
  show Go sRM g_M_doorHangs fWi (f_M_doorHangs p1 p2 M) 0 [.ref 12451850, .int p1, .int p2] [] M
  refine go_def (f_M_doorHangs.eq_1 ..) ?_
  refine go_aload_n (pc := 0) dX9_doorHangs_0 rfl ?_
  refine go_bipush (pc := 1) 11 dX9_doorHangs_1 kb_11 ?_
  refine go_callV (pc := 3) (a := 12451850) (as := [.int 11]) (st := []) (o_M_body 11 M) ic_M_body ivX9_375 (rcvk (a := 12451850) (t := 10) rfl (by decide) (by decide) rfl) rfl (by decide) (Nat.le_of_ble_eq_true rfl) dX9_doorHangs_3 (kWv fun M1 => ?_)
  refine go_aload_n (pc := 6) dX9_doorHangs_6 rfl ?_
  refine go_iload_n (pc := 7) dX9_doorHangs_7 rfl ?_
  refine go_iload_n (pc := 8) dX9_doorHangs_8 rfl ?_
  refine go_callV (pc := 9) (a := 12451850) (as := [.int p1, .int p2]) (st := []) (o_M_swellsAct p1 p2 M1) ic_M_swellsAct ivX9_381 (rcvk (a := 12451850) (t := 10) rfl (by decide) (by decide) rfl) rfl (by decide) (Nat.le_of_ble_eq_true rfl) dX9_doorHangs_9 (kWi fun r3 M2 => ?_)
  refine go_aload_n (pc := 12) dX9_doorHangs_12 rfl ?_
  refine go_getS (pc := 13) 12845195 flX9_26 rfl rfl sM_10_5 (by decide) dX9_doorHangs_13 ?_
  refine go_iload_n (pc := 16) dX9_doorHangs_16 rfl ?_
  refine go_iald (pc := 17) rfl rfl dX9_doorHangs_17 (fun _ => ?_)
  refine go_isub (pc := 18) dX9_doorHangs_18 ?_
  exact go_ret dX9_doorHangs_19 rii rfl rfl
def f_M_swollenHangs (p1 : Int32) (p2 : Int32) (M : Mem) : Option (Int32 × Mem) := bd (f_M_body 20 M) fun M1 => b2 (f_M_doorHangs p1 p2 M1) fun r3 M2 => some (r3 ^^^ 6, M2)
theorem o_M_swollenHangs (p1 : Int32) (p2 : Int32) (M : Mem) : Ct sRM g_M_swollenHangs fWi [.ref 12451850, .int p1, .int p2] (f_M_swollenHangs p1 p2 M) M := by
  refine ⟨Nat.le_of_ble_eq_true rfl, ?_⟩
  show Go sRM g_M_swollenHangs fWi (f_M_swollenHangs p1 p2 M) 0 [.ref 12451850, .int p1, .int p2] [] M
  refine go_def (f_M_swollenHangs.eq_1 ..) ?_
  refine go_aload_n (pc := 0) dX9_swollenHangs_0 rfl ?_
  refine go_bipush (pc := 1) 20 dX9_swollenHangs_1 kb_20 ?_
  refine go_callV (pc := 3) (a := 12451850) (as := [.int 20]) (st := []) (o_M_body 20 M) ic_M_body ivX9_375 (rcvk (a := 12451850) (t := 10) rfl (by decide) (by decide) rfl) rfl (by decide) (Nat.le_of_ble_eq_true rfl) dX9_swollenHangs_3 (kWv fun M1 => ?_)
  refine go_aload_n (pc := 6) dX9_swollenHangs_6 rfl ?_
  refine go_iload_n (pc := 7) dX9_swollenHangs_7 rfl ?_
  refine go_iload_n (pc := 8) dX9_swollenHangs_8 rfl ?_
  refine go_callV (pc := 9) (a := 12451850) (as := [.int p1, .int p2]) (st := []) (o_M_doorHangs p1 p2 M1) ic_M_doorHangs ivX9_384 (rcvk (a := 12451850) (t := 10) rfl (by decide) (by decide) rfl) rfl (by decide) (Nat.le_of_ble_eq_true rfl) dX9_swollenHangs_9 (kWi fun r3 M2 => ?_)
  refine go_bipush (pc := 12) 6 dX9_swollenHangs_12 kb_6 ?_
  refine go_ixor (pc := 14) dX9_swollenHangs_14 ?_
  exact go_ret dX9_swollenHangs_15 rii rfl rfl
def f_M_hangsAct (p1 : Int32) (p2 : Int32) (M : Mem) : Option (Int32 × Mem) := gd (inR p1 4) (if (mI M 12714123 p1.toNatClampNeg) = 1 then b2 (f_M_swollenHangs p1 p2 M) fun r2 M1 => some (r2, M1) else if (mI M 12714123 p1.toNatClampNeg) = 4 then bd (f_M_body 51 M) fun M3 => b2 (f_M_swollenHangs p1 (p2 + 1) M3) fun r5 M4 => some (r5, M4) else if (mI M 12714123 p1.toNatClampNeg) = 6 then bd (f_M_body 70 M) fun M6 => b2 (f_M_doorHangs p1 p2 M6) fun r8 M7 => b2 (f_M_doorSwells p1 2 M7) fun r10 M9 => some (r8 + r10, M9) else b2 (f_M_doorHangs p1 p2 M) fun r12 M11 => some (r12, M11))
theorem o_M_hangsAct (p1 : Int32) (p2 : Int32) (M : Mem) : Ct sRM g_M_hangsAct fWi [.ref 12451850, .int p1, .int p2] (f_M_hangsAct p1 p2 M) M := by
  refine ⟨Nat.le_of_ble_eq_true rfl, ?_⟩
  show Go sRM g_M_hangsAct fWi (f_M_hangsAct p1 p2 M) 0 [.ref 12451850, .int p1, .int p2, .null] [] M
  refine go_def (f_M_hangsAct.eq_1 ..) ?_
  refine go_aload_n (pc := 0) dX9_hangsAct_0 rfl ?_
  refine go_getS (pc := 1) 12714123 flX9_23 rfl rfl sM_10_4 (by decide) dX9_hangsAct_1 ?_
  refine go_iload_n (pc := 4) dX9_hangsAct_4 rfl ?_
  refine go_iald (pc := 5) rfl rfl dX9_hangsAct_5 (fun _ => ?_)
  refine go_lswC (pc := 6) (v := 1) (off := 34) 40 dX9_hangsAct_6 (by decide) (by decide) (by decide) (fun _ => ?_) (fun n13 => ?_)
  · refine go_aload_n (pc := 40) dX9_hangsAct_40 rfl ?_
    refine go_iload_n (pc := 41) dX9_hangsAct_41 rfl ?_
    refine go_iload_n (pc := 42) dX9_hangsAct_42 rfl ?_
    refine go_callV (pc := 43) (a := 12451850) (as := [.int p1, .int p2]) (st := []) (o_M_swollenHangs p1 p2 M) ic_M_swollenHangs ivX9_387 (rcvk (a := 12451850) (t := 10) rfl (by decide) (by decide) rfl) rfl (by decide) (Nat.le_of_ble_eq_true rfl) dX9_hangsAct_43 (kWi fun r2 M1 => ?_)
    exact go_ret dX9_hangsAct_46 rii rfl rfl
  refine go_lswC (pc := 6) (v := 4) (off := 41) 47 dX9_hangsAct_6 (by decide) (by decide) (by decide) (fun _ => ?_) (fun n14 => ?_)
  · refine go_aload_n (pc := 47) dX9_hangsAct_47 rfl ?_
    refine go_bipush (pc := 48) 51 dX9_hangsAct_48 kb_51 ?_
    refine go_callV (pc := 50) (a := 12451850) (as := [.int 51]) (st := []) (o_M_body 51 M) ic_M_body ivX9_375 (rcvk (a := 12451850) (t := 10) rfl (by decide) (by decide) rfl) rfl (by decide) (Nat.le_of_ble_eq_true rfl) dX9_hangsAct_50 (kWv fun M3 => ?_)
    refine go_aload_n (pc := 53) dX9_hangsAct_53 rfl ?_
    refine go_iload_n (pc := 54) dX9_hangsAct_54 rfl ?_
    refine go_iload_n (pc := 55) dX9_hangsAct_55 rfl ?_
    refine go_iconst (pc := 56) 1 dX9_hangsAct_56 ki_1 ?_
    refine go_iadd (pc := 57) dX9_hangsAct_57 ?_
    refine go_callV (pc := 58) (a := 12451850) (as := [.int p1, .int (p2 + 1)]) (st := []) (o_M_swollenHangs p1 (p2 + 1) M3) ic_M_swollenHangs ivX9_387 (rcvk (a := 12451850) (t := 10) rfl (by decide) (by decide) rfl) rfl (by decide) (Nat.le_of_ble_eq_true rfl) dX9_hangsAct_58 (kWi fun r5 M4 => ?_)
    exact go_ret dX9_hangsAct_61 rii rfl rfl
  refine go_lswC (pc := 6) (v := 6) (off := 56) 62 dX9_hangsAct_6 (by decide) (by decide) (by decide) (fun _ => ?_) (fun n15 => ?_)
  · refine go_aload_n (pc := 62) dX9_hangsAct_62 rfl ?_
    refine go_bipush (pc := 63) 70 dX9_hangsAct_63 kb_70 ?_
    refine go_callV (pc := 65) (a := 12451850) (as := [.int 70]) (st := []) (o_M_body 70 M) ic_M_body ivX9_375 (rcvk (a := 12451850) (t := 10) rfl (by decide) (by decide) rfl) rfl (by decide) (Nat.le_of_ble_eq_true rfl) dX9_hangsAct_65 (kWv fun M6 => ?_)
    refine go_aload_n (pc := 68) dX9_hangsAct_68 rfl ?_
    refine go_iload_n (pc := 69) dX9_hangsAct_69 rfl ?_
    refine go_iload_n (pc := 70) dX9_hangsAct_70 rfl ?_
    refine go_callV (pc := 71) (a := 12451850) (as := [.int p1, .int p2]) (st := []) (o_M_doorHangs p1 p2 M6) ic_M_doorHangs ivX9_384 (rcvk (a := 12451850) (t := 10) rfl (by decide) (by decide) rfl) rfl (by decide) (Nat.le_of_ble_eq_true rfl) dX9_hangsAct_71 (kWi fun r8 M7 => ?_)
    refine go_istore_n (pc := 74) (ls' := [.ref 12451850, .int p1, .int p2, .int r8]) dX9_hangsAct_74 (Nat.le_of_ble_eq_true rfl) rfl rfl ?_
    refine go_iload_n (pc := 75) dX9_hangsAct_75 rfl ?_
    refine go_aload_n (pc := 76) dX9_hangsAct_76 rfl ?_
    refine go_iload_n (pc := 77) dX9_hangsAct_77 rfl ?_
    refine go_iconst (pc := 78) 2 dX9_hangsAct_78 ki_2 ?_
    refine go_callV (pc := 79) (a := 12451850) (as := [.int p1, .int 2]) (st := [.int r8]) (o_M_doorSwells p1 2 M7) ic_M_doorSwells ivX9_378 (rcvk (a := 12451850) (t := 10) rfl (by decide) (by decide) rfl) rfl (by decide) (Nat.le_of_ble_eq_true rfl) dX9_hangsAct_79 (kWi fun r10 M9 => ?_)
    refine go_iadd (pc := 82) dX9_hangsAct_82 ?_
    exact go_ret dX9_hangsAct_83 rii rfl rfl
  refine go_lswD (pc := 6) 84 dX9_hangsAct_6 (by decide) (by show Op.lookupswitch.offset ([(1, 34), (4, 41), (6, 56)] : List (Int × Int)) _ _ = _; rw [lv_osw n13 (show (1 : Int32).toInt = 1 by decide), lv_osw n14 (show (4 : Int32).toInt = 4 by decide), lv_osw n15 (show (6 : Int32).toInt = 6 by decide)]; rfl) (by decide) ?_
  refine go_aload_n (pc := 84) dX9_hangsAct_84 rfl ?_
  refine go_iload_n (pc := 85) dX9_hangsAct_85 rfl ?_
  refine go_iload_n (pc := 86) dX9_hangsAct_86 rfl ?_
  refine go_callV (pc := 87) (a := 12451850) (as := [.int p1, .int p2]) (st := []) (o_M_doorHangs p1 p2 M) ic_M_doorHangs ivX9_384 (rcvk (a := 12451850) (t := 10) rfl (by decide) (by decide) rfl) rfl (by decide) (Nat.le_of_ble_eq_true rfl) dX9_hangsAct_87 (kWi fun r12 M11 => ?_)
  exact go_ret dX9_hangsAct_90 rii rfl rfl
def f_M_doorTells (p1 : Int32) (p2 : Int32) (M : Mem) : Option (Int32 × Mem) := bd (f_M_body 12 M) fun M1 => b2 (f_M_hangsAct p1 p2 M1) fun r3 M2 => some (r3 * 2, M2)
theorem o_M_doorTells (p1 : Int32) (p2 : Int32) (M : Mem) : Ct sRM g_M_doorTells fWi [.ref 12451850, .int p1, .int p2] (f_M_doorTells p1 p2 M) M := by
  refine ⟨Nat.le_of_ble_eq_true rfl, ?_⟩
  show Go sRM g_M_doorTells fWi (f_M_doorTells p1 p2 M) 0 [.ref 12451850, .int p1, .int p2] [] M
  refine go_def (f_M_doorTells.eq_1 ..) ?_
  refine go_aload_n (pc := 0) dX9_doorTells_0 rfl ?_
  refine go_bipush (pc := 1) 12 dX9_doorTells_1 kb_12 ?_
  refine go_callV (pc := 3) (a := 12451850) (as := [.int 12]) (st := []) (o_M_body 12 M) ic_M_body ivX9_375 (rcvk (a := 12451850) (t := 10) rfl (by decide) (by decide) rfl) rfl (by decide) (Nat.le_of_ble_eq_true rfl) dX9_doorTells_3 (kWv fun M1 => ?_)
  refine go_aload_n (pc := 6) dX9_doorTells_6 rfl ?_
  refine go_iload_n (pc := 7) dX9_doorTells_7 rfl ?_
  refine go_iload_n (pc := 8) dX9_doorTells_8 rfl ?_
  refine go_callV (pc := 9) (a := 12451850) (as := [.int p1, .int p2]) (st := []) (o_M_hangsAct p1 p2 M1) ic_M_hangsAct ivX9_390 (rcvk (a := 12451850) (t := 10) rfl (by decide) (by decide) rfl) rfl (by decide) (Nat.le_of_ble_eq_true rfl) dX9_doorTells_9 (kWi fun r3 M2 => ?_)
  refine go_iconst (pc := 12) 2 dX9_doorTells_12 ki_2 ?_
  refine go_imul (pc := 13) dX9_doorTells_13 ?_
  exact go_ret dX9_doorTells_14 rii rfl rfl
