/-! functions read off the bytecode, and that the code runs so (written by program) -/
def f_M_init (t : Nat) (M : Mem) : Option Mem := lt (nid M (12 * 32 + 11)) fun a1 => lt (newM M (12 * 32 + 11) (12)) fun M2 => lt (setI M2 a1 0 50) fun M4 => lt (setI M4 a1 1 50) fun M5 => lt (setI M5 a1 2 50) fun M6 => lt (setI M6 a1 3 50) fun M7 => lt (setI M7 a1 4 50) fun M8 => lt (setI M8 a1 5 50) fun M9 => lt (setI M9 a1 6 50) fun M10 => lt (setI M10 a1 7 50) fun M11 => lt (setI M11 a1 8 50) fun M12 => lt (setI M12 a1 9 50) fun M13 => lt (setI M13 a1 10 50) fun M14 => lt (setI M14 a1 11 50) fun M15 => lt (setR M15 t 0 a1) fun M16 => lt (setI M16 t 1 0) fun M17 => lt (setI M17 t 2 0) fun M18 => lt (setI M18 t 3 0) fun M19 => lt (nid M19 (4 * 32 + 11)) fun a20 => lt (newM M19 (4 * 32 + 11) (4)) fun M21 => lt (setR M21 t 4 a20) fun M23 => lt (nid M23 (4 * 32 + 11)) fun a24 => lt (newM M23 (4 * 32 + 11) (4)) fun M25 => lt (setR M25 t 5 a24) fun M27 => lt (nid M27 (4 * 32 + 11)) fun a28 => lt (newM M27 (4 * 32 + 11) (4)) fun M29 => lt (setR M29 t 6 a28) fun M31 => lt (nid M31 (4 * 32 + 11)) fun a32 => lt (newM M31 (4 * 32 + 11) (4)) fun M33 => lt (setR M33 t 7 a32) fun M35 => lt (nid M35 (4 * 32 + 11)) fun a36 => lt (newM M35 (4 * 32 + 11) (4)) fun M37 => lt (setR M37 t 8 a36) fun M39 => lt (nid M39 (4 * 32 + 11)) fun a40 => lt (newM M39 (4 * 32 + 11) (4)) fun M41 => lt (setR M41 t 9 a40) fun M43 => lt (nid M43 (4 * 32 + 11)) fun a44 => lt (newM M43 (4 * 32 + 11) (4)) fun M45 => lt (setR M45 t 10 a44) fun M47 => lt (nid M47 (24 * 32 + 11)) fun a48 => lt (newM M47 (24 * 32 + 11) (24)) fun M49 => lt (setR M49 t 11 a48) fun M51 => lt (setI M51 t 12 0) fun M52 => lt (setI M52 t 13 (-1)) fun M53 => lt (setI M53 t 14 0) fun M54 => lt (setI M54 t 15 0) fun M55 => lt (setI M55 t 16 0) fun M56 => lt (nid M56 (100 * 32 + 11)) fun a57 => lt (newM M56 (100 * 32 + 11) (100)) fun M58 => lt (setR M58 t 17 a57) fun M60 => lt (nid M60 (6 * 32 + 11)) fun a61 => lt (newM M60 (6 * 32 + 11) (6)) fun M62 => lt (setR M62 t 18 a61) fun M64 => lt (nid M64 (60 * 32 + 11)) fun a65 => lt (newM M64 (60 * 32 + 11) (60)) fun M66 => lt (setR M66 t 19 a65) fun M68 => lt (nid M68 (60 * 32 + 11)) fun a69 => lt (newM M68 (60 * 32 + 11) (60)) fun M70 => lt (setR M70 t 20 a69) fun M72 => lt (nid M72 (60 * 32 + 11)) fun a73 => lt (newM M72 (60 * 32 + 11) (60)) fun M74 => lt (setR M74 t 21 a73) fun M76 => lt (nid M76 (60 * 32 + 11)) fun a77 => lt (newM M76 (60 * 32 + 11) (60)) fun M78 => lt (setR M78 t 22 a77) fun M80 => lt (nid M80 (600 * 32 + 11)) fun a81 => lt (newM M80 (600 * 32 + 11) (600)) fun M82 => lt (setR M82 t 23 a81) fun M84 => lt (nid M84 (101 * 32 + 11)) fun a85 => lt (newM M84 (101 * 32 + 11) (101)) fun M86 => lt (setR M86 t 24 a85) fun M88 => lt (setI M88 t 25 0) fun M89 => lt (setI M89 t 26 0) fun M90 => lt (setI M90 t 27 0) fun M91 => lt (nid M91 (20 * 32 + 11)) fun a92 => lt (newM M91 (20 * 32 + 11) (20)) fun M93 => lt (setI M93 a92 0 115) fun M95 => lt (setI M95 a92 1 119) fun M96 => lt (setI M96 a92 2 101) fun M97 => lt (setI M97 a92 3 108) fun M98 => lt (setI M98 a92 4 108) fun M99 => lt (setI M99 a92 5 100) fun M100 => lt (setI M100 a92 6 114) fun M101 => lt (setI M101 a92 7 97) fun M102 => lt (setI M102 a92 8 119) fun M103 => lt (setI M103 a92 9 115) fun M104 => lt (setI M104 a92 10 105) fun M105 => lt (setI M105 a92 11 110) fun M106 => lt (setI M106 a92 12 107) fun M107 => lt (setI M107 a92 13 100) fun M108 => lt (setI M108 a92 14 114) fun M109 => lt (setI M109 a92 15 97) fun M110 => lt (setI M110 a92 16 117) fun M111 => lt (setI M111 a92 17 103) fun M112 => lt (setI M112 a92 18 104) fun M113 => lt (setI M113 a92 19 116) fun M114 => lt (setR M114 t 28 a92) fun M115 => lt (nid M115 (100 * 32 + 13)) fun a116 => lt (newM M115 (100 * 32 + 13) (100)) fun M117 => lt (setR M117 t 29 a116) fun M119 => lt (nid M119 (4 * 32 + 11)) fun a120 => lt (newM M119 (4 * 32 + 11) (4)) fun M121 => lt (setR M121 t 30 a120) fun M123 => lt (nid M123 (4 * 32 + 11)) fun a124 => lt (newM M123 (4 * 32 + 11) (4)) fun M125 => lt (setR M125 t 31 a124) fun M127 => lt (nid M127 (4 * 32 + 11)) fun a128 => lt (newM M127 (4 * 32 + 11) (4)) fun M129 => lt (setR M129 t 32 a128) fun M131 => lt (setI M131 t 33 0) fun M132 => lt (setI M132 t 34 0) fun M133 => lt (setI M133 t 35 0) fun M134 => lt (setI M134 t 36 0) fun M135 => lt (setI M135 t 37 0) fun M136 => lt (nid M136 (12 * 32 + 11)) fun a137 => lt (newM M136 (12 * 32 + 11) (12)) fun M138 => lt (setR M138 t 38 a137) fun M140 => lt (nid M140 (12 * 32 + 11)) fun a141 => lt (newM M140 (12 * 32 + 11) (12)) fun M142 => lt (setR M142 t 39 a141) fun M144 => lt (setI M144 t 40 0) fun M145 => lt (setI M145 t 41 (-1)) fun M146 => lt (setI M146 t 42 0) fun M147 => lt (setI M147 t 43 0) fun M148 => lt (setI M148 t 44 0) fun M149 => lt (setI M149 t 45 0) fun M150 => lt (nid M150 (12 * 32 + 11)) fun a151 => lt (newM M150 (12 * 32 + 11) (12)) fun M152 => lt (setR M152 t 46 a151) fun M154 => lt (nid M154 (4 * 32 + 11)) fun a155 => lt (newM M154 (4 * 32 + 11) (4)) fun M156 => lt (setR M156 t 47 a155) fun M158 => lt (nid M158 (4 * 32 + 11)) fun a159 => lt (newM M158 (4 * 32 + 11) (4)) fun M160 => lt (setR M160 t 48 a159) fun M162 => lt (nid M162 (4 * 32 + 11)) fun a163 => lt (newM M162 (4 * 32 + 11) (4)) fun M164 => lt (setR M164 t 49 a163) fun M166 => lt (nid M166 (4 * 32 + 11)) fun a167 => lt (newM M166 (4 * 32 + 11) (4)) fun M168 => lt (setR M168 t 50 a167) fun M170 => lt (nid M170 (4 * 32 + 11)) fun a171 => lt (newM M170 (4 * 32 + 11) (4)) fun M172 => lt (setR M172 t 51 a171) fun M174 => lt (nid M174 (4 * 32 + 11)) fun a175 => lt (newM M174 (4 * 32 + 11) (4)) fun M176 => lt (setR M176 t 52 a175) fun M178 => lt (nid M178 (4 * 32 + 11)) fun a179 => lt (newM M178 (4 * 32 + 11) (4)) fun M180 => lt (setR M180 t 53 a179) fun M182 => lt (nid M182 (24 * 32 + 11)) fun a183 => lt (newM M182 (24 * 32 + 11) (24)) fun M184 => lt (setR M184 t 54 a183) fun M186 => lt (nid M186 (12 * 32 + 11)) fun a187 => lt (newM M186 (12 * 32 + 11) (12)) fun M188 => lt (setR M188 t 55 a187) fun M190 => lt (nid M190 (12 * 32 + 11)) fun a191 => lt (newM M190 (12 * 32 + 11) (12)) fun M192 => lt (setR M192 t 56 a191) fun M194 => lt (setI M194 t 57 0) fun M195 => lt (nid M195 (20 * 32 + 11)) fun a196 => lt (newM M195 (20 * 32 + 11) (20)) fun M197 => lt (setR M197 t 58 a196) fun M199 => lt (nid M199 (6 * 32 + 11)) fun a200 => lt (newM M199 (6 * 32 + 11) (6)) fun M201 => lt (setI M201 a200 0 (-1)) fun M203 => lt (setI M203 a200 1 (-1)) fun M204 => lt (setI M204 a200 2 (-1)) fun M205 => lt (setI M205 a200 3 (-1)) fun M206 => lt (setI M206 a200 4 (-1)) fun M207 => lt (setI M207 a200 5 (-1)) fun M208 => lt (setR M208 t 59 a200) fun M209 => lt (nid M209 (6 * 32 + 11)) fun a210 => lt (newM M209 (6 * 32 + 11) (6)) fun M211 => lt (setR M211 t 60 a210) fun M213 => lt (nid M213 (360 * 32 + 12)) fun a214 => lt (newM M213 (360 * 32 + 12) (360)) fun M215 => lt (setR M215 t 61 a214) fun M217 => lt (nid M217 (60 * 32 + 12)) fun a218 => lt (newM M217 (60 * 32 + 12) (60)) fun M219 => lt (setR M219 t 62 a218) fun M221 => some M221
theorem o_M_init (t : Nat) (ht : t % 131072 = 10) (M : Mem) : Ct sR0 g_M_init fWv [.ref t] (f_M_init t M) M := by
  refine ⟨Nat.le_of_ble_eq_true rfl, ?_⟩
  show Go sR0 g_M_init fWv (f_M_init t M) 0 [.ref t] [] M
  refine go_def (f_M_init.eq_1 ..) ?_
  refine go_aload_n (pc := 0) dX9_init_0 rfl ?_
  refine go_objInit (pc := 1) dX9_init_1 (by have : t % 32 = 10 := (kd32 (t := 10) ht rfl); omega) (by have : t % 32 = 10 := (kd32 (t := 10) ht rfl); omega) (gT_of (mtb4 (mt64 (mt64 (mt16 (mt16 (mt16 (mt1 (mt1 (mt1 (List.Mem.head _)))))))))) rfl) oi1 oi2 (by decide) (Nat.le_of_ble_eq_true rfl) ?_
  refine go_aload_n (pc := 4) dX9_init_4 rfl ?_
  refine go_bipush (pc := 5) 12 dX9_init_5 kb_12 ?_
  refine go_newa (pc := 7) (t := 11) (N := 12) (by decide) (by decide) (by decide) (by decide) (fun _ _ => rfl) (gT_of (mtb1 (mt64 (mt16 (mt1 (mt1 (mt1 (List.Mem.head _))))))) rfl) dX9_init_7 (fun a1 M2 k3 => ?_)
  refine go_dup (pc := 9) dX9_init_9 rfl ?_
  refine go_iconst (pc := 10) 0 dX9_init_10 ki_0 ?_
  refine go_bipush (pc := 11) 50 dX9_init_11 kb_50 ?_
  refine go_iast' (pc := 13) 0 (by decide) (by decide) (kd32 (t := 11) k3 rfl) (kln k3 rfl) dX9_init_13 (fun M4 => ?_)
  refine go_dup (pc := 14) dX9_init_14 rfl ?_
  refine go_iconst (pc := 15) 1 dX9_init_15 ki_1 ?_
  refine go_bipush (pc := 16) 50 dX9_init_16 kb_50 ?_
  refine go_iast' (pc := 18) 1 (by decide) (by decide) (kd32 (t := 11) k3 rfl) (kln k3 rfl) dX9_init_18 (fun M5 => ?_)
  refine go_dup (pc := 19) dX9_init_19 rfl ?_
  refine go_iconst (pc := 20) 2 dX9_init_20 ki_2 ?_
  refine go_bipush (pc := 21) 50 dX9_init_21 kb_50 ?_
  refine go_iast' (pc := 23) 2 (by decide) (by decide) (kd32 (t := 11) k3 rfl) (kln k3 rfl) dX9_init_23 (fun M6 => ?_)
  refine go_dup (pc := 24) dX9_init_24 rfl ?_
  refine go_iconst (pc := 25) 3 dX9_init_25 ki_3 ?_
  refine go_bipush (pc := 26) 50 dX9_init_26 kb_50 ?_
  refine go_iast' (pc := 28) 3 (by decide) (by decide) (kd32 (t := 11) k3 rfl) (kln k3 rfl) dX9_init_28 (fun M7 => ?_)
  refine go_dup (pc := 29) dX9_init_29 rfl ?_
  refine go_iconst (pc := 30) 4 dX9_init_30 ki_4 ?_
  refine go_bipush (pc := 31) 50 dX9_init_31 kb_50 ?_
  refine go_iast' (pc := 33) 4 (by decide) (by decide) (kd32 (t := 11) k3 rfl) (kln k3 rfl) dX9_init_33 (fun M8 => ?_)
  refine go_dup (pc := 34) dX9_init_34 rfl ?_
  refine go_iconst (pc := 35) 5 dX9_init_35 ki_5 ?_
  refine go_bipush (pc := 36) 50 dX9_init_36 kb_50 ?_
  refine go_iast' (pc := 38) 5 (by decide) (by decide) (kd32 (t := 11) k3 rfl) (kln k3 rfl) dX9_init_38 (fun M9 => ?_)
  refine go_dup (pc := 39) dX9_init_39 rfl ?_
  refine go_bipush (pc := 40) 6 dX9_init_40 kb_6 ?_
  refine go_bipush (pc := 42) 50 dX9_init_42 kb_50 ?_
  refine go_iast' (pc := 44) 6 (by decide) (by decide) (kd32 (t := 11) k3 rfl) (kln k3 rfl) dX9_init_44 (fun M10 => ?_)
  refine go_dup (pc := 45) dX9_init_45 rfl ?_
  refine go_bipush (pc := 46) 7 dX9_init_46 kb_7 ?_
  refine go_bipush (pc := 48) 50 dX9_init_48 kb_50 ?_
  refine go_iast' (pc := 50) 7 (by decide) (by decide) (kd32 (t := 11) k3 rfl) (kln k3 rfl) dX9_init_50 (fun M11 => ?_)
  refine go_dup (pc := 51) dX9_init_51 rfl ?_
  refine go_bipush (pc := 52) 8 dX9_init_52 kb_8 ?_
  refine go_bipush (pc := 54) 50 dX9_init_54 kb_50 ?_
  refine go_iast' (pc := 56) 8 (by decide) (by decide) (kd32 (t := 11) k3 rfl) (kln k3 rfl) dX9_init_56 (fun M12 => ?_)
  refine go_dup (pc := 57) dX9_init_57 rfl ?_
  refine go_bipush (pc := 58) 9 dX9_init_58 kb_9 ?_
  refine go_bipush (pc := 60) 50 dX9_init_60 kb_50 ?_
  refine go_iast' (pc := 62) 9 (by decide) (by decide) (kd32 (t := 11) k3 rfl) (kln k3 rfl) dX9_init_62 (fun M13 => ?_)
  refine go_dup (pc := 63) dX9_init_63 rfl ?_
  refine go_bipush (pc := 64) 10 dX9_init_64 kb_10 ?_
  refine go_bipush (pc := 66) 50 dX9_init_66 kb_50 ?_
  refine go_iast' (pc := 68) 10 (by decide) (by decide) (kd32 (t := 11) k3 rfl) (kln k3 rfl) dX9_init_68 (fun M14 => ?_)
  refine go_dup (pc := 69) dX9_init_69 rfl ?_
  refine go_bipush (pc := 70) 11 dX9_init_70 kb_11 ?_
  refine go_bipush (pc := 72) 50 dX9_init_72 kb_50 ?_
  refine go_iast' (pc := 74) 11 (by decide) (by decide) (kd32 (t := 11) k3 rfl) (kln k3 rfl) dX9_init_74 (fun M15 => ?_)
  refine go_putR (pc := 75) flX9_7 rfl (Or.inr ⟨rfl, rfl, rfl⟩) (kd32 (t := 10) ht rfl) rfl dX9_init_75 (fun M16 => ?_)
  refine go_aload_n (pc := 78) dX9_init_78 rfl ?_
  refine go_iconst (pc := 79) 0 dX9_init_79 ki_0 ?_
  refine go_putI (pc := 80) flX9_13 rfl (Or.inl rfl) ⟨rfl, rfl⟩ (kd32 (t := 10) ht rfl) dX9_init_80 (fun M17 => ?_)
  refine go_aload_n (pc := 83) dX9_init_83 rfl ?_
  refine go_iconst (pc := 84) 0 dX9_init_84 ki_0 ?_
  refine go_putI (pc := 85) flX9_17 rfl (Or.inl rfl) ⟨rfl, rfl⟩ (kd32 (t := 10) ht rfl) dX9_init_85 (fun M18 => ?_)
  refine go_aload_n (pc := 88) dX9_init_88 rfl ?_
  refine go_iconst (pc := 89) 0 dX9_init_89 ki_0 ?_
  refine go_putI (pc := 90) flX9_20 rfl (Or.inl rfl) ⟨rfl, rfl⟩ (kd32 (t := 10) ht rfl) dX9_init_90 (fun M19 => ?_)
  refine go_aload_n (pc := 93) dX9_init_93 rfl ?_
  refine go_iconst (pc := 94) 4 dX9_init_94 ki_4 ?_
  refine go_newa (pc := 95) (t := 11) (N := 4) (by decide) (by decide) (by decide) (by decide) (fun _ _ => rfl) (gT_of (mtb1 (mt64 (mt16 (mt1 (mt1 (mt1 (List.Mem.head _))))))) rfl) dX9_init_95 (fun a20 M21 k22 => ?_)
  refine go_putR (pc := 97) flX9_23 rfl (Or.inr ⟨rfl, rfl, rfl⟩) (kd32 (t := 10) ht rfl) rfl dX9_init_97 (fun M23 => ?_)
  refine go_aload_n (pc := 100) dX9_init_100 rfl ?_
  refine go_iconst (pc := 101) 4 dX9_init_101 ki_4 ?_
  refine go_newa (pc := 102) (t := 11) (N := 4) (by decide) (by decide) (by decide) (by decide) (fun _ _ => rfl) (gT_of (mtb1 (mt64 (mt16 (mt1 (mt1 (mt1 (List.Mem.head _))))))) rfl) dX9_init_102 (fun a24 M25 k26 => ?_)
  refine go_putR (pc := 104) flX9_26 rfl (Or.inr ⟨rfl, rfl, rfl⟩) (kd32 (t := 10) ht rfl) rfl dX9_init_104 (fun M27 => ?_)
  refine go_aload_n (pc := 107) dX9_init_107 rfl ?_
  refine go_iconst (pc := 108) 4 dX9_init_108 ki_4 ?_
  refine go_newa (pc := 109) (t := 11) (N := 4) (by decide) (by decide) (by decide) (by decide) (fun _ _ => rfl) (gT_of (mtb1 (mt64 (mt16 (mt1 (mt1 (mt1 (List.Mem.head _))))))) rfl) dX9_init_109 (fun a28 M29 k30 => ?_)
  refine go_putR (pc := 111) flX9_29 rfl (Or.inr ⟨rfl, rfl, rfl⟩) (kd32 (t := 10) ht rfl) rfl dX9_init_111 (fun M31 => ?_)
  refine go_aload_n (pc := 114) dX9_init_114 rfl ?_
  refine go_iconst (pc := 115) 4 dX9_init_115 ki_4 ?_
  refine go_newa (pc := 116) (t := 11) (N := 4) (by decide) (by decide) (by decide) (by decide) (fun _ _ => rfl) (gT_of (mtb1 (mt64 (mt16 (mt1 (mt1 (mt1 (List.Mem.head _))))))) rfl) dX9_init_116 (fun a32 M33 k34 => ?_)
  refine go_putR (pc := 118) flX9_32 rfl (Or.inr ⟨rfl, rfl, rfl⟩) (kd32 (t := 10) ht rfl) rfl dX9_init_118 (fun M35 => ?_)
  refine go_aload_n (pc := 121) dX9_init_121 rfl ?_
  refine go_iconst (pc := 122) 4 dX9_init_122 ki_4 ?_
  refine go_newa (pc := 123) (t := 11) (N := 4) (by decide) (by decide) (by decide) (by decide) (fun _ _ => rfl) (gT_of (mtb1 (mt64 (mt16 (mt1 (mt1 (mt1 (List.Mem.head _))))))) rfl) dX9_init_123 (fun a36 M37 k38 => ?_)
  refine go_putR (pc := 125) flX9_35 rfl (Or.inr ⟨rfl, rfl, rfl⟩) (kd32 (t := 10) ht rfl) rfl dX9_init_125 (fun M39 => ?_)
  refine go_aload_n (pc := 128) dX9_init_128 rfl ?_
  refine go_iconst (pc := 129) 4 dX9_init_129 ki_4 ?_
  refine go_newa (pc := 130) (t := 11) (N := 4) (by decide) (by decide) (by decide) (by decide) (fun _ _ => rfl) (gT_of (mtb1 (mt64 (mt16 (mt1 (mt1 (mt1 (List.Mem.head _))))))) rfl) dX9_init_130 (fun a40 M41 k42 => ?_)
  refine go_putR (pc := 132) flX9_38 rfl (Or.inr ⟨rfl, rfl, rfl⟩) (kd32 (t := 10) ht rfl) rfl dX9_init_132 (fun M43 => ?_)
  refine go_aload_n (pc := 135) dX9_init_135 rfl ?_
  refine go_iconst (pc := 136) 4 dX9_init_136 ki_4 ?_
  refine go_newa (pc := 137) (t := 11) (N := 4) (by decide) (by decide) (by decide) (by decide) (fun _ _ => rfl) (gT_of (mtb1 (mt64 (mt16 (mt1 (mt1 (mt1 (List.Mem.head _))))))) rfl) dX9_init_137 (fun a44 M45 k46 => ?_)
  refine go_putR (pc := 139) flX9_41 rfl (Or.inr ⟨rfl, rfl, rfl⟩) (kd32 (t := 10) ht rfl) rfl dX9_init_139 (fun M47 => ?_)
  refine go_aload_n (pc := 142) dX9_init_142 rfl ?_
  refine go_bipush (pc := 143) 24 dX9_init_143 kb_24 ?_
  refine go_newa (pc := 145) (t := 11) (N := 24) (by decide) (by decide) (by decide) (by decide) (fun _ _ => rfl) (gT_of (mtb1 (mt64 (mt16 (mt1 (mt1 (mt1 (List.Mem.head _))))))) rfl) dX9_init_145 (fun a48 M49 k50 => ?_)
  refine go_putR (pc := 147) flX9_44 rfl (Or.inr ⟨rfl, rfl, rfl⟩) (kd32 (t := 10) ht rfl) rfl dX9_init_147 (fun M51 => ?_)
  refine go_aload_n (pc := 150) dX9_init_150 rfl ?_
  refine go_iconst (pc := 151) 0 dX9_init_151 ki_0 ?_
  refine go_putI (pc := 152) flX9_47 rfl (Or.inl rfl) ⟨rfl, rfl⟩ (kd32 (t := 10) ht rfl) dX9_init_152 (fun M52 => ?_)
  refine go_aload_n (pc := 155) dX9_init_155 rfl ?_
  refine go_iconst (pc := 156) (-1) dX9_init_156 ki_m1 ?_
  refine go_putI (pc := 157) flX9_50 rfl (Or.inl rfl) ⟨rfl, rfl⟩ (kd32 (t := 10) ht rfl) dX9_init_157 (fun M53 => ?_)
  refine go_aload_n (pc := 160) dX9_init_160 rfl ?_
  refine go_iconst (pc := 161) 0 dX9_init_161 ki_0 ?_
  refine go_putI (pc := 162) flX9_53 rfl (Or.inl rfl) ⟨rfl, rfl⟩ (kd32 (t := 10) ht rfl) dX9_init_162 (fun M54 => ?_)
  refine go_aload_n (pc := 165) dX9_init_165 rfl ?_
  refine go_iconst (pc := 166) 0 dX9_init_166 ki_0 ?_
  refine go_putI (pc := 167) flX9_56 rfl (Or.inl rfl) ⟨rfl, rfl⟩ (kd32 (t := 10) ht rfl) dX9_init_167 (fun M55 => ?_)
  refine go_aload_n (pc := 170) dX9_init_170 rfl ?_
  refine go_iconst (pc := 171) 0 dX9_init_171 ki_0 ?_
  refine go_putI (pc := 172) flX9_59 rfl (Or.inl rfl) ⟨rfl, rfl⟩ (kd32 (t := 10) ht rfl) dX9_init_172 (fun M56 => ?_)
  refine go_aload_n (pc := 175) dX9_init_175 rfl ?_
  refine go_bipush (pc := 176) 100 dX9_init_176 kb_100 ?_
  refine go_newa (pc := 178) (t := 11) (N := 100) (by decide) (by decide) (by decide) (by decide) (fun _ _ => rfl) (gT_of (mtb1 (mt64 (mt16 (mt1 (mt1 (mt1 (List.Mem.head _))))))) rfl) dX9_init_178 (fun a57 M58 k59 => ?_)
  refine go_putR (pc := 180) flX9_62 rfl (Or.inr ⟨rfl, rfl, rfl⟩) (kd32 (t := 10) ht rfl) rfl dX9_init_180 (fun M60 => ?_)
  refine go_aload_n (pc := 183) dX9_init_183 rfl ?_
  refine go_bipush (pc := 184) 6 dX9_init_184 kb_6 ?_
  refine go_newa (pc := 186) (t := 11) (N := 6) (by decide) (by decide) (by decide) (by decide) (fun _ _ => rfl) (gT_of (mtb1 (mt64 (mt16 (mt1 (mt1 (mt1 (List.Mem.head _))))))) rfl) dX9_init_186 (fun a61 M62 k63 => ?_)
  refine go_putR (pc := 188) flX9_65 rfl (Or.inr ⟨rfl, rfl, rfl⟩) (kd32 (t := 10) ht rfl) rfl dX9_init_188 (fun M64 => ?_)
  refine go_aload_n (pc := 191) dX9_init_191 rfl ?_
  refine go_bipush (pc := 192) 60 dX9_init_192 kb_60 ?_
  refine go_newa (pc := 194) (t := 11) (N := 60) (by decide) (by decide) (by decide) (by decide) (fun _ _ => rfl) (gT_of (mtb1 (mt64 (mt16 (mt1 (mt1 (mt1 (List.Mem.head _))))))) rfl) dX9_init_194 (fun a65 M66 k67 => ?_)
  refine go_putR (pc := 196) flX9_68 rfl (Or.inr ⟨rfl, rfl, rfl⟩) (kd32 (t := 10) ht rfl) rfl dX9_init_196 (fun M68 => ?_)
  refine go_aload_n (pc := 199) dX9_init_199 rfl ?_
  refine go_bipush (pc := 200) 60 dX9_init_200 kb_60 ?_
  refine go_newa (pc := 202) (t := 11) (N := 60) (by decide) (by decide) (by decide) (by decide) (fun _ _ => rfl) (gT_of (mtb1 (mt64 (mt16 (mt1 (mt1 (mt1 (List.Mem.head _))))))) rfl) dX9_init_202 (fun a69 M70 k71 => ?_)
  refine go_putR (pc := 204) flX9_71 rfl (Or.inr ⟨rfl, rfl, rfl⟩) (kd32 (t := 10) ht rfl) rfl dX9_init_204 (fun M72 => ?_)
  refine go_aload_n (pc := 207) dX9_init_207 rfl ?_
  refine go_bipush (pc := 208) 60 dX9_init_208 kb_60 ?_
  refine go_newa (pc := 210) (t := 11) (N := 60) (by decide) (by decide) (by decide) (by decide) (fun _ _ => rfl) (gT_of (mtb1 (mt64 (mt16 (mt1 (mt1 (mt1 (List.Mem.head _))))))) rfl) dX9_init_210 (fun a73 M74 k75 => ?_)
  refine go_putR (pc := 212) flX9_74 rfl (Or.inr ⟨rfl, rfl, rfl⟩) (kd32 (t := 10) ht rfl) rfl dX9_init_212 (fun M76 => ?_)
  refine go_aload_n (pc := 215) dX9_init_215 rfl ?_
  refine go_bipush (pc := 216) 60 dX9_init_216 kb_60 ?_
  refine go_newa (pc := 218) (t := 11) (N := 60) (by decide) (by decide) (by decide) (by decide) (fun _ _ => rfl) (gT_of (mtb1 (mt64 (mt16 (mt1 (mt1 (mt1 (List.Mem.head _))))))) rfl) dX9_init_218 (fun a77 M78 k79 => ?_)
  refine go_putR (pc := 220) flX9_77 rfl (Or.inr ⟨rfl, rfl, rfl⟩) (kd32 (t := 10) ht rfl) rfl dX9_init_220 (fun M80 => ?_)
  refine go_aload_n (pc := 223) dX9_init_223 rfl ?_
  refine go_sipush (pc := 224) 600 dX9_init_224 ks_600 ?_
  refine go_newa (pc := 227) (t := 11) (N := 600) (by decide) (by decide) (by decide) (by decide) (fun _ _ => rfl) (gT_of (mtb1 (mt64 (mt16 (mt1 (mt1 (mt1 (List.Mem.head _))))))) rfl) dX9_init_227 (fun a81 M82 k83 => ?_)
  refine go_putR (pc := 229) flX9_80 rfl (Or.inr ⟨rfl, rfl, rfl⟩) (kd32 (t := 10) ht rfl) rfl dX9_init_229 (fun M84 => ?_)
  refine go_aload_n (pc := 232) dX9_init_232 rfl ?_
  refine go_bipush (pc := 233) 101 dX9_init_233 kb_101 ?_
  refine go_newa (pc := 235) (t := 11) (N := 101) (by decide) (by decide) (by decide) (by decide) (fun _ _ => rfl) (gT_of (mtb1 (mt64 (mt16 (mt1 (mt1 (mt1 (List.Mem.head _))))))) rfl) dX9_init_235 (fun a85 M86 k87 => ?_)
  refine go_putR (pc := 237) flX9_83 rfl (Or.inr ⟨rfl, rfl, rfl⟩) (kd32 (t := 10) ht rfl) rfl dX9_init_237 (fun M88 => ?_)
  refine go_aload_n (pc := 240) dX9_init_240 rfl ?_
  refine go_iconst (pc := 241) 0 dX9_init_241 ki_0 ?_
  refine go_putI (pc := 242) flX9_86 rfl (Or.inl rfl) ⟨rfl, rfl⟩ (kd32 (t := 10) ht rfl) dX9_init_242 (fun M89 => ?_)
  refine go_aload_n (pc := 245) dX9_init_245 rfl ?_
  refine go_iconst (pc := 246) 0 dX9_init_246 ki_0 ?_
  refine go_putI (pc := 247) flX9_89 rfl (Or.inl rfl) ⟨rfl, rfl⟩ (kd32 (t := 10) ht rfl) dX9_init_247 (fun M90 => ?_)
  refine go_aload_n (pc := 250) dX9_init_250 rfl ?_
  refine go_iconst (pc := 251) 0 dX9_init_251 ki_0 ?_
  refine go_putI (pc := 252) flX9_92 rfl (Or.inl rfl) ⟨rfl, rfl⟩ (kd32 (t := 10) ht rfl) dX9_init_252 (fun M91 => ?_)
  refine go_aload_n (pc := 255) dX9_init_255 rfl ?_
  refine go_bipush (pc := 256) 20 dX9_init_256 kb_20 ?_
  refine go_newa (pc := 258) (t := 11) (N := 20) (by decide) (by decide) (by decide) (by decide) (fun _ _ => rfl) (gT_of (mtb1 (mt64 (mt16 (mt1 (mt1 (mt1 (List.Mem.head _))))))) rfl) dX9_init_258 (fun a92 M93 k94 => ?_)
  refine go_dup (pc := 260) dX9_init_260 rfl ?_
  refine go_iconst (pc := 261) 0 dX9_init_261 ki_0 ?_
  refine go_bipush (pc := 262) 115 dX9_init_262 kb_115 ?_
  refine go_iast' (pc := 264) 0 (by decide) (by decide) (kd32 (t := 11) k94 rfl) (kln k94 rfl) dX9_init_264 (fun M95 => ?_)
  refine go_dup (pc := 265) dX9_init_265 rfl ?_
  refine go_iconst (pc := 266) 1 dX9_init_266 ki_1 ?_
  refine go_bipush (pc := 267) 119 dX9_init_267 kb_119 ?_
  refine go_iast' (pc := 269) 1 (by decide) (by decide) (kd32 (t := 11) k94 rfl) (kln k94 rfl) dX9_init_269 (fun M96 => ?_)
  refine go_dup (pc := 270) dX9_init_270 rfl ?_
  refine go_iconst (pc := 271) 2 dX9_init_271 ki_2 ?_
  refine go_bipush (pc := 272) 101 dX9_init_272 kb_101 ?_
  refine go_iast' (pc := 274) 2 (by decide) (by decide) (kd32 (t := 11) k94 rfl) (kln k94 rfl) dX9_init_274 (fun M97 => ?_)
  refine go_dup (pc := 275) dX9_init_275 rfl ?_
  refine go_iconst (pc := 276) 3 dX9_init_276 ki_3 ?_
  refine go_bipush (pc := 277) 108 dX9_init_277 kb_108 ?_
  refine go_iast' (pc := 279) 3 (by decide) (by decide) (kd32 (t := 11) k94 rfl) (kln k94 rfl) dX9_init_279 (fun M98 => ?_)
  refine go_dup (pc := 280) dX9_init_280 rfl ?_
  refine go_iconst (pc := 281) 4 dX9_init_281 ki_4 ?_
  refine go_bipush (pc := 282) 108 dX9_init_282 kb_108 ?_
  refine go_iast' (pc := 284) 4 (by decide) (by decide) (kd32 (t := 11) k94 rfl) (kln k94 rfl) dX9_init_284 (fun M99 => ?_)
  refine go_dup (pc := 285) dX9_init_285 rfl ?_
  refine go_iconst (pc := 286) 5 dX9_init_286 ki_5 ?_
  refine go_bipush (pc := 287) 100 dX9_init_287 kb_100 ?_
  refine go_iast' (pc := 289) 5 (by decide) (by decide) (kd32 (t := 11) k94 rfl) (kln k94 rfl) dX9_init_289 (fun M100 => ?_)
  refine go_dup (pc := 290) dX9_init_290 rfl ?_
  refine go_bipush (pc := 291) 6 dX9_init_291 kb_6 ?_
  refine go_bipush (pc := 293) 114 dX9_init_293 kb_114 ?_
  refine go_iast' (pc := 295) 6 (by decide) (by decide) (kd32 (t := 11) k94 rfl) (kln k94 rfl) dX9_init_295 (fun M101 => ?_)
  refine go_dup (pc := 296) dX9_init_296 rfl ?_
  refine go_bipush (pc := 297) 7 dX9_init_297 kb_7 ?_
  refine go_bipush (pc := 299) 97 dX9_init_299 kb_97 ?_
  refine go_iast' (pc := 301) 7 (by decide) (by decide) (kd32 (t := 11) k94 rfl) (kln k94 rfl) dX9_init_301 (fun M102 => ?_)
  refine go_dup (pc := 302) dX9_init_302 rfl ?_
  refine go_bipush (pc := 303) 8 dX9_init_303 kb_8 ?_
  refine go_bipush (pc := 305) 119 dX9_init_305 kb_119 ?_
  refine go_iast' (pc := 307) 8 (by decide) (by decide) (kd32 (t := 11) k94 rfl) (kln k94 rfl) dX9_init_307 (fun M103 => ?_)
  refine go_dup (pc := 308) dX9_init_308 rfl ?_
  refine go_bipush (pc := 309) 9 dX9_init_309 kb_9 ?_
  refine go_bipush (pc := 311) 115 dX9_init_311 kb_115 ?_
  refine go_iast' (pc := 313) 9 (by decide) (by decide) (kd32 (t := 11) k94 rfl) (kln k94 rfl) dX9_init_313 (fun M104 => ?_)
  refine go_dup (pc := 314) dX9_init_314 rfl ?_
  refine go_bipush (pc := 315) 10 dX9_init_315 kb_10 ?_
  refine go_bipush (pc := 317) 105 dX9_init_317 kb_105 ?_
  refine go_iast' (pc := 319) 10 (by decide) (by decide) (kd32 (t := 11) k94 rfl) (kln k94 rfl) dX9_init_319 (fun M105 => ?_)
  refine go_dup (pc := 320) dX9_init_320 rfl ?_
  refine go_bipush (pc := 321) 11 dX9_init_321 kb_11 ?_
  refine go_bipush (pc := 323) 110 dX9_init_323 kb_110 ?_
  refine go_iast' (pc := 325) 11 (by decide) (by decide) (kd32 (t := 11) k94 rfl) (kln k94 rfl) dX9_init_325 (fun M106 => ?_)
  refine go_dup (pc := 326) dX9_init_326 rfl ?_
  refine go_bipush (pc := 327) 12 dX9_init_327 kb_12 ?_
  refine go_bipush (pc := 329) 107 dX9_init_329 kb_107 ?_
  refine go_iast' (pc := 331) 12 (by decide) (by decide) (kd32 (t := 11) k94 rfl) (kln k94 rfl) dX9_init_331 (fun M107 => ?_)
  refine go_dup (pc := 332) dX9_init_332 rfl ?_
  refine go_bipush (pc := 333) 13 dX9_init_333 kb_13 ?_
  refine go_bipush (pc := 335) 100 dX9_init_335 kb_100 ?_
  refine go_iast' (pc := 337) 13 (by decide) (by decide) (kd32 (t := 11) k94 rfl) (kln k94 rfl) dX9_init_337 (fun M108 => ?_)
  refine go_dup (pc := 338) dX9_init_338 rfl ?_
  refine go_bipush (pc := 339) 14 dX9_init_339 kb_14 ?_
  refine go_bipush (pc := 341) 114 dX9_init_341 kb_114 ?_
  refine go_iast' (pc := 343) 14 (by decide) (by decide) (kd32 (t := 11) k94 rfl) (kln k94 rfl) dX9_init_343 (fun M109 => ?_)
  refine go_dup (pc := 344) dX9_init_344 rfl ?_
  refine go_bipush (pc := 345) 15 dX9_init_345 kb_15 ?_
  refine go_bipush (pc := 347) 97 dX9_init_347 kb_97 ?_
  refine go_iast' (pc := 349) 15 (by decide) (by decide) (kd32 (t := 11) k94 rfl) (kln k94 rfl) dX9_init_349 (fun M110 => ?_)
  refine go_dup (pc := 350) dX9_init_350 rfl ?_
  refine go_bipush (pc := 351) 16 dX9_init_351 kb_16 ?_
  refine go_bipush (pc := 353) 117 dX9_init_353 kb_117 ?_
  refine go_iast' (pc := 355) 16 (by decide) (by decide) (kd32 (t := 11) k94 rfl) (kln k94 rfl) dX9_init_355 (fun M111 => ?_)
  refine go_dup (pc := 356) dX9_init_356 rfl ?_
  refine go_bipush (pc := 357) 17 dX9_init_357 kb_17 ?_
  refine go_bipush (pc := 359) 103 dX9_init_359 kb_103 ?_
  refine go_iast' (pc := 361) 17 (by decide) (by decide) (kd32 (t := 11) k94 rfl) (kln k94 rfl) dX9_init_361 (fun M112 => ?_)
  refine go_dup (pc := 362) dX9_init_362 rfl ?_
  refine go_bipush (pc := 363) 18 dX9_init_363 kb_18 ?_
  refine go_bipush (pc := 365) 104 dX9_init_365 kb_104 ?_
  refine go_iast' (pc := 367) 18 (by decide) (by decide) (kd32 (t := 11) k94 rfl) (kln k94 rfl) dX9_init_367 (fun M113 => ?_)
  refine go_dup (pc := 368) dX9_init_368 rfl ?_
  refine go_bipush (pc := 369) 19 dX9_init_369 kb_19 ?_
  refine go_bipush (pc := 371) 116 dX9_init_371 kb_116 ?_
  refine go_iast' (pc := 373) 19 (by decide) (by decide) (kd32 (t := 11) k94 rfl) (kln k94 rfl) dX9_init_373 (fun M114 => ?_)
  refine go_putR (pc := 374) flX9_95 rfl (Or.inr ⟨rfl, rfl, rfl⟩) (kd32 (t := 10) ht rfl) rfl dX9_init_374 (fun M115 => ?_)
  refine go_aload_n (pc := 377) dX9_init_377 rfl ?_
  refine go_bipush (pc := 378) 100 dX9_init_378 kb_100 ?_
  refine go_newa (pc := 380) (t := 13) (N := 100) (by decide) (by decide) (by decide) (by decide) (fun _ _ => rfl) (gT_of (mtb5 (mt64 (mt64 (mt1 (mt1 (List.Mem.head _)))))) rfl) dX9_init_380 (fun a116 M117 k118 => ?_)
  refine go_putR (pc := 382) flX9_98 rfl (Or.inr ⟨rfl, rfl, rfl⟩) (kd32 (t := 10) ht rfl) rfl dX9_init_382 (fun M119 => ?_)
  refine go_aload_n (pc := 385) dX9_init_385 rfl ?_
  refine go_iconst (pc := 386) 4 dX9_init_386 ki_4 ?_
  refine go_newa (pc := 387) (t := 11) (N := 4) (by decide) (by decide) (by decide) (by decide) (fun _ _ => rfl) (gT_of (mtb1 (mt64 (mt16 (mt1 (mt1 (mt1 (List.Mem.head _))))))) rfl) dX9_init_387 (fun a120 M121 k122 => ?_)
  refine go_putR (pc := 389) flX9_102 rfl (Or.inr ⟨rfl, rfl, rfl⟩) (kd32 (t := 10) ht rfl) rfl dX9_init_389 (fun M123 => ?_)
  refine go_aload_n (pc := 392) dX9_init_392 rfl ?_
  refine go_iconst (pc := 393) 4 dX9_init_393 ki_4 ?_
  refine go_newa (pc := 394) (t := 11) (N := 4) (by decide) (by decide) (by decide) (by decide) (fun _ _ => rfl) (gT_of (mtb1 (mt64 (mt16 (mt1 (mt1 (mt1 (List.Mem.head _))))))) rfl) dX9_init_394 (fun a124 M125 k126 => ?_)
  refine go_putR (pc := 396) flX9_105 rfl (Or.inr ⟨rfl, rfl, rfl⟩) (kd32 (t := 10) ht rfl) rfl dX9_init_396 (fun M127 => ?_)
  refine go_aload_n (pc := 399) dX9_init_399 rfl ?_
  refine go_iconst (pc := 400) 4 dX9_init_400 ki_4 ?_
  refine go_newa (pc := 401) (t := 11) (N := 4) (by decide) (by decide) (by decide) (by decide) (fun _ _ => rfl) (gT_of (mtb1 (mt64 (mt16 (mt1 (mt1 (mt1 (List.Mem.head _))))))) rfl) dX9_init_401 (fun a128 M129 k130 => ?_)
  refine go_putR (pc := 403) flX9_108 rfl (Or.inr ⟨rfl, rfl, rfl⟩) (kd32 (t := 10) ht rfl) rfl dX9_init_403 (fun M131 => ?_)
  refine go_aload_n (pc := 406) dX9_init_406 rfl ?_
  refine go_iconst (pc := 407) 0 dX9_init_407 ki_0 ?_
  refine go_putI (pc := 408) flX9_111 rfl (Or.inl rfl) ⟨rfl, rfl⟩ (kd32 (t := 10) ht rfl) dX9_init_408 (fun M132 => ?_)
  refine go_aload_n (pc := 411) dX9_init_411 rfl ?_
  refine go_iconst (pc := 412) 0 dX9_init_412 ki_0 ?_
  refine go_putI (pc := 413) flX9_114 rfl (Or.inl rfl) ⟨rfl, rfl⟩ (kd32 (t := 10) ht rfl) dX9_init_413 (fun M133 => ?_)
  refine go_aload_n (pc := 416) dX9_init_416 rfl ?_
  refine go_iconst (pc := 417) 0 dX9_init_417 ki_0 ?_
  refine go_putI (pc := 418) flX9_117 rfl (Or.inl rfl) ⟨rfl, rfl⟩ (kd32 (t := 10) ht rfl) dX9_init_418 (fun M134 => ?_)
  refine go_aload_n (pc := 421) dX9_init_421 rfl ?_
  refine go_iconst (pc := 422) 0 dX9_init_422 ki_0 ?_
  refine go_putI (pc := 423) flX9_120 rfl (Or.inl rfl) ⟨rfl, rfl⟩ (kd32 (t := 10) ht rfl) dX9_init_423 (fun M135 => ?_)
  refine go_aload_n (pc := 426) dX9_init_426 rfl ?_
  refine go_iconst (pc := 427) 0 dX9_init_427 ki_0 ?_
  refine go_putI (pc := 428) flX9_123 rfl (Or.inl rfl) ⟨rfl, rfl⟩ (kd32 (t := 10) ht rfl) dX9_init_428 (fun M136 => ?_)
  refine go_aload_n (pc := 431) dX9_init_431 rfl ?_
  refine go_bipush (pc := 432) 12 dX9_init_432 kb_12 ?_
  refine go_newa (pc := 434) (t := 11) (N := 12) (by decide) (by decide) (by decide) (by decide) (fun _ _ => rfl) (gT_of (mtb1 (mt64 (mt16 (mt1 (mt1 (mt1 (List.Mem.head _))))))) rfl) dX9_init_434 (fun a137 M138 k139 => ?_)
  refine go_putR (pc := 436) flX9_126 rfl (Or.inr ⟨rfl, rfl, rfl⟩) (kd32 (t := 10) ht rfl) rfl dX9_init_436 (fun M140 => ?_)
  refine go_aload_n (pc := 439) dX9_init_439 rfl ?_
  refine go_bipush (pc := 440) 12 dX9_init_440 kb_12 ?_
  refine go_newa (pc := 442) (t := 11) (N := 12) (by decide) (by decide) (by decide) (by decide) (fun _ _ => rfl) (gT_of (mtb1 (mt64 (mt16 (mt1 (mt1 (mt1 (List.Mem.head _))))))) rfl) dX9_init_442 (fun a141 M142 k143 => ?_)
  refine go_putR (pc := 444) flX9_129 rfl (Or.inr ⟨rfl, rfl, rfl⟩) (kd32 (t := 10) ht rfl) rfl dX9_init_444 (fun M144 => ?_)
  refine go_aload_n (pc := 447) dX9_init_447 rfl ?_
  refine go_iconst (pc := 448) 0 dX9_init_448 ki_0 ?_
  refine go_putI (pc := 449) flX9_132 rfl (Or.inl rfl) (nbz (Or.inl rfl)) (kd32 (t := 10) ht rfl) dX9_init_449 (fun M145 => ?_)
  refine go_aload_n (pc := 452) dX9_init_452 rfl ?_
  refine go_iconst (pc := 453) (-1) dX9_init_453 ki_m1 ?_
  refine go_putI (pc := 454) flX9_136 rfl (Or.inl rfl) ⟨rfl, rfl⟩ (kd32 (t := 10) ht rfl) dX9_init_454 (fun M146 => ?_)
  refine go_aload_n (pc := 457) dX9_init_457 rfl ?_
  refine go_iconst (pc := 458) 0 dX9_init_458 ki_0 ?_
  refine go_putI (pc := 459) flX9_139 rfl (Or.inl rfl) ⟨rfl, rfl⟩ (kd32 (t := 10) ht rfl) dX9_init_459 (fun M147 => ?_)
  refine go_aload_n (pc := 462) dX9_init_462 rfl ?_
  refine go_iconst (pc := 463) 0 dX9_init_463 ki_0 ?_
  refine go_putI (pc := 464) flX9_142 rfl (Or.inl rfl) ⟨rfl, rfl⟩ (kd32 (t := 10) ht rfl) dX9_init_464 (fun M148 => ?_)
  refine go_aload_n (pc := 467) dX9_init_467 rfl ?_
  refine go_iconst (pc := 468) 0 dX9_init_468 ki_0 ?_
  refine go_putI (pc := 469) flX9_145 rfl (Or.inl rfl) ⟨rfl, rfl⟩ (kd32 (t := 10) ht rfl) dX9_init_469 (fun M149 => ?_)
  refine go_aload_n (pc := 472) dX9_init_472 rfl ?_
  refine go_iconst (pc := 473) 0 dX9_init_473 ki_0 ?_
  refine go_putI (pc := 474) flX9_148 rfl (Or.inl rfl) ⟨rfl, rfl⟩ (kd32 (t := 10) ht rfl) dX9_init_474 (fun M150 => ?_)
  refine go_aload_n (pc := 477) dX9_init_477 rfl ?_
  refine go_bipush (pc := 478) 12 dX9_init_478 kb_12 ?_
  refine go_newa (pc := 480) (t := 11) (N := 12) (by decide) (by decide) (by decide) (by decide) (fun _ _ => rfl) (gT_of (mtb1 (mt64 (mt16 (mt1 (mt1 (mt1 (List.Mem.head _))))))) rfl) dX9_init_480 (fun a151 M152 k153 => ?_)
  refine go_putR (pc := 482) flX9_151 rfl (Or.inr ⟨rfl, rfl, rfl⟩) (kd32 (t := 10) ht rfl) rfl dX9_init_482 (fun M154 => ?_)
  refine go_aload_n (pc := 485) dX9_init_485 rfl ?_
  refine go_iconst (pc := 486) 4 dX9_init_486 ki_4 ?_
  refine go_newa (pc := 487) (t := 11) (N := 4) (by decide) (by decide) (by decide) (by decide) (fun _ _ => rfl) (gT_of (mtb1 (mt64 (mt16 (mt1 (mt1 (mt1 (List.Mem.head _))))))) rfl) dX9_init_487 (fun a155 M156 k157 => ?_)
  refine go_putR (pc := 489) flX9_154 rfl (Or.inr ⟨rfl, rfl, rfl⟩) (kd32 (t := 10) ht rfl) rfl dX9_init_489 (fun M158 => ?_)
  refine go_aload_n (pc := 492) dX9_init_492 rfl ?_
  refine go_iconst (pc := 493) 4 dX9_init_493 ki_4 ?_
  refine go_newa (pc := 494) (t := 11) (N := 4) (by decide) (by decide) (by decide) (by decide) (fun _ _ => rfl) (gT_of (mtb1 (mt64 (mt16 (mt1 (mt1 (mt1 (List.Mem.head _))))))) rfl) dX9_init_494 (fun a159 M160 k161 => ?_)
  refine go_putR (pc := 496) flX9_157 rfl (Or.inr ⟨rfl, rfl, rfl⟩) (kd32 (t := 10) ht rfl) rfl dX9_init_496 (fun M162 => ?_)
  refine go_aload_n (pc := 499) dX9_init_499 rfl ?_
  refine go_iconst (pc := 500) 4 dX9_init_500 ki_4 ?_
  refine go_newa (pc := 501) (t := 11) (N := 4) (by decide) (by decide) (by decide) (by decide) (fun _ _ => rfl) (gT_of (mtb1 (mt64 (mt16 (mt1 (mt1 (mt1 (List.Mem.head _))))))) rfl) dX9_init_501 (fun a163 M164 k165 => ?_)
  refine go_putR (pc := 503) flX9_160 rfl (Or.inr ⟨rfl, rfl, rfl⟩) (kd32 (t := 10) ht rfl) rfl dX9_init_503 (fun M166 => ?_)
  refine go_aload_n (pc := 506) dX9_init_506 rfl ?_
  refine go_iconst (pc := 507) 4 dX9_init_507 ki_4 ?_
  refine go_newa (pc := 508) (t := 11) (N := 4) (by decide) (by decide) (by decide) (by decide) (fun _ _ => rfl) (gT_of (mtb1 (mt64 (mt16 (mt1 (mt1 (mt1 (List.Mem.head _))))))) rfl) dX9_init_508 (fun a167 M168 k169 => ?_)
  refine go_putR (pc := 510) flX9_163 rfl (Or.inr ⟨rfl, rfl, rfl⟩) (kd32 (t := 10) ht rfl) rfl dX9_init_510 (fun M170 => ?_)
  refine go_aload_n (pc := 513) dX9_init_513 rfl ?_
  refine go_iconst (pc := 514) 4 dX9_init_514 ki_4 ?_
  refine go_newa (pc := 515) (t := 11) (N := 4) (by decide) (by decide) (by decide) (by decide) (fun _ _ => rfl) (gT_of (mtb1 (mt64 (mt16 (mt1 (mt1 (mt1 (List.Mem.head _))))))) rfl) dX9_init_515 (fun a171 M172 k173 => ?_)
  refine go_putR (pc := 517) flX9_166 rfl (Or.inr ⟨rfl, rfl, rfl⟩) (kd32 (t := 10) ht rfl) rfl dX9_init_517 (fun M174 => ?_)
  refine go_aload_n (pc := 520) dX9_init_520 rfl ?_
  refine go_iconst (pc := 521) 4 dX9_init_521 ki_4 ?_
  refine go_newa (pc := 522) (t := 11) (N := 4) (by decide) (by decide) (by decide) (by decide) (fun _ _ => rfl) (gT_of (mtb1 (mt64 (mt16 (mt1 (mt1 (mt1 (List.Mem.head _))))))) rfl) dX9_init_522 (fun a175 M176 k177 => ?_)
  refine go_putR (pc := 524) flX9_169 rfl (Or.inr ⟨rfl, rfl, rfl⟩) (kd32 (t := 10) ht rfl) rfl dX9_init_524 (fun M178 => ?_)
  refine go_aload_n (pc := 527) dX9_init_527 rfl ?_
  refine go_iconst (pc := 528) 4 dX9_init_528 ki_4 ?_
  refine go_newa (pc := 529) (t := 11) (N := 4) (by decide) (by decide) (by decide) (by decide) (fun _ _ => rfl) (gT_of (mtb1 (mt64 (mt16 (mt1 (mt1 (mt1 (List.Mem.head _))))))) rfl) dX9_init_529 (fun a179 M180 k181 => ?_)
  refine go_putR (pc := 531) flX9_172 rfl (Or.inr ⟨rfl, rfl, rfl⟩) (kd32 (t := 10) ht rfl) rfl dX9_init_531 (fun M182 => ?_)
  refine go_aload_n (pc := 534) dX9_init_534 rfl ?_
  refine go_bipush (pc := 535) 24 dX9_init_535 kb_24 ?_
  refine go_newa (pc := 537) (t := 11) (N := 24) (by decide) (by decide) (by decide) (by decide) (fun _ _ => rfl) (gT_of (mtb1 (mt64 (mt16 (mt1 (mt1 (mt1 (List.Mem.head _))))))) rfl) dX9_init_537 (fun a183 M184 k185 => ?_)
  refine go_putR (pc := 539) flX9_175 rfl (Or.inr ⟨rfl, rfl, rfl⟩) (kd32 (t := 10) ht rfl) rfl dX9_init_539 (fun M186 => ?_)
  refine go_aload_n (pc := 542) dX9_init_542 rfl ?_
  refine go_bipush (pc := 543) 12 dX9_init_543 kb_12 ?_
  refine go_newa (pc := 545) (t := 11) (N := 12) (by decide) (by decide) (by decide) (by decide) (fun _ _ => rfl) (gT_of (mtb1 (mt64 (mt16 (mt1 (mt1 (mt1 (List.Mem.head _))))))) rfl) dX9_init_545 (fun a187 M188 k189 => ?_)
  refine go_putR (pc := 547) flX9_178 rfl (Or.inr ⟨rfl, rfl, rfl⟩) (kd32 (t := 10) ht rfl) rfl dX9_init_547 (fun M190 => ?_)
  refine go_aload_n (pc := 550) dX9_init_550 rfl ?_
  refine go_bipush (pc := 551) 12 dX9_init_551 kb_12 ?_
  refine go_newa (pc := 553) (t := 11) (N := 12) (by decide) (by decide) (by decide) (by decide) (fun _ _ => rfl) (gT_of (mtb1 (mt64 (mt16 (mt1 (mt1 (mt1 (List.Mem.head _))))))) rfl) dX9_init_553 (fun a191 M192 k193 => ?_)
  refine go_putR (pc := 555) flX9_181 rfl (Or.inr ⟨rfl, rfl, rfl⟩) (kd32 (t := 10) ht rfl) rfl dX9_init_555 (fun M194 => ?_)
  refine go_aload_n (pc := 558) dX9_init_558 rfl ?_
  refine go_iconst (pc := 559) 0 dX9_init_559 ki_0 ?_
  refine go_putI (pc := 560) flX9_184 rfl (Or.inl rfl) ⟨rfl, rfl⟩ (kd32 (t := 10) ht rfl) dX9_init_560 (fun M195 => ?_)
  refine go_aload_n (pc := 563) dX9_init_563 rfl ?_
  refine go_bipush (pc := 564) 20 dX9_init_564 kb_20 ?_
  refine go_newa (pc := 566) (t := 11) (N := 20) (by decide) (by decide) (by decide) (by decide) (fun _ _ => rfl) (gT_of (mtb1 (mt64 (mt16 (mt1 (mt1 (mt1 (List.Mem.head _))))))) rfl) dX9_init_566 (fun a196 M197 k198 => ?_)
  refine go_putR (pc := 568) flX9_187 rfl (Or.inr ⟨rfl, rfl, rfl⟩) (kd32 (t := 10) ht rfl) rfl dX9_init_568 (fun M199 => ?_)
  refine go_aload_n (pc := 571) dX9_init_571 rfl ?_
  refine go_bipush (pc := 572) 6 dX9_init_572 kb_6 ?_
  refine go_newa (pc := 574) (t := 11) (N := 6) (by decide) (by decide) (by decide) (by decide) (fun _ _ => rfl) (gT_of (mtb1 (mt64 (mt16 (mt1 (mt1 (mt1 (List.Mem.head _))))))) rfl) dX9_init_574 (fun a200 M201 k202 => ?_)
  refine go_dup (pc := 576) dX9_init_576 rfl ?_
  refine go_iconst (pc := 577) 0 dX9_init_577 ki_0 ?_
  refine go_iconst (pc := 578) (-1) dX9_init_578 ki_m1 ?_
  refine go_iast' (pc := 579) 0 (by decide) (by decide) (kd32 (t := 11) k202 rfl) (kln k202 rfl) dX9_init_579 (fun M203 => ?_)
  refine go_dup (pc := 580) dX9_init_580 rfl ?_
  refine go_iconst (pc := 581) 1 dX9_init_581 ki_1 ?_
  refine go_iconst (pc := 582) (-1) dX9_init_582 ki_m1 ?_
  refine go_iast' (pc := 583) 1 (by decide) (by decide) (kd32 (t := 11) k202 rfl) (kln k202 rfl) dX9_init_583 (fun M204 => ?_)
  refine go_dup (pc := 584) dX9_init_584 rfl ?_
  refine go_iconst (pc := 585) 2 dX9_init_585 ki_2 ?_
  refine go_iconst (pc := 586) (-1) dX9_init_586 ki_m1 ?_
  refine go_iast' (pc := 587) 2 (by decide) (by decide) (kd32 (t := 11) k202 rfl) (kln k202 rfl) dX9_init_587 (fun M205 => ?_)
  refine go_dup (pc := 588) dX9_init_588 rfl ?_
  refine go_iconst (pc := 589) 3 dX9_init_589 ki_3 ?_
  refine go_iconst (pc := 590) (-1) dX9_init_590 ki_m1 ?_
  refine go_iast' (pc := 591) 3 (by decide) (by decide) (kd32 (t := 11) k202 rfl) (kln k202 rfl) dX9_init_591 (fun M206 => ?_)
  refine go_dup (pc := 592) dX9_init_592 rfl ?_
  refine go_iconst (pc := 593) 4 dX9_init_593 ki_4 ?_
  refine go_iconst (pc := 594) (-1) dX9_init_594 ki_m1 ?_
  refine go_iast' (pc := 595) 4 (by decide) (by decide) (kd32 (t := 11) k202 rfl) (kln k202 rfl) dX9_init_595 (fun M207 => ?_)
  refine go_dup (pc := 596) dX9_init_596 rfl ?_
  refine go_iconst (pc := 597) 5 dX9_init_597 ki_5 ?_
  refine go_iconst (pc := 598) (-1) dX9_init_598 ki_m1 ?_
  refine go_iast' (pc := 599) 5 (by decide) (by decide) (kd32 (t := 11) k202 rfl) (kln k202 rfl) dX9_init_599 (fun M208 => ?_)
  refine go_putR (pc := 600) flX9_190 rfl (Or.inr ⟨rfl, rfl, rfl⟩) (kd32 (t := 10) ht rfl) rfl dX9_init_600 (fun M209 => ?_)
  refine go_aload_n (pc := 603) dX9_init_603 rfl ?_
  refine go_bipush (pc := 604) 6 dX9_init_604 kb_6 ?_
  refine go_newa (pc := 606) (t := 11) (N := 6) (by decide) (by decide) (by decide) (by decide) (fun _ _ => rfl) (gT_of (mtb1 (mt64 (mt16 (mt1 (mt1 (mt1 (List.Mem.head _))))))) rfl) dX9_init_606 (fun a210 M211 k212 => ?_)
  refine go_putR (pc := 608) flX9_193 rfl (Or.inr ⟨rfl, rfl, rfl⟩) (kd32 (t := 10) ht rfl) rfl dX9_init_608 (fun M213 => ?_)
  refine go_aload_n (pc := 611) dX9_init_611 rfl ?_
  refine go_sipush (pc := 612) 360 dX9_init_612 ks_360 ?_
  refine go_newa (pc := 615) (t := 12) (N := 360) (by decide) (by decide) (by decide) (by decide) (fun _ _ => rfl) (gT_of (mtb2 (mt16 (mt16 (mt1 (List.Mem.head _))))) rfl) dX9_init_615 (fun a214 M215 k216 => ?_)
  refine go_putR (pc := 617) flX9_196 rfl (Or.inr ⟨rfl, rfl, rfl⟩) (kd32 (t := 10) ht rfl) rfl dX9_init_617 (fun M217 => ?_)
  refine go_aload_n (pc := 620) dX9_init_620 rfl ?_
  refine go_bipush (pc := 621) 60 dX9_init_621 kb_60 ?_
  refine go_newa (pc := 623) (t := 12) (N := 60) (by decide) (by decide) (by decide) (by decide) (fun _ _ => rfl) (gT_of (mtb2 (mt16 (mt16 (mt1 (List.Mem.head _))))) rfl) dX9_init_623 (fun a218 M219 k220 => ?_)
  refine go_putR (pc := 625) flX9_200 rfl (Or.inr ⟨rfl, rfl, rfl⟩) (kd32 (t := 10) ht rfl) rfl dX9_init_625 (fun M221 => ?_)
  exact go_ret dX9_init_628 rfl rfl rfl
def f_M_in (p1 : Int32) (p2 : Int32) (p3 : Int32) (M : Mem) : Int32 := if p1 < p2 then 0 else if p3 < p1 then 0 else 1
theorem o_M_in (p1 : Int32) (p2 : Int32) (p3 : Int32) (M : Mem) : Ct sRM g_M_in (fRi M) [.ref 12451850, .int p1, .int p2, .int p3] (some (f_M_in p1 p2 p3 M)) M := by
  refine ⟨Nat.le_of_ble_eq_true rfl, ?_⟩
  show Go sRM g_M_in (fRi M) (some (f_M_in p1 p2 p3 M)) 0 [.ref 12451850, .int p1, .int p2, .int p3] [] M
  refine go_def (congrArg some (f_M_in.eq_1 ..)) ?_
  refine go_iload_n (pc := 0) dX9_in_0 rfl ?_
  refine go_iload_n (pc := 1) dX9_in_1 rfl ?_
  refine go_site ?_
  refine go_icmplt (pc := 2) 14 dX9_in_2 (by decide) (fun _ => ?_) (fun _ => ?_)
  · refine go_iconst (pc := 14) 0 dX9_in_14 ki_0 ?_
    exact go_ret dX9_in_15 (rbz (Or.inl rfl)) rfl rfl
  · refine go_iload_n (pc := 5) dX9_in_5 rfl ?_
    refine go_iload_n (pc := 6) dX9_in_6 rfl ?_
    refine go_site ?_
    refine go_icmpgt (pc := 7) 14 dX9_in_7 (by decide) (fun _ => ?_) (fun _ => ?_)
    · refine go_iconst (pc := 14) 0 dX9_in_14 ki_0 ?_
      exact go_ret dX9_in_15 (rbz (Or.inl rfl)) rfl rfl
    · refine go_iconst (pc := 10) 1 dX9_in_10 ki_1 ?_
      refine go_goto (pc := 11) 15 dX9_in_11 (by decide) ?_
      exact go_ret dX9_in_15 (rbz (Or.inr rfl)) rfl rfl
theorem o_M_in_b (p1 : Int32) (p2 : Int32) (p3 : Int32) (M : Mem) : f_M_in p1 p2 p3 M = 0 ∨ f_M_in p1 p2 p3 M = 1 := by
  unfold f_M_in
  first | exact Or.inl rfl | (repeat' split) <;> first | exact Or.inl rfl | exact Or.inr rfl | assumption
def f_M_isDoor (p1 : Int32) (M : Mem) : Int32 := f_M_in p1 0 ((mI M 12451850 1) - 1) M
theorem o_M_isDoor (p1 : Int32) (M : Mem) : Ct sRM g_M_isDoor (fRi M) [.ref 12451850, .int p1] (some (f_M_isDoor p1 M)) M := by
  refine ⟨Nat.le_of_ble_eq_true rfl, ?_⟩
  show Go sRM g_M_isDoor (fRi M) (some (f_M_isDoor p1 M)) 0 [.ref 12451850, .int p1] [] M
  refine go_def (congrArg some (f_M_isDoor.eq_1 ..)) ?_
  refine go_aload_n (pc := 0) dX9_isDoor_0 rfl ?_
  refine go_iload_n (pc := 1) dX9_isDoor_1 rfl ?_
  refine go_iconst (pc := 2) 0 dX9_isDoor_2 ki_0 ?_
  refine go_aload_n (pc := 3) dX9_isDoor_3 rfl ?_
  refine go_getI (pc := 4) flX9_13 rfl rfl dX9_isDoor_4 ?_
  refine go_iconst (pc := 7) 1 dX9_isDoor_7 ki_1 ?_
  refine go_isub (pc := 8) dX9_isDoor_8 ?_
  refine go_T (v := f_M_in p1 0 ((mI M 12451850 1) - 1) M) ?_
  refine go_callV (pc := 9) (a := 12451850) (as := [.int p1, .int 0, .int ((mI M 12451850 1) - 1)]) (st := []) (o_M_in p1 0 ((mI M 12451850 1) - 1) M) ic_M_in ivX9_203 (rcvk (a := 12451850) (t := 10) rfl (by decide) (by decide) rfl) rfl (by decide) (Nat.le_of_ble_eq_true rfl) dX9_isDoor_9 (kTi ?_)
  exact go_ret dX9_isDoor_12 (rbz (o_M_in_b p1 0 ((mI M 12451850 1) - 1) M)) rfl rfl
theorem o_M_isDoor_b (p1 : Int32) (M : Mem) : f_M_isDoor p1 M = 0 ∨ f_M_isDoor p1 M = 1 := by
  unfold f_M_isDoor
  first | exact o_M_in_b p1 0 ((mI M 12451850 1) - 1) M | (repeat' split) <;> first | exact Or.inl rfl | exact Or.inr rfl | assumption | exact o_M_in_b ..
def f_M_isSpot (p1 : Int32) (M : Mem) : Int32 := f_M_in p1 0 5 M
theorem o_M_isSpot (p1 : Int32) (M : Mem) : Ct sRM g_M_isSpot (fRi M) [.ref 12451850, .int p1] (some (f_M_isSpot p1 M)) M := by
  refine ⟨Nat.le_of_ble_eq_true rfl, ?_⟩
  show Go sRM g_M_isSpot (fRi M) (some (f_M_isSpot p1 M)) 0 [.ref 12451850, .int p1] [] M
  refine go_def (congrArg some (f_M_isSpot.eq_1 ..)) ?_
  refine go_aload_n (pc := 0) dX9_isSpot_0 rfl ?_
  refine go_iload_n (pc := 1) dX9_isSpot_1 rfl ?_
  refine go_iconst (pc := 2) 0 dX9_isSpot_2 ki_0 ?_
  refine go_iconst (pc := 3) 5 dX9_isSpot_3 ki_5 ?_
  refine go_T (v := f_M_in p1 0 5 M) ?_
  refine go_callV (pc := 4) (a := 12451850) (as := [.int p1, .int 0, .int 5]) (st := []) (o_M_in p1 0 5 M) ic_M_in ivX9_203 (rcvk (a := 12451850) (t := 10) rfl (by decide) (by decide) rfl) rfl (by decide) (Nat.le_of_ble_eq_true rfl) dX9_isSpot_4 (kTi ?_)
  exact go_ret dX9_isSpot_7 (rbz (o_M_in_b p1 0 5 M)) rfl rfl
theorem o_M_isSpot_b (p1 : Int32) (M : Mem) : f_M_isSpot p1 M = 0 ∨ f_M_isSpot p1 M = 1 := by
  unfold f_M_isSpot
  first | exact o_M_in_b p1 0 5 M | (repeat' split) <;> first | exact Or.inl rfl | exact Or.inr rfl | assumption | exact o_M_in_b ..
def f_M_air (p1 : Int32) (p2 : Int32) (M : Mem) : Option (Int32 × Mem) := if (f_M_in p1 0 11 M) = 0 then some ((-1), M) else if (f_M_in p2 0 99 M) = 0 then some ((-2), M) else gd (inR p1 12) (lt (mI M 12583307 p1.toNatClampNeg) fun x1 => gd (inR p1 12) (lt (setI M 12583307 p1.toNatClampNeg p2) fun M2 => some (x1, M2)))
theorem o_M_air (p1 : Int32) (p2 : Int32) (M : Mem) : Ct sRM g_M_air fWi [.ref 12451850, .int p1, .int p2] (f_M_air p1 p2 M) M := by
  refine ⟨Nat.le_of_ble_eq_true rfl, ?_⟩
  show Go sRM g_M_air fWi (f_M_air p1 p2 M) 0 [.ref 12451850, .int p1, .int p2, .null] [] M
  refine go_def (f_M_air.eq_1 ..) ?_
  refine go_aload_n (pc := 0) dX9_air_0 rfl ?_
  refine go_iload_n (pc := 1) dX9_air_1 rfl ?_
  refine go_iconst (pc := 2) 0 dX9_air_2 ki_0 ?_
  refine go_bipush (pc := 3) 11 dX9_air_3 kb_11 ?_
  refine go_T (v := f_M_in p1 0 11 M) ?_
  refine go_callV (pc := 5) (a := 12451850) (as := [.int p1, .int 0, .int 11]) (st := []) (o_M_in p1 0 11 M) ic_M_in ivX9_203 (rcvk (a := 12451850) (t := 10) rfl (by decide) (by decide) rfl) rfl (by decide) (Nat.le_of_ble_eq_true rfl) dX9_air_5 (kTi ?_)
  refine go_ifne (pc := 8) 13 dX9_air_8 (by decide) (fun _ => ?_) (fun _ => ?_)
  · refine go_iconst (pc := 11) (-1) dX9_air_11 ki_m1 ?_
    exact go_ret dX9_air_12 rii rfl rfl
  · refine go_aload_n (pc := 13) dX9_air_13 rfl ?_
    refine go_iload_n (pc := 14) dX9_air_14 rfl ?_
    refine go_iconst (pc := 15) 0 dX9_air_15 ki_0 ?_
    refine go_bipush (pc := 16) 99 dX9_air_16 kb_99 ?_
    refine go_T (v := f_M_in p2 0 99 M) ?_
    refine go_callV (pc := 18) (a := 12451850) (as := [.int p2, .int 0, .int 99]) (st := []) (o_M_in p2 0 99 M) ic_M_in ivX9_203 (rcvk (a := 12451850) (t := 10) rfl (by decide) (by decide) rfl) rfl (by decide) (Nat.le_of_ble_eq_true rfl) dX9_air_18 (kTi ?_)
    refine go_ifne (pc := 21) 27 dX9_air_21 (by decide) (fun _ => ?_) (fun _ => ?_)
    · refine go_bipush (pc := 24) (-2) dX9_air_24 kb_m2 ?_
      exact go_ret dX9_air_26 rii rfl rfl
    · refine go_aload_n (pc := 27) dX9_air_27 rfl ?_
      refine go_getS (pc := 28) 12583307 flX9_7 rfl rfl sM_10_0 (by decide) dX9_air_28 ?_
      refine go_iload_n (pc := 31) dX9_air_31 rfl ?_
      refine go_iald (pc := 32) rfl rfl dX9_air_32 (fun _ => ?_)
      refine go_istore_nL (pc := 33) (L := fun x1 => [.ref 12451850, .int p1, .int p2, .int x1]) dX9_air_33 (Nat.le_of_ble_eq_true rfl) rfl (fun _ => rfl) (fun x1 => ?_)
      refine go_aload_n (pc := 34) dX9_air_34 rfl ?_
      refine go_getS (pc := 35) 12583307 flX9_7 rfl rfl sM_10_0 (by decide) dX9_air_35 ?_
      refine go_iload_n (pc := 38) dX9_air_38 rfl ?_
      refine go_iload_n (pc := 39) dX9_air_39 rfl ?_
      refine go_iast (pc := 40) rfl rfl dX9_air_40 (fun _ M2 => ?_)
      refine go_iload_n (pc := 41) dX9_air_41 rfl ?_
      exact go_ret dX9_air_42 rii rfl rfl
def f_M_lean (p1 : Int32) (M : Mem) : Option (Int32 × Mem) := if (f_M_in p1 0 20 M) = 0 then some ((-2), M) else lt (mI M 12451850 2) fun x1 => lt (setI M 12451850 2 p1) fun M2 => some (x1, M2)
theorem o_M_lean (p1 : Int32) (M : Mem) : Ct sRM g_M_lean fWi [.ref 12451850, .int p1] (f_M_lean p1 M) M := by
  refine ⟨Nat.le_of_ble_eq_true rfl, ?_⟩
  show Go sRM g_M_lean fWi (f_M_lean p1 M) 0 [.ref 12451850, .int p1, .null] [] M
  refine go_def (f_M_lean.eq_1 ..) ?_
  refine go_aload_n (pc := 0) dX9_lean_0 rfl ?_
  refine go_iload_n (pc := 1) dX9_lean_1 rfl ?_
  refine go_iconst (pc := 2) 0 dX9_lean_2 ki_0 ?_
  refine go_bipush (pc := 3) 20 dX9_lean_3 kb_20 ?_
  refine go_T (v := f_M_in p1 0 20 M) ?_
  refine go_callV (pc := 5) (a := 12451850) (as := [.int p1, .int 0, .int 20]) (st := []) (o_M_in p1 0 20 M) ic_M_in ivX9_203 (rcvk (a := 12451850) (t := 10) rfl (by decide) (by decide) rfl) rfl (by decide) (Nat.le_of_ble_eq_true rfl) dX9_lean_5 (kTi ?_)
  refine go_ifne (pc := 8) 14 dX9_lean_8 (by decide) (fun _ => ?_) (fun _ => ?_)
  · refine go_bipush (pc := 11) (-2) dX9_lean_11 kb_m2 ?_
    exact go_ret dX9_lean_13 rii rfl rfl
  · refine go_aload_n (pc := 14) dX9_lean_14 rfl ?_
    refine go_getI (pc := 15) flX9_17 rfl rfl dX9_lean_15 ?_
    refine go_istore_nL (pc := 18) (L := fun x1 => [.ref 12451850, .int p1, .int x1]) dX9_lean_18 (Nat.le_of_ble_eq_true rfl) rfl (fun _ => rfl) (fun x1 => ?_)
    refine go_aload_n (pc := 19) dX9_lean_19 rfl ?_
    refine go_iload_n (pc := 20) dX9_lean_20 rfl ?_
    refine go_putI (pc := 21) flX9_17 rfl (Or.inl rfl) ⟨rfl, rfl⟩ rfl dX9_lean_21 (fun M2 => ?_)
    refine go_iload_n (pc := 24) dX9_lean_24 rfl ?_
    exact go_ret dX9_lean_25 rii rfl rfl
def f_M_door_l97 : Nat → Int32 → Int32 → Mem → Option (Int32 × Mem)
  | 0, _, _, _ => none
  | n + 1, v3, v4, M => if 6 ≤ v4 then lt (setI M 12451850 1 ((mI M 12451850 1) + 1)) fun M9 => some (v3, M9) else gd (inR ((6 * v3) + v4) 24) (lt (setI M 13632267 ((6 * v3) + v4).toNatClampNeg 4) fun M10 => lt (v4 + 1) fun x11 => f_M_door_l97 n v3 x11 M10)
def f_M_door (p1 : Int32) (p2 : Int32) (M : Mem) : Option (Int32 × Mem) := if (f_M_in p1 0 6 M) = 0 then some ((-1), M) else if (f_M_in p2 0 9 M) = 0 then some ((-2), M) else if (mI M 12451850 1) = 4 then some ((-4), M) else lt (mI M 12451850 1) fun x1 => gd (inR x1 4) (lt (setI M 12714123 x1.toNatClampNeg p1) fun M2 => gd (inR x1 4) (lt (setI M2 12845195 x1.toNatClampNeg p2) fun M3 => gd (inR x1 4) (lt (setI M3 12976267 x1.toNatClampNeg 50) fun M4 => gd (inR x1 4) (lt (setI M4 13107339 x1.toNatClampNeg 50) fun M5 => gd (inR x1 4) (lt (setI M5 13238411 x1.toNatClampNeg 0) fun M6 => gd (inR x1 4) (lt (setI M6 13369483 x1.toNatClampNeg 0) fun M7 => gd (inR x1 4) (lt (setI M7 13500555 x1.toNatClampNeg 0) fun M8 => f_M_door_l97 200 x1 0 M8)))))))
theorem o_M_door_l97 : ∀ (n : Nat) (v3 : Int32) (v4 : Int32) (M : Mem), Go sRM g_M_door fWi (f_M_door_l97 n v3 v4 M) 97 [.ref 12451850, .null, .null, .int v3, .int v4] [] M := by
  intro n
  induction n with
  | zero =>
    intro v3 v4 M
    exact go_def (f_M_door_l97.eq_1 ..) go_none
  | succ n ih =>
    intro v3 v4 M
    refine go_def (f_M_door_l97.eq_2 ..) ?_
    refine go_iload (pc := 97) dX9_door_97 rfl ?_
    refine go_bipush (pc := 99) 6 dX9_door_99 kb_6 ?_
    refine go_icmpge (pc := 101) 123 dX9_door_101 (by decide) (fun _ => ?_) (fun _ => ?_)
    · refine go_aload_n (pc := 123) dX9_door_123 rfl ?_
      refine go_dup (pc := 124) dX9_door_124 rfl ?_
      refine go_getI (pc := 125) flX9_13 rfl rfl dX9_door_125 ?_
      refine go_iconst (pc := 128) 1 dX9_door_128 ki_1 ?_
      refine go_iadd (pc := 129) dX9_door_129 ?_
      refine go_putI (pc := 130) flX9_13 rfl (Or.inl rfl) ⟨rfl, rfl⟩ rfl dX9_door_130 (fun M9 => ?_)
      refine go_iload_n (pc := 133) dX9_door_133 rfl ?_
      exact go_ret dX9_door_134 rii rfl rfl
    · refine go_aload_n (pc := 104) dX9_door_104 rfl ?_
      refine go_getS (pc := 105) 13632267 flX9_44 rfl rfl sM_10_11 (by decide) dX9_door_105 ?_
      refine go_bipush (pc := 108) 6 dX9_door_108 kb_6 ?_
      refine go_iload_n (pc := 110) dX9_door_110 rfl ?_
      refine go_imul (pc := 111) dX9_door_111 ?_
      refine go_iload (pc := 112) dX9_door_112 rfl ?_
      refine go_iadd (pc := 114) dX9_door_114 ?_
      refine go_iconst (pc := 115) 4 dX9_door_115 ki_4 ?_
      refine go_iast (pc := 116) rfl rfl dX9_door_116 (fun _ M10 => ?_)
      refine go_iincL (pc := 117) (L := fun x11 => [.ref 12451850, .null, .null, .int v3, .int x11]) 1 dX9_door_117 rfl ki_1 (Nat.le_of_ble_eq_true rfl) rfl (fun _ => rfl) (fun x11 => ?_)
      refine go_goto (pc := 120) 97 dX9_door_120 (by decide) ?_
      exact ih v3 x11 M10
theorem o_M_door (p1 : Int32) (p2 : Int32) (M : Mem) : Ct sRM g_M_door fWi [.ref 12451850, .int p1, .int p2] (f_M_door p1 p2 M) M := by
  refine ⟨Nat.le_of_ble_eq_true rfl, ?_⟩
  show Go sRM g_M_door fWi (f_M_door p1 p2 M) 0 [.ref 12451850, .int p1, .int p2, .null, .null] [] M
  refine go_def (f_M_door.eq_1 ..) ?_
  refine go_aload_n (pc := 0) dX9_door_0 rfl ?_
  refine go_iload_n (pc := 1) dX9_door_1 rfl ?_
  refine go_iconst (pc := 2) 0 dX9_door_2 ki_0 ?_
  refine go_bipush (pc := 3) 6 dX9_door_3 kb_6 ?_
  refine go_T (v := f_M_in p1 0 6 M) ?_
  refine go_callV (pc := 5) (a := 12451850) (as := [.int p1, .int 0, .int 6]) (st := []) (o_M_in p1 0 6 M) ic_M_in ivX9_203 (rcvk (a := 12451850) (t := 10) rfl (by decide) (by decide) rfl) rfl (by decide) (Nat.le_of_ble_eq_true rfl) dX9_door_5 (kTi ?_)
  refine go_ifne (pc := 8) 13 dX9_door_8 (by decide) (fun _ => ?_) (fun _ => ?_)
  · refine go_iconst (pc := 11) (-1) dX9_door_11 ki_m1 ?_
    exact go_ret dX9_door_12 rii rfl rfl
  · refine go_aload_n (pc := 13) dX9_door_13 rfl ?_
    refine go_iload_n (pc := 14) dX9_door_14 rfl ?_
    refine go_iconst (pc := 15) 0 dX9_door_15 ki_0 ?_
    refine go_bipush (pc := 16) 9 dX9_door_16 kb_9 ?_
    refine go_T (v := f_M_in p2 0 9 M) ?_
    refine go_callV (pc := 18) (a := 12451850) (as := [.int p2, .int 0, .int 9]) (st := []) (o_M_in p2 0 9 M) ic_M_in ivX9_203 (rcvk (a := 12451850) (t := 10) rfl (by decide) (by decide) rfl) rfl (by decide) (Nat.le_of_ble_eq_true rfl) dX9_door_18 (kTi ?_)
    refine go_ifne (pc := 21) 27 dX9_door_21 (by decide) (fun _ => ?_) (fun _ => ?_)
    · refine go_bipush (pc := 24) (-2) dX9_door_24 kb_m2 ?_
      exact go_ret dX9_door_26 rii rfl rfl
    · refine go_aload_n (pc := 27) dX9_door_27 rfl ?_
      refine go_getI (pc := 28) flX9_13 rfl rfl dX9_door_28 ?_
      refine go_iconst (pc := 31) 4 dX9_door_31 ki_4 ?_
      refine go_icmpne (pc := 32) 38 dX9_door_32 (by decide) (fun _ => ?_) (fun _ => ?_)
      · refine go_bipush (pc := 35) (-4) dX9_door_35 kb_m4 ?_
        exact go_ret dX9_door_37 rii rfl rfl
      · refine go_aload_n (pc := 38) dX9_door_38 rfl ?_
        refine go_getI (pc := 39) flX9_13 rfl rfl dX9_door_39 ?_
        refine go_istore_nL (pc := 42) (L := fun x1 => [.ref 12451850, .int p1, .int p2, .int x1, .null]) dX9_door_42 (Nat.le_of_ble_eq_true rfl) rfl (fun _ => rfl) (fun x1 => ?_)
        refine go_aload_n (pc := 43) dX9_door_43 rfl ?_
        refine go_getS (pc := 44) 12714123 flX9_23 rfl rfl sM_10_4 (by decide) dX9_door_44 ?_
        refine go_iload_n (pc := 47) dX9_door_47 rfl ?_
        refine go_iload_n (pc := 48) dX9_door_48 rfl ?_
        refine go_iast (pc := 49) rfl rfl dX9_door_49 (fun _ M2 => ?_)
        refine go_aload_n (pc := 50) dX9_door_50 rfl ?_
        refine go_getS (pc := 51) 12845195 flX9_26 rfl rfl sM_10_5 (by decide) dX9_door_51 ?_
        refine go_iload_n (pc := 54) dX9_door_54 rfl ?_
        refine go_iload_n (pc := 55) dX9_door_55 rfl ?_
        refine go_iast (pc := 56) rfl rfl dX9_door_56 (fun _ M3 => ?_)
        refine go_aload_n (pc := 57) dX9_door_57 rfl ?_
        refine go_getS (pc := 58) 12976267 flX9_29 rfl rfl sM_10_6 (by decide) dX9_door_58 ?_
        refine go_iload_n (pc := 61) dX9_door_61 rfl ?_
        refine go_bipush (pc := 62) 50 dX9_door_62 kb_50 ?_
        refine go_iast (pc := 64) rfl rfl dX9_door_64 (fun _ M4 => ?_)
        refine go_aload_n (pc := 65) dX9_door_65 rfl ?_
        refine go_getS (pc := 66) 13107339 flX9_32 rfl rfl sM_10_7 (by decide) dX9_door_66 ?_
        refine go_iload_n (pc := 69) dX9_door_69 rfl ?_
        refine go_bipush (pc := 70) 50 dX9_door_70 kb_50 ?_
        refine go_iast (pc := 72) rfl rfl dX9_door_72 (fun _ M5 => ?_)
        refine go_aload_n (pc := 73) dX9_door_73 rfl ?_
        refine go_getS (pc := 74) 13238411 flX9_35 rfl rfl sM_10_8 (by decide) dX9_door_74 ?_
        refine go_iload_n (pc := 77) dX9_door_77 rfl ?_
        refine go_iconst (pc := 78) 0 dX9_door_78 ki_0 ?_
        refine go_iast (pc := 79) rfl rfl dX9_door_79 (fun _ M6 => ?_)
        refine go_aload_n (pc := 80) dX9_door_80 rfl ?_
        refine go_getS (pc := 81) 13369483 flX9_38 rfl rfl sM_10_9 (by decide) dX9_door_81 ?_
        refine go_iload_n (pc := 84) dX9_door_84 rfl ?_
        refine go_iconst (pc := 85) 0 dX9_door_85 ki_0 ?_
        refine go_iast (pc := 86) rfl rfl dX9_door_86 (fun _ M7 => ?_)
        refine go_aload_n (pc := 87) dX9_door_87 rfl ?_
        refine go_getS (pc := 88) 13500555 flX9_41 rfl rfl sM_10_10 (by decide) dX9_door_88 ?_
        refine go_iload_n (pc := 91) dX9_door_91 rfl ?_
        refine go_iconst (pc := 92) 0 dX9_door_92 ki_0 ?_
        refine go_iast (pc := 93) rfl rfl dX9_door_93 (fun _ M8 => ?_)
        refine go_iconst (pc := 94) 0 dX9_door_94 ki_0 ?_
        refine go_istore (pc := 95) (ls' := [.ref 12451850, .int p1, .int p2, .int x1, .int 0]) dX9_door_95 (Nat.le_of_ble_eq_true rfl) rfl rfl ?_
        refine go_sub (ls' := [.ref 12451850, .null, .null, .int x1, .int 0]) ⟨Or.inr rfl, Or.inl rfl, Or.inl rfl, Or.inr rfl, Or.inr rfl, trivial⟩ ?_
        exact o_M_door_l97 200 x1 0 M8
def f_M_water_b53 (v1 : Int32) (v2 : Int32) (v3 : Int32) (s0 : Int32) (M : Mem) : Option (Int32 × Mem) := if v2 = 0 then gd (inR v1 4) (lt (setI M 12976267 v1.toNatClampNeg v3) fun M2 => some (s0, M2)) else gd (inR v1 4) (lt (setI M 13107339 v1.toNatClampNeg v3) fun M1 => some (s0, M1))
def f_M_water (p1 : Int32) (p2 : Int32) (p3 : Int32) (M : Mem) : Option (Int32 × Mem) := if (f_M_isDoor p1 M) = 0 then some ((-1), M) else if (f_M_in p2 0 1 M) = 0 then some ((-1), M) else if (f_M_in p3 0 99 M) = 0 then some ((-2), M) else if p2 = 0 then gd (inR p1 4) (f_M_water_b53 p1 p2 p3 (mI M 12976267 p1.toNatClampNeg) M) else gd (inR p1 4) (f_M_water_b53 p1 p2 p3 (mI M 13107339 p1.toNatClampNeg) M)
theorem o_M_water_b53 (v1 : Int32) (v2 : Int32) (v3 : Int32) (s0 : Int32) (M : Mem) : Go sRM g_M_water fWi (f_M_water_b53 v1 v2 v3 s0 M) 53 [.ref 12451850, .int v1, .int v2, .int v3, .null] [.int s0] M := by
  refine go_def (f_M_water_b53.eq_1 ..) ?_
  refine go_istore (pc := 53) (ls' := [.ref 12451850, .int v1, .int v2, .int v3, .int s0]) dX9_water_53 (Nat.le_of_ble_eq_true rfl) rfl rfl ?_
  refine go_iload_n (pc := 55) dX9_water_55 rfl ?_
  refine go_ifne (pc := 56) 69 dX9_water_56 (by decide) (fun _ => ?_) (fun _ => ?_)
  · refine go_aload_n (pc := 59) dX9_water_59 rfl ?_
    refine go_getS (pc := 60) 12976267 flX9_29 rfl rfl sM_10_6 (by decide) dX9_water_60 ?_
    refine go_iload_n (pc := 63) dX9_water_63 rfl ?_
    refine go_iload_n (pc := 64) dX9_water_64 rfl ?_
    refine go_iast (pc := 65) rfl rfl dX9_water_65 (fun _ M2 => ?_)
    refine go_goto (pc := 66) 76 dX9_water_66 (by decide) ?_
    refine go_iload (pc := 76) dX9_water_76 rfl ?_
    exact go_ret dX9_water_78 rii rfl rfl
  · refine go_aload_n (pc := 69) dX9_water_69 rfl ?_
    refine go_getS (pc := 70) 13107339 flX9_32 rfl rfl sM_10_7 (by decide) dX9_water_70 ?_
    refine go_iload_n (pc := 73) dX9_water_73 rfl ?_
    refine go_iload_n (pc := 74) dX9_water_74 rfl ?_
    refine go_iast (pc := 75) rfl rfl dX9_water_75 (fun _ M1 => ?_)
    refine go_iload (pc := 76) dX9_water_76 rfl ?_
    exact go_ret dX9_water_78 rii rfl rfl
theorem o_M_water (p1 : Int32) (p2 : Int32) (p3 : Int32) (M : Mem) : Ct sRM g_M_water fWi [.ref 12451850, .int p1, .int p2, .int p3] (f_M_water p1 p2 p3 M) M := by
  refine ⟨Nat.le_of_ble_eq_true rfl, ?_⟩
  show Go sRM g_M_water fWi (f_M_water p1 p2 p3 M) 0 [.ref 12451850, .int p1, .int p2, .int p3, .null] [] M
  refine go_def (f_M_water.eq_1 ..) ?_
  refine go_aload_n (pc := 0) dX9_water_0 rfl ?_
  refine go_iload_n (pc := 1) dX9_water_1 rfl ?_
  refine go_T (v := f_M_isDoor p1 M) ?_
  refine go_callV (pc := 2) (a := 12451850) (as := [.int p1]) (st := []) (o_M_isDoor p1 M) ic_M_isDoor ivX9_207 (rcvk (a := 12451850) (t := 10) rfl (by decide) (by decide) rfl) rfl (by decide) (Nat.le_of_ble_eq_true rfl) dX9_water_2 (kTi ?_)
  refine go_ifeq (pc := 5) 18 dX9_water_5 (by decide) (fun _ => ?_) (fun _ => ?_)
  · refine go_iconst (pc := 18) (-1) dX9_water_18 ki_m1 ?_
    exact go_ret dX9_water_19 rii rfl rfl
  · refine go_aload_n (pc := 8) dX9_water_8 rfl ?_
    refine go_iload_n (pc := 9) dX9_water_9 rfl ?_
    refine go_iconst (pc := 10) 0 dX9_water_10 ki_0 ?_
    refine go_iconst (pc := 11) 1 dX9_water_11 ki_1 ?_
    refine go_T (v := f_M_in p2 0 1 M) ?_
    refine go_callV (pc := 12) (a := 12451850) (as := [.int p2, .int 0, .int 1]) (st := []) (o_M_in p2 0 1 M) ic_M_in ivX9_203 (rcvk (a := 12451850) (t := 10) rfl (by decide) (by decide) rfl) rfl (by decide) (Nat.le_of_ble_eq_true rfl) dX9_water_12 (kTi ?_)
    refine go_ifne (pc := 15) 20 dX9_water_15 (by decide) (fun _ => ?_) (fun _ => ?_)
    · refine go_iconst (pc := 18) (-1) dX9_water_18 ki_m1 ?_
      exact go_ret dX9_water_19 rii rfl rfl
    · refine go_aload_n (pc := 20) dX9_water_20 rfl ?_
      refine go_iload_n (pc := 21) dX9_water_21 rfl ?_
      refine go_iconst (pc := 22) 0 dX9_water_22 ki_0 ?_
      refine go_bipush (pc := 23) 99 dX9_water_23 kb_99 ?_
      refine go_T (v := f_M_in p3 0 99 M) ?_
      refine go_callV (pc := 25) (a := 12451850) (as := [.int p3, .int 0, .int 99]) (st := []) (o_M_in p3 0 99 M) ic_M_in ivX9_203 (rcvk (a := 12451850) (t := 10) rfl (by decide) (by decide) rfl) rfl (by decide) (Nat.le_of_ble_eq_true rfl) dX9_water_25 (kTi ?_)
      refine go_ifne (pc := 28) 34 dX9_water_28 (by decide) (fun _ => ?_) (fun _ => ?_)
      · refine go_bipush (pc := 31) (-2) dX9_water_31 kb_m2 ?_
        exact go_ret dX9_water_33 rii rfl rfl
      · refine go_iload_n (pc := 34) dX9_water_34 rfl ?_
        refine go_ifne (pc := 35) 47 dX9_water_35 (by decide) (fun _ => ?_) (fun _ => ?_)
        · refine go_aload_n (pc := 38) dX9_water_38 rfl ?_
          refine go_getS (pc := 39) 12976267 flX9_29 rfl rfl sM_10_6 (by decide) dX9_water_39 ?_
          refine go_iload_n (pc := 42) dX9_water_42 rfl ?_
          refine go_iald (pc := 43) rfl rfl dX9_water_43 (fun _ => ?_)
          refine go_goto (pc := 44) 53 dX9_water_44 (by decide) ?_
          exact o_M_water_b53 p1 p2 p3 (mI M 12976267 p1.toNatClampNeg) M
        · refine go_aload_n (pc := 47) dX9_water_47 rfl ?_
          refine go_getS (pc := 48) 13107339 flX9_32 rfl rfl sM_10_7 (by decide) dX9_water_48 ?_
          refine go_iload_n (pc := 51) dX9_water_51 rfl ?_
          refine go_iald (pc := 52) rfl rfl dX9_water_52 (fun _ => ?_)
          exact o_M_water_b53 p1 p2 p3 (mI M 13107339 p1.toNatClampNeg) M
def f_M_sag (p1 : Int32) (p2 : Int32) (M : Mem) : Option (Int32 × Mem) := if (f_M_isDoor p1 M) = 0 then some ((-1), M) else if (f_M_in p2 0 20 M) = 0 then some ((-2), M) else gd (inR p1 4) (lt (mI M 13369483 p1.toNatClampNeg) fun x1 => gd (inR p1 4) (lt (setI M 13369483 p1.toNatClampNeg p2) fun M2 => some (x1, M2)))
theorem o_M_sag (p1 : Int32) (p2 : Int32) (M : Mem) : Ct sRM g_M_sag fWi [.ref 12451850, .int p1, .int p2] (f_M_sag p1 p2 M) M := by
  refine ⟨Nat.le_of_ble_eq_true rfl, ?_⟩
  show Go sRM g_M_sag fWi (f_M_sag p1 p2 M) 0 [.ref 12451850, .int p1, .int p2, .null] [] M
  refine go_def (f_M_sag.eq_1 ..) ?_
  refine go_aload_n (pc := 0) dX9_sag_0 rfl ?_
  refine go_iload_n (pc := 1) dX9_sag_1 rfl ?_
  refine go_T (v := f_M_isDoor p1 M) ?_
  refine go_callV (pc := 2) (a := 12451850) (as := [.int p1]) (st := []) (o_M_isDoor p1 M) ic_M_isDoor ivX9_207 (rcvk (a := 12451850) (t := 10) rfl (by decide) (by decide) rfl) rfl (by decide) (Nat.le_of_ble_eq_true rfl) dX9_sag_2 (kTi ?_)
  refine go_ifne (pc := 5) 10 dX9_sag_5 (by decide) (fun _ => ?_) (fun _ => ?_)
  · refine go_iconst (pc := 8) (-1) dX9_sag_8 ki_m1 ?_
    exact go_ret dX9_sag_9 rii rfl rfl
  · refine go_aload_n (pc := 10) dX9_sag_10 rfl ?_
    refine go_iload_n (pc := 11) dX9_sag_11 rfl ?_
    refine go_iconst (pc := 12) 0 dX9_sag_12 ki_0 ?_
    refine go_bipush (pc := 13) 20 dX9_sag_13 kb_20 ?_
    refine go_T (v := f_M_in p2 0 20 M) ?_
    refine go_callV (pc := 15) (a := 12451850) (as := [.int p2, .int 0, .int 20]) (st := []) (o_M_in p2 0 20 M) ic_M_in ivX9_203 (rcvk (a := 12451850) (t := 10) rfl (by decide) (by decide) rfl) rfl (by decide) (Nat.le_of_ble_eq_true rfl) dX9_sag_15 (kTi ?_)
    refine go_ifne (pc := 18) 24 dX9_sag_18 (by decide) (fun _ => ?_) (fun _ => ?_)
    · refine go_bipush (pc := 21) (-2) dX9_sag_21 kb_m2 ?_
      exact go_ret dX9_sag_23 rii rfl rfl
    · refine go_aload_n (pc := 24) dX9_sag_24 rfl ?_
      refine go_getS (pc := 25) 13369483 flX9_38 rfl rfl sM_10_9 (by decide) dX9_sag_25 ?_
      refine go_iload_n (pc := 28) dX9_sag_28 rfl ?_
      refine go_iald (pc := 29) rfl rfl dX9_sag_29 (fun _ => ?_)
      refine go_istore_nL (pc := 30) (L := fun x1 => [.ref 12451850, .int p1, .int p2, .int x1]) dX9_sag_30 (Nat.le_of_ble_eq_true rfl) rfl (fun _ => rfl) (fun x1 => ?_)
      refine go_aload_n (pc := 31) dX9_sag_31 rfl ?_
      refine go_getS (pc := 32) 13369483 flX9_38 rfl rfl sM_10_9 (by decide) dX9_sag_32 ?_
      refine go_iload_n (pc := 35) dX9_sag_35 rfl ?_
      refine go_iload_n (pc := 36) dX9_sag_36 rfl ?_
      refine go_iast (pc := 37) rfl rfl dX9_sag_37 (fun _ M2 => ?_)
      refine go_iload_n (pc := 38) dX9_sag_38 rfl ?_
      exact go_ret dX9_sag_39 rii rfl rfl
def f_M_feed (p1 : Int32) (M : Mem) : Option (Int32 × Mem) := if (f_M_in p1 0 127 M) = 0 then some ((-2), M) else if (mI M 12451850 14) = 100 then some ((-4), M) else gd (inR (mI M 12451850 14) 100) (lt (setI M 13765771 (mI M 12451850 14).toNatClampNeg p1) fun M1 => lt (setI M1 12451850 14 ((mI M1 12451850 14) + 1)) fun M2 => some (mI M2 12451850 14, M2))
theorem o_M_feed (p1 : Int32) (M : Mem) : Ct sRM g_M_feed fWi [.ref 12451850, .int p1] (f_M_feed p1 M) M := by
  refine ⟨Nat.le_of_ble_eq_true rfl, ?_⟩
  show Go sRM g_M_feed fWi (f_M_feed p1 M) 0 [.ref 12451850, .int p1] [] M
  refine go_def (f_M_feed.eq_1 ..) ?_
  refine go_aload_n (pc := 0) dX9_feed_0 rfl ?_
  refine go_iload_n (pc := 1) dX9_feed_1 rfl ?_
  refine go_iconst (pc := 2) 0 dX9_feed_2 ki_0 ?_
  refine go_bipush (pc := 3) 127 dX9_feed_3 kb_127 ?_
  refine go_T (v := f_M_in p1 0 127 M) ?_
  refine go_callV (pc := 5) (a := 12451850) (as := [.int p1, .int 0, .int 127]) (st := []) (o_M_in p1 0 127 M) ic_M_in ivX9_203 (rcvk (a := 12451850) (t := 10) rfl (by decide) (by decide) rfl) rfl (by decide) (Nat.le_of_ble_eq_true rfl) dX9_feed_5 (kTi ?_)
  refine go_ifne (pc := 8) 14 dX9_feed_8 (by decide) (fun _ => ?_) (fun _ => ?_)
  · refine go_bipush (pc := 11) (-2) dX9_feed_11 kb_m2 ?_
    exact go_ret dX9_feed_13 rii rfl rfl
  · refine go_aload_n (pc := 14) dX9_feed_14 rfl ?_
    refine go_getI (pc := 15) flX9_53 rfl rfl dX9_feed_15 ?_
    refine go_bipush (pc := 18) 100 dX9_feed_18 kb_100 ?_
    refine go_icmpne (pc := 20) 26 dX9_feed_20 (by decide) (fun _ => ?_) (fun _ => ?_)
    · refine go_bipush (pc := 23) (-4) dX9_feed_23 kb_m4 ?_
      exact go_ret dX9_feed_25 rii rfl rfl
    · refine go_aload_n (pc := 26) dX9_feed_26 rfl ?_
      refine go_getS (pc := 27) 13765771 flX9_62 rfl rfl sM_10_17 (by decide) dX9_feed_27 ?_
      refine go_aload_n (pc := 30) dX9_feed_30 rfl ?_
      refine go_getI (pc := 31) flX9_53 rfl rfl dX9_feed_31 ?_
      refine go_iload_n (pc := 34) dX9_feed_34 rfl ?_
      refine go_iast (pc := 35) rfl rfl dX9_feed_35 (fun _ M1 => ?_)
      refine go_aload_n (pc := 36) dX9_feed_36 rfl ?_
      refine go_dup (pc := 37) dX9_feed_37 rfl ?_
      refine go_getI (pc := 38) flX9_53 rfl rfl dX9_feed_38 ?_
      refine go_iconst (pc := 41) 1 dX9_feed_41 ki_1 ?_
      refine go_iadd (pc := 42) dX9_feed_42 ?_
      refine go_putI (pc := 43) flX9_53 rfl (Or.inl rfl) ⟨rfl, rfl⟩ rfl dX9_feed_43 (fun M2 => ?_)
      refine go_aload_n (pc := 46) dX9_feed_46 rfl ?_
      refine go_getI (pc := 47) flX9_53 rfl rfl dX9_feed_47 ?_
      exact go_ret dX9_feed_50 rii rfl rfl
def f_M_next (M : Mem) : Option Int32 := if (mI M 12451850 14) ≤ (mI M 12451850 15) then some (-1) else gd (inR (mI M 12451850 15) 100) (some (mI M 13765771 (mI M 12451850 15).toNatClampNeg))
theorem o_M_next (M : Mem) : Ct sRM g_M_next (fRi M) [.ref 12451850] (f_M_next M) M := by
  refine ⟨Nat.le_of_ble_eq_true rfl, ?_⟩
  show Go sRM g_M_next (fRi M) (f_M_next M) 0 [.ref 12451850] [] M
  refine go_def (f_M_next.eq_1 ..) ?_
  refine go_aload_n (pc := 0) dX9_next_0 rfl ?_
  refine go_getI (pc := 1) flX9_56 rfl rfl dX9_next_1 ?_
  refine go_aload_n (pc := 4) dX9_next_4 rfl ?_
  refine go_getI (pc := 5) flX9_53 rfl rfl dX9_next_5 ?_
  refine go_icmpge (pc := 8) 23 dX9_next_8 (by decide) (fun _ => ?_) (fun _ => ?_)
  · refine go_iconst (pc := 23) (-1) dX9_next_23 ki_m1 ?_
    exact go_ret dX9_next_24 rii rfl rfl
  · refine go_aload_n (pc := 11) dX9_next_11 rfl ?_
    refine go_getS (pc := 12) 13765771 flX9_62 rfl rfl sM_10_17 (by decide) dX9_next_12 ?_
    refine go_aload_n (pc := 15) dX9_next_15 rfl ?_
    refine go_getI (pc := 16) flX9_56 rfl rfl dX9_next_16 ?_
    refine go_iald (pc := 19) rfl rfl dX9_next_19 (fun _ => ?_)
    refine go_goto (pc := 20) 24 dX9_next_20 (by decide) ?_
    exact go_ret dX9_next_24 rii rfl rfl
def f_M_second (M : Mem) : Option Int32 := if (mI M 12451850 14) ≤ ((mI M 12451850 15) + 1) then some (-1) else gd (inR ((mI M 12451850 15) + 1) 100) (some (mI M 13765771 ((mI M 12451850 15) + 1).toNatClampNeg))
theorem o_M_second (M : Mem) : Ct sRM g_M_second (fRi M) [.ref 12451850] (f_M_second M) M := by
  refine ⟨Nat.le_of_ble_eq_true rfl, ?_⟩
  show Go sRM g_M_second (fRi M) (f_M_second M) 0 [.ref 12451850] [] M
  refine go_def (f_M_second.eq_1 ..) ?_
  refine go_aload_n (pc := 0) dX9_second_0 rfl ?_
  refine go_getI (pc := 1) flX9_56 rfl rfl dX9_second_1 ?_
  refine go_iconst (pc := 4) 1 dX9_second_4 ki_1 ?_
  refine go_iadd (pc := 5) dX9_second_5 ?_
  refine go_aload_n (pc := 6) dX9_second_6 rfl ?_
  refine go_getI (pc := 7) flX9_53 rfl rfl dX9_second_7 ?_
  refine go_icmpge (pc := 10) 27 dX9_second_10 (by decide) (fun _ => ?_) (fun _ => ?_)
  · refine go_iconst (pc := 27) (-1) dX9_second_27 ki_m1 ?_
    exact go_ret dX9_second_28 rii rfl rfl
  · refine go_aload_n (pc := 13) dX9_second_13 rfl ?_
    refine go_getS (pc := 14) 13765771 flX9_62 rfl rfl sM_10_17 (by decide) dX9_second_14 ?_
    refine go_aload_n (pc := 17) dX9_second_17 rfl ?_
    refine go_getI (pc := 18) flX9_56 rfl rfl dX9_second_18 ?_
    refine go_iconst (pc := 21) 1 dX9_second_21 ki_1 ?_
    refine go_iadd (pc := 22) dX9_second_22 ?_
    refine go_iald (pc := 23) rfl rfl dX9_second_23 (fun _ => ?_)
    refine go_goto (pc := 24) 28 dX9_second_24 (by decide) ?_
    exact go_ret dX9_second_28 rii rfl rfl
def f_M_takes (p1 : Int32) (M : Mem) : Option (Int32 × Mem) := bd (f_M_next M) fun r1 => if r1 = p1 then lt (setI M 12451850 15 ((mI M 12451850 15) + 1)) fun M2 => some (1, M2) else some (0, M)
theorem o_M_takes (p1 : Int32) (M : Mem) : Ct sRM g_M_takes fWi [.ref 12451850, .int p1] (f_M_takes p1 M) M := by
  refine ⟨Nat.le_of_ble_eq_true rfl, ?_⟩
  show Go sRM g_M_takes fWi (f_M_takes p1 M) 0 [.ref 12451850, .int p1] [] M
  refine go_def (f_M_takes.eq_1 ..) ?_
  refine go_aload_n (pc := 0) dX9_takes_0 rfl ?_
  refine go_callV (pc := 1) (a := 12451850) (as := []) (st := []) (o_M_next M) ic_M_next ivX9_211 (rcvk (a := 12451850) (t := 10) rfl (by decide) (by decide) rfl) rfl (by decide) (Nat.le_of_ble_eq_true rfl) dX9_takes_1 (kRi fun r1 => ?_)
  refine go_iload_n (pc := 4) dX9_takes_4 rfl ?_
  refine go_icmpeq (pc := 5) 10 dX9_takes_5 (by decide) (fun _ => ?_) (fun _ => ?_)
  · refine go_aload_n (pc := 10) dX9_takes_10 rfl ?_
    refine go_dup (pc := 11) dX9_takes_11 rfl ?_
    refine go_getI (pc := 12) flX9_56 rfl rfl dX9_takes_12 ?_
    refine go_iconst (pc := 15) 1 dX9_takes_15 ki_1 ?_
    refine go_iadd (pc := 16) dX9_takes_16 ?_
    refine go_putI (pc := 17) flX9_56 rfl (Or.inl rfl) ⟨rfl, rfl⟩ rfl dX9_takes_17 (fun M2 => ?_)
    refine go_iconst (pc := 20) 1 dX9_takes_20 ki_1 ?_
    exact go_ret dX9_takes_21 (rbz (Or.inr rfl)) rfl rfl
  · refine go_iconst (pc := 8) 0 dX9_takes_8 ki_0 ?_
    exact go_ret dX9_takes_9 (rbz (Or.inl rfl)) rfl rfl
def f_M_takesWord_l2 : Nat → Int32 → Int32 → Int32 → Mem → Option (Int32 × Mem)
  | 0, _, _, _, _ => none
  | n + 1, v1, v2, v3, M => if v2 ≤ v3 then b2 (f_M_takes 32 M) fun r2 M1 => gd (r2 = 0 ∨ r2 = 1) (some (r2, M1)) else gd (inR (v1 + v3) 20) (b2 (f_M_takes (mI M 14811787 (v1 + v3).toNatClampNeg) M) fun r5 M4 => if r5 = 0 then some (0, M4) else lt (v3 + 1) fun x6 => f_M_takesWord_l2 n v1 v2 x6 M4)
def f_M_takesWord (p1 : Int32) (p2 : Int32) (M : Mem) : Option (Int32 × Mem) := f_M_takesWord_l2 200 p1 p2 0 M
theorem o_M_takesWord_l2 : ∀ (n : Nat) (v1 : Int32) (v2 : Int32) (v3 : Int32) (M : Mem), Go sRM g_M_takesWord fWi (f_M_takesWord_l2 n v1 v2 v3 M) 2 [.ref 12451850, .int v1, .int v2, .int v3] [] M := by
  intro n
  induction n with
  | zero =>
    intro v1 v2 v3 M
    exact go_def (f_M_takesWord_l2.eq_1 ..) go_none
  | succ n ih =>
    intro v1 v2 v3 M
    refine go_def (f_M_takesWord_l2.eq_2 ..) ?_
    refine go_iload_n (pc := 2) dX9_takesWord_2 rfl ?_
    refine go_iload_n (pc := 3) dX9_takesWord_3 rfl ?_
    refine go_icmpge (pc := 4) 30 dX9_takesWord_4 (by decide) (fun _ => ?_) (fun _ => ?_)
    · refine go_aload_n (pc := 30) dX9_takesWord_30 rfl ?_
      refine go_bipush (pc := 31) 32 dX9_takesWord_31 kb_32 ?_
      refine go_callV (pc := 33) (a := 12451850) (as := [.int 32]) (st := []) (o_M_takes 32 M) ic_M_takes ivX9_215 (rcvk (a := 12451850) (t := 10) rfl (by decide) (by decide) rfl) rfl (by decide) (Nat.le_of_ble_eq_true rfl) dX9_takesWord_33 (kWi fun r2 M1 => ?_)
      refine go_gd fun g3 => ?_
      exact go_ret dX9_takesWord_36 (rbz g3) rfl rfl
    · refine go_aload_n (pc := 7) dX9_takesWord_7 rfl ?_
      refine go_aload_n (pc := 8) dX9_takesWord_8 rfl ?_
      refine go_getS (pc := 9) 14811787 flX9_95 rfl rfl sM_10_28 (by decide) dX9_takesWord_9 ?_
      refine go_iload_n (pc := 12) dX9_takesWord_12 rfl ?_
      refine go_iload_n (pc := 13) dX9_takesWord_13 rfl ?_
      refine go_iadd (pc := 14) dX9_takesWord_14 ?_
      refine go_iald (pc := 15) rfl rfl dX9_takesWord_15 (fun _ => ?_)
      refine go_callV (pc := 16) (a := 12451850) (as := [.int (mI M 14811787 (v1 + v3).toNatClampNeg)]) (st := []) (o_M_takes (mI M 14811787 (v1 + v3).toNatClampNeg) M) ic_M_takes ivX9_215 (rcvk (a := 12451850) (t := 10) rfl (by decide) (by decide) rfl) rfl (by decide) (Nat.le_of_ble_eq_true rfl) dX9_takesWord_16 (kWi fun r5 M4 => ?_)
      refine go_ifne (pc := 19) 24 dX9_takesWord_19 (by decide) (fun _ => ?_) (fun _ => ?_)
      · refine go_iconst (pc := 22) 0 dX9_takesWord_22 ki_0 ?_
        exact go_ret dX9_takesWord_23 (rbz (Or.inl rfl)) rfl rfl
      · refine go_iincL (pc := 24) (L := fun x6 => [.ref 12451850, .int v1, .int v2, .int x6]) 1 dX9_takesWord_24 rfl ki_1 (Nat.le_of_ble_eq_true rfl) rfl (fun _ => rfl) (fun x6 => ?_)
        refine go_goto (pc := 27) 2 dX9_takesWord_27 (by decide) ?_
        exact ih v1 v2 x6 M4
theorem o_M_takesWord (p1 : Int32) (p2 : Int32) (M : Mem) : Ct sRM g_M_takesWord fWi [.ref 12451850, .int p1, .int p2] (f_M_takesWord p1 p2 M) M := by
  refine ⟨Nat.le_of_ble_eq_true rfl, ?_⟩
  show Go sRM g_M_takesWord fWi (f_M_takesWord p1 p2 M) 0 [.ref 12451850, .int p1, .int p2, .null] [] M
  refine go_def (f_M_takesWord.eq_1 ..) ?_
  refine go_iconst (pc := 0) 0 dX9_takesWord_0 ki_0 ?_
  refine go_istore_n (pc := 1) (ls' := [.ref 12451850, .int p1, .int p2, .int 0]) dX9_takesWord_1 (Nat.le_of_ble_eq_true rfl) rfl rfl ?_
  exact o_M_takesWord_l2 200 p1 p2 0 M
def f_M_isDigit (M : Mem) : Option Int32 := bd (f_M_next M) fun r1 => some (f_M_in r1 48 57 M)
theorem o_M_isDigit (M : Mem) : Ct sRM g_M_isDigit (fRi M) [.ref 12451850] (f_M_isDigit M) M := by
  refine ⟨Nat.le_of_ble_eq_true rfl, ?_⟩
  show Go sRM g_M_isDigit (fRi M) (f_M_isDigit M) 0 [.ref 12451850] [] M
  refine go_def (f_M_isDigit.eq_1 ..) ?_
  refine go_aload_n (pc := 0) dX9_isDigit_0 rfl ?_
  refine go_aload_n (pc := 1) dX9_isDigit_1 rfl ?_
  refine go_callV (pc := 2) (a := 12451850) (as := []) (st := [.ref 12451850]) (o_M_next M) ic_M_next ivX9_211 (rcvk (a := 12451850) (t := 10) rfl (by decide) (by decide) rfl) rfl (by decide) (Nat.le_of_ble_eq_true rfl) dX9_isDigit_2 (kRi fun r1 => ?_)
  refine go_bipush (pc := 5) 48 dX9_isDigit_5 kb_48 ?_
  refine go_bipush (pc := 7) 57 dX9_isDigit_7 kb_57 ?_
  refine go_T (v := f_M_in r1 48 57 M) ?_
  refine go_callV (pc := 9) (a := 12451850) (as := [.int r1, .int 48, .int 57]) (st := []) (o_M_in r1 48 57 M) ic_M_in ivX9_203 (rcvk (a := 12451850) (t := 10) rfl (by decide) (by decide) rfl) rfl (by decide) (Nat.le_of_ble_eq_true rfl) dX9_isDigit_9 (kTi ?_)
  exact go_ret dX9_isDigit_12 (rbz (o_M_in_b r1 48 57 M)) rfl rfl
def f_M_takesNumber_l16 : Nat → Int32 → Mem → Option (Int32 × Mem)
  | 0, _, _ => none
  | n + 1, v1, M => if 2 ≤ v1 then some (1, M) else bd (f_M_isDigit M) fun r3 => if r3 = 0 then some (1, M) else bd (f_M_next M) fun r4 => lt (setI M 12451850 16 (((10 * (mI M 12451850 16)) + r4) - 48)) fun M5 => lt (setI M5 12451850 15 ((mI M5 12451850 15) + 1)) fun M6 => lt (v1 + 1) fun x7 => f_M_takesNumber_l16 n x7 M6
def f_M_takesNumber (M : Mem) : Option (Int32 × Mem) := bd (f_M_isDigit M) fun r1 => if r1 = 0 then some (0, M) else lt (setI M 12451850 16 0) fun M2 => f_M_takesNumber_l16 200 0 M2
theorem o_M_takesNumber_l16 : ∀ (n : Nat) (v1 : Int32) (M : Mem), Go sRM g_M_takesNumber fWi (f_M_takesNumber_l16 n v1 M) 16 [.ref 12451850, .int v1] [] M := by
  intro n
  induction n with
  | zero =>
    intro v1 M
    exact go_def (f_M_takesNumber_l16.eq_1 ..) go_none
  | succ n ih =>
    intro v1 M
    refine go_def (f_M_takesNumber_l16.eq_2 ..) ?_
    refine go_iload_n (pc := 16) dX9_takesNumber_16 rfl ?_
    refine go_iconst (pc := 17) 2 dX9_takesNumber_17 ki_2 ?_
    refine go_icmpge (pc := 18) 63 dX9_takesNumber_18 (by decide) (fun _ => ?_) (fun _ => ?_)
    · refine go_iconst (pc := 63) 1 dX9_takesNumber_63 ki_1 ?_
      exact go_ret dX9_takesNumber_64 (rbz (Or.inr rfl)) rfl rfl
    · refine go_aload_n (pc := 21) dX9_takesNumber_21 rfl ?_
      refine go_callV (pc := 22) (a := 12451850) (as := []) (st := []) (o_M_isDigit M) ic_M_isDigit ivX9_218 (rcvk (a := 12451850) (t := 10) rfl (by decide) (by decide) rfl) rfl (by decide) (Nat.le_of_ble_eq_true rfl) dX9_takesNumber_22 (kRi fun r3 => ?_)
      refine go_ifeq (pc := 25) 63 dX9_takesNumber_25 (by decide) (fun _ => ?_) (fun _ => ?_)
      · refine go_iconst (pc := 63) 1 dX9_takesNumber_63 ki_1 ?_
        exact go_ret dX9_takesNumber_64 (rbz (Or.inr rfl)) rfl rfl
      · refine go_aload_n (pc := 28) dX9_takesNumber_28 rfl ?_
        refine go_bipush (pc := 29) 10 dX9_takesNumber_29 kb_10 ?_
        refine go_aload_n (pc := 31) dX9_takesNumber_31 rfl ?_
        refine go_getI (pc := 32) flX9_59 rfl rfl dX9_takesNumber_32 ?_
        refine go_imul (pc := 35) dX9_takesNumber_35 ?_
        refine go_aload_n (pc := 36) dX9_takesNumber_36 rfl ?_
        refine go_callV (pc := 37) (a := 12451850) (as := []) (st := [.int (10 * (mI M 12451850 16)), .ref 12451850]) (o_M_next M) ic_M_next ivX9_211 (rcvk (a := 12451850) (t := 10) rfl (by decide) (by decide) rfl) rfl (by decide) (Nat.le_of_ble_eq_true rfl) dX9_takesNumber_37 (kRi fun r4 => ?_)
        refine go_iadd (pc := 40) dX9_takesNumber_40 ?_
        refine go_bipush (pc := 41) 48 dX9_takesNumber_41 kb_48 ?_
        refine go_isub (pc := 43) dX9_takesNumber_43 ?_
        refine go_putI (pc := 44) flX9_59 rfl (Or.inl rfl) ⟨rfl, rfl⟩ rfl dX9_takesNumber_44 (fun M5 => ?_)
        refine go_aload_n (pc := 47) dX9_takesNumber_47 rfl ?_
        refine go_dup (pc := 48) dX9_takesNumber_48 rfl ?_
        refine go_getI (pc := 49) flX9_56 rfl rfl dX9_takesNumber_49 ?_
        refine go_iconst (pc := 52) 1 dX9_takesNumber_52 ki_1 ?_
        refine go_iadd (pc := 53) dX9_takesNumber_53 ?_
        refine go_putI (pc := 54) flX9_56 rfl (Or.inl rfl) ⟨rfl, rfl⟩ rfl dX9_takesNumber_54 (fun M6 => ?_)
        refine go_iincL (pc := 57) (L := fun x7 => [.ref 12451850, .int x7]) 1 dX9_takesNumber_57 rfl ki_1 (Nat.le_of_ble_eq_true rfl) rfl (fun _ => rfl) (fun x7 => ?_)
        refine go_goto (pc := 60) 16 dX9_takesNumber_60 (by decide) ?_
        exact ih x7 M6
theorem o_M_takesNumber (M : Mem) : Ct sRM g_M_takesNumber fWi [.ref 12451850] (f_M_takesNumber M) M := by
  refine ⟨Nat.le_of_ble_eq_true rfl, ?_⟩
  show Go sRM g_M_takesNumber fWi (f_M_takesNumber M) 0 [.ref 12451850, .null] [] M
  refine go_def (f_M_takesNumber.eq_1 ..) ?_
  refine go_aload_n (pc := 0) dX9_takesNumber_0 rfl ?_
  refine go_callV (pc := 1) (a := 12451850) (as := []) (st := []) (o_M_isDigit M) ic_M_isDigit ivX9_218 (rcvk (a := 12451850) (t := 10) rfl (by decide) (by decide) rfl) rfl (by decide) (Nat.le_of_ble_eq_true rfl) dX9_takesNumber_1 (kRi fun r1 => ?_)
  refine go_ifne (pc := 4) 9 dX9_takesNumber_4 (by decide) (fun _ => ?_) (fun _ => ?_)
  · refine go_iconst (pc := 7) 0 dX9_takesNumber_7 ki_0 ?_
    exact go_ret dX9_takesNumber_8 (rbz (Or.inl rfl)) rfl rfl
  · refine go_aload_n (pc := 9) dX9_takesNumber_9 rfl ?_
    refine go_iconst (pc := 10) 0 dX9_takesNumber_10 ki_0 ?_
    refine go_putI (pc := 11) flX9_59 rfl (Or.inl rfl) ⟨rfl, rfl⟩ rfl dX9_takesNumber_11 (fun M2 => ?_)
    refine go_iconst (pc := 14) 0 dX9_takesNumber_14 ki_0 ?_
    refine go_istore_n (pc := 15) (ls' := [.ref 12451850, .int 0]) dX9_takesNumber_15 (Nat.le_of_ble_eq_true rfl) rfl rfl ?_
    exact o_M_takesNumber_l16 200 0 M2
def f_M_put (p1 : Int32) (M : Mem) : Option Mem := gd (inR (mI M 12451850 25) 600) (lt (setI M 14568203 (mI M 12451850 25).toNatClampNeg p1) fun M1 => lt (setI M1 12451850 25 ((mI M1 12451850 25) + 1)) fun M2 => some M2)
theorem o_M_put (p1 : Int32) (M : Mem) : Ct sRM g_M_put fWv [.ref 12451850, .int p1] (f_M_put p1 M) M := by
  refine ⟨Nat.le_of_ble_eq_true rfl, ?_⟩
  show Go sRM g_M_put fWv (f_M_put p1 M) 0 [.ref 12451850, .int p1] [] M
  refine go_def (f_M_put.eq_1 ..) ?_
  refine go_aload_n (pc := 0) dX9_put_0 rfl ?_
  refine go_getS (pc := 1) 14568203 flX9_80 rfl rfl sM_10_23 (by decide) dX9_put_1 ?_
  refine go_aload_n (pc := 4) dX9_put_4 rfl ?_
  refine go_getI (pc := 5) flX9_86 rfl rfl dX9_put_5 ?_
  refine go_iload_n (pc := 8) dX9_put_8 rfl ?_
  refine go_iast (pc := 9) rfl rfl dX9_put_9 (fun _ M1 => ?_)
  refine go_aload_n (pc := 10) dX9_put_10 rfl ?_
  refine go_dup (pc := 11) dX9_put_11 rfl ?_
  refine go_getI (pc := 12) flX9_86 rfl rfl dX9_put_12 ?_
  refine go_iconst (pc := 15) 1 dX9_put_15 ki_1 ?_
  refine go_iadd (pc := 16) dX9_put_16 ?_
  refine go_putI (pc := 17) flX9_86 rfl (Or.inl rfl) ⟨rfl, rfl⟩ rfl dX9_put_17 (fun M2 => ?_)
  exact go_ret dX9_put_20 rfl rfl rfl
def f_M_whole_l0 : Nat → Mem → Option Mem
  | 0, _ => none
  | n + 1, M => if (mI M 12451850 26) ≤ 0 then some M else gd (inR ((mI M 12451850 26) - 1) 101) (if (mI M 14683307 ((mI M 12451850 26) - 1).toNatClampNeg) = 33 then bd (f_M_put (-33) M) fun M1 => lt (setI M1 12451850 26 ((mI M1 12451850 26) - 1)) fun M2 => lt (setI M2 12451850 27 ((mI M2 12451850 27) - 1)) fun M3 => f_M_whole_l0 n M3 else some M)
def f_M_whole (M : Mem) : Option Mem := f_M_whole_l0 200 M
theorem o_M_whole_l0 : ∀ (n : Nat) (M : Mem), Go sRM g_M_whole fWv (f_M_whole_l0 n M) 0 [.ref 12451850] [] M := by
  intro n
  induction n with
  | zero =>
    intro M
    exact go_def (f_M_whole_l0.eq_1 ..) go_none
  | succ n ih =>
    intro M
    refine go_def (f_M_whole_l0.eq_2 ..) ?_
    refine go_aload_n (pc := 0) dX9_whole_0 rfl ?_
    refine go_getI (pc := 1) flX9_89 rfl rfl dX9_whole_1 ?_
    refine go_ifle (pc := 4) 52 dX9_whole_4 (by decide) (fun _ => ?_) (fun _ => ?_)
    · exact go_ret dX9_whole_52 rfl rfl rfl
    · refine go_aload_n (pc := 7) dX9_whole_7 rfl ?_
      refine go_getS (pc := 8) 14683307 flX9_83 rfl rfl sM_10_24 (by decide) dX9_whole_8 ?_
      refine go_aload_n (pc := 11) dX9_whole_11 rfl ?_
      refine go_getI (pc := 12) flX9_89 rfl rfl dX9_whole_12 ?_
      refine go_iconst (pc := 15) 1 dX9_whole_15 ki_1 ?_
      refine go_isub (pc := 16) dX9_whole_16 ?_
      refine go_iald (pc := 17) rfl rfl dX9_whole_17 (fun _ => ?_)
      refine go_bipush (pc := 18) 33 dX9_whole_18 kb_33 ?_
      refine go_icmpne (pc := 20) 52 dX9_whole_20 (by decide) (fun _ => ?_) (fun _ => ?_)
      · refine go_aload_n (pc := 23) dX9_whole_23 rfl ?_
        refine go_bipush (pc := 24) (-33) dX9_whole_24 kb_m33 ?_
        refine go_callV (pc := 26) (a := 12451850) (as := [.int (-33)]) (st := []) (o_M_put (-33) M) ic_M_put ivX9_222 (rcvk (a := 12451850) (t := 10) rfl (by decide) (by decide) rfl) rfl (by decide) (Nat.le_of_ble_eq_true rfl) dX9_whole_26 (kWv fun M1 => ?_)
        refine go_aload_n (pc := 29) dX9_whole_29 rfl ?_
        refine go_dup (pc := 30) dX9_whole_30 rfl ?_
        refine go_getI (pc := 31) flX9_89 rfl rfl dX9_whole_31 ?_
        refine go_iconst (pc := 34) 1 dX9_whole_34 ki_1 ?_
        refine go_isub (pc := 35) dX9_whole_35 ?_
        refine go_putI (pc := 36) flX9_89 rfl (Or.inl rfl) ⟨rfl, rfl⟩ rfl dX9_whole_36 (fun M2 => ?_)
        refine go_aload_n (pc := 39) dX9_whole_39 rfl ?_
        refine go_dup (pc := 40) dX9_whole_40 rfl ?_
        refine go_getI (pc := 41) flX9_92 rfl rfl dX9_whole_41 ?_
        refine go_iconst (pc := 44) 1 dX9_whole_44 ki_1 ?_
        refine go_isub (pc := 45) dX9_whole_45 ?_
        refine go_putI (pc := 46) flX9_92 rfl (Or.inl rfl) ⟨rfl, rfl⟩ rfl dX9_whole_46 (fun M3 => ?_)
        refine go_goto (pc := 49) 0 dX9_whole_49 (by decide) ?_
        exact ih M3
      · exact go_ret dX9_whole_52 rfl rfl rfl
theorem o_M_whole (M : Mem) : Ct sRM g_M_whole fWv [.ref 12451850] (f_M_whole M) M := by
  refine ⟨Nat.le_of_ble_eq_true rfl, ?_⟩
  show Go sRM g_M_whole fWv (f_M_whole M) 0 [.ref 12451850] [] M
  refine go_def (f_M_whole.eq_1 ..) ?_
  exact o_M_whole_l0 200 M
def f_M_settle_b45 (K0 : Int32 → Mem → Option Mem) (v1 : Int32) (M : Mem) : Option Mem := lt (setI M 12451850 26 ((mI M 12451850 26) - 1)) fun M1 => gd (inR (mI M1 12451850 26) 101) (bd (f_M_put (-(mI M1 14683307 (mI M1 12451850 26).toNatClampNeg)) M1) fun M2 => K0 v1 M2)
def f_M_settle_l0 : Nat → Int32 → Mem → Option Mem
  | 0, _, _ => none
  | n + 1, v1, M => if (mI M 12451850 26) ≤ 0 then some M else gd (inR ((mI M 12451850 26) - 1) 101) (if (mI M 14683307 ((mI M 12451850 26) - 1).toNatClampNeg) = 38 then f_M_settle_b45 (f_M_settle_l0 n) v1 M else gd (inR ((mI M 12451850 26) - 1) 101) (if (mI M 14683307 ((mI M 12451850 26) - 1).toNatClampNeg) = 124 then if v1 = 38 then some M else f_M_settle_b45 (f_M_settle_l0 n) v1 M else some M))
def f_M_settle (p1 : Int32) (M : Mem) : Option Mem := f_M_settle_l0 200 p1 M
theorem o_M_settle_b45 (K0 : Int32 → Mem → Option Mem) (hK0 : ∀ (y1 : Int32) (M : Mem), Go sRM g_M_settle fWv (K0 y1 M) 0 [.ref 12451850, .int y1] [] M) (v1 : Int32) (M : Mem) : Go sRM g_M_settle fWv (f_M_settle_b45 K0 v1 M) 45 [.ref 12451850, .int v1] [] M := by
  refine go_def (f_M_settle_b45.eq_1 ..) ?_
  refine go_aload_n (pc := 45) dX9_settle_45 rfl ?_
  refine go_dup (pc := 46) dX9_settle_46 rfl ?_
  refine go_getI (pc := 47) flX9_89 rfl rfl dX9_settle_47 ?_
  refine go_iconst (pc := 50) 1 dX9_settle_50 ki_1 ?_
  refine go_isub (pc := 51) dX9_settle_51 ?_
  refine go_putI (pc := 52) flX9_89 rfl (Or.inl rfl) ⟨rfl, rfl⟩ rfl dX9_settle_52 (fun M1 => ?_)
  refine go_aload_n (pc := 55) dX9_settle_55 rfl ?_
  refine go_aload_n (pc := 56) dX9_settle_56 rfl ?_
  refine go_getS (pc := 57) 14683307 flX9_83 rfl rfl sM_10_24 (by decide) dX9_settle_57 ?_
  refine go_aload_n (pc := 60) dX9_settle_60 rfl ?_
  refine go_getI (pc := 61) flX9_89 rfl rfl dX9_settle_61 ?_
  refine go_iald (pc := 64) rfl rfl dX9_settle_64 (fun _ => ?_)
  refine go_ineg (pc := 65) dX9_settle_65 ?_
  refine go_callV (pc := 66) (a := 12451850) (as := [.int (-(mI M1 14683307 (mI M1 12451850 26).toNatClampNeg))]) (st := []) (o_M_put (-(mI M1 14683307 (mI M1 12451850 26).toNatClampNeg)) M1) ic_M_put ivX9_222 (rcvk (a := 12451850) (t := 10) rfl (by decide) (by decide) rfl) rfl (by decide) (Nat.le_of_ble_eq_true rfl) dX9_settle_66 (kWv fun M2 => ?_)
  refine go_goto (pc := 69) 0 dX9_settle_69 (by decide) ?_
  exact hK0 v1 M2
theorem o_M_settle_l0 : ∀ (n : Nat) (v1 : Int32) (M : Mem), Go sRM g_M_settle fWv (f_M_settle_l0 n v1 M) 0 [.ref 12451850, .int v1] [] M := by
  intro n
  induction n with
  | zero =>
    intro v1 M
    exact go_def (f_M_settle_l0.eq_1 ..) go_none
  | succ n ih =>
    intro v1 M
    refine go_def (f_M_settle_l0.eq_2 ..) ?_
    refine go_aload_n (pc := 0) dX9_settle_0 rfl ?_
    refine go_getI (pc := 1) flX9_89 rfl rfl dX9_settle_1 ?_
    refine go_ifle (pc := 4) 72 dX9_settle_4 (by decide) (fun _ => ?_) (fun _ => ?_)
    · exact go_ret dX9_settle_72 rfl rfl rfl
    · refine go_aload_n (pc := 7) dX9_settle_7 rfl ?_
      refine go_getS (pc := 8) 14683307 flX9_83 rfl rfl sM_10_24 (by decide) dX9_settle_8 ?_
      refine go_aload_n (pc := 11) dX9_settle_11 rfl ?_
      refine go_getI (pc := 12) flX9_89 rfl rfl dX9_settle_12 ?_
      refine go_iconst (pc := 15) 1 dX9_settle_15 ki_1 ?_
      refine go_isub (pc := 16) dX9_settle_16 ?_
      refine go_iald (pc := 17) rfl rfl dX9_settle_17 (fun _ => ?_)
      refine go_bipush (pc := 18) 38 dX9_settle_18 kb_38 ?_
      refine go_icmpeq (pc := 20) 45 dX9_settle_20 (by decide) (fun _ => ?_) (fun _ => ?_)
      · exact o_M_settle_b45 (f_M_settle_l0 n) ih v1 M
      · refine go_aload_n (pc := 23) dX9_settle_23 rfl ?_
        refine go_getS (pc := 24) 14683307 flX9_83 rfl rfl sM_10_24 (by decide) dX9_settle_24 ?_
        refine go_aload_n (pc := 27) dX9_settle_27 rfl ?_
        refine go_getI (pc := 28) flX9_89 rfl rfl dX9_settle_28 ?_
        refine go_iconst (pc := 31) 1 dX9_settle_31 ki_1 ?_
        refine go_isub (pc := 32) dX9_settle_32 ?_
        refine go_iald (pc := 33) rfl rfl dX9_settle_33 (fun _ => ?_)
        refine go_bipush (pc := 34) 124 dX9_settle_34 kb_124 ?_
        refine go_icmpne (pc := 36) 72 dX9_settle_36 (by decide) (fun _ => ?_) (fun _ => ?_)
        · refine go_iload_n (pc := 39) dX9_settle_39 rfl ?_
          refine go_bipush (pc := 40) 38 dX9_settle_40 kb_38 ?_
          refine go_icmpeq (pc := 42) 72 dX9_settle_42 (by decide) (fun _ => ?_) (fun _ => ?_)
          · exact go_ret dX9_settle_72 rfl rfl rfl
          · exact o_M_settle_b45 (f_M_settle_l0 n) ih v1 M
        · exact go_ret dX9_settle_72 rfl rfl rfl
theorem o_M_settle (p1 : Int32) (M : Mem) : Ct sRM g_M_settle fWv [.ref 12451850, .int p1] (f_M_settle p1 M) M := by
  refine ⟨Nat.le_of_ble_eq_true rfl, ?_⟩
  show Go sRM g_M_settle fWv (f_M_settle p1 M) 0 [.ref 12451850, .int p1] [] M
  refine go_def (f_M_settle.eq_1 ..) ?_
  exact o_M_settle_l0 200 p1 M
def f_M_place (p1 : Int32) (M : Mem) : Int32 := if p1 = 100 then 1 else if p1 = 107 then 0 else if p1 = 109 then 5 else if p1 = 112 then 4 else if p1 = 115 then 3 else if p1 = 119 then 2 else (-1)
theorem o_M_place (p1 : Int32) (M : Mem) : Ct sRM g_M_place (fRi M) [.ref 12451850, .int p1] (some (f_M_place p1 M)) M := by
  refine ⟨Nat.le_of_ble_eq_true rfl, ?_⟩
  show Go sRM g_M_place (fRi M) (some (f_M_place p1 M)) 0 [.ref 12451850, .int p1] [] M
  refine go_def (congrArg some (f_M_place.eq_1 ..)) ?_
  refine go_iload_n (pc := 0) dX9_place_0 rfl ?_
  refine go_site ?_
  refine go_tswC (pc := 1) (v := 100) (off := 97) 98 dX9_place_1 (by decide) (by decide) (by decide) (fun _ => ?_) (fun n1 => ?_)
  · refine go_iconst (pc := 98) 1 dX9_place_98 ki_1 ?_
    exact go_ret dX9_place_99 rii rfl rfl
  refine go_site ?_
  refine go_tswC (pc := 1) (v := 107) (off := 95) 96 dX9_place_1 (by decide) (by decide) (by decide) (fun _ => ?_) (fun n2 => ?_)
  · refine go_iconst (pc := 96) 0 dX9_place_96 ki_0 ?_
    exact go_ret dX9_place_97 rii rfl rfl
  refine go_site ?_
  refine go_tswC (pc := 1) (v := 109) (off := 105) 106 dX9_place_1 (by decide) (by decide) (by decide) (fun _ => ?_) (fun n3 => ?_)
  · refine go_iconst (pc := 106) 5 dX9_place_106 ki_5 ?_
    exact go_ret dX9_place_107 rii rfl rfl
  refine go_site ?_
  refine go_tswC (pc := 1) (v := 112) (off := 103) 104 dX9_place_1 (by decide) (by decide) (by decide) (fun _ => ?_) (fun n4 => ?_)
  · refine go_iconst (pc := 104) 4 dX9_place_104 ki_4 ?_
    exact go_ret dX9_place_105 rii rfl rfl
  refine go_site ?_
  refine go_tswC (pc := 1) (v := 115) (off := 101) 102 dX9_place_1 (by decide) (by decide) (by decide) (fun _ => ?_) (fun n5 => ?_)
  · refine go_iconst (pc := 102) 3 dX9_place_102 ki_3 ?_
    exact go_ret dX9_place_103 rii rfl rfl
  refine go_site ?_
  refine go_tswC (pc := 1) (v := 119) (off := 99) 100 dX9_place_1 (by decide) (by decide) (by decide) (fun _ => ?_) (fun n6 => ?_)
  · refine go_iconst (pc := 100) 2 dX9_place_100 ki_2 ?_
    exact go_ret dX9_place_101 rii rfl rfl
  refine go_tswD (pc := 1) 108 dX9_place_1 (by have n1t := lv_neT n1 (show (100 : Int32).toInt = 100 by decide); have n2t := lv_neT n2 (show (107 : Int32).toInt = 107 by decide); have n3t := lv_neT n3 (show (109 : Int32).toInt = 109 by decide); have n4t := lv_neT n4 (show (112 : Int32).toInt = 112 by decide); have n5t := lv_neT n5 (show (115 : Int32).toInt = 115 by decide); have n6t := lv_neT n6 (show (119 : Int32).toInt = 119 by decide); rcases (show p1.toInt < 100 ∨ 119 < p1.toInt ∨ p1.toInt = 101 ∨ p1.toInt = 102 ∨ p1.toInt = 103 ∨ p1.toInt = 104 ∨ p1.toInt = 105 ∨ p1.toInt = 106 ∨ p1.toInt = 108 ∨ p1.toInt = 110 ∨ p1.toInt = 111 ∨ p1.toInt = 113 ∨ p1.toInt = 114 ∨ p1.toInt = 116 ∨ p1.toInt = 117 ∨ p1.toInt = 118 by omega) with h | h | h | h | h | h | h | h | h | h | h | h | h | h | h | h <;> first | exact Or.inl h | exact Or.inr (Or.inl h) | exact Or.inr (Or.inr (by rw [h]; decide))) (by decide) ?_
  refine go_iconst (pc := 108) (-1) dX9_place_108 ki_m1 ?_
  exact go_ret dX9_place_109 rii rfl rfl
def f_M_takesTest (M : Mem) : Option (Int32 × Mem) := bd (f_M_next M) fun r1 => lt (f_M_place r1 M) fun x2 => if 0 ≤ x2 then lt (setI M 12451850 15 ((mI M 12451850 15) + 1)) fun M3 => bd (f_M_next M3) fun r4 => if (f_M_in r4 60 62 M3) = 0 then some (0, M3) else lt (setI M3 12451850 15 ((mI M3 12451850 15) + 1)) fun M5 => b2 (f_M_takesNumber M5) fun r7 M6 => if r7 = 0 then some (0, M6) else bd (f_M_put (((1000 * x2) + (100 * (r4 - 60))) + (mI M6 12451850 16)) M6) fun M8 => bd (f_M_whole M8) fun M9 => some (1, M9) else some (0, M)
theorem o_M_takesTest (M : Mem) : Ct sRM g_M_takesTest fWi [.ref 12451850] (f_M_takesTest M) M := by
  refine ⟨Nat.le_of_ble_eq_true rfl, ?_⟩
  show Go sRM g_M_takesTest fWi (f_M_takesTest M) 0 [.ref 12451850, .null, .null] [] M
  refine go_def (f_M_takesTest.eq_1 ..) ?_
  refine go_aload_n (pc := 0) dX9_takesTest_0 rfl ?_
  refine go_aload_n (pc := 1) dX9_takesTest_1 rfl ?_
  refine go_callV (pc := 2) (a := 12451850) (as := []) (st := [.ref 12451850]) (o_M_next M) ic_M_next ivX9_211 (rcvk (a := 12451850) (t := 10) rfl (by decide) (by decide) rfl) rfl (by decide) (Nat.le_of_ble_eq_true rfl) dX9_takesTest_2 (kRi fun r1 => ?_)
  refine go_T (v := f_M_place r1 M) ?_
  refine go_callV (pc := 5) (a := 12451850) (as := [.int r1]) (st := []) (o_M_place r1 M) ic_M_place ivX9_226 (rcvk (a := 12451850) (t := 10) rfl (by decide) (by decide) rfl) rfl (by decide) (Nat.le_of_ble_eq_true rfl) dX9_takesTest_5 (kTi ?_)
  refine go_istore_nL (pc := 8) (L := fun x2 => [.ref 12451850, .int x2, .null]) dX9_takesTest_8 (Nat.le_of_ble_eq_true rfl) rfl (fun _ => rfl) (fun x2 => ?_)
  refine go_iload_n (pc := 9) dX9_takesTest_9 rfl ?_
  refine go_ifge (pc := 10) 15 dX9_takesTest_10 (by decide) (fun _ => ?_) (fun _ => ?_)
  · refine go_aload_n (pc := 15) dX9_takesTest_15 rfl ?_
    refine go_dup (pc := 16) dX9_takesTest_16 rfl ?_
    refine go_getI (pc := 17) flX9_56 rfl rfl dX9_takesTest_17 ?_
    refine go_iconst (pc := 20) 1 dX9_takesTest_20 ki_1 ?_
    refine go_iadd (pc := 21) dX9_takesTest_21 ?_
    refine go_putI (pc := 22) flX9_56 rfl (Or.inl rfl) ⟨rfl, rfl⟩ rfl dX9_takesTest_22 (fun M3 => ?_)
    refine go_aload_n (pc := 25) dX9_takesTest_25 rfl ?_
    refine go_callV (pc := 26) (a := 12451850) (as := []) (st := []) (o_M_next M3) ic_M_next ivX9_211 (rcvk (a := 12451850) (t := 10) rfl (by decide) (by decide) rfl) rfl (by decide) (Nat.le_of_ble_eq_true rfl) dX9_takesTest_26 (kRi fun r4 => ?_)
    refine go_istore_n (pc := 29) (ls' := [.ref 12451850, .int x2, .int r4]) dX9_takesTest_29 (Nat.le_of_ble_eq_true rfl) rfl rfl ?_
    refine go_aload_n (pc := 30) dX9_takesTest_30 rfl ?_
    refine go_iload_n (pc := 31) dX9_takesTest_31 rfl ?_
    refine go_bipush (pc := 32) 60 dX9_takesTest_32 kb_60 ?_
    refine go_bipush (pc := 34) 62 dX9_takesTest_34 kb_62 ?_
    refine go_T (v := f_M_in r4 60 62 M3) ?_
    refine go_callV (pc := 36) (a := 12451850) (as := [.int r4, .int 60, .int 62]) (st := []) (o_M_in r4 60 62 M3) ic_M_in ivX9_203 (rcvk (a := 12451850) (t := 10) rfl (by decide) (by decide) rfl) rfl (by decide) (Nat.le_of_ble_eq_true rfl) dX9_takesTest_36 (kTi ?_)
    refine go_ifne (pc := 39) 44 dX9_takesTest_39 (by decide) (fun _ => ?_) (fun _ => ?_)
    · refine go_iconst (pc := 42) 0 dX9_takesTest_42 ki_0 ?_
      exact go_ret dX9_takesTest_43 (rbz (Or.inl rfl)) rfl rfl
    · refine go_aload_n (pc := 44) dX9_takesTest_44 rfl ?_
      refine go_dup (pc := 45) dX9_takesTest_45 rfl ?_
      refine go_getI (pc := 46) flX9_56 rfl rfl dX9_takesTest_46 ?_
      refine go_iconst (pc := 49) 1 dX9_takesTest_49 ki_1 ?_
      refine go_iadd (pc := 50) dX9_takesTest_50 ?_
      refine go_putI (pc := 51) flX9_56 rfl (Or.inl rfl) ⟨rfl, rfl⟩ rfl dX9_takesTest_51 (fun M5 => ?_)
      refine go_aload_n (pc := 54) dX9_takesTest_54 rfl ?_
      refine go_callV (pc := 55) (a := 12451850) (as := []) (st := []) (o_M_takesNumber M5) ic_M_takesNumber ivX9_230 (rcvk (a := 12451850) (t := 10) rfl (by decide) (by decide) rfl) rfl (by decide) (Nat.le_of_ble_eq_true rfl) dX9_takesTest_55 (kWi fun r7 M6 => ?_)
      refine go_ifne (pc := 58) 63 dX9_takesTest_58 (by decide) (fun _ => ?_) (fun _ => ?_)
      · refine go_iconst (pc := 61) 0 dX9_takesTest_61 ki_0 ?_
        exact go_ret dX9_takesTest_62 (rbz (Or.inl rfl)) rfl rfl
      · refine go_aload_n (pc := 63) dX9_takesTest_63 rfl ?_
        refine go_sipush (pc := 64) 1000 dX9_takesTest_64 ks_1000 ?_
        refine go_iload_n (pc := 67) dX9_takesTest_67 rfl ?_
        refine go_imul (pc := 68) dX9_takesTest_68 ?_
        refine go_bipush (pc := 69) 100 dX9_takesTest_69 kb_100 ?_
        refine go_iload_n (pc := 71) dX9_takesTest_71 rfl ?_
        refine go_bipush (pc := 72) 60 dX9_takesTest_72 kb_60 ?_
        refine go_isub (pc := 74) dX9_takesTest_74 ?_
        refine go_imul (pc := 75) dX9_takesTest_75 ?_
        refine go_iadd (pc := 76) dX9_takesTest_76 ?_
        refine go_aload_n (pc := 77) dX9_takesTest_77 rfl ?_
        refine go_getI (pc := 78) flX9_59 rfl rfl dX9_takesTest_78 ?_
        refine go_iadd (pc := 81) dX9_takesTest_81 ?_
        refine go_callV (pc := 82) (a := 12451850) (as := [.int (((1000 * x2) + (100 * (r4 - 60))) + (mI M6 12451850 16))]) (st := []) (o_M_put (((1000 * x2) + (100 * (r4 - 60))) + (mI M6 12451850 16)) M6) ic_M_put ivX9_222 (rcvk (a := 12451850) (t := 10) rfl (by decide) (by decide) rfl) rfl (by decide) (Nat.le_of_ble_eq_true rfl) dX9_takesTest_82 (kWv fun M8 => ?_)
        refine go_aload_n (pc := 85) dX9_takesTest_85 rfl ?_
        refine go_callV (pc := 86) (a := 12451850) (as := []) (st := []) (o_M_whole M8) ic_M_whole ivX9_233 (rcvk (a := 12451850) (t := 10) rfl (by decide) (by decide) rfl) rfl (by decide) (Nat.le_of_ble_eq_true rfl) dX9_takesTest_86 (kWv fun M9 => ?_)
        refine go_iconst (pc := 89) 1 dX9_takesTest_89 ki_1 ?_
        exact go_ret dX9_takesTest_90 (rbz (Or.inr rfl)) rfl rfl
  · refine go_iconst (pc := 13) 0 dX9_takesTest_13 ki_0 ?_
    exact go_ret dX9_takesTest_14 (rbz (Or.inl rfl)) rfl rfl
def f_M_takesE_b122 (K22 : Int32 → Int32 → Mem → Option (Int32 × Mem)) (v1 : Int32) (v3 : Int32) (M : Mem) : Option (Int32 × Mem) := bd (f_M_settle v3 M) fun M13 => gd (inR (mI M13 12451850 26) 101) (lt (setI M13 14683307 (mI M13 12451850 26).toNatClampNeg v3) fun M14 => lt (setI M14 12451850 26 ((mI M14 12451850 26) + 1)) fun M15 => lt (setI M15 12451850 15 ((mI M15 12451850 15) + 1)) fun M16 => K22 v1 1 M16)
def f_M_takesE_b43 (K22 : Int32 → Int32 → Mem → Option (Int32 × Mem)) (v1 : Int32) (v2 : Int32) (v3 : Int32) (M : Mem) : Option (Int32 × Mem) := if (mI M 12451850 27) = 4 then some (0, M) else lt (setI M 12451850 27 ((mI M 12451850 27) + 1)) fun M17 => gd (inR (mI M17 12451850 26) 101) (lt (setI M17 14683307 (mI M17 12451850 26).toNatClampNeg v3) fun M18 => lt (setI M18 12451850 26 ((mI M18 12451850 26) + 1)) fun M19 => lt (setI M19 12451850 15 ((mI M19 12451850 15) + 1)) fun M20 => K22 v1 v2 M20)
def f_M_takesE_l22 : Nat → Int32 → Int32 → Mem → Option (Int32 × Mem)
  | 0, _, _, _ => none
  | n + 1, v1, v2, M => bd (f_M_next M) fun r4 => if v2 = 0 then if r4 = 38 then f_M_takesE_b122 (f_M_takesE_l22 n) v1 r4 M else if r4 = 124 then f_M_takesE_b122 (f_M_takesE_l22 n) v1 r4 M else bd (f_M_settle 124 M) fun M5 => gd (inR v1 60) (lt (setI M5 14419851 v1.toNatClampNeg (mI M5 12451850 25)) fun M6 => if (mI M6 12451850 26) = 0 then some (1, M6) else if r4 = 41 then lt (setI M6 12451850 26 ((mI M6 12451850 26) - 1)) fun M7 => lt (setI M7 12451850 27 ((mI M7 12451850 27) - 1)) fun M8 => lt (setI M8 12451850 15 ((mI M8 12451850 15) + 1)) fun M9 => bd (f_M_whole M9) fun M10 => f_M_takesE_l22 n v1 v2 M10 else some (0, M6)) else if r4 = 33 then f_M_takesE_b43 (f_M_takesE_l22 n) v1 v2 r4 M else if r4 = 40 then f_M_takesE_b43 (f_M_takesE_l22 n) v1 v2 r4 M else b2 (f_M_takesTest M) fun r12 M11 => if r12 = 0 then some (0, M11) else f_M_takesE_l22 n v1 0 M11
def f_M_takesE (p1 : Int32) (M : Mem) : Option (Int32 × Mem) := lt (setI M 12451850 26 0) fun M1 => lt (setI M1 12451850 27 0) fun M2 => gd (inR p1 60) (lt (setI M2 14288779 p1.toNatClampNeg (mI M2 12451850 25)) fun M3 => f_M_takesE_l22 200 p1 1 M3)
theorem o_M_takesE_b122 (K22 : Int32 → Int32 → Mem → Option (Int32 × Mem)) (hK22 : ∀ (y1 : Int32) (y2 : Int32) (M : Mem), Go sRM g_M_takesE fWi (K22 y1 y2 M) 22 [.ref 12451850, .int y1, .int y2, .null] [] M) (v1 : Int32) (v3 : Int32) (M : Mem) : Go sRM g_M_takesE fWi (f_M_takesE_b122 K22 v1 v3 M) 122 [.ref 12451850, .int v1, .null, .int v3] [] M := by
  refine go_def (f_M_takesE_b122.eq_1 ..) ?_
  refine go_aload_n (pc := 122) dX9_takesE_122 rfl ?_
  refine go_iload_n (pc := 123) dX9_takesE_123 rfl ?_
  refine go_callV (pc := 124) (a := 12451850) (as := [.int v3]) (st := []) (o_M_settle v3 M) ic_M_settle ivX9_239 (rcvk (a := 12451850) (t := 10) rfl (by decide) (by decide) rfl) rfl (by decide) (Nat.le_of_ble_eq_true rfl) dX9_takesE_124 (kWv fun M13 => ?_)
  refine go_aload_n (pc := 127) dX9_takesE_127 rfl ?_
  refine go_getS (pc := 128) 14683307 flX9_83 rfl rfl sM_10_24 (by decide) dX9_takesE_128 ?_
  refine go_aload_n (pc := 131) dX9_takesE_131 rfl ?_
  refine go_getI (pc := 132) flX9_89 rfl rfl dX9_takesE_132 ?_
  refine go_iload_n (pc := 135) dX9_takesE_135 rfl ?_
  refine go_iast (pc := 136) rfl rfl dX9_takesE_136 (fun _ M14 => ?_)
  refine go_aload_n (pc := 137) dX9_takesE_137 rfl ?_
  refine go_dup (pc := 138) dX9_takesE_138 rfl ?_
  refine go_getI (pc := 139) flX9_89 rfl rfl dX9_takesE_139 ?_
  refine go_iconst (pc := 142) 1 dX9_takesE_142 ki_1 ?_
  refine go_iadd (pc := 143) dX9_takesE_143 ?_
  refine go_putI (pc := 144) flX9_89 rfl (Or.inl rfl) ⟨rfl, rfl⟩ rfl dX9_takesE_144 (fun M15 => ?_)
  refine go_iconst (pc := 147) 1 dX9_takesE_147 ki_1 ?_
  refine go_istore_n (pc := 148) (ls' := [.ref 12451850, .int v1, .int 1, .int v3]) dX9_takesE_148 (Nat.le_of_ble_eq_true rfl) rfl rfl ?_
  refine go_aload_n (pc := 149) dX9_takesE_149 rfl ?_
  refine go_dup (pc := 150) dX9_takesE_150 rfl ?_
  refine go_getI (pc := 151) flX9_56 rfl rfl dX9_takesE_151 ?_
  refine go_iconst (pc := 154) 1 dX9_takesE_154 ki_1 ?_
  refine go_iadd (pc := 155) dX9_takesE_155 ?_
  refine go_putI (pc := 156) flX9_56 rfl (Or.inl rfl) ⟨rfl, rfl⟩ rfl dX9_takesE_156 (fun M16 => ?_)
  refine go_goto (pc := 159) 22 dX9_takesE_159 (by decide) ?_
  refine go_sub (ls' := [.ref 12451850, .int v1, .int 1, .null]) ⟨Or.inr rfl, Or.inr rfl, Or.inr rfl, Or.inl rfl, trivial⟩ ?_
  exact hK22 v1 1 M16
theorem o_M_takesE_b43 (K22 : Int32 → Int32 → Mem → Option (Int32 × Mem)) (hK22 : ∀ (y1 : Int32) (y2 : Int32) (M : Mem), Go sRM g_M_takesE fWi (K22 y1 y2 M) 22 [.ref 12451850, .int y1, .int y2, .null] [] M) (v1 : Int32) (v2 : Int32) (v3 : Int32) (M : Mem) : Go sRM g_M_takesE fWi (f_M_takesE_b43 K22 v1 v2 v3 M) 43 [.ref 12451850, .int v1, .int v2, .int v3] [] M := by
  refine go_def (f_M_takesE_b43.eq_1 ..) ?_
  refine go_aload_n (pc := 43) dX9_takesE_43 rfl ?_
  refine go_getI (pc := 44) flX9_92 rfl rfl dX9_takesE_44 ?_
  refine go_iconst (pc := 47) 4 dX9_takesE_47 ki_4 ?_
  refine go_icmpne (pc := 48) 53 dX9_takesE_48 (by decide) (fun _ => ?_) (fun _ => ?_)
  · refine go_iconst (pc := 51) 0 dX9_takesE_51 ki_0 ?_
    exact go_ret dX9_takesE_52 (rbz (Or.inl rfl)) rfl rfl
  · refine go_aload_n (pc := 53) dX9_takesE_53 rfl ?_
    refine go_dup (pc := 54) dX9_takesE_54 rfl ?_
    refine go_getI (pc := 55) flX9_92 rfl rfl dX9_takesE_55 ?_
    refine go_iconst (pc := 58) 1 dX9_takesE_58 ki_1 ?_
    refine go_iadd (pc := 59) dX9_takesE_59 ?_
    refine go_putI (pc := 60) flX9_92 rfl (Or.inl rfl) ⟨rfl, rfl⟩ rfl dX9_takesE_60 (fun M17 => ?_)
    refine go_aload_n (pc := 63) dX9_takesE_63 rfl ?_
    refine go_getS (pc := 64) 14683307 flX9_83 rfl rfl sM_10_24 (by decide) dX9_takesE_64 ?_
    refine go_aload_n (pc := 67) dX9_takesE_67 rfl ?_
    refine go_getI (pc := 68) flX9_89 rfl rfl dX9_takesE_68 ?_
    refine go_iload_n (pc := 71) dX9_takesE_71 rfl ?_
    refine go_iast (pc := 72) rfl rfl dX9_takesE_72 (fun _ M18 => ?_)
    refine go_aload_n (pc := 73) dX9_takesE_73 rfl ?_
    refine go_dup (pc := 74) dX9_takesE_74 rfl ?_
    refine go_getI (pc := 75) flX9_89 rfl rfl dX9_takesE_75 ?_
    refine go_iconst (pc := 78) 1 dX9_takesE_78 ki_1 ?_
    refine go_iadd (pc := 79) dX9_takesE_79 ?_
    refine go_putI (pc := 80) flX9_89 rfl (Or.inl rfl) ⟨rfl, rfl⟩ rfl dX9_takesE_80 (fun M19 => ?_)
    refine go_aload_n (pc := 83) dX9_takesE_83 rfl ?_
    refine go_dup (pc := 84) dX9_takesE_84 rfl ?_
    refine go_getI (pc := 85) flX9_56 rfl rfl dX9_takesE_85 ?_
    refine go_iconst (pc := 88) 1 dX9_takesE_88 ki_1 ?_
    refine go_iadd (pc := 89) dX9_takesE_89 ?_
    refine go_putI (pc := 90) flX9_56 rfl (Or.inl rfl) ⟨rfl, rfl⟩ rfl dX9_takesE_90 (fun M20 => ?_)
    refine go_goto (pc := 93) 22 dX9_takesE_93 (by decide) ?_
    refine go_sub (ls' := [.ref 12451850, .int v1, .int v2, .null]) ⟨Or.inr rfl, Or.inr rfl, Or.inr rfl, Or.inl rfl, trivial⟩ ?_
    exact hK22 v1 v2 M20
theorem o_M_takesE_l22 : ∀ (n : Nat) (v1 : Int32) (v2 : Int32) (M : Mem), Go sRM g_M_takesE fWi (f_M_takesE_l22 n v1 v2 M) 22 [.ref 12451850, .int v1, .int v2, .null] [] M := by
  intro n
  induction n with
  | zero =>
    intro v1 v2 M
    exact go_def (f_M_takesE_l22.eq_1 ..) go_none
  | succ n ih =>
    intro v1 v2 M
    refine go_def (f_M_takesE_l22.eq_2 ..) ?_
    refine go_aload_n (pc := 22) dX9_takesE_22 rfl ?_
    refine go_callV (pc := 23) (a := 12451850) (as := []) (st := []) (o_M_next M) ic_M_next ivX9_211 (rcvk (a := 12451850) (t := 10) rfl (by decide) (by decide) rfl) rfl (by decide) (Nat.le_of_ble_eq_true rfl) dX9_takesE_23 (kRi fun r4 => ?_)
    refine go_istore_n (pc := 26) (ls' := [.ref 12451850, .int v1, .int v2, .int r4]) dX9_takesE_26 (Nat.le_of_ble_eq_true rfl) rfl rfl ?_
    refine go_iload_n (pc := 27) dX9_takesE_27 rfl ?_
    refine go_ifeq (pc := 28) 110 dX9_takesE_28 (by decide) (fun _ => ?_) (fun _ => ?_)
    · refine go_iload_n (pc := 110) dX9_takesE_110 rfl ?_
      refine go_bipush (pc := 111) 38 dX9_takesE_111 kb_38 ?_
      refine go_icmpeq (pc := 113) 122 dX9_takesE_113 (by decide) (fun _ => ?_) (fun _ => ?_)
      · refine go_sub (ls' := [.ref 12451850, .int v1, .null, .int r4]) ⟨Or.inr rfl, Or.inr rfl, Or.inl rfl, Or.inr rfl, trivial⟩ ?_
        exact o_M_takesE_b122 (f_M_takesE_l22 n) ih v1 r4 M
      · refine go_iload_n (pc := 116) dX9_takesE_116 rfl ?_
        refine go_bipush (pc := 117) 124 dX9_takesE_117 kb_124 ?_
        refine go_icmpne (pc := 119) 162 dX9_takesE_119 (by decide) (fun _ => ?_) (fun _ => ?_)
        · refine go_sub (ls' := [.ref 12451850, .int v1, .null, .int r4]) ⟨Or.inr rfl, Or.inr rfl, Or.inl rfl, Or.inr rfl, trivial⟩ ?_
          exact o_M_takesE_b122 (f_M_takesE_l22 n) ih v1 r4 M
        · refine go_aload_n (pc := 162) dX9_takesE_162 rfl ?_
          refine go_bipush (pc := 163) 124 dX9_takesE_163 kb_124 ?_
          refine go_callV (pc := 165) (a := 12451850) (as := [.int 124]) (st := []) (o_M_settle 124 M) ic_M_settle ivX9_239 (rcvk (a := 12451850) (t := 10) rfl (by decide) (by decide) rfl) rfl (by decide) (Nat.le_of_ble_eq_true rfl) dX9_takesE_165 (kWv fun M5 => ?_)
          refine go_aload_n (pc := 168) dX9_takesE_168 rfl ?_
          refine go_getS (pc := 169) 14419851 flX9_77 rfl rfl sM_10_22 (by decide) dX9_takesE_169 ?_
          refine go_iload_n (pc := 172) dX9_takesE_172 rfl ?_
          refine go_aload_n (pc := 173) dX9_takesE_173 rfl ?_
          refine go_getI (pc := 174) flX9_86 rfl rfl dX9_takesE_174 ?_
          refine go_iast (pc := 177) rfl rfl dX9_takesE_177 (fun _ M6 => ?_)
          refine go_aload_n (pc := 178) dX9_takesE_178 rfl ?_
          refine go_getI (pc := 179) flX9_89 rfl rfl dX9_takesE_179 ?_
          refine go_ifne (pc := 182) 187 dX9_takesE_182 (by decide) (fun _ => ?_) (fun _ => ?_)
          · refine go_iconst (pc := 185) 1 dX9_takesE_185 ki_1 ?_
            exact go_ret dX9_takesE_186 (rbz (Or.inr rfl)) rfl rfl
          · refine go_iload_n (pc := 187) dX9_takesE_187 rfl ?_
            refine go_bipush (pc := 188) 41 dX9_takesE_188 kb_41 ?_
            refine go_icmpeq (pc := 190) 195 dX9_takesE_190 (by decide) (fun _ => ?_) (fun _ => ?_)
            · refine go_aload_n (pc := 195) dX9_takesE_195 rfl ?_
              refine go_dup (pc := 196) dX9_takesE_196 rfl ?_
              refine go_getI (pc := 197) flX9_89 rfl rfl dX9_takesE_197 ?_
              refine go_iconst (pc := 200) 1 dX9_takesE_200 ki_1 ?_
              refine go_isub (pc := 201) dX9_takesE_201 ?_
              refine go_putI (pc := 202) flX9_89 rfl (Or.inl rfl) ⟨rfl, rfl⟩ rfl dX9_takesE_202 (fun M7 => ?_)
              refine go_aload_n (pc := 205) dX9_takesE_205 rfl ?_
              refine go_dup (pc := 206) dX9_takesE_206 rfl ?_
              refine go_getI (pc := 207) flX9_92 rfl rfl dX9_takesE_207 ?_
              refine go_iconst (pc := 210) 1 dX9_takesE_210 ki_1 ?_
              refine go_isub (pc := 211) dX9_takesE_211 ?_
              refine go_putI (pc := 212) flX9_92 rfl (Or.inl rfl) ⟨rfl, rfl⟩ rfl dX9_takesE_212 (fun M8 => ?_)
              refine go_aload_n (pc := 215) dX9_takesE_215 rfl ?_
              refine go_dup (pc := 216) dX9_takesE_216 rfl ?_
              refine go_getI (pc := 217) flX9_56 rfl rfl dX9_takesE_217 ?_
              refine go_iconst (pc := 220) 1 dX9_takesE_220 ki_1 ?_
              refine go_iadd (pc := 221) dX9_takesE_221 ?_
              refine go_putI (pc := 222) flX9_56 rfl (Or.inl rfl) ⟨rfl, rfl⟩ rfl dX9_takesE_222 (fun M9 => ?_)
              refine go_aload_n (pc := 225) dX9_takesE_225 rfl ?_
              refine go_callV (pc := 226) (a := 12451850) (as := []) (st := []) (o_M_whole M9) ic_M_whole ivX9_233 (rcvk (a := 12451850) (t := 10) rfl (by decide) (by decide) rfl) rfl (by decide) (Nat.le_of_ble_eq_true rfl) dX9_takesE_226 (kWv fun M10 => ?_)
              refine go_goto (pc := 229) 22 dX9_takesE_229 (by decide) ?_
              refine go_sub (ls' := [.ref 12451850, .int v1, .int v2, .null]) ⟨Or.inr rfl, Or.inr rfl, Or.inr rfl, Or.inl rfl, trivial⟩ ?_
              exact ih v1 v2 M10
            · refine go_iconst (pc := 193) 0 dX9_takesE_193 ki_0 ?_
              exact go_ret dX9_takesE_194 (rbz (Or.inl rfl)) rfl rfl
    · refine go_iload_n (pc := 31) dX9_takesE_31 rfl ?_
      refine go_bipush (pc := 32) 33 dX9_takesE_32 kb_33 ?_
      refine go_icmpeq (pc := 34) 43 dX9_takesE_34 (by decide) (fun _ => ?_) (fun _ => ?_)
      · exact o_M_takesE_b43 (f_M_takesE_l22 n) ih v1 v2 r4 M
      · refine go_iload_n (pc := 37) dX9_takesE_37 rfl ?_
        refine go_bipush (pc := 38) 40 dX9_takesE_38 kb_40 ?_
        refine go_icmpne (pc := 40) 96 dX9_takesE_40 (by decide) (fun _ => ?_) (fun _ => ?_)
        · exact o_M_takesE_b43 (f_M_takesE_l22 n) ih v1 v2 r4 M
        · refine go_aload_n (pc := 96) dX9_takesE_96 rfl ?_
          refine go_callV (pc := 97) (a := 12451850) (as := []) (st := []) (o_M_takesTest M) ic_M_takesTest ivX9_236 (rcvk (a := 12451850) (t := 10) rfl (by decide) (by decide) rfl) rfl (by decide) (Nat.le_of_ble_eq_true rfl) dX9_takesE_97 (kWi fun r12 M11 => ?_)
          refine go_ifeq (pc := 100) 108 dX9_takesE_100 (by decide) (fun _ => ?_) (fun _ => ?_)
          · refine go_iconst (pc := 108) 0 dX9_takesE_108 ki_0 ?_
            exact go_ret dX9_takesE_109 (rbz (Or.inl rfl)) rfl rfl
          · refine go_iconst (pc := 103) 0 dX9_takesE_103 ki_0 ?_
            refine go_istore_n (pc := 104) (ls' := [.ref 12451850, .int v1, .int 0, .int r4]) dX9_takesE_104 (Nat.le_of_ble_eq_true rfl) rfl rfl ?_
            refine go_goto (pc := 105) 22 dX9_takesE_105 (by decide) ?_
            refine go_sub (ls' := [.ref 12451850, .int v1, .int 0, .null]) ⟨Or.inr rfl, Or.inr rfl, Or.inr rfl, Or.inl rfl, trivial⟩ ?_
            exact ih v1 0 M11
theorem o_M_takesE (p1 : Int32) (M : Mem) : Ct sRM g_M_takesE fWi [.ref 12451850, .int p1] (f_M_takesE p1 M) M := by
  refine ⟨Nat.le_of_ble_eq_true rfl, ?_⟩
  show Go sRM g_M_takesE fWi (f_M_takesE p1 M) 0 [.ref 12451850, .int p1, .null, .null] [] M
  refine go_def (f_M_takesE.eq_1 ..) ?_
  refine go_aload_n (pc := 0) dX9_takesE_0 rfl ?_
  refine go_iconst (pc := 1) 0 dX9_takesE_1 ki_0 ?_
  refine go_putI (pc := 2) flX9_89 rfl (Or.inl rfl) ⟨rfl, rfl⟩ rfl dX9_takesE_2 (fun M1 => ?_)
  refine go_aload_n (pc := 5) dX9_takesE_5 rfl ?_
  refine go_iconst (pc := 6) 0 dX9_takesE_6 ki_0 ?_
  refine go_putI (pc := 7) flX9_92 rfl (Or.inl rfl) ⟨rfl, rfl⟩ rfl dX9_takesE_7 (fun M2 => ?_)
  refine go_aload_n (pc := 10) dX9_takesE_10 rfl ?_
  refine go_getS (pc := 11) 14288779 flX9_74 rfl rfl sM_10_21 (by decide) dX9_takesE_11 ?_
  refine go_iload_n (pc := 14) dX9_takesE_14 rfl ?_
  refine go_aload_n (pc := 15) dX9_takesE_15 rfl ?_
  refine go_getI (pc := 16) flX9_86 rfl rfl dX9_takesE_16 ?_
  refine go_iast (pc := 19) rfl rfl dX9_takesE_19 (fun _ M3 => ?_)
  refine go_iconst (pc := 20) 1 dX9_takesE_20 ki_1 ?_
  refine go_istore_n (pc := 21) (ls' := [.ref 12451850, .int p1, .int 1, .null]) dX9_takesE_21 (Nat.le_of_ble_eq_true rfl) rfl rfl ?_
  exact o_M_takesE_l22 200 p1 1 M3
def f_M_third (M : Mem) : Option Int32 := if (mI M 12451850 14) ≤ ((mI M 12451850 15) + 2) then some (-1) else gd (inR ((mI M 12451850 15) + 2) 100) (some (mI M 13765771 ((mI M 12451850 15) + 2).toNatClampNeg))
theorem o_M_third (M : Mem) : Ct sRM g_M_third (fRi M) [.ref 12451850] (f_M_third M) M := by
  refine ⟨Nat.le_of_ble_eq_true rfl, ?_⟩
  show Go sRM g_M_third (fRi M) (f_M_third M) 0 [.ref 12451850] [] M
  refine go_def (f_M_third.eq_1 ..) ?_
  refine go_aload_n (pc := 0) dX9_third_0 rfl ?_
  refine go_getI (pc := 1) flX9_56 rfl rfl dX9_third_1 ?_
  refine go_iconst (pc := 4) 2 dX9_third_4 ki_2 ?_
  refine go_iadd (pc := 5) dX9_third_5 ?_
  refine go_aload_n (pc := 6) dX9_third_6 rfl ?_
  refine go_getI (pc := 7) flX9_53 rfl rfl dX9_third_7 ?_
  refine go_icmpge (pc := 10) 27 dX9_third_10 (by decide) (fun _ => ?_) (fun _ => ?_)
  · refine go_iconst (pc := 27) (-1) dX9_third_27 ki_m1 ?_
    exact go_ret dX9_third_28 rii rfl rfl
  · refine go_aload_n (pc := 13) dX9_third_13 rfl ?_
    refine go_getS (pc := 14) 13765771 flX9_62 rfl rfl sM_10_17 (by decide) dX9_third_14 ?_
    refine go_aload_n (pc := 17) dX9_third_17 rfl ?_
    refine go_getI (pc := 18) flX9_56 rfl rfl dX9_third_18 ?_
    refine go_iconst (pc := 21) 2 dX9_third_21 ki_2 ?_
    refine go_iadd (pc := 22) dX9_third_22 ?_
    refine go_iald (pc := 23) rfl rfl dX9_third_23 (fun _ => ?_)
    refine go_goto (pc := 24) 28 dX9_third_24 (by decide) ?_
    exact go_ret dX9_third_28 rii rfl rfl
def f_M_fourth (M : Mem) : Option Int32 := if (mI M 12451850 14) ≤ ((mI M 12451850 15) + 3) then some (-1) else gd (inR ((mI M 12451850 15) + 3) 100) (some (mI M 13765771 ((mI M 12451850 15) + 3).toNatClampNeg))
theorem o_M_fourth (M : Mem) : Ct sRM g_M_fourth (fRi M) [.ref 12451850] (f_M_fourth M) M := by
  refine ⟨Nat.le_of_ble_eq_true rfl, ?_⟩
  show Go sRM g_M_fourth (fRi M) (f_M_fourth M) 0 [.ref 12451850] [] M
  refine go_def (f_M_fourth.eq_1 ..) ?_
  refine go_aload_n (pc := 0) dX9_fourth_0 rfl ?_
  refine go_getI (pc := 1) flX9_56 rfl rfl dX9_fourth_1 ?_
  refine go_iconst (pc := 4) 3 dX9_fourth_4 ki_3 ?_
  refine go_iadd (pc := 5) dX9_fourth_5 ?_
  refine go_aload_n (pc := 6) dX9_fourth_6 rfl ?_
  refine go_getI (pc := 7) flX9_53 rfl rfl dX9_fourth_7 ?_
  refine go_icmpge (pc := 10) 27 dX9_fourth_10 (by decide) (fun _ => ?_) (fun _ => ?_)
  · refine go_iconst (pc := 27) (-1) dX9_fourth_27 ki_m1 ?_
    exact go_ret dX9_fourth_28 rii rfl rfl
  · refine go_aload_n (pc := 13) dX9_fourth_13 rfl ?_
    refine go_getS (pc := 14) 13765771 flX9_62 rfl rfl sM_10_17 (by decide) dX9_fourth_14 ?_
    refine go_aload_n (pc := 17) dX9_fourth_17 rfl ?_
    refine go_getI (pc := 18) flX9_56 rfl rfl dX9_fourth_18 ?_
    refine go_iconst (pc := 21) 3 dX9_fourth_21 ki_3 ?_
    refine go_iadd (pc := 22) dX9_fourth_22 ?_
    refine go_iald (pc := 23) rfl rfl dX9_fourth_23 (fun _ => ?_)
    refine go_goto (pc := 24) 28 dX9_fourth_24 (by decide) ?_
    exact go_ret dX9_fourth_28 rii rfl rfl
def f_M_takesHead_b35 (v2 : Int32) (s0 : Int32) (s1 : Int32) (M : Mem) : Option (Int32 × Mem) := gd (inR s1 60) (lt (setI M 14026635 s1.toNatClampNeg s0) fun M12 => if v2 = 105 then b2 (f_M_takesWord 9 4 M12) fun r17 M16 => gd (r17 = 0 ∨ r17 = 1) (some (r17, M16)) else b2 (f_M_takesWord 0 5 M12) fun r14 M13 => gd (r14 = 0 ∨ r14 = 1) (some (r14, M13)))
def f_M_takesHead_b84 (v1 : Int32) (s0 : Int32) (s1 : Int32) (M : Mem) : Option (Int32 × Mem) := gd (inR s1 60) (lt (setI M 14026635 s1.toNatClampNeg s0) fun M5 => gd (inR v1 60) (if (mI M5 14026635 v1.toNatClampNeg) = 3 then b2 (f_M_takesWord 13 7 M5) fun r10 M9 => gd (r10 = 0 ∨ r10 = 1) (some (r10, M9)) else b2 (f_M_takesWord 5 4 M5) fun r7 M6 => gd (r7 = 0 ∨ r7 = 1) (some (r7, M6))))
def f_M_takesHead_b83 (v1 : Int32) (s0 : Int32) (M : Mem) : Option (Int32 × Mem) := f_M_takesHead_b84 v1 1 s0 M
def f_M_takesHead (p1 : Int32) (M : Mem) : Option (Int32 × Mem) := bd (f_M_second M) fun r1 => bd (f_M_fourth M) fun r2 => bd (f_M_next M) fun r3 => if r3 = 115 then if r1 = 105 then f_M_takesHead_b35 r1 2 p1 M else f_M_takesHead_b35 r1 0 p1 M else if r2 = 117 then bd (f_M_third M) fun r4 => if r4 = 97 then f_M_takesHead_b84 p1 3 p1 M else f_M_takesHead_b83 p1 p1 M else f_M_takesHead_b83 p1 p1 M
theorem o_M_takesHead_b35 (v2 : Int32) (s0 : Int32) (s1 : Int32) (M : Mem) : Go sRM g_M_takesHead fWi (f_M_takesHead_b35 v2 s0 s1 M) 35 [.ref 12451850, .null, .int v2, .null] [.int s0, .int s1, .ref 14026635] M := by
  refine go_def (f_M_takesHead_b35.eq_1 ..) ?_
  refine go_iast (pc := 35) rfl rfl dX9_takesHead_35 (fun _ M12 => ?_)
  refine go_iload_n (pc := 36) dX9_takesHead_36 rfl ?_
  refine go_bipush (pc := 37) 105 dX9_takesHead_37 kb_105 ?_
  refine go_icmpne (pc := 39) 52 dX9_takesHead_39 (by decide) (fun _ => ?_) (fun _ => ?_)
  · refine go_aload_n (pc := 42) dX9_takesHead_42 rfl ?_
    refine go_bipush (pc := 43) 9 dX9_takesHead_43 kb_9 ?_
    refine go_iconst (pc := 45) 4 dX9_takesHead_45 ki_4 ?_
    refine go_callV (pc := 46) (a := 12451850) (as := [.int 9, .int 4]) (st := []) (o_M_takesWord 9 4 M12) ic_M_takesWord ivX9_248 (rcvk (a := 12451850) (t := 10) rfl (by decide) (by decide) rfl) rfl (by decide) (Nat.le_of_ble_eq_true rfl) dX9_takesHead_46 (kWi fun r17 M16 => ?_)
    refine go_goto (pc := 49) 58 dX9_takesHead_49 (by decide) ?_
    refine go_gd fun g18 => ?_
    exact go_ret dX9_takesHead_58 (rbz g18) rfl rfl
  · refine go_aload_n (pc := 52) dX9_takesHead_52 rfl ?_
    refine go_iconst (pc := 53) 0 dX9_takesHead_53 ki_0 ?_
    refine go_iconst (pc := 54) 5 dX9_takesHead_54 ki_5 ?_
    refine go_callV (pc := 55) (a := 12451850) (as := [.int 0, .int 5]) (st := []) (o_M_takesWord 0 5 M12) ic_M_takesWord ivX9_248 (rcvk (a := 12451850) (t := 10) rfl (by decide) (by decide) rfl) rfl (by decide) (Nat.le_of_ble_eq_true rfl) dX9_takesHead_55 (kWi fun r14 M13 => ?_)
    refine go_gd fun g15 => ?_
    exact go_ret dX9_takesHead_58 (rbz g15) rfl rfl
theorem o_M_takesHead_b84 (v1 : Int32) (s0 : Int32) (s1 : Int32) (M : Mem) : Go sRM g_M_takesHead fWi (f_M_takesHead_b84 v1 s0 s1 M) 84 [.ref 12451850, .int v1, .null, .null] [.int s0, .int s1, .ref 14026635] M := by
  refine go_def (f_M_takesHead_b84.eq_1 ..) ?_
  refine go_iast (pc := 84) rfl rfl dX9_takesHead_84 (fun _ M5 => ?_)
  refine go_aload_n (pc := 85) dX9_takesHead_85 rfl ?_
  refine go_getS (pc := 86) 14026635 flX9_68 rfl rfl sM_10_19 (by decide) dX9_takesHead_86 ?_
  refine go_iload_n (pc := 89) dX9_takesHead_89 rfl ?_
  refine go_iald (pc := 90) rfl rfl dX9_takesHead_90 (fun _ => ?_)
  refine go_iconst (pc := 91) 3 dX9_takesHead_91 ki_3 ?_
  refine go_icmpne (pc := 92) 106 dX9_takesHead_92 (by decide) (fun _ => ?_) (fun _ => ?_)
  · refine go_aload_n (pc := 95) dX9_takesHead_95 rfl ?_
    refine go_bipush (pc := 96) 13 dX9_takesHead_96 kb_13 ?_
    refine go_bipush (pc := 98) 7 dX9_takesHead_98 kb_7 ?_
    refine go_callV (pc := 100) (a := 12451850) (as := [.int 13, .int 7]) (st := []) (o_M_takesWord 13 7 M5) ic_M_takesWord ivX9_248 (rcvk (a := 12451850) (t := 10) rfl (by decide) (by decide) rfl) rfl (by decide) (Nat.le_of_ble_eq_true rfl) dX9_takesHead_100 (kWi fun r10 M9 => ?_)
    refine go_goto (pc := 103) 112 dX9_takesHead_103 (by decide) ?_
    refine go_gd fun g11 => ?_
    exact go_ret dX9_takesHead_112 (rbz g11) rfl rfl
  · refine go_aload_n (pc := 106) dX9_takesHead_106 rfl ?_
    refine go_iconst (pc := 107) 5 dX9_takesHead_107 ki_5 ?_
    refine go_iconst (pc := 108) 4 dX9_takesHead_108 ki_4 ?_
    refine go_callV (pc := 109) (a := 12451850) (as := [.int 5, .int 4]) (st := []) (o_M_takesWord 5 4 M5) ic_M_takesWord ivX9_248 (rcvk (a := 12451850) (t := 10) rfl (by decide) (by decide) rfl) rfl (by decide) (Nat.le_of_ble_eq_true rfl) dX9_takesHead_109 (kWi fun r7 M6 => ?_)
    refine go_gd fun g8 => ?_
    exact go_ret dX9_takesHead_112 (rbz g8) rfl rfl
theorem o_M_takesHead_b83 (v1 : Int32) (s0 : Int32) (M : Mem) : Go sRM g_M_takesHead fWi (f_M_takesHead_b83 v1 s0 M) 83 [.ref 12451850, .int v1, .null, .null] [.int s0, .ref 14026635] M := by
  refine go_def (f_M_takesHead_b83.eq_1 ..) ?_
  refine go_iconst (pc := 83) 1 dX9_takesHead_83 ki_1 ?_
  exact o_M_takesHead_b84 v1 1 s0 M
theorem o_M_takesHead (p1 : Int32) (M : Mem) : Ct sRM g_M_takesHead fWi [.ref 12451850, .int p1] (f_M_takesHead p1 M) M := by
  refine ⟨Nat.le_of_ble_eq_true rfl, ?_⟩
  show Go sRM g_M_takesHead fWi (f_M_takesHead p1 M) 0 [.ref 12451850, .int p1, .null, .null] [] M
  refine go_def (f_M_takesHead.eq_1 ..) ?_
  refine go_aload_n (pc := 0) dX9_takesHead_0 rfl ?_
  refine go_callV (pc := 1) (a := 12451850) (as := []) (st := []) (o_M_second M) ic_M_second ivX9_242 (rcvk (a := 12451850) (t := 10) rfl (by decide) (by decide) rfl) rfl (by decide) (Nat.le_of_ble_eq_true rfl) dX9_takesHead_1 (kRi fun r1 => ?_)
  refine go_istore_n (pc := 4) (ls' := [.ref 12451850, .int p1, .int r1, .null]) dX9_takesHead_4 (Nat.le_of_ble_eq_true rfl) rfl rfl ?_
  refine go_aload_n (pc := 5) dX9_takesHead_5 rfl ?_
  refine go_callV (pc := 6) (a := 12451850) (as := []) (st := []) (o_M_fourth M) ic_M_fourth ivX9_245 (rcvk (a := 12451850) (t := 10) rfl (by decide) (by decide) rfl) rfl (by decide) (Nat.le_of_ble_eq_true rfl) dX9_takesHead_6 (kRi fun r2 => ?_)
  refine go_istore_n (pc := 9) (ls' := [.ref 12451850, .int p1, .int r1, .int r2]) dX9_takesHead_9 (Nat.le_of_ble_eq_true rfl) rfl rfl ?_
  refine go_aload_n (pc := 10) dX9_takesHead_10 rfl ?_
  refine go_callV (pc := 11) (a := 12451850) (as := []) (st := []) (o_M_next M) ic_M_next ivX9_211 (rcvk (a := 12451850) (t := 10) rfl (by decide) (by decide) rfl) rfl (by decide) (Nat.le_of_ble_eq_true rfl) dX9_takesHead_11 (kRi fun r3 => ?_)
  refine go_bipush (pc := 14) 115 dX9_takesHead_14 kb_115 ?_
  refine go_icmpne (pc := 16) 59 dX9_takesHead_16 (by decide) (fun _ => ?_) (fun _ => ?_)
  · refine go_aload_n (pc := 19) dX9_takesHead_19 rfl ?_
    refine go_getS (pc := 20) 14026635 flX9_68 rfl rfl sM_10_19 (by decide) dX9_takesHead_20 ?_
    refine go_iload_n (pc := 23) dX9_takesHead_23 rfl ?_
    refine go_iload_n (pc := 24) dX9_takesHead_24 rfl ?_
    refine go_bipush (pc := 25) 105 dX9_takesHead_25 kb_105 ?_
    refine go_icmpne (pc := 27) 34 dX9_takesHead_27 (by decide) (fun _ => ?_) (fun _ => ?_)
    · refine go_iconst (pc := 30) 2 dX9_takesHead_30 ki_2 ?_
      refine go_goto (pc := 31) 35 dX9_takesHead_31 (by decide) ?_
      refine go_sub (ls' := [.ref 12451850, .null, .int r1, .null]) ⟨Or.inr rfl, Or.inl rfl, Or.inr rfl, Or.inl rfl, trivial⟩ ?_
      exact o_M_takesHead_b35 r1 2 p1 M
    · refine go_iconst (pc := 34) 0 dX9_takesHead_34 ki_0 ?_
      refine go_sub (ls' := [.ref 12451850, .null, .int r1, .null]) ⟨Or.inr rfl, Or.inl rfl, Or.inr rfl, Or.inl rfl, trivial⟩ ?_
      exact o_M_takesHead_b35 r1 0 p1 M
  · refine go_aload_n (pc := 59) dX9_takesHead_59 rfl ?_
    refine go_getS (pc := 60) 14026635 flX9_68 rfl rfl sM_10_19 (by decide) dX9_takesHead_60 ?_
    refine go_iload_n (pc := 63) dX9_takesHead_63 rfl ?_
    refine go_iload_n (pc := 64) dX9_takesHead_64 rfl ?_
    refine go_bipush (pc := 65) 117 dX9_takesHead_65 kb_117 ?_
    refine go_icmpne (pc := 67) 83 dX9_takesHead_67 (by decide) (fun _ => ?_) (fun _ => ?_)
    · refine go_aload_n (pc := 70) dX9_takesHead_70 rfl ?_
      refine go_callV (pc := 71) (a := 12451850) (as := []) (st := [.int p1, .ref 14026635]) (o_M_third M) ic_M_third ivX9_252 (rcvk (a := 12451850) (t := 10) rfl (by decide) (by decide) rfl) rfl (by decide) (Nat.le_of_ble_eq_true rfl) dX9_takesHead_71 (kRi fun r4 => ?_)
      refine go_bipush (pc := 74) 97 dX9_takesHead_74 kb_97 ?_
      refine go_icmpne (pc := 76) 83 dX9_takesHead_76 (by decide) (fun _ => ?_) (fun _ => ?_)
      · refine go_iconst (pc := 79) 3 dX9_takesHead_79 ki_3 ?_
        refine go_goto (pc := 80) 84 dX9_takesHead_80 (by decide) ?_
        refine go_sub (ls' := [.ref 12451850, .int p1, .null, .null]) ⟨Or.inr rfl, Or.inr rfl, Or.inl rfl, Or.inl rfl, trivial⟩ ?_
        exact o_M_takesHead_b84 p1 3 p1 M
      · refine go_sub (ls' := [.ref 12451850, .int p1, .null, .null]) ⟨Or.inr rfl, Or.inr rfl, Or.inl rfl, Or.inl rfl, trivial⟩ ?_
        exact o_M_takesHead_b83 p1 p1 M
    · refine go_sub (ls' := [.ref 12451850, .int p1, .null, .null]) ⟨Or.inr rfl, Or.inr rfl, Or.inl rfl, Or.inl rfl, trivial⟩ ?_
      exact o_M_takesHead_b83 p1 p1 M
def f_M_takesClause (p1 : Int32) (M : Mem) : Option (Int32 × Mem) := b2 (f_M_takesHead p1 M) fun r2 M1 => if r2 = 0 then some (0, M1) else b2 (f_M_takesNumber M1) fun r4 M3 => if r4 = 0 then some (0, M3) else gd (inR p1 60) (lt (setI M3 14157707 p1.toNatClampNeg (mI M3 12451850 16)) fun M5 => gd (inR p1 60) (if 1 < (mI M5 14026635 p1.toNatClampNeg) then some (1, M5) else b2 (f_M_takes 32 M5) fun r7 M6 => if r7 = 0 then some (0, M6) else b2 (f_M_takesE p1 M6) fun r9 M8 => if r9 = 0 then some (0, M8) else some (1, M8)))
theorem o_M_takesClause (p1 : Int32) (M : Mem) : Ct sRM g_M_takesClause fWi [.ref 12451850, .int p1] (f_M_takesClause p1 M) M := by
  refine ⟨Nat.le_of_ble_eq_true rfl, ?_⟩
  show Go sRM g_M_takesClause fWi (f_M_takesClause p1 M) 0 [.ref 12451850, .int p1] [] M
  refine go_def (f_M_takesClause.eq_1 ..) ?_
  refine go_aload_n (pc := 0) dX9_takesClause_0 rfl ?_
  refine go_iload_n (pc := 1) dX9_takesClause_1 rfl ?_
  refine go_callV (pc := 2) (a := 12451850) (as := [.int p1]) (st := []) (o_M_takesHead p1 M) ic_M_takesHead ivX9_255 (rcvk (a := 12451850) (t := 10) rfl (by decide) (by decide) rfl) rfl (by decide) (Nat.le_of_ble_eq_true rfl) dX9_takesClause_2 (kWi fun r2 M1 => ?_)
  refine go_ifeq (pc := 5) 15 dX9_takesClause_5 (by decide) (fun _ => ?_) (fun _ => ?_)
  · refine go_iconst (pc := 15) 0 dX9_takesClause_15 ki_0 ?_
    exact go_ret dX9_takesClause_16 (rbz (Or.inl rfl)) rfl rfl
  · refine go_aload_n (pc := 8) dX9_takesClause_8 rfl ?_
    refine go_callV (pc := 9) (a := 12451850) (as := []) (st := []) (o_M_takesNumber M1) ic_M_takesNumber ivX9_230 (rcvk (a := 12451850) (t := 10) rfl (by decide) (by decide) rfl) rfl (by decide) (Nat.le_of_ble_eq_true rfl) dX9_takesClause_9 (kWi fun r4 M3 => ?_)
    refine go_ifne (pc := 12) 17 dX9_takesClause_12 (by decide) (fun _ => ?_) (fun _ => ?_)
    · refine go_iconst (pc := 15) 0 dX9_takesClause_15 ki_0 ?_
      exact go_ret dX9_takesClause_16 (rbz (Or.inl rfl)) rfl rfl
    · refine go_aload_n (pc := 17) dX9_takesClause_17 rfl ?_
      refine go_getS (pc := 18) 14157707 flX9_71 rfl rfl sM_10_20 (by decide) dX9_takesClause_18 ?_
      refine go_iload_n (pc := 21) dX9_takesClause_21 rfl ?_
      refine go_aload_n (pc := 22) dX9_takesClause_22 rfl ?_
      refine go_getI (pc := 23) flX9_59 rfl rfl dX9_takesClause_23 ?_
      refine go_iast (pc := 26) rfl rfl dX9_takesClause_26 (fun _ M5 => ?_)
      refine go_aload_n (pc := 27) dX9_takesClause_27 rfl ?_
      refine go_getS (pc := 28) 14026635 flX9_68 rfl rfl sM_10_19 (by decide) dX9_takesClause_28 ?_
      refine go_iload_n (pc := 31) dX9_takesClause_31 rfl ?_
      refine go_iald (pc := 32) rfl rfl dX9_takesClause_32 (fun _ => ?_)
      refine go_iconst (pc := 33) 1 dX9_takesClause_33 ki_1 ?_
      refine go_icmpgt (pc := 34) 54 dX9_takesClause_34 (by decide) (fun _ => ?_) (fun _ => ?_)
      · refine go_iconst (pc := 54) 1 dX9_takesClause_54 ki_1 ?_
        refine go_goto (pc := 55) 59 dX9_takesClause_55 (by decide) ?_
        exact go_ret dX9_takesClause_59 (rbz (Or.inr rfl)) rfl rfl
      · refine go_aload_n (pc := 37) dX9_takesClause_37 rfl ?_
        refine go_bipush (pc := 38) 32 dX9_takesClause_38 kb_32 ?_
        refine go_callV (pc := 40) (a := 12451850) (as := [.int 32]) (st := []) (o_M_takes 32 M5) ic_M_takes ivX9_215 (rcvk (a := 12451850) (t := 10) rfl (by decide) (by decide) rfl) rfl (by decide) (Nat.le_of_ble_eq_true rfl) dX9_takesClause_40 (kWi fun r7 M6 => ?_)
        refine go_ifeq (pc := 43) 58 dX9_takesClause_43 (by decide) (fun _ => ?_) (fun _ => ?_)
        · refine go_iconst (pc := 58) 0 dX9_takesClause_58 ki_0 ?_
          exact go_ret dX9_takesClause_59 (rbz (Or.inl rfl)) rfl rfl
        · refine go_aload_n (pc := 46) dX9_takesClause_46 rfl ?_
          refine go_iload_n (pc := 47) dX9_takesClause_47 rfl ?_
          refine go_callV (pc := 48) (a := 12451850) (as := [.int p1]) (st := []) (o_M_takesE p1 M6) ic_M_takesE ivX9_258 (rcvk (a := 12451850) (t := 10) rfl (by decide) (by decide) rfl) rfl (by decide) (Nat.le_of_ble_eq_true rfl) dX9_takesClause_48 (kWi fun r9 M8 => ?_)
          refine go_ifeq (pc := 51) 58 dX9_takesClause_51 (by decide) (fun _ => ?_) (fun _ => ?_)
          · refine go_iconst (pc := 58) 0 dX9_takesClause_58 ki_0 ?_
            exact go_ret dX9_takesClause_59 (rbz (Or.inl rfl)) rfl rfl
          · refine go_iconst (pc := 54) 1 dX9_takesClause_54 ki_1 ?_
            refine go_goto (pc := 55) 59 dX9_takesClause_55 (by decide) ?_
            exact go_ret dX9_takesClause_59 (rbz (Or.inr rfl)) rfl rfl
def f_M_goesText_l15 : Nat → Int32 → Int32 → Mem → Option (Int32 × Mem)
  | 0, _, _, _ => none
  | n + 1, v1, v2, M => b2 (f_M_takesClause ((10 * v1) + v2) M) fun r4 M3 => if r4 = 0 then some (0, M3) else lt (v2 + 1) fun x5 => gd (inR v1 6) (lt (setI M3 13893835 v1.toNatClampNeg x5) fun M6 => if (mI M6 12451850 15) = (mI M6 12451850 14) then some (1, M6) else if x5 = 10 then some (0, M6) else b2 (f_M_takes 59 M6) fun r8 M7 => if r8 = 0 then some (0, M7) else f_M_goesText_l15 n v1 x5 M7)
def f_M_goesText (p1 : Int32) (M : Mem) : Option (Int32 × Mem) := lt (setI M 12451850 15 0) fun M1 => lt (setI M1 12451850 25 (100 * p1)) fun M2 => f_M_goesText_l15 200 p1 0 M2
theorem o_M_goesText_l15 : ∀ (n : Nat) (v1 : Int32) (v2 : Int32) (M : Mem), Go sRM g_M_goesText fWi (f_M_goesText_l15 n v1 v2 M) 15 [.ref 12451850, .int v1, .int v2] [] M := by
  intro n
  induction n with
  | zero =>
    intro v1 v2 M
    exact go_def (f_M_goesText_l15.eq_1 ..) go_none
  | succ n ih =>
    intro v1 v2 M
    refine go_def (f_M_goesText_l15.eq_2 ..) ?_
    refine go_aload_n (pc := 15) dX9_goesText_15 rfl ?_
    refine go_bipush (pc := 16) 10 dX9_goesText_16 kb_10 ?_
    refine go_iload_n (pc := 18) dX9_goesText_18 rfl ?_
    refine go_imul (pc := 19) dX9_goesText_19 ?_
    refine go_iload_n (pc := 20) dX9_goesText_20 rfl ?_
    refine go_iadd (pc := 21) dX9_goesText_21 ?_
    refine go_callV (pc := 22) (a := 12451850) (as := [.int ((10 * v1) + v2)]) (st := []) (o_M_takesClause ((10 * v1) + v2) M) ic_M_takesClause ivX9_261 (rcvk (a := 12451850) (t := 10) rfl (by decide) (by decide) rfl) rfl (by decide) (Nat.le_of_ble_eq_true rfl) dX9_goesText_22 (kWi fun r4 M3 => ?_)
    refine go_ifne (pc := 25) 30 dX9_goesText_25 (by decide) (fun _ => ?_) (fun _ => ?_)
    · refine go_iconst (pc := 28) 0 dX9_goesText_28 ki_0 ?_
      exact go_ret dX9_goesText_29 (rbz (Or.inl rfl)) rfl rfl
    · refine go_iincL (pc := 30) (L := fun x5 => [.ref 12451850, .int v1, .int x5]) 1 dX9_goesText_30 rfl ki_1 (Nat.le_of_ble_eq_true rfl) rfl (fun _ => rfl) (fun x5 => ?_)
      refine go_aload_n (pc := 33) dX9_goesText_33 rfl ?_
      refine go_getS (pc := 34) 13893835 flX9_65 rfl rfl sM_10_18 (by decide) dX9_goesText_34 ?_
      refine go_iload_n (pc := 37) dX9_goesText_37 rfl ?_
      refine go_iload_n (pc := 38) dX9_goesText_38 rfl ?_
      refine go_iast (pc := 39) rfl rfl dX9_goesText_39 (fun _ M6 => ?_)
      refine go_aload_n (pc := 40) dX9_goesText_40 rfl ?_
      refine go_getI (pc := 41) flX9_56 rfl rfl dX9_goesText_41 ?_
      refine go_aload_n (pc := 44) dX9_goesText_44 rfl ?_
      refine go_getI (pc := 45) flX9_53 rfl rfl dX9_goesText_45 ?_
      refine go_icmpne (pc := 48) 53 dX9_goesText_48 (by decide) (fun _ => ?_) (fun _ => ?_)
      · refine go_iconst (pc := 51) 1 dX9_goesText_51 ki_1 ?_
        exact go_ret dX9_goesText_52 (rbz (Or.inr rfl)) rfl rfl
      · refine go_iload_n (pc := 53) dX9_goesText_53 rfl ?_
        refine go_bipush (pc := 54) 10 dX9_goesText_54 kb_10 ?_
        refine go_icmpeq (pc := 56) 68 dX9_goesText_56 (by decide) (fun _ => ?_) (fun _ => ?_)
        · refine go_iconst (pc := 68) 0 dX9_goesText_68 ki_0 ?_
          exact go_ret dX9_goesText_69 (rbz (Or.inl rfl)) rfl rfl
        · refine go_aload_n (pc := 59) dX9_goesText_59 rfl ?_
          refine go_bipush (pc := 60) 59 dX9_goesText_60 kb_59 ?_
          refine go_callV (pc := 62) (a := 12451850) (as := [.int 59]) (st := []) (o_M_takes 59 M6) ic_M_takes ivX9_215 (rcvk (a := 12451850) (t := 10) rfl (by decide) (by decide) rfl) rfl (by decide) (Nat.le_of_ble_eq_true rfl) dX9_goesText_62 (kWi fun r8 M7 => ?_)
          refine go_ifne (pc := 65) 15 dX9_goesText_65 (by decide) (fun _ => ?_) (fun _ => ?_)
          · refine go_iconst (pc := 68) 0 dX9_goesText_68 ki_0 ?_
            exact go_ret dX9_goesText_69 (rbz (Or.inl rfl)) rfl rfl
          · exact ih v1 x5 M7
theorem o_M_goesText (p1 : Int32) (M : Mem) : Ct sRM g_M_goesText fWi [.ref 12451850, .int p1] (f_M_goesText p1 M) M := by
  refine ⟨Nat.le_of_ble_eq_true rfl, ?_⟩
  show Go sRM g_M_goesText fWi (f_M_goesText p1 M) 0 [.ref 12451850, .int p1, .null] [] M
  refine go_def (f_M_goesText.eq_1 ..) ?_
  refine go_aload_n (pc := 0) dX9_goesText_0 rfl ?_
  refine go_iconst (pc := 1) 0 dX9_goesText_1 ki_0 ?_
  refine go_putI (pc := 2) flX9_56 rfl (Or.inl rfl) ⟨rfl, rfl⟩ rfl dX9_goesText_2 (fun M1 => ?_)
  refine go_aload_n (pc := 5) dX9_goesText_5 rfl ?_
  refine go_bipush (pc := 6) 100 dX9_goesText_6 kb_100 ?_
  refine go_iload_n (pc := 8) dX9_goesText_8 rfl ?_
  refine go_imul (pc := 9) dX9_goesText_9 ?_
  refine go_putI (pc := 10) flX9_86 rfl (Or.inl rfl) ⟨rfl, rfl⟩ rfl dX9_goesText_10 (fun M2 => ?_)
  refine go_iconst (pc := 13) 0 dX9_goesText_13 ki_0 ?_
  refine go_istore_n (pc := 14) (ls' := [.ref 12451850, .int p1, .int 0]) dX9_goesText_14 (Nat.le_of_ble_eq_true rfl) rfl rfl ?_
  exact o_M_goesText_l15 200 p1 0 M2
def f_M_house (M : Mem) : Option (Int32 × Mem) := if (mI M 12451850 12) = 6 then some ((-4), M) else b2 (f_M_goesText (mI M 12451850 12) M) fun r2 M1 => lt (setI M1 12451850 14 0) fun M3 => if r2 = 0 then some ((-10) - (mI M3 12451850 15), M3) else lt (setI M3 12451850 13 (mI M3 12451850 12)) fun M4 => lt (setI M4 12451850 12 ((mI M4 12451850 12) + 1)) fun M5 => some (mI M5 12451850 13, M5)
theorem o_M_house (M : Mem) : Ct sRM g_M_house fWi [.ref 12451850] (f_M_house M) M := by
  refine ⟨Nat.le_of_ble_eq_true rfl, ?_⟩
  show Go sRM g_M_house fWi (f_M_house M) 0 [.ref 12451850, .null] [] M
  refine go_def (f_M_house.eq_1 ..) ?_
  refine go_aload_n (pc := 0) dX9_house_0 rfl ?_
  refine go_getI (pc := 1) flX9_47 rfl rfl dX9_house_1 ?_
  refine go_bipush (pc := 4) 6 dX9_house_4 kb_6 ?_
  refine go_icmpne (pc := 6) 12 dX9_house_6 (by decide) (fun _ => ?_) (fun _ => ?_)
  · refine go_bipush (pc := 9) (-4) dX9_house_9 kb_m4 ?_
    exact go_ret dX9_house_11 rii rfl rfl
  · refine go_aload_n (pc := 12) dX9_house_12 rfl ?_
    refine go_aload_n (pc := 13) dX9_house_13 rfl ?_
    refine go_getI (pc := 14) flX9_47 rfl rfl dX9_house_14 ?_
    refine go_callV (pc := 17) (a := 12451850) (as := [.int (mI M 12451850 12)]) (st := []) (o_M_goesText (mI M 12451850 12) M) ic_M_goesText ivX9_264 (rcvk (a := 12451850) (t := 10) rfl (by decide) (by decide) rfl) rfl (by decide) (Nat.le_of_ble_eq_true rfl) dX9_house_17 (kWi fun r2 M1 => ?_)
    refine go_istore_n (pc := 20) (ls' := [.ref 12451850, .int r2]) dX9_house_20 (Nat.le_of_ble_eq_true rfl) rfl rfl ?_
    refine go_aload_n (pc := 21) dX9_house_21 rfl ?_
    refine go_iconst (pc := 22) 0 dX9_house_22 ki_0 ?_
    refine go_putI (pc := 23) flX9_53 rfl (Or.inl rfl) ⟨rfl, rfl⟩ rfl dX9_house_23 (fun M3 => ?_)
    refine go_iload_n (pc := 26) dX9_house_26 rfl ?_
    refine go_ifne (pc := 27) 38 dX9_house_27 (by decide) (fun _ => ?_) (fun _ => ?_)
    · refine go_bipush (pc := 30) (-10) dX9_house_30 kb_m10 ?_
      refine go_aload_n (pc := 32) dX9_house_32 rfl ?_
      refine go_getI (pc := 33) flX9_56 rfl rfl dX9_house_33 ?_
      refine go_isub (pc := 36) dX9_house_36 ?_
      exact go_ret dX9_house_37 rii rfl rfl
    · refine go_aload_n (pc := 38) dX9_house_38 rfl ?_
      refine go_aload_n (pc := 39) dX9_house_39 rfl ?_
      refine go_getI (pc := 40) flX9_47 rfl rfl dX9_house_40 ?_
      refine go_putI (pc := 43) flX9_50 rfl (Or.inl rfl) ⟨rfl, rfl⟩ rfl dX9_house_43 (fun M4 => ?_)
      refine go_aload_n (pc := 46) dX9_house_46 rfl ?_
      refine go_dup (pc := 47) dX9_house_47 rfl ?_
      refine go_getI (pc := 48) flX9_47 rfl rfl dX9_house_48 ?_
      refine go_iconst (pc := 51) 1 dX9_house_51 ki_1 ?_
      refine go_iadd (pc := 52) dX9_house_52 ?_
      refine go_putI (pc := 53) flX9_47 rfl (Or.inl rfl) ⟨rfl, rfl⟩ rfl dX9_house_53 (fun M5 => ?_)
      refine go_aload_n (pc := 56) dX9_house_56 rfl ?_
      refine go_getI (pc := 57) flX9_50 rfl rfl dX9_house_57 ?_
      exact go_ret dX9_house_60 rii rfl rfl
def f_M_begin (M : Mem) : Int32 := if 0 ≤ (mI M 12451850 13) then 10 * (mI M 12451850 13) else 0
theorem o_M_begin (M : Mem) : Ct sRM g_M_begin (fRi M) [.ref 12451850] (some (f_M_begin M)) M := by
  refine ⟨Nat.le_of_ble_eq_true rfl, ?_⟩
  show Go sRM g_M_begin (fRi M) (some (f_M_begin M)) 0 [.ref 12451850] [] M
  refine go_def (congrArg some (f_M_begin.eq_1 ..)) ?_
  refine go_aload_n (pc := 0) dX9_begin_0 rfl ?_
  refine go_getI (pc := 1) flX9_50 rfl rfl dX9_begin_1 ?_
  refine go_site ?_
  refine go_ifge (pc := 4) 11 dX9_begin_4 (by decide) (fun _ => ?_) (fun _ => ?_)
  · refine go_bipush (pc := 11) 10 dX9_begin_11 kb_10 ?_
    refine go_aload_n (pc := 13) dX9_begin_13 rfl ?_
    refine go_getI (pc := 14) flX9_50 rfl rfl dX9_begin_14 ?_
    refine go_imul (pc := 17) dX9_begin_17 ?_
    exact go_ret dX9_begin_18 rii rfl rfl
  · refine go_iconst (pc := 7) 0 dX9_begin_7 ki_0 ?_
    refine go_goto (pc := 8) 18 dX9_begin_8 (by decide) ?_
    exact go_ret dX9_begin_18 rii rfl rfl
def f_M_behind (M : Mem) : Option Int32 := if 0 ≤ (mI M 12451850 13) then gd (inR (mI M 12451850 13) 6) (some ((10 * (mI M 12451850 13)) + (mI M 13893835 (mI M 12451850 13).toNatClampNeg))) else some 0
theorem o_M_behind (M : Mem) : Ct sRM g_M_behind (fRi M) [.ref 12451850] (f_M_behind M) M := by
  refine ⟨Nat.le_of_ble_eq_true rfl, ?_⟩
  show Go sRM g_M_behind (fRi M) (f_M_behind M) 0 [.ref 12451850] [] M
  refine go_def (f_M_behind.eq_1 ..) ?_
  refine go_aload_n (pc := 0) dX9_behind_0 rfl ?_
  refine go_getI (pc := 1) flX9_50 rfl rfl dX9_behind_1 ?_
  refine go_ifge (pc := 4) 11 dX9_behind_4 (by decide) (fun _ => ?_) (fun _ => ?_)
  · refine go_bipush (pc := 11) 10 dX9_behind_11 kb_10 ?_
    refine go_aload_n (pc := 13) dX9_behind_13 rfl ?_
    refine go_getI (pc := 14) flX9_50 rfl rfl dX9_behind_14 ?_
    refine go_imul (pc := 17) dX9_behind_17 ?_
    refine go_aload_n (pc := 18) dX9_behind_18 rfl ?_
    refine go_getS (pc := 19) 13893835 flX9_65 rfl rfl sM_10_18 (by decide) dX9_behind_19 ?_
    refine go_aload_n (pc := 22) dX9_behind_22 rfl ?_
    refine go_getI (pc := 23) flX9_50 rfl rfl dX9_behind_23 ?_
    refine go_iald (pc := 26) rfl rfl dX9_behind_26 (fun _ => ?_)
    refine go_iadd (pc := 27) dX9_behind_27 ?_
    exact go_ret dX9_behind_28 rii rfl rfl
  · refine go_iconst (pc := 7) 0 dX9_behind_7 ki_0 ?_
    refine go_goto (pc := 8) 28 dX9_behind_8 (by decide) ?_
    exact go_ret dX9_behind_28 rii rfl rfl
def f_M_lastOf_l8 (M : Mem) : Nat → Int32 → Int32 → Int32 → Option Int32
  | 0, _, _, _ => none
  | n + 1, v1, v3, v4 => bd (f_M_behind M) fun r2 => if r2 ≤ v4 then some v3 else gd (inR v4 60) (if (mI M 14026635 v4.toNatClampNeg) = v1 then gd (inR v4 60) (lt (mI M 14157707 v4.toNatClampNeg) fun x4 => lt (v4 + 1) fun x5 => f_M_lastOf_l8 M n v1 x4 x5) else lt (v4 + 1) fun x3 => f_M_lastOf_l8 M n v1 v3 x3)
def f_M_lastOf (p1 : Int32) (p2 : Int32) (M : Mem) : Option Int32 := lt (f_M_begin M) fun x1 => f_M_lastOf_l8 M 200 p1 p2 x1
theorem o_M_lastOf_l8 (M : Mem) : ∀ (n : Nat) (v1 : Int32) (v3 : Int32) (v4 : Int32), Go sRM g_M_lastOf (fRi M) (f_M_lastOf_l8 M n v1 v3 v4) 8 [.ref 12451850, .int v1, .null, .int v3, .int v4] [] M := by
  intro n
  induction n with
  | zero =>
    intro v1 v3 v4
    exact go_def (f_M_lastOf_l8.eq_1 ..) go_none
  | succ n ih =>
    intro v1 v3 v4
    refine go_def (f_M_lastOf_l8.eq_2 ..) ?_
    refine go_iload (pc := 8) dX9_lastOf_8 rfl ?_
    refine go_aload_n (pc := 10) dX9_lastOf_10 rfl ?_
    refine go_callV (pc := 11) (a := 12451850) (as := []) (st := [.int v4]) (o_M_behind M) ic_M_behind ivX9_270 (rcvk (a := 12451850) (t := 10) rfl (by decide) (by decide) rfl) rfl (by decide) (Nat.le_of_ble_eq_true rfl) dX9_lastOf_11 (kRi fun r2 => ?_)
    refine go_icmpge (pc := 14) 46 dX9_lastOf_14 (by decide) (fun _ => ?_) (fun _ => ?_)
    · refine go_iload_n (pc := 46) dX9_lastOf_46 rfl ?_
      exact go_ret dX9_lastOf_47 rii rfl rfl
    · refine go_aload_n (pc := 17) dX9_lastOf_17 rfl ?_
      refine go_getS (pc := 18) 14026635 flX9_68 rfl rfl sM_10_19 (by decide) dX9_lastOf_18 ?_
      refine go_iload (pc := 21) dX9_lastOf_21 rfl ?_
      refine go_iald (pc := 23) rfl rfl dX9_lastOf_23 (fun _ => ?_)
      refine go_iload_n (pc := 24) dX9_lastOf_24 rfl ?_
      refine go_icmpne (pc := 25) 38 dX9_lastOf_25 (by decide) (fun _ => ?_) (fun _ => ?_)
      · refine go_aload_n (pc := 28) dX9_lastOf_28 rfl ?_
        refine go_getS (pc := 29) 14157707 flX9_71 rfl rfl sM_10_20 (by decide) dX9_lastOf_29 ?_
        refine go_iload (pc := 32) dX9_lastOf_32 rfl ?_
        refine go_iald (pc := 34) rfl rfl dX9_lastOf_34 (fun _ => ?_)
        refine go_goto (pc := 35) 39 dX9_lastOf_35 (by decide) ?_
        refine go_istore_nL (pc := 39) (L := fun x4 => [.ref 12451850, .int v1, .null, .int x4, .int v4]) dX9_lastOf_39 (Nat.le_of_ble_eq_true rfl) rfl (fun _ => rfl) (fun x4 => ?_)
        refine go_iincL (pc := 40) (L := fun x5 => [.ref 12451850, .int v1, .null, .int x4, .int x5]) 1 dX9_lastOf_40 rfl ki_1 (Nat.le_of_ble_eq_true rfl) rfl (fun _ => rfl) (fun x5 => ?_)
        refine go_goto (pc := 43) 8 dX9_lastOf_43 (by decide) ?_
        exact ih v1 x4 x5
      · refine go_iload_n (pc := 38) dX9_lastOf_38 rfl ?_
        refine go_istore_n (pc := 39) (ls' := [.ref 12451850, .int v1, .null, .int v3, .int v4]) dX9_lastOf_39 (Nat.le_of_ble_eq_true rfl) rfl rfl ?_
        refine go_iincL (pc := 40) (L := fun x3 => [.ref 12451850, .int v1, .null, .int v3, .int x3]) 1 dX9_lastOf_40 rfl ki_1 (Nat.le_of_ble_eq_true rfl) rfl (fun _ => rfl) (fun x3 => ?_)
        refine go_goto (pc := 43) 8 dX9_lastOf_43 (by decide) ?_
        exact ih v1 v3 x3
theorem o_M_lastOf (p1 : Int32) (p2 : Int32) (M : Mem) : Ct sRM g_M_lastOf (fRi M) [.ref 12451850, .int p1, .int p2] (f_M_lastOf p1 p2 M) M := by
  refine ⟨Nat.le_of_ble_eq_true rfl, ?_⟩
  show Go sRM g_M_lastOf (fRi M) (f_M_lastOf p1 p2 M) 0 [.ref 12451850, .int p1, .int p2, .null, .null] [] M
  refine go_def (f_M_lastOf.eq_1 ..) ?_
  refine go_iload_n (pc := 0) dX9_lastOf_0 rfl ?_
  refine go_istore_n (pc := 1) (ls' := [.ref 12451850, .int p1, .int p2, .int p2, .null]) dX9_lastOf_1 (Nat.le_of_ble_eq_true rfl) rfl rfl ?_
  refine go_aload_n (pc := 2) dX9_lastOf_2 rfl ?_
  refine go_T (v := f_M_begin M) ?_
  refine go_callV (pc := 3) (a := 12451850) (as := []) (st := []) (o_M_begin M) ic_M_begin ivX9_267 (rcvk (a := 12451850) (t := 10) rfl (by decide) (by decide) rfl) rfl (by decide) (Nat.le_of_ble_eq_true rfl) dX9_lastOf_3 (kTi ?_)
  refine go_istoreL (pc := 6) (L := fun x1 => [.ref 12451850, .int p1, .int p2, .int p2, .int x1]) dX9_lastOf_6 (Nat.le_of_ble_eq_true rfl) rfl (fun _ => rfl) (fun x1 => ?_)
  refine go_sub (ls' := [.ref 12451850, .int p1, .null, .int p2, .int x1]) ⟨Or.inr rfl, Or.inr rfl, Or.inl rfl, Or.inr rfl, Or.inr rfl, trivial⟩ ?_
  exact o_M_lastOf_l8 M 200 p1 p2 x1
def f_M_hasSwell_l5 (M : Mem) : Nat → Int32 → Option Int32
  | 0, _ => none
  | n + 1, v1 => bd (f_M_behind M) fun r2 => if r2 ≤ v1 then some 0 else gd (inR v1 60) (if (mI M 14026635 v1.toNatClampNeg) = 0 then some 1 else lt (v1 + 1) fun x3 => f_M_hasSwell_l5 M n x3)
def f_M_hasSwell (M : Mem) : Option Int32 := lt (f_M_begin M) fun x1 => f_M_hasSwell_l5 M 200 x1
theorem o_M_hasSwell_l5 (M : Mem) : ∀ (n : Nat) (v1 : Int32), Go sRM g_M_hasSwell (fRi M) (f_M_hasSwell_l5 M n v1) 5 [.ref 12451850, .int v1] [] M := by
  intro n
  induction n with
  | zero =>
    intro v1
    exact go_def (f_M_hasSwell_l5.eq_1 ..) go_none
  | succ n ih =>
    intro v1
    refine go_def (f_M_hasSwell_l5.eq_2 ..) ?_
    refine go_iload_n (pc := 5) dX9_hasSwell_5 rfl ?_
    refine go_aload_n (pc := 6) dX9_hasSwell_6 rfl ?_
    refine go_callV (pc := 7) (a := 12451850) (as := []) (st := [.int v1]) (o_M_behind M) ic_M_behind ivX9_270 (rcvk (a := 12451850) (t := 10) rfl (by decide) (by decide) rfl) rfl (by decide) (Nat.le_of_ble_eq_true rfl) dX9_hasSwell_7 (kRi fun r2 => ?_)
    refine go_icmpge (pc := 10) 30 dX9_hasSwell_10 (by decide) (fun _ => ?_) (fun _ => ?_)
    · refine go_iconst (pc := 30) 0 dX9_hasSwell_30 ki_0 ?_
      exact go_ret dX9_hasSwell_31 (rbz (Or.inl rfl)) rfl rfl
    · refine go_aload_n (pc := 13) dX9_hasSwell_13 rfl ?_
      refine go_getS (pc := 14) 14026635 flX9_68 rfl rfl sM_10_19 (by decide) dX9_hasSwell_14 ?_
      refine go_iload_n (pc := 17) dX9_hasSwell_17 rfl ?_
      refine go_iald (pc := 18) rfl rfl dX9_hasSwell_18 (fun _ => ?_)
      refine go_ifne (pc := 19) 24 dX9_hasSwell_19 (by decide) (fun _ => ?_) (fun _ => ?_)
      · refine go_iconst (pc := 22) 1 dX9_hasSwell_22 ki_1 ?_
        exact go_ret dX9_hasSwell_23 (rbz (Or.inr rfl)) rfl rfl
      · refine go_iincL (pc := 24) (L := fun x3 => [.ref 12451850, .int x3]) 1 dX9_hasSwell_24 rfl ki_1 (Nat.le_of_ble_eq_true rfl) rfl (fun _ => rfl) (fun x3 => ?_)
        refine go_goto (pc := 27) 5 dX9_hasSwell_27 (by decide) ?_
        exact ih x3
theorem o_M_hasSwell (M : Mem) : Ct sRM g_M_hasSwell (fRi M) [.ref 12451850] (f_M_hasSwell M) M := by
  refine ⟨Nat.le_of_ble_eq_true rfl, ?_⟩
  show Go sRM g_M_hasSwell (fRi M) (f_M_hasSwell M) 0 [.ref 12451850, .null] [] M
  refine go_def (f_M_hasSwell.eq_1 ..) ?_
  refine go_aload_n (pc := 0) dX9_hasSwell_0 rfl ?_
  refine go_T (v := f_M_begin M) ?_
  refine go_callV (pc := 1) (a := 12451850) (as := []) (st := []) (o_M_begin M) ic_M_begin ivX9_267 (rcvk (a := 12451850) (t := 10) rfl (by decide) (by decide) rfl) rfl (by decide) (Nat.le_of_ble_eq_true rfl) dX9_hasSwell_1 (kTi ?_)
  refine go_istore_nL (pc := 4) (L := fun x1 => [.ref 12451850, .int x1]) dX9_hasSwell_4 (Nat.le_of_ble_eq_true rfl) rfl (fun _ => rfl) (fun x1 => ?_)
  exact o_M_hasSwell_l5 M 200 x1
def f_M_factOf (p1 : Int32) (p2 : Int32) (M : Mem) : Option Int32 := if p1 = 0 then gd (inR p2 4) (some (mI M 12714123 p2.toNatClampNeg)) else if p1 = 1 then some p2 else if p1 = 2 then gd (inR p2 4) (gd (inR p2 4) (some ((((mI M 12976267 p2.toNatClampNeg) + (mI M 13107339 p2.toNatClampNeg)) / 2) / 10))) else if p1 = 3 then gd (inR p2 4) (some (mI M 13369483 p2.toNatClampNeg)) else if p1 = 4 then gd (inR p2 4) (gd (inR p2 4) (some (((mI M 13238411 p2.toNatClampNeg) - (mI M 13238411 p2.toNatClampNeg) / 2 * 2) + ((mI M 13238411 p2.toNatClampNeg) / 2)))) else some ((mI M 12451850 3) - (mI M 12451850 3) / 12 * 12)
theorem o_M_factOf (p1 : Int32) (p2 : Int32) (M : Mem) : Ct sRM g_M_factOf (fRi M) [.ref 12451850, .int p1, .int p2] (f_M_factOf p1 p2 M) M := by
  refine ⟨Nat.le_of_ble_eq_true rfl, ?_⟩
  show Go sRM g_M_factOf (fRi M) (f_M_factOf p1 p2 M) 0 [.ref 12451850, .int p1, .int p2] [] M
  refine go_def (f_M_factOf.eq_1 ..) ?_
  refine go_iload_n (pc := 0) dX9_factOf_0 rfl ?_
  refine go_tswC (pc := 1) (v := 0) (off := 35) 36 dX9_factOf_1 (by decide) (by decide) (by decide) (fun _ => ?_) (fun n1 => ?_)
  · refine go_aload_n (pc := 36) dX9_factOf_36 rfl ?_
    refine go_getS (pc := 37) 12714123 flX9_23 rfl rfl sM_10_4 (by decide) dX9_factOf_37 ?_
    refine go_iload_n (pc := 40) dX9_factOf_40 rfl ?_
    refine go_iald (pc := 41) rfl rfl dX9_factOf_41 (fun _ => ?_)
    exact go_ret dX9_factOf_42 rii rfl rfl
  refine go_tswC (pc := 1) (v := 1) (off := 42) 43 dX9_factOf_1 (by decide) (by decide) (by decide) (fun _ => ?_) (fun n2 => ?_)
  · refine go_iload_n (pc := 43) dX9_factOf_43 rfl ?_
    exact go_ret dX9_factOf_44 rii rfl rfl
  refine go_tswC (pc := 1) (v := 2) (off := 44) 45 dX9_factOf_1 (by decide) (by decide) (by decide) (fun _ => ?_) (fun n3 => ?_)
  · refine go_aload_n (pc := 45) dX9_factOf_45 rfl ?_
    refine go_getS (pc := 46) 12976267 flX9_29 rfl rfl sM_10_6 (by decide) dX9_factOf_46 ?_
    refine go_iload_n (pc := 49) dX9_factOf_49 rfl ?_
    refine go_iald (pc := 50) rfl rfl dX9_factOf_50 (fun _ => ?_)
    refine go_aload_n (pc := 51) dX9_factOf_51 rfl ?_
    refine go_getS (pc := 52) 13107339 flX9_32 rfl rfl sM_10_7 (by decide) dX9_factOf_52 ?_
    refine go_iload_n (pc := 55) dX9_factOf_55 rfl ?_
    refine go_iald (pc := 56) rfl rfl dX9_factOf_56 (fun _ => ?_)
    refine go_iadd (pc := 57) dX9_factOf_57 ?_
    refine go_iconst (pc := 58) 2 dX9_factOf_58 ki_2 ?_
    refine go_idiv' (pc := 59) (by decide) dX9_factOf_59 ?_
    refine go_bipush (pc := 60) 10 dX9_factOf_60 kb_10 ?_
    refine go_idiv' (pc := 62) (by decide) dX9_factOf_62 ?_
    exact go_ret dX9_factOf_63 rii rfl rfl
  refine go_tswC (pc := 1) (v := 3) (off := 63) 64 dX9_factOf_1 (by decide) (by decide) (by decide) (fun _ => ?_) (fun n4 => ?_)
  · refine go_aload_n (pc := 64) dX9_factOf_64 rfl ?_
    refine go_getS (pc := 65) 13369483 flX9_38 rfl rfl sM_10_9 (by decide) dX9_factOf_65 ?_
    refine go_iload_n (pc := 68) dX9_factOf_68 rfl ?_
    refine go_iald (pc := 69) rfl rfl dX9_factOf_69 (fun _ => ?_)
    exact go_ret dX9_factOf_70 rii rfl rfl
  refine go_tswC (pc := 1) (v := 4) (off := 70) 71 dX9_factOf_1 (by decide) (by decide) (by decide) (fun _ => ?_) (fun n5 => ?_)
  · refine go_aload_n (pc := 71) dX9_factOf_71 rfl ?_
    refine go_getS (pc := 72) 13238411 flX9_35 rfl rfl sM_10_8 (by decide) dX9_factOf_72 ?_
    refine go_iload_n (pc := 75) dX9_factOf_75 rfl ?_
    refine go_iald (pc := 76) rfl rfl dX9_factOf_76 (fun _ => ?_)
    refine go_iconst (pc := 77) 2 dX9_factOf_77 ki_2 ?_
    refine go_irem' (pc := 78) (by decide) dX9_factOf_78 ?_
    refine go_aload_n (pc := 79) dX9_factOf_79 rfl ?_
    refine go_getS (pc := 80) 13238411 flX9_35 rfl rfl sM_10_8 (by decide) dX9_factOf_80 ?_
    refine go_iload_n (pc := 83) dX9_factOf_83 rfl ?_
    refine go_iald (pc := 84) rfl rfl dX9_factOf_84 (fun _ => ?_)
    refine go_iconst (pc := 85) 2 dX9_factOf_85 ki_2 ?_
    refine go_idiv' (pc := 86) (by decide) dX9_factOf_86 ?_
    refine go_iadd (pc := 87) dX9_factOf_87 ?_
    exact go_ret dX9_factOf_88 rii rfl rfl
  refine go_tswD (pc := 1) 89 dX9_factOf_1 (by have n1t := lv_neT n1 (show (0 : Int32).toInt = 0 by decide); have n2t := lv_neT n2 (show (1 : Int32).toInt = 1 by decide); have n3t := lv_neT n3 (show (2 : Int32).toInt = 2 by decide); have n4t := lv_neT n4 (show (3 : Int32).toInt = 3 by decide); have n5t := lv_neT n5 (show (4 : Int32).toInt = 4 by decide); rcases (show p1.toInt < 0 ∨ 4 < p1.toInt by omega) with h | h <;> first | exact Or.inl h | exact Or.inr (Or.inl h) | exact Or.inr (Or.inr (by rw [h]; decide))) (by decide) ?_
  refine go_aload_n (pc := 89) dX9_factOf_89 rfl ?_
  refine go_getI (pc := 90) flX9_20 rfl rfl dX9_factOf_90 ?_
  refine go_bipush (pc := 93) 12 dX9_factOf_93 kb_12 ?_
  refine go_irem' (pc := 95) (by decide) dX9_factOf_95 ?_
  exact go_ret dX9_factOf_96 rii rfl rfl
