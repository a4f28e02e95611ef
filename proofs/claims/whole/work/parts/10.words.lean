/-! WHAT THE METHODS' WALKS REST ON: the words by their places, constants, depths, what always lies where -/
theorem mt1 {α : Type} {w a0 : α} {as : List α} (h : List.Mem w as) : List.Mem w (a0 :: as) := List.Mem.tail _ h
theorem mt4 {α : Type} {w a0 a1 a2 a3 : α} {as : List α} (h : List.Mem w as) : List.Mem w (a0 :: a1 :: a2 :: a3 :: as) := mt1 (mt1 (mt1 (mt1 (h))))
theorem mt16 {α : Type} {w a0 a1 a2 a3 a4 a5 a6 a7 a8 a9 a10 a11 a12 a13 a14 a15 : α} {as : List α} (h : List.Mem w as) : List.Mem w (a0 :: a1 :: a2 :: a3 :: a4 :: a5 :: a6 :: a7 :: a8 :: a9 :: a10 :: a11 :: a12 :: a13 :: a14 :: a15 :: as) := mt4 (mt4 (mt4 (mt4 (h))))
theorem mt64 {α : Type} {w a0 a1 a2 a3 a4 a5 a6 a7 a8 a9 a10 a11 a12 a13 a14 a15 a16 a17 a18 a19 a20 a21 a22 a23 a24 a25 a26 a27 a28 a29 a30 a31 a32 a33 a34 a35 a36 a37 a38 a39 a40 a41 a42 a43 a44 a45 a46 a47 a48 a49 a50 a51 a52 a53 a54 a55 a56 a57 a58 a59 a60 a61 a62 a63 : α} {as : List α} (h : List.Mem w as) : List.Mem w (a0 :: a1 :: a2 :: a3 :: a4 :: a5 :: a6 :: a7 :: a8 :: a9 :: a10 :: a11 :: a12 :: a13 :: a14 :: a15 :: a16 :: a17 :: a18 :: a19 :: a20 :: a21 :: a22 :: a23 :: a24 :: a25 :: a26 :: a27 :: a28 :: a29 :: a30 :: a31 :: a32 :: a33 :: a34 :: a35 :: a36 :: a37 :: a38 :: a39 :: a40 :: a41 :: a42 :: a43 :: a44 :: a45 :: a46 :: a47 :: a48 :: a49 :: a50 :: a51 :: a52 :: a53 :: a54 :: a55 :: a56 :: a57 :: a58 :: a59 :: a60 :: a61 :: a62 :: a63 :: as) := mt16 (mt16 (mt16 (mt16 (h))))
theorem mtb1 {w : Cond} (h : List.Mem w tables_1_1) : w ∈ lw_tbl := List.mem_append_right _ (show w ∈ tables_1 from List.mem_append_left _ h)
theorem mtb2 {w : Cond} (h : List.Mem w tables_1_2) : w ∈ lw_tbl := List.mem_append_right _ (show w ∈ tables_1 from List.mem_append_right _ (List.mem_append_left _ h))
theorem mtb3 {w : Cond} (h : List.Mem w tables_1_3) : w ∈ lw_tbl := List.mem_append_right _ (show w ∈ tables_1 from List.mem_append_right _ (List.mem_append_right _ (List.mem_append_left _ h)))
theorem mtb4 {w : Cond} (h : List.Mem w tables_1_4) : w ∈ lw_tbl := List.mem_append_right _ (show w ∈ tables_1 from List.mem_append_right _ (List.mem_append_right _ (List.mem_append_right _ (List.mem_append_left _ h))))
theorem mtb5 {w : Cond} (h : List.Mem w tables_1_5) : w ∈ lw_tbl := List.mem_append_right _ (show w ∈ tables_1 from List.mem_append_right _ (List.mem_append_right _ (List.mem_append_right _ (List.mem_append_right _ (List.mem_append_left _ h)))))
theorem mtb6 {w : Cond} (h : List.Mem w tables_1_6) : w ∈ lw_tbl := List.mem_append_right _ (show w ∈ tables_1 from List.mem_append_right _ (List.mem_append_right _ (List.mem_append_right _ (List.mem_append_right _ (List.mem_append_right _ (List.mem_append_left _ h))))))
theorem mtb7 {w : Cond} (h : List.Mem w tables_1_7) : w ∈ lw_tbl := List.mem_append_right _ (show w ∈ tables_1 from List.mem_append_right _ (List.mem_append_right _ (List.mem_append_right _ (List.mem_append_right _ (List.mem_append_right _ (List.mem_append_right _ (h)))))))
theorem mpr1 {y : MethodName} {n : Nat} (h : List.Mem (y, n) lw_privs_1) : Cond.selects y.cls y y ∈ lw_tbl := List.mem_append_left _ (List.mem_map.mpr ⟨(y, n), show (y, n) ∈ lw_privs from List.mem_append_left _ h, rfl⟩)
theorem mpr2 {y : MethodName} {n : Nat} (h : List.Mem (y, n) lw_privs_2) : Cond.selects y.cls y y ∈ lw_tbl := List.mem_append_left _ (List.mem_map.mpr ⟨(y, n), show (y, n) ∈ lw_privs from List.mem_append_right _ (List.mem_append_left _ h), rfl⟩)
theorem mpr3 {y : MethodName} {n : Nat} (h : List.Mem (y, n) lw_privs_3) : Cond.selects y.cls y y ∈ lw_tbl := List.mem_append_left _ (List.mem_map.mpr ⟨(y, n), show (y, n) ∈ lw_privs from List.mem_append_right _ (List.mem_append_right _ (List.mem_append_left _ h)), rfl⟩)
theorem mpr4 {y : MethodName} {n : Nat} (h : List.Mem (y, n) lw_privs_4) : Cond.selects y.cls y y ∈ lw_tbl := List.mem_append_left _ (List.mem_map.mpr ⟨(y, n), show (y, n) ∈ lw_privs from List.mem_append_right _ (List.mem_append_right _ (List.mem_append_right _ (List.mem_append_left _ h))), rfl⟩)
theorem mpr5 {y : MethodName} {n : Nat} (h : List.Mem (y, n) lw_privs_5) : Cond.selects y.cls y y ∈ lw_tbl := List.mem_append_left _ (List.mem_map.mpr ⟨(y, n), show (y, n) ∈ lw_privs from List.mem_append_right _ (List.mem_append_right _ (List.mem_append_right _ (List.mem_append_right _ (h)))), rfl⟩)
theorem rcvk {a t : Nat} {C : String} (h : a % 131072 = t) (h1 : 1 ≤ t) (h2 : t ≤ 10) (hc : (clT t).1 = C) : Rcv a C := by
  have e : a % 32 = t := by omega
  exact Or.inl ⟨by omega, by omega, by rw [e]; exact hc⟩
theorem ktag {a N t : Nat} (h : a % 131072 = N * 32 + t) (ht : t < 32) : a % 32 = t := by omega
theorem sb_i {a : Nat} (h : a % 131072 = 19) (hi : a / 131072 < 6) : (a + 1) / 131072 < 6 := by omega
theorem rcz {v : Int32} (h : inR v 65536) : ∃ ty, (some FieldType.char) = some ty ∧ narrow ty (.int v) = .int v := by
  refine ⟨_, rfl, ?_⟩
  have e : v = nI v.toNatClampNeg := by
    have hn : ¬ v < 0 := fun q => (inR_vp h) (Or.inl q)
    obtain ⟨j, hj, rfl⟩ := nI_of hn
    rw [nI_clamp hj]
  have hl := inR_ix h
  rw [e]
  exact (pk_charN hl).1
section SWI
variable {β : Type} {sR : Nat → Nat → Nat} {Γ : GM} {fin : β → Option Value × Mem} {f f1 f2 : Option β} {pc : Nat} {ls st : List Value} {M : Mem}
theorem go_tswC {dflt lo hi off : Int} {offs : Array Int} {len : Nat} {x v : Int32} (tgt : Nat) (hd : decode Γ.2.1 pc = .ok (.tableswitch dflt lo hi offs, len)) (h12 : ¬ v.toInt < lo ∧ ¬ hi < v.toInt) (ho : offs[(v.toInt - lo).toNat]? = some off) (ht : (pc : Int) + off = (tgt : Int)) (kt : x = v → Go sR Γ fin f1 tgt ls st M) (kf : ¬ x = v → Go sR Γ fin f2 pc ls (.int x :: st) M) : Go sR Γ fin (if x = v then f1 else f2) pc ls (.int x :: st) M := by
  by_cases h : x = v
  · rw [if_pos h]
    exact go_st (lv_0 mm1) (fun hx hb w => lv_tableIn hx hb hd (by rw [h]; exact h12.1) (by rw [h]; exact h12.2) (by rw [h]; exact ho) ht w) (kt h)
  · rw [if_neg h]; exact kf h
theorem go_tswD {dflt lo hi : Int} {offs : Array Int} {len : Nat} {x : Int32} (tgt : Nat) (hd : decode Γ.2.1 pc = .ok (.tableswitch dflt lo hi offs, len)) (h : x.toInt < lo ∨ hi < x.toInt ∨ offs[(x.toInt - lo).toNat]? = some dflt) (ht : (pc : Int) + dflt = (tgt : Int)) (k : Go sR Γ fin f tgt ls st M) : Go sR Γ fin f pc ls (.int x :: st) M := by
  refine go_st (lv_0 mm1) (fun hx hb w => ?_) k
  by_cases h1 : x.toInt < lo ∨ hi < x.toInt
  · exact lv_tableOut hx hb hd h1 ht w
  · rcases h with h | h | h
    · exact absurd (Or.inl h) h1
    · exact absurd (Or.inr h) h1
    · exact lv_tableIn hx hb hd (fun q => h1 (Or.inl q)) (fun q => h1 (Or.inr q)) h ht w
theorem go_lswC {dflt off : Int} {ps : Array (Int × Int)} {len : Nat} {x v : Int32} (tgt : Nat) (hd : decode Γ.2.1 pc = .ok (.lookupswitch dflt ps, len)) (hp : (ps.toList.zip (ps.toList.drop 1)).all (fun (a, next) => a.1 < next.1) = true) (ho : Op.lookupswitch.offset ps.toList dflt v.toInt = off) (ht : (pc : Int) + off = (tgt : Int)) (kt : x = v → Go sR Γ fin f1 tgt ls st M) (kf : ¬ x = v → Go sR Γ fin f2 pc ls (.int x :: st) M) : Go sR Γ fin (if x = v then f1 else f2) pc ls (.int x :: st) M := by
  by_cases h : x = v
  · rw [if_pos h]
    exact go_st (lv_0 mm1) (fun hx hb w => lv_lookup hx hb hd hp (by rw [h]; exact ho) ht w) (kt h)
  · rw [if_neg h]; exact kf h
theorem go_lswD {dflt : Int} {ps : Array (Int × Int)} {len : Nat} {x : Int32} (tgt : Nat) (hd : decode Γ.2.1 pc = .ok (.lookupswitch dflt ps, len)) (hp : (ps.toList.zip (ps.toList.drop 1)).all (fun (a, next) => a.1 < next.1) = true) (ho : Op.lookupswitch.offset ps.toList dflt x.toInt = dflt) (ht : (pc : Int) + dflt = (tgt : Int)) (k : Go sR Γ fin f tgt ls st M) : Go sR Γ fin f pc ls (.int x :: st) M :=
  go_st (lv_0 mm1) (fun hx hb w => lv_lookup hx hb hd hp ho ht w) k
end SWI
theorem kb_m99 : (Int8.ofInt (-99)).toInt32 = (-99) := by decide +kernel
theorem kb_m38 : (Int8.ofInt (-38)).toInt32 = (-38) := by decide +kernel
theorem kb_m33 : (Int8.ofInt (-33)).toInt32 = (-33) := by decide +kernel
theorem kb_m14 : (Int8.ofInt (-14)).toInt32 = (-14) := by decide +kernel
theorem kb_m13 : (Int8.ofInt (-13)).toInt32 = (-13) := by decide +kernel
theorem kb_m12 : (Int8.ofInt (-12)).toInt32 = (-12) := by decide +kernel
theorem kb_m11 : (Int8.ofInt (-11)).toInt32 = (-11) := by decide +kernel
theorem kb_m10 : (Int8.ofInt (-10)).toInt32 = (-10) := by decide +kernel
theorem kb_m5 : (Int8.ofInt (-5)).toInt32 = (-5) := by decide +kernel
theorem kb_m4 : (Int8.ofInt (-4)).toInt32 = (-4) := by decide +kernel
theorem kb_m3 : (Int8.ofInt (-3)).toInt32 = (-3) := by decide +kernel
theorem kb_m2 : (Int8.ofInt (-2)).toInt32 = (-2) := by decide +kernel
theorem kb_6 : (Int8.ofInt 6).toInt32 = 6 := by decide +kernel
theorem kb_7 : (Int8.ofInt 7).toInt32 = 7 := by decide +kernel
theorem kb_8 : (Int8.ofInt 8).toInt32 = 8 := by decide +kernel
theorem kb_9 : (Int8.ofInt 9).toInt32 = 9 := by decide +kernel
theorem kb_10 : (Int8.ofInt 10).toInt32 = 10 := by decide +kernel
theorem kb_11 : (Int8.ofInt 11).toInt32 = 11 := by decide +kernel
theorem kb_12 : (Int8.ofInt 12).toInt32 = 12 := by decide +kernel
theorem kb_13 : (Int8.ofInt 13).toInt32 = 13 := by decide +kernel
theorem kb_14 : (Int8.ofInt 14).toInt32 = 14 := by decide +kernel
theorem kb_15 : (Int8.ofInt 15).toInt32 = 15 := by decide +kernel
theorem kb_16 : (Int8.ofInt 16).toInt32 = 16 := by decide +kernel
theorem kb_17 : (Int8.ofInt 17).toInt32 = 17 := by decide +kernel
theorem kb_18 : (Int8.ofInt 18).toInt32 = 18 := by decide +kernel
theorem kb_19 : (Int8.ofInt 19).toInt32 = 19 := by decide +kernel
theorem kb_20 : (Int8.ofInt 20).toInt32 = 20 := by decide +kernel
theorem kb_21 : (Int8.ofInt 21).toInt32 = 21 := by decide +kernel
theorem kb_24 : (Int8.ofInt 24).toInt32 = 24 := by decide +kernel
theorem kb_25 : (Int8.ofInt 25).toInt32 = 25 := by decide +kernel
theorem kb_30 : (Int8.ofInt 30).toInt32 = 30 := by decide +kernel
theorem kb_32 : (Int8.ofInt 32).toInt32 = 32 := by decide +kernel
theorem kb_33 : (Int8.ofInt 33).toInt32 = 33 := by decide +kernel
theorem kb_35 : (Int8.ofInt 35).toInt32 = 35 := by decide +kernel
theorem kb_38 : (Int8.ofInt 38).toInt32 = 38 := by decide +kernel
theorem kb_40 : (Int8.ofInt 40).toInt32 = 40 := by decide +kernel
theorem kb_41 : (Int8.ofInt 41).toInt32 = 41 := by decide +kernel
theorem kb_48 : (Int8.ofInt 48).toInt32 = 48 := by decide +kernel
theorem kb_50 : (Int8.ofInt 50).toInt32 = 50 := by decide +kernel
theorem kb_51 : (Int8.ofInt 51).toInt32 = 51 := by decide +kernel
theorem kb_57 : (Int8.ofInt 57).toInt32 = 57 := by decide +kernel
theorem kb_59 : (Int8.ofInt 59).toInt32 = 59 := by decide +kernel
theorem kb_60 : (Int8.ofInt 60).toInt32 = 60 := by decide +kernel
theorem kb_61 : (Int8.ofInt 61).toInt32 = 61 := by decide +kernel
theorem kb_62 : (Int8.ofInt 62).toInt32 = 62 := by decide +kernel
theorem kb_70 : (Int8.ofInt 70).toInt32 = 70 := by decide +kernel
theorem kb_71 : (Int8.ofInt 71).toInt32 = 71 := by decide +kernel
theorem kb_97 : (Int8.ofInt 97).toInt32 = 97 := by decide +kernel
theorem kb_99 : (Int8.ofInt 99).toInt32 = 99 := by decide +kernel
theorem kb_100 : (Int8.ofInt 100).toInt32 = 100 := by decide +kernel
theorem kb_101 : (Int8.ofInt 101).toInt32 = 101 := by decide +kernel
theorem kb_103 : (Int8.ofInt 103).toInt32 = 103 := by decide +kernel
theorem kb_104 : (Int8.ofInt 104).toInt32 = 104 := by decide +kernel
theorem kb_105 : (Int8.ofInt 105).toInt32 = 105 := by decide +kernel
theorem kb_107 : (Int8.ofInt 107).toInt32 = 107 := by decide +kernel
theorem kb_108 : (Int8.ofInt 108).toInt32 = 108 := by decide +kernel
theorem kb_110 : (Int8.ofInt 110).toInt32 = 110 := by decide +kernel
theorem kb_114 : (Int8.ofInt 114).toInt32 = 114 := by decide +kernel
theorem kb_115 : (Int8.ofInt 115).toInt32 = 115 := by decide +kernel
theorem kb_116 : (Int8.ofInt 116).toInt32 = 116 := by decide +kernel
theorem kb_117 : (Int8.ofInt 117).toInt32 = 117 := by decide +kernel
theorem kb_119 : (Int8.ofInt 119).toInt32 = 119 := by decide +kernel
theorem kb_124 : (Int8.ofInt 124).toInt32 = 124 := by decide +kernel
theorem kb_127 : (Int8.ofInt 127).toInt32 = 127 := by decide +kernel
theorem ki_m1 : Int32.ofInt (-1) = (-1) := by decide +kernel
theorem ki_0 : Int32.ofInt 0 = 0 := by decide +kernel
theorem ki_1 : Int32.ofInt 1 = 1 := by decide +kernel
theorem ki_2 : Int32.ofInt 2 = 2 := by decide +kernel
theorem ki_3 : Int32.ofInt 3 = 3 := by decide +kernel
theorem ki_4 : Int32.ofInt 4 = 4 := by decide +kernel
theorem ki_5 : Int32.ofInt 5 = 5 := by decide +kernel
theorem ks_m10002 : (Int16.ofInt (-10002)).toInt32 = (-10002) := by decide +kernel
theorem ks_m10001 : (Int16.ofInt (-10001)).toInt32 = (-10001) := by decide +kernel
theorem ks_255 : (Int16.ofInt 255).toInt32 = 255 := by decide +kernel
theorem ks_300 : (Int16.ofInt 300).toInt32 = 300 := by decide +kernel
theorem ks_360 : (Int16.ofInt 360).toInt32 = 360 := by decide +kernel
theorem ks_600 : (Int16.ofInt 600).toInt32 = 600 := by decide +kernel
theorem ks_1000 : (Int16.ofInt 1000).toInt32 = 1000 := by decide +kernel
theorem ks_9999 : (Int16.ofInt 9999).toInt32 = 9999 := by decide +kernel
theorem oi1 : Cond.instanceMethod Lib.objectInit ∈ gT := gT_of (mtb1 (mt16 (mt4 (mt4 (mt1 (List.Mem.head _)))))) rfl
theorem oi2 : Cond.code Lib.objectInit ⟨#[0xb1]⟩ 1 none ∈ gT := gT_of (mtb1 (mt16 (mt4 (mt4 (mt1 (mt1 (List.Mem.head _))))))) rfl
theorem ac1 : Cond.native arraycopyName ∈ gT := gT_of (mtb2 (mt64 (mt16 (mt16 (mt16 (mt1 (mt1 (List.Mem.head _)))))))) rfl
theorem ac2 : Cond.static arraycopyName ∈ gT := gT_of (mtb2 (mt64 (mt16 (mt16 (mt16 (mt1 (List.Mem.head _))))))) rfl
theorem ac3 : Cond.initialized "java/lang/System" ∈ gT := gT_of (mtb1 (mt4 (mt4 (mt1 (mt1 (mt1 (List.Mem.head _))))))) rfl
theorem mw_max1 : Cond.static Lib.Math.max.name ∈ gT := gT_of (mtb2 (mt64 (mt64 (mt16 (mt1 (List.Mem.head _)))))) rfl
theorem mw_max2 : Cond.code Lib.Math.max.name Lib.Math.max.code 2 (some .int) ∈ gT := gT_of (mtb2 (mt64 (mt64 (mt16 (mt1 (mt1 (List.Mem.head _))))))) rfl
theorem mw_min1 : Cond.static Lib.Math.min.name ∈ gT := gT_of (mtb3 (mt64 (mt4 (mt1 (mt1 (mt1 (List.Mem.head _))))))) rfl
theorem mw_min2 : Cond.code Lib.Math.min.name Lib.Math.min.code 2 (some .int) ∈ gT := gT_of (mtb3 (mt64 (mt4 (mt4 (List.Mem.head _))))) rfl
theorem mw_abs1 : Cond.static Lib.Math.abs.name ∈ gT := gT_of (mtb2 (mt64 (mt64 (mt16 (mt4 (mt4 (List.Mem.head _))))))) rfl
theorem mw_abs2 : Cond.code Lib.Math.abs.name Lib.Math.abs.code 1 (some .int) ∈ gT := gT_of (mtb2 (mt64 (mt64 (mt16 (mt4 (mt4 (mt1 (List.Mem.head _)))))))) rfl
theorem mw_i : Cond.initialized "java/lang/Math" ∈ gT := gT_of (mtb1 (mt4 (mt4 (mt4 (mt1 (List.Mem.head _)))))) rfl
def sRC (a k : Nat) : Nat :=
  if a % 131072 = 3 then (if k = 1 then a + 393217 else if k = 2 then a + 1048968 else if k = 8 then a + 1179848 else if k = 9 then a + 1310920 else 0)
  else if a % 131072 = 4 then (if k = 5 then a + 131143 else if k = 6 then a + 262215 else if k = 7 then a + 393415 else if k = 8 then a + 524487 else 0)
  else if a % 131072 = 5 then (if k = 0 then a + 131462 else if k = 1 then a + 262281 else if k = 6 then a + 393606 else if k = 7 then a + 524678 else 0)
  else if a % 131072 = 8 then (if k = 2 then a + 132996 else 0)
  else if a = 10485761 then (if k = 0 then 10617483 else 0)
  else if a = 6684679 then (if k = 1 then 6818955 else if k = 3 then 6947152 else if k = 5 then 7081099 else 0)
  else if a = 9 then (if k = 0 then 131077 else if k = 1 then 3407877 else if k = 3 then 6684679 else if k = 4 then 7208966 else if k = 5 then 7471311 else if k = 7 then 7602179 else if k = 8 then 9043971 else if k = 9 then 10485761 else if k = 10 then 10748113 else 0)
  else if a % 131072 = 142 then (if k < 4 then a + 393078 + 655360 * k else 0)
  else if a % 131072 = 209 then (if k < 6 then a + 130871 + 262144 * k else 0)
  else 0
def sRM (a k : Nat) : Nat := if a = 12451850 then (if k = 0 then 12583307 else if k = 4 then 12714123 else if k = 5 then 12845195 else if k = 6 then 12976267 else if k = 7 then 13107339 else if k = 8 then 13238411 else if k = 9 then 13369483 else if k = 10 then 13500555 else if k = 11 then 13632267 else if k = 17 then 13765771 else if k = 18 then 13893835 else if k = 19 then 14026635 else if k = 20 then 14157707 else if k = 21 then 14288779 else if k = 22 then 14419851 else if k = 23 then 14568203 else if k = 24 then 14683307 else if k = 28 then 14811787 else if k = 29 then 14945421 else if k = 30 then 15073419 else if k = 31 then 15204491 else if k = 32 then 15335563 else if k = 38 then 15466891 else if k = 39 then 15597963 else if k = 46 then 15729035 else if k = 47 then 15859851 else if k = 48 then 15990923 else if k = 49 then 16121995 else if k = 50 then 16253067 else if k = 51 then 16384139 else if k = 52 then 16515211 else if k = 53 then 16646283 else if k = 54 then 16777995 else if k = 55 then 16908683 else if k = 56 then 17039755 else if k = 58 then 17171083 else if k = 59 then 17301707 else if k = 60 then 17432779 else if k = 61 then 17575180 else if k = 62 then 17696652 else 0) else 0
theorem sC_3_1 {a : Nat} (h : a % 131072 = 3) : sRC a 1 = a + 393217 := by
  have n1 : ¬ a = 9 := by omega
  have n2 : ¬ a = 6684679 := by omega
  have n3 : ¬ a = 10485761 := by omega
  simp [sRC, h, n1, n2, n3]
theorem sC_3_2 {a : Nat} (h : a % 131072 = 3) : sRC a 2 = a + 1048968 := by
  have n1 : ¬ a = 9 := by omega
  have n2 : ¬ a = 6684679 := by omega
  have n3 : ¬ a = 10485761 := by omega
  simp [sRC, h, n1, n2, n3]
theorem sC_3_8 {a : Nat} (h : a % 131072 = 3) : sRC a 8 = a + 1179848 := by
  have n1 : ¬ a = 9 := by omega
  have n2 : ¬ a = 6684679 := by omega
  have n3 : ¬ a = 10485761 := by omega
  simp [sRC, h, n1, n2, n3]
theorem sC_3_9 {a : Nat} (h : a % 131072 = 3) : sRC a 9 = a + 1310920 := by
  have n1 : ¬ a = 9 := by omega
  have n2 : ¬ a = 6684679 := by omega
  have n3 : ¬ a = 10485761 := by omega
  simp [sRC, h, n1, n2, n3]
theorem sC_4_5 {a : Nat} (h : a % 131072 = 4) : sRC a 5 = a + 131143 := by
  have n1 : ¬ a = 9 := by omega
  have n2 : ¬ a = 6684679 := by omega
  have n3 : ¬ a = 10485761 := by omega
  simp [sRC, h, n1, n2, n3]
theorem sC_4_6 {a : Nat} (h : a % 131072 = 4) : sRC a 6 = a + 262215 := by
  have n1 : ¬ a = 9 := by omega
  have n2 : ¬ a = 6684679 := by omega
  have n3 : ¬ a = 10485761 := by omega
  simp [sRC, h, n1, n2, n3]
theorem sC_4_7 {a : Nat} (h : a % 131072 = 4) : sRC a 7 = a + 393415 := by
  have n1 : ¬ a = 9 := by omega
  have n2 : ¬ a = 6684679 := by omega
  have n3 : ¬ a = 10485761 := by omega
  simp [sRC, h, n1, n2, n3]
theorem sC_4_8 {a : Nat} (h : a % 131072 = 4) : sRC a 8 = a + 524487 := by
  have n1 : ¬ a = 9 := by omega
  have n2 : ¬ a = 6684679 := by omega
  have n3 : ¬ a = 10485761 := by omega
  simp [sRC, h, n1, n2, n3]
theorem sC_5_0 {a : Nat} (h : a % 131072 = 5) : sRC a 0 = a + 131462 := by
  have n1 : ¬ a = 9 := by omega
  have n2 : ¬ a = 6684679 := by omega
  have n3 : ¬ a = 10485761 := by omega
  simp [sRC, h, n1, n2, n3]
theorem sC_5_1 {a : Nat} (h : a % 131072 = 5) : sRC a 1 = a + 262281 := by
  have n1 : ¬ a = 9 := by omega
  have n2 : ¬ a = 6684679 := by omega
  have n3 : ¬ a = 10485761 := by omega
  simp [sRC, h, n1, n2, n3]
theorem sC_5_6 {a : Nat} (h : a % 131072 = 5) : sRC a 6 = a + 393606 := by
  have n1 : ¬ a = 9 := by omega
  have n2 : ¬ a = 6684679 := by omega
  have n3 : ¬ a = 10485761 := by omega
  simp [sRC, h, n1, n2, n3]
theorem sC_5_7 {a : Nat} (h : a % 131072 = 5) : sRC a 7 = a + 524678 := by
  have n1 : ¬ a = 9 := by omega
  have n2 : ¬ a = 6684679 := by omega
  have n3 : ¬ a = 10485761 := by omega
  simp [sRC, h, n1, n2, n3]
theorem sC_8_2 {a : Nat} (h : a % 131072 = 8) : sRC a 2 = a + 132996 := by
  have n1 : ¬ a = 9 := by omega
  have n2 : ¬ a = 6684679 := by omega
  have n3 : ¬ a = 10485761 := by omega
  simp [sRC, h, n1, n2, n3]
theorem sC_1_0 : sRC 10485761 0 = 10617483 := by decide +kernel
theorem sC_7_1 : sRC 6684679 1 = 6818955 := by decide +kernel
theorem sC_7_3 : sRC 6684679 3 = 6947152 := by decide +kernel
theorem sC_7_5 : sRC 6684679 5 = 7081099 := by decide +kernel
theorem sC_9_0 : sRC 9 0 = 131077 := by decide +kernel
theorem sC_9_1 : sRC 9 1 = 3407877 := by decide +kernel
theorem sC_9_3 : sRC 9 3 = 6684679 := by decide +kernel
theorem sC_9_4 : sRC 9 4 = 7208966 := by decide +kernel
theorem sC_9_5 : sRC 9 5 = 7471311 := by decide +kernel
theorem sC_9_7 : sRC 9 7 = 7602179 := by decide +kernel
theorem sC_9_8 : sRC 9 8 = 9043971 := by decide +kernel
theorem sC_9_9 : sRC 9 9 = 10485761 := by decide +kernel
theorem sC_9_10 : sRC 9 10 = 10748113 := by decide +kernel
theorem sM_10_0 : sRM 12451850 0 = 12583307 := by decide +kernel
theorem sM_10_4 : sRM 12451850 4 = 12714123 := by decide +kernel
theorem sM_10_5 : sRM 12451850 5 = 12845195 := by decide +kernel
theorem sM_10_6 : sRM 12451850 6 = 12976267 := by decide +kernel
theorem sM_10_7 : sRM 12451850 7 = 13107339 := by decide +kernel
theorem sM_10_8 : sRM 12451850 8 = 13238411 := by decide +kernel
theorem sM_10_9 : sRM 12451850 9 = 13369483 := by decide +kernel
theorem sM_10_10 : sRM 12451850 10 = 13500555 := by decide +kernel
theorem sM_10_11 : sRM 12451850 11 = 13632267 := by decide +kernel
theorem sM_10_17 : sRM 12451850 17 = 13765771 := by decide +kernel
theorem sM_10_18 : sRM 12451850 18 = 13893835 := by decide +kernel
theorem sM_10_19 : sRM 12451850 19 = 14026635 := by decide +kernel
theorem sM_10_20 : sRM 12451850 20 = 14157707 := by decide +kernel
theorem sM_10_21 : sRM 12451850 21 = 14288779 := by decide +kernel
theorem sM_10_22 : sRM 12451850 22 = 14419851 := by decide +kernel
theorem sM_10_23 : sRM 12451850 23 = 14568203 := by decide +kernel
theorem sM_10_24 : sRM 12451850 24 = 14683307 := by decide +kernel
theorem sM_10_28 : sRM 12451850 28 = 14811787 := by decide +kernel
theorem sM_10_29 : sRM 12451850 29 = 14945421 := by decide +kernel
theorem sM_10_30 : sRM 12451850 30 = 15073419 := by decide +kernel
theorem sM_10_31 : sRM 12451850 31 = 15204491 := by decide +kernel
theorem sM_10_32 : sRM 12451850 32 = 15335563 := by decide +kernel
theorem sM_10_38 : sRM 12451850 38 = 15466891 := by decide +kernel
theorem sM_10_39 : sRM 12451850 39 = 15597963 := by decide +kernel
theorem sM_10_46 : sRM 12451850 46 = 15729035 := by decide +kernel
theorem sM_10_47 : sRM 12451850 47 = 15859851 := by decide +kernel
theorem sM_10_48 : sRM 12451850 48 = 15990923 := by decide +kernel
theorem sM_10_49 : sRM 12451850 49 = 16121995 := by decide +kernel
theorem sM_10_50 : sRM 12451850 50 = 16253067 := by decide +kernel
theorem sM_10_51 : sRM 12451850 51 = 16384139 := by decide +kernel
theorem sM_10_52 : sRM 12451850 52 = 16515211 := by decide +kernel
theorem sM_10_53 : sRM 12451850 53 = 16646283 := by decide +kernel
theorem sM_10_54 : sRM 12451850 54 = 16777995 := by decide +kernel
theorem sM_10_55 : sRM 12451850 55 = 16908683 := by decide +kernel
theorem sM_10_56 : sRM 12451850 56 = 17039755 := by decide +kernel
theorem sM_10_58 : sRM 12451850 58 = 17171083 := by decide +kernel
theorem sM_10_59 : sRM 12451850 59 = 17301707 := by decide +kernel
theorem sM_10_60 : sRM 12451850 60 = 17432779 := by decide +kernel
theorem sM_10_61 : sRM 12451850 61 = 17575180 := by decide +kernel
theorem sM_10_62 : sRM 12451850 62 = 17696652 := by decide +kernel
theorem sCz_3_0 {a : Nat} (h : a % 131072 = 3) : sRC a 0 = 0 := by
  have n1 : ¬ a = 9 := by omega
  have n2 : ¬ a = 6684679 := by omega
  have n3 : ¬ a = 10485761 := by omega
  simp [sRC, h, n1, n2, n3]
theorem sCa_14 {a : Nat} (h : a % 131072 = 142) : ∀ j, j < 4 → sRC a j = a + 393078 + 655360 * j ∧ a + 393078 + 655360 * j ≠ 0 := by
  intro j hj
  have n1 : ¬ a = 9 := by omega
  have n2 : ¬ a = 6684679 := by omega
  have n3 : ¬ a = 10485761 := by omega
  refine ⟨?_, by omega⟩
  simp [sRC, h, n1, n2, n3, hj]
theorem sCa_17 {a : Nat} (h : a % 131072 = 209) : ∀ j, j < 6 → sRC a j = a + 130871 + 262144 * j ∧ a + 130871 + 262144 * j ≠ 0 := by
  intro j hj
  have n1 : ¬ a = 9 := by omega
  have n2 : ¬ a = 6684679 := by omega
  have n3 : ¬ a = 10485761 := by omega
  refine ⟨?_, by omega⟩
  simp [sRC, h, n1, n2, n3, hj]
theorem dzC : dynZ sRC := by
  intro a k h
  have n1 : ¬ a = 9 := by intro e; subst e; omega
  have n2 : ¬ a = 6684679 := by intro e; subst e; omega
  have n3 : ¬ a = 10485761 := by intro e; subst e; omega
  unfold sRC
  rw [if_neg (by omega), if_neg (by omega), if_neg (by omega), if_neg (by omega), if_neg (by omega), if_neg (by omega), if_neg (by omega), if_neg (by omega), if_neg (by omega)]
theorem dzM : dynZ sRM := by
  intro a k h
  have n1 : ¬ a = 12451850 := by intro e; subst e; omega
  unfold sRM
  rw [if_neg n1]
theorem pnX0 : plainName RX0 = true := by decide +kernel
theorem neX0 : RX0 ≠ "java/lang/invoke/MethodHandle" ∧ RX0 ≠ "java/lang/invoke/VarHandle" := by decide +kernel
theorem pnX8 : plainName RX8 = true := by decide +kernel
theorem neX8 : RX8 ≠ "java/lang/invoke/MethodHandle" ∧ RX8 ≠ "java/lang/invoke/VarHandle" := by decide +kernel
theorem pnX1 : plainName RX1 = true := by decide +kernel
theorem neX1 : RX1 ≠ "java/lang/invoke/MethodHandle" ∧ RX1 ≠ "java/lang/invoke/VarHandle" := by decide +kernel
theorem pnX5 : plainName RX5 = true := by decide +kernel
theorem neX5 : RX5 ≠ "java/lang/invoke/MethodHandle" ∧ RX5 ≠ "java/lang/invoke/VarHandle" := by decide +kernel
theorem pnX3 : plainName RX3 = true := by decide +kernel
theorem neX3 : RX3 ≠ "java/lang/invoke/MethodHandle" ∧ RX3 ≠ "java/lang/invoke/VarHandle" := by decide +kernel
theorem pnX2 : plainName RX2 = true := by decide +kernel
theorem neX2 : RX2 ≠ "java/lang/invoke/MethodHandle" ∧ RX2 ≠ "java/lang/invoke/VarHandle" := by decide +kernel
theorem pnJ7 : plainName RJ7 = true := by decide +kernel
theorem neJ7 : RJ7 ≠ "java/lang/invoke/MethodHandle" ∧ RJ7 ≠ "java/lang/invoke/VarHandle" := by decide +kernel
theorem pnX4 : plainName RX4 = true := by decide +kernel
theorem neX4 : RX4 ≠ "java/lang/invoke/MethodHandle" ∧ RX4 ≠ "java/lang/invoke/VarHandle" := by decide +kernel
theorem pnX6 : plainName RX6 = true := by decide +kernel
theorem neX6 : RX6 ≠ "java/lang/invoke/MethodHandle" ∧ RX6 ≠ "java/lang/invoke/VarHandle" := by decide +kernel
theorem pnJ0 : plainName RJ0 = true := by decide +kernel
theorem neJ0 : RJ0 ≠ "java/lang/invoke/MethodHandle" ∧ RJ0 ≠ "java/lang/invoke/VarHandle" := by decide +kernel
theorem pnJ3 : plainName RJ3 = true := by decide +kernel
theorem neJ3 : RJ3 ≠ "java/lang/invoke/MethodHandle" ∧ RJ3 ≠ "java/lang/invoke/VarHandle" := by decide +kernel
theorem pnJ1 : plainName RJ1 = true := by decide +kernel
theorem neJ1 : RJ1 ≠ "java/lang/invoke/MethodHandle" ∧ RJ1 ≠ "java/lang/invoke/VarHandle" := by decide +kernel
theorem pnX7 : plainName RX7 = true := by decide +kernel
theorem neX7 : RX7 ≠ "java/lang/invoke/MethodHandle" ∧ RX7 ≠ "java/lang/invoke/VarHandle" := by decide +kernel
theorem pnX9 : plainName RX9 = true := by decide +kernel
theorem neX9 : RX9 ≠ "java/lang/invoke/MethodHandle" ∧ RX9 ≠ "java/lang/invoke/VarHandle" := by decide +kernel
theorem pd0 : (parseMethodDescriptor "()B").map (fun d => d.parameters.length) = some 0 := by decide +kernel
theorem pd1 : (parseMethodDescriptor "()I").map (fun d => d.parameters.length) = some 0 := by decide +kernel
theorem pd2 : (parseMethodDescriptor "()LDoorSticks$House;").map (fun d => d.parameters.length) = some 0 := by decide +kernel
theorem pd3 : (parseMethodDescriptor "()V").map (fun d => d.parameters.length) = some 0 := by decide +kernel
theorem pd4 : (parseMethodDescriptor "()Z").map (fun d => d.parameters.length) = some 0 := by decide +kernel
theorem pd5 : (parseMethodDescriptor "(C)Z").map (fun d => d.parameters.length) = some 1 := by decide +kernel
theorem pd6 : (parseMethodDescriptor "(I)C").map (fun d => d.parameters.length) = some 1 := by decide +kernel
theorem pd7 : (parseMethodDescriptor "(I)I").map (fun d => d.parameters.length) = some 1 := by decide +kernel
theorem pd8 : (parseMethodDescriptor "(I)LDoorSticks$Door;").map (fun d => d.parameters.length) = some 1 := by decide +kernel
theorem pd9 : (parseMethodDescriptor "(I)LDoorSticks$Tape;").map (fun d => d.parameters.length) = some 1 := by decide +kernel
theorem pd10 : (parseMethodDescriptor "(I)Ljava/lang/String;").map (fun d => d.parameters.length) = some 1 := by decide +kernel
theorem pd11 : (parseMethodDescriptor "(I)V").map (fun d => d.parameters.length) = some 1 := by decide +kernel
theorem pd12 : (parseMethodDescriptor "(I)Z").map (fun d => d.parameters.length) = some 1 := by decide +kernel
theorem pd13 : (parseMethodDescriptor "(I)[I").map (fun d => d.parameters.length) = some 1 := by decide +kernel
theorem pd14 : (parseMethodDescriptor "(II)I").map (fun d => d.parameters.length) = some 2 := by decide +kernel
theorem pd15 : (parseMethodDescriptor "(II)J").map (fun d => d.parameters.length) = some 2 := by decide +kernel
theorem pd16 : (parseMethodDescriptor "(II)V").map (fun d => d.parameters.length) = some 2 := by decide +kernel
theorem pd17 : (parseMethodDescriptor "(II)Z").map (fun d => d.parameters.length) = some 2 := by decide +kernel
theorem pd18 : (parseMethodDescriptor "(III)I").map (fun d => d.parameters.length) = some 3 := by decide +kernel
theorem pd19 : (parseMethodDescriptor "(III)J").map (fun d => d.parameters.length) = some 3 := by decide +kernel
theorem pd20 : (parseMethodDescriptor "(III)V").map (fun d => d.parameters.length) = some 3 := by decide +kernel
theorem pd21 : (parseMethodDescriptor "(III)Z").map (fun d => d.parameters.length) = some 3 := by decide +kernel
theorem pd22 : (parseMethodDescriptor "(IIII)I").map (fun d => d.parameters.length) = some 4 := by decide +kernel
theorem pd23 : (parseMethodDescriptor "(IIIII)I").map (fun d => d.parameters.length) = some 5 := by decide +kernel
theorem pd24 : (parseMethodDescriptor "(IIIIII)I").map (fun d => d.parameters.length) = some 6 := by decide +kernel
theorem pd25 : (parseMethodDescriptor "(IIJ)I").map (fun d => d.parameters.length) = some 3 := by decide +kernel
theorem pd26 : (parseMethodDescriptor "(IILjava/util/function/BiFunction;)I").map (fun d => d.parameters.length) = some 3 := by decide +kernel
theorem pd27 : (parseMethodDescriptor "(IIZ)I").map (fun d => d.parameters.length) = some 3 := by decide +kernel
theorem pd28 : (parseMethodDescriptor "(II[I)V").map (fun d => d.parameters.length) = some 3 := by decide +kernel
theorem pd29 : (parseMethodDescriptor "(IJ)J").map (fun d => d.parameters.length) = some 2 := by decide +kernel
theorem pd30 : (parseMethodDescriptor "(I[I)I").map (fun d => d.parameters.length) = some 2 := by decide +kernel
theorem pd31 : (parseMethodDescriptor "(I[I)Z").map (fun d => d.parameters.length) = some 2 := by decide +kernel
theorem pd32 : (parseMethodDescriptor "(J)J").map (fun d => d.parameters.length) = some 1 := by decide +kernel
theorem pd33 : (parseMethodDescriptor "(LDoorSticks$Acts;III)I").map (fun d => d.parameters.length) = some 4 := by decide +kernel
theorem pd34 : (parseMethodDescriptor "(LDoorSticks$Door;)LDoorSticks$Course;").map (fun d => d.parameters.length) = some 1 := by decide +kernel
theorem pd35 : (parseMethodDescriptor "(LDoorSticks$Door;)V").map (fun d => d.parameters.length) = some 1 := by decide +kernel
theorem pd36 : (parseMethodDescriptor "(LDoorSticks$Door;I)I").map (fun d => d.parameters.length) = some 2 := by decide +kernel
theorem pd37 : (parseMethodDescriptor "(LDoorSticks$Door;II)I").map (fun d => d.parameters.length) = some 3 := by decide +kernel
theorem pd38 : (parseMethodDescriptor "(LDoorSticks$Door;LDoorSticks$Door;)Z").map (fun d => d.parameters.length) = some 2 := by decide +kernel
theorem pd39 : (parseMethodDescriptor "(LDoorSticks$Door;LDoorSticks$Home;LDoorSticks$House;)V").map (fun d => d.parameters.length) = some 3 := by decide +kernel
theorem pd40 : (parseMethodDescriptor "(LDoorSticks$Home;)V").map (fun d => d.parameters.length) = some 1 := by decide +kernel
theorem pd41 : (parseMethodDescriptor "(Ljava/lang/String;)I").map (fun d => d.parameters.length) = some 1 := by decide +kernel
theorem pd42 : (parseMethodDescriptor "([BI)C").map (fun d => d.parameters.length) = some 2 := by decide +kernel
theorem pd43 : (parseMethodDescriptor "([BIII)I").map (fun d => d.parameters.length) = some 4 := by decide +kernel
theorem pd44 : (parseMethodDescriptor "([I)I").map (fun d => d.parameters.length) = some 1 := by decide +kernel
theorem pd45 : (parseMethodDescriptor "([I)Z").map (fun d => d.parameters.length) = some 1 := by decide +kernel
theorem pd46 : (parseMethodDescriptor "([II)V").map (fun d => d.parameters.length) = some 2 := by decide +kernel
theorem pd47 : (parseMethodDescriptor "([II)[I").map (fun d => d.parameters.length) = some 2 := by decide +kernel
theorem pd48 : (parseMethodDescriptor "([JJ)V").map (fun d => d.parameters.length) = some 2 := by decide +kernel
theorem pd49 : (parseMethodDescriptor "([LDoorSticks$Clause;)V").map (fun d => d.parameters.length) = some 1 := by decide +kernel
abbrev g_Acts_init : GM := (yX0_init, cX0_init, 1, none, 2)
theorem ic_Acts_init : IvC g_Acts_init 0 := ⟨gT_of (mtb1 (mt4 (mt4 (List.Mem.head _)))) rfl, gT_of (mtb1 (mt64 (mt64 (mt64 (mt16 (mt16 (mt4 (mt4 (mt1 (mt1 (List.Mem.head _))))))))))) rfl, ⟨neX0.1, neX0.2, pd3⟩, pnX0, by decide⟩
abbrev g_Acts_forget : GM := (yX0_forget, cX0_forget, 1, none, 2)
theorem ic_Acts_forget : IvC g_Acts_forget 0 := ⟨gT_of (mtb1 (mt4 (mt4 (List.Mem.head _)))) rfl, gT_of (mtb4 (mt64 (mt16 (mt16 (mt1 (List.Mem.head _)))))) rfl, ⟨neX0.1, neX0.2, pd3⟩, pnX0, by decide⟩
abbrev g_Acts_keptCount : GM := (yX0_keptCount, cX0_keptCount, 1, some .int, 2)
theorem ic_Acts_keptCount : IvC g_Acts_keptCount 0 := ⟨gT_of (mtb1 (mt4 (mt4 (List.Mem.head _)))) rfl, gT_of (mtb4 (mt64 (mt64 (List.Mem.head _)))) rfl, ⟨neX0.1, neX0.2, pd1⟩, pnX0, by decide⟩
abbrev g_Acts_began : GM := (yX0_began, cX0_began, 2, none, 2)
theorem ic_Acts_began : IvC g_Acts_began 1 := ⟨gT_of (mtb1 (mt4 (mt4 (List.Mem.head _)))) rfl, gT_of (mtb4 (mt64 (mt16 (mt16 (mt4 (mt4 (mt4 (List.Mem.head _)))))))) rfl, ⟨neX0.1, neX0.2, pd11⟩, pnX0, by decide⟩
abbrev g_D_within : GM := (yX8_within, cX8_within, 3, some .boolean, 2)
theorem ic_D_within : IvC g_D_within 3 := ⟨gT_of (mtb1 (mt1 (List.Mem.head _))) rfl, gT_of (mtb2 (mt64 (mt4 (mt4 (mt1 (mt1 (List.Mem.head _))))))) rfl, ⟨neX8.1, neX8.2, pd21⟩, pnX8, by decide⟩
abbrev g_Acts_above : GM := (yX0_above, cX0_above, 1, some .int, 3)
theorem ic_Acts_above : IvC g_Acts_above 1 := ⟨gT_of (mtb1 (mt4 (mt4 (List.Mem.head _)))) rfl, gT_of (mtb4 (mt64 (mt16 (mt16 (mt4 (mt4 (mt4 (mt1 (mt1 (mt1 (List.Mem.head _))))))))))) rfl, ⟨neX0.1, neX0.2, pd7⟩, pnX0, by decide⟩
abbrev g_Acts_swells (rn : Nat) : GM := (yX0_swells, cX0_swells, 4, some .int, 4 + rn)
theorem ic_Acts_swells (rn : Nat) : IvC (g_Acts_swells rn) 4 := ⟨gT_of (mtb1 (mt4 (mt4 (List.Mem.head _)))) rfl, gT_of (mtb4 (mt64 (mt16 (mt16 (mt4 (mt4 (List.Mem.head _))))))) rfl, ⟨neX0.1, neX0.2, pd33⟩, pnX0, Nat.le_of_ble_eq_true rfl⟩
abbrev g_Acts_hangs (rn : Nat) : GM := (yX0_hangs, cX0_hangs, 4, some .int, 17 + rn)
theorem ic_Acts_hangs (rn : Nat) : IvC (g_Acts_hangs rn) 4 := ⟨gT_of (mtb1 (mt4 (mt4 (List.Mem.head _)))) rfl, gT_of (mtb4 (mt64 (mt16 (mt16 (mt16 (mt4 (mt1 (List.Mem.head _)))))))) rfl, ⟨neX0.1, neX0.2, pd33⟩, pnX0, Nat.le_of_ble_eq_true rfl⟩
abbrev g_Acts_tells (rn : Nat) : GM := (yX0_tells, cX0_tells, 4, some .int, 30 + rn)
theorem ic_Acts_tells (rn : Nat) : IvC (g_Acts_tells rn) 4 := ⟨gT_of (mtb1 (mt4 (mt4 (List.Mem.head _)))) rfl, gT_of (mtb4 (mt64 (mt16 (mt16 (mt16 (mt4 (mt4 (List.Mem.head _)))))))) rfl, ⟨neX0.1, neX0.2, pd33⟩, pnX0, Nat.le_of_ble_eq_true rfl⟩
abbrev g_Acts_perform : GM := (yX0_perform, cX0_perform, 4, some .int, 43)
theorem ic_Acts_perform : IvC g_Acts_perform 3 := ⟨gT_of (mtb1 (mt4 (mt4 (List.Mem.head _)))) rfl, gT_of (mtb4 (mt64 (mt16 (mt16 (mt4 (mt1 (List.Mem.head _))))))) rfl, ⟨neX0.1, neX0.2, pd37⟩, pnX0, by decide⟩
abbrev g_Cl_init : GM := (yX1_init, cX1_init, 4, none, 2)
theorem ic_Cl_init : IvC g_Cl_init 3 := ⟨gT_of (mtb1 (mt4 (mt4 (mt4 (List.Mem.head _))))) rfl, gT_of (mtb3 (mt64 (mt64 (mt4 (mt1 (mt1 (List.Mem.head _))))))) rfl, ⟨neX1.1, neX1.2, pd28⟩, pnX1, by decide⟩
abbrev g_Cl_codeOfTest : GM := (yX1_codeOfTest, cX1_codeOfTest, 3, some .int, 2)
theorem ic_Cl_codeOfTest : IvC g_Cl_codeOfTest 3 := ⟨gT_of (mtb1 (mt4 (mt4 (mt4 (List.Mem.head _))))) rfl, gT_of (mtb3 (mt64 (mt16 (mt16 (mt16 (mt1 (mt1 (List.Mem.head _)))))))) rfl, ⟨neX1.1, neX1.2, pd18⟩, pnX1, by decide⟩
abbrev g_Cl_testHolds : GM := (yX1_testHolds, cX1_testHolds, 5, some .boolean, 2)
theorem ic_Cl_testHolds : IvC g_Cl_testHolds 2 := ⟨gT_of (mtb1 (mt4 (mt4 (mt4 (List.Mem.head _))))) rfl, gT_of (mtb2 (mt64 (mt64 (mt4 (mt4 (mt1 (mt1 (mt1 (List.Mem.head _))))))))) rfl, ⟨neX1.1, neX1.2, pd31⟩, pnX1, by decide⟩
abbrev g_Cl_holds : GM := (yX1_holds, cX1_holds, 8, some .boolean, 3)
theorem ic_Cl_holds : IvC g_Cl_holds 1 := ⟨gT_of (mtb1 (mt4 (mt4 (mt4 (List.Mem.head _))))) rfl, gT_of (mtb2 (mt64 (mt64 (mt4 (mt1 (mt1 (mt1 (List.Mem.head _)))))))) rfl, ⟨neX1.1, neX1.2, pd45⟩, pnX1, by decide⟩
abbrev g_Hs_init : GM := (yX5_init, cX5_init, 9, none, 2)
theorem ic_Hs_init : IvC g_Hs_init 1 := ⟨gT_of (mtb1 (mt4 (mt1 (mt1 (List.Mem.head _))))) rfl, gT_of (mtb1 (mt64 (mt64 (mt16 (mt16 (List.Mem.head _)))))) rfl, ⟨neX5.1, neX5.2, pd49⟩, pnX5, by decide⟩
abbrev g_Dr_init : GM := (yX3_init, cX3_init, 1, none, 2)
theorem ic_Dr_init : IvC g_Dr_init 0 := ⟨gT_of (mtb1 (mt4 (List.Mem.head _))) rfl, gT_of (mtb1 (mt16 (mt16 (mt4 (mt4 (mt1 (List.Mem.head _))))))) rfl, ⟨neX3.1, neX3.2, pd3⟩, pnX3, by decide⟩
abbrev g_Co_init : GM := (yX2_init, cX2_init, 1, none, 3)
theorem ic_Co_init : IvC g_Co_init 0 := ⟨gT_of (mtb1 (mt4 (mt1 (mt1 (mt1 (List.Mem.head _)))))) rfl, gT_of (mtb1 (mt64 (mt64 (mt16 (mt16 (mt16 (mt4 (mt4 (mt1 (List.Mem.head _)))))))))) rfl, ⟨neX2.1, neX2.2, pd3⟩, pnX2, by decide⟩
abbrev g_Dr_become : GM := (yX3_become, cX3_become, 2, none, 2)
theorem ic_Dr_become : IvC g_Dr_become 1 := ⟨gT_of (mtb1 (mt4 (List.Mem.head _))) rfl, gT_of (mtb2 (mt64 (mt16 (mt16 (mt4 (mt4 (mt4 (mt1 (mt1 (mt1 (List.Mem.head _))))))))))) rfl, ⟨neX3.1, neX3.2, pd35⟩, pnX3, by decide⟩
abbrev g_Dr_dampness : GM := (yX3_dampness, cX3_dampness, 1, some .int, 2)
theorem ic_Dr_dampness : IvC g_Dr_dampness 0 := ⟨gT_of (mtb1 (mt4 (List.Mem.head _))) rfl, gT_of (mtb2 (mt64 (mt16 (mt16 (mt16 (mt4 (mt4 (mt4 (mt1 (mt1 (mt1 (List.Mem.head _)))))))))))) rfl, ⟨neX3.1, neX3.2, pd1⟩, pnX3, by decide⟩
abbrev g_Dr_factsIn : GM := (yX3_factsIn, cX3_factsIn, 2, some (.array .int), 3)
theorem ic_Dr_factsIn : IvC g_Dr_factsIn 1 := ⟨gT_of (mtb1 (mt4 (List.Mem.head _))) rfl, gT_of (mtb2 (mt64 (mt16 (mt16 (mt16 (mt4 (mt4 (mt1 (mt1 (mt1 (List.Mem.head _))))))))))) rfl, ⟨neX3.1, neX3.2, pd13⟩, pnX3, by decide⟩
abbrev g_Hs_total : GM := (yX5_total, cX5_total, 8, some .int, 4)
theorem ic_Hs_total : IvC g_Hs_total 2 := ⟨gT_of (mtb1 (mt4 (mt1 (mt1 (List.Mem.head _))))) rfl, gT_of (mtb2 (mt64 (mt64 (mt1 (mt1 (mt1 (List.Mem.head _))))))) rfl, ⟨neX5.1, neX5.2, pd30⟩, pnX5, by decide⟩
abbrev g_Dr_swell : GM := (yX3_swell, cX3_swell, 3, some .int, 3)
theorem ic_Dr_swell : IvC g_Dr_swell 1 := ⟨gT_of (mtb1 (mt4 (List.Mem.head _))) rfl, gT_of (mtb2 (mt64 (mt64 (mt4 (mt4 (mt4 (mt1 (mt1 (mt1 (List.Mem.head _)))))))))) rfl, ⟨neX3.1, neX3.2, pd7⟩, pnX3, by decide⟩
abbrev g_Dr_bend : GM := (yX3_bend, cX3_bend, 2, some .int, 2)
theorem ic_Dr_bend : IvC g_Dr_bend 0 := ⟨gT_of (mtb1 (mt4 (List.Mem.head _))) rfl, gT_of (mtb2 (mt64 (mt64 (mt16 (mt4 (mt1 (mt1 (List.Mem.head _)))))))) rfl, ⟨neX3.1, neX3.2, pd1⟩, pnX3, by decide⟩
abbrev g_Dr_hang : GM := (yX3_hang, cX3_hang, 3, some .int, 2)
theorem ic_Dr_hang : IvC g_Dr_hang 1 := ⟨gT_of (mtb1 (mt4 (List.Mem.head _))) rfl, gT_of (mtb2 (mt64 (mt64 (mt16 (mt4 (mt4 (mt4 (mt1 (List.Mem.head _))))))))) rfl, ⟨neX3.1, neX3.2, pd7⟩, pnX3, by decide⟩
abbrev g_Co_settle : GM := (yX2_settle, cX2_settle, 2, none, 5)
theorem ic_Co_settle : IvC g_Co_settle 0 := ⟨gT_of (mtb1 (mt4 (mt1 (mt1 (mt1 (List.Mem.head _)))))) rfl, gT_of (mtb2 (mt64 (mt16 (mt16 (mt16 (mt4 (mt1 (mt1 (mt1 (List.Mem.head _)))))))))) rfl, ⟨neX2.1, neX2.2, pd3⟩, pnX2, by decide⟩
abbrev g_Co_begin : GM := (yX2_begin, cX2_begin, 4, none, 6)
theorem ic_Co_begin : IvC g_Co_begin 3 := ⟨gT_of (mtb1 (mt4 (mt1 (mt1 (mt1 (List.Mem.head _)))))) rfl, gT_of (mtb2 (mt64 (mt16 (mt16 (mt4 (mt4 (mt1 (mt1 (mt1 (List.Mem.head _)))))))))) rfl, ⟨neX2.1, neX2.2, pd39⟩, pnX2, by decide⟩
abbrev g_Dr_takeUp : GM := (yX3_takeUp, cX3_takeUp, 3, none, 2)
theorem ic_Dr_takeUp : IvC g_Dr_takeUp 1 := ⟨gT_of (mtb1 (mt4 (List.Mem.head _))) rfl, gT_of (mtb3 (mt64 (mt64 (mt16 (mt16 (mt4 (mt1 (mt1 (List.Mem.head _))))))))) rfl, ⟨neX3.1, neX3.2, pd11⟩, pnX3, by decide⟩
abbrev g_Dr_drawOut : GM := (yX3_drawOut, cX3_drawOut, 2, none, 2)
theorem ic_Dr_drawOut : IvC g_Dr_drawOut 1 := ⟨gT_of (mtb1 (mt4 (List.Mem.head _))) rfl, gT_of (mtb3 (mt64 (mt64 (mt16 (mt16 (mt4 (mt4 (mt4 (List.Mem.head _))))))))) rfl, ⟨neX3.1, neX3.2, pd11⟩, pnX3, by decide⟩
abbrev g_D_sunk : GM := (yX8_sunk, cX8_sunk, 3, some .int, 2)
theorem ic_D_sunk : IvC g_D_sunk 3 := ⟨gT_of (mtb1 (mt1 (List.Mem.head _))) rfl, gT_of (mtb3 (mt64 (mt64 (mt16 (mt16 (mt16 (List.Mem.head _))))))) rfl, ⟨neX8.1, neX8.2, pd18⟩, pnX8, by decide⟩
abbrev g_Co_pass : GM := (yX2_pass, cX2_pass, 2, none, 5)
theorem ic_Co_pass : IvC g_Co_pass 1 := ⟨gT_of (mtb1 (mt4 (mt1 (mt1 (mt1 (List.Mem.head _)))))) rfl, gT_of (mtb3 (mt64 (mt64 (mt64 (mt16 (mt4 (mt1 (List.Mem.head _)))))))) rfl, ⟨neX2.1, neX2.2, pd11⟩, pnX2, by decide⟩
abbrev g_Co_goInAir : GM := (yX2_goInAir, cX2_goInAir, 2, none, 6)
theorem ic_Co_goInAir : IvC g_Co_goInAir 1 := ⟨gT_of (mtb1 (mt4 (mt1 (mt1 (mt1 (List.Mem.head _)))))) rfl, gT_of (mtb4 (mt16 (mt16 (mt1 (mt1 (List.Mem.head _)))))) rfl, ⟨neX2.1, neX2.2, pd11⟩, pnX2, by decide⟩
abbrev g_Co_goOn : GM := (yX2_goOn, cX2_goOn, 3, none, 6)
theorem ic_Co_goOn : IvC g_Co_goOn 1 := ⟨gT_of (mtb1 (mt4 (mt1 (mt1 (mt1 (List.Mem.head _)))))) rfl, gT_of (mtb3 (mt64 (mt64 (mt64 (mt16 (mt1 (List.Mem.head _))))))) rfl, ⟨neX2.1, neX2.2, pd11⟩, pnX2, by decide⟩
abbrev g_D_isSpot : GM := (yX8_isSpot, cX8_isSpot, 1, some .boolean, 3)
theorem ic_D_isSpot : IvC g_D_isSpot 1 := ⟨gT_of (mtb1 (mt1 (List.Mem.head _))) rfl, gT_of (mtb2 (mt64 (mt64 (mt16 (mt16 (mt4 (List.Mem.head _))))))) rfl, ⟨neX8.1, neX8.2, pd12⟩, pnX8, by decide⟩
abbrev g_D_takenUp : GM := (yX8_takenUp, cX8_takenUp, 6, some .int, 2)
theorem ic_D_takenUp : IvC g_D_takenUp 6 := ⟨gT_of (mtb1 (mt1 (List.Mem.head _))) rfl, gT_of (mtb2 (mt64 (mt64 (mt16 (mt16 (mt4 (mt1 (mt1 (mt1 (List.Mem.head _)))))))))) rfl, ⟨neX8.1, neX8.2, pd24⟩, pnX8, by decide⟩
abbrev g_Co_gap : GM := (yX2_gap, cX2_gap, 2, some .int, 4)
theorem ic_Co_gap : IvC g_Co_gap 1 := ⟨gT_of (mtb1 (mt4 (mt1 (mt1 (mt1 (List.Mem.head _)))))) rfl, gT_of (mtb2 (mt64 (mt64 (mt16 (mt16 (mt1 (List.Mem.head _))))))) rfl, ⟨neX2.1, neX2.2, pd7⟩, pnX2, by decide⟩
abbrev g_Co_goThrough : GM := (yX2_goThrough, cX2_goThrough, 4, none, 6)
theorem ic_Co_goThrough : IvC g_Co_goThrough 1 := ⟨gT_of (mtb1 (mt4 (mt1 (mt1 (mt1 (List.Mem.head _)))))) rfl, gT_of (mtb3 (mt64 (mt64 (mt64 (mt16 (mt16 (mt4 (mt4 (List.Mem.head _))))))))) rfl, ⟨neX2.1, neX2.2, pd11⟩, pnX2, by decide⟩
abbrev g_Co_firstRubbing : GM := (yX2_firstRubbing, cX2_firstRubbing, 2, some .int, 5)
theorem ic_Co_firstRubbing : IvC g_Co_firstRubbing 0 := ⟨gT_of (mtb1 (mt4 (mt1 (mt1 (mt1 (List.Mem.head _)))))) rfl, gT_of (mtb3 (mt64 (mt64 (mt64 (mt16 (mt16 (List.Mem.head _))))))) rfl, ⟨neX2.1, neX2.2, pd1⟩, pnX2, by decide⟩
abbrev g_Co_rubbing : GM := (yX2_rubbing, cX2_rubbing, 3, some .int, 5)
theorem ic_Co_rubbing : IvC g_Co_rubbing 0 := ⟨gT_of (mtb1 (mt4 (mt1 (mt1 (mt1 (List.Mem.head _)))))) rfl, gT_of (mtb2 (mt64 (mt64 (mt16 (mt16 (mt4 (mt4 (mt1 (mt1 (mt1 (List.Mem.head _))))))))))) rfl, ⟨neX2.1, neX2.2, pd1⟩, pnX2, by decide⟩
abbrev g_Co_draughty : GM := (yX2_draughty, cX2_draughty, 3, some .int, 5)
theorem ic_Co_draughty : IvC g_Co_draughty 0 := ⟨gT_of (mtb1 (mt4 (mt1 (mt1 (mt1 (List.Mem.head _)))))) rfl, gT_of (mtb2 (mt64 (mt64 (mt16 (mt16 (mt16 (List.Mem.head _))))))) rfl, ⟨neX2.1, neX2.2, pd1⟩, pnX2, by decide⟩
abbrev g_Co_rubsWith : GM := (yX2_rubsWith, cX2_rubsWith, 4, some .int, 3)
theorem ic_Co_rubsWith : IvC g_Co_rubsWith 1 := ⟨gT_of (mtb1 (mt4 (mt1 (mt1 (mt1 (List.Mem.head _)))))) rfl, gT_of (mtb4 (mt16 (mt16 (mt16 (mt4 (mt1 (List.Mem.head _))))))) rfl, ⟨neX2.1, neX2.2, pd44⟩, pnX2, by decide⟩
abbrev g_Co_missing : GM := (yX2_missing, cX2_missing, 2, some .int, 2)
theorem ic_Co_missing : IvC g_Co_missing 1 := ⟨gT_of (mtb1 (mt4 (mt1 (mt1 (mt1 (List.Mem.head _)))))) rfl, gT_of (mtb4 (mt4 (mt1 (mt1 (List.Mem.head _))))) rfl, ⟨neX2.1, neX2.2, pd7⟩, pnX2, by decide⟩
abbrev g_Co_missingSpots : GM := (yX2_missingSpots, cX2_missingSpots, 3, some .int, 3)
theorem ic_Co_missingSpots : IvC g_Co_missingSpots 0 := ⟨gT_of (mtb1 (mt4 (mt1 (mt1 (mt1 (List.Mem.head _)))))) rfl, gT_of (mtb4 (mt16 (mt4 (List.Mem.head _)))) rfl, ⟨neX2.1, neX2.2, pd1⟩, pnX2, by decide⟩
abbrev g_Co_fitsWhenCut : GM := (yX2_fitsWhenCut, cX2_fitsWhenCut, 2, some .boolean, 3)
theorem ic_Co_fitsWhenCut : IvC g_Co_fitsWhenCut 0 := ⟨gT_of (mtb1 (mt4 (mt1 (mt1 (mt1 (List.Mem.head _)))))) rfl, gT_of (mtb4 (mt1 (mt1 (List.Mem.head _)))) rfl, ⟨neX2.1, neX2.2, pd4⟩, pnX2, by decide⟩
abbrev g_Ar_fillI : GM := (yJ7_fill_53178, cJ7_fill_53178, 4, none, 2)
theorem ic_Ar_fillI : IvC g_Ar_fillI 2 := ⟨gT_of (mtb1 (mt1 (mt1 (mt1 (List.Mem.head _))))) rfl, gT_of (mtb1 (mt16 (mt16 (mt4 (mt1 (List.Mem.head _)))))) rfl, ⟨neJ7.1, neJ7.2, pd46⟩, pnJ7, by decide⟩
abbrev g_Dr_begin : GM := (yX3_begin, cX3_begin, 4, none, 3)
theorem ic_Dr_begin : IvC g_Dr_begin 3 := ⟨gT_of (mtb1 (mt4 (List.Mem.head _))) rfl, gT_of (mtb2 (mt64 (mt16 (mt4 (mt1 (mt1 (List.Mem.head _))))))) rfl, ⟨neX3.1, neX3.2, pd20⟩, pnX3, by decide⟩
abbrev g_Dr_cutMore : GM := (yX3_cutMore, cX3_cutMore, 4, some .int, 2)
theorem ic_Dr_cutMore : IvC g_Dr_cutMore 2 := ⟨gT_of (mtb1 (mt4 (List.Mem.head _))) rfl, gT_of (mtb3 (mt64 (mt64 (mt16 (mt16 (mt16 (mt4 (mt4 (mt4 (mt1 (List.Mem.head _))))))))))) rfl, ⟨neX3.1, neX3.2, pd14⟩, pnX3, by decide⟩
abbrev g_Dr_packMore : GM := (yX3_packMore, cX3_packMore, 3, some .int, 2)
theorem ic_Dr_packMore : IvC g_Dr_packMore 1 := ⟨gT_of (mtb1 (mt4 (List.Mem.head _))) rfl, gT_of (mtb3 (mt64 (mt64 (mt64 (mt1 (List.Mem.head _)))))) rfl, ⟨neX3.1, neX3.2, pd7⟩, pnX3, by decide⟩
abbrev g_Dr_driveScrews : GM := (yX3_driveScrews, cX3_driveScrews, 2, some .int, 2)
theorem ic_Dr_driveScrews : IvC g_Dr_driveScrews 0 := ⟨gT_of (mtb1 (mt4 (List.Mem.head _))) rfl, gT_of (mtb3 (mt64 (mt64 (mt64 (mt4 (mt1 (List.Mem.head _))))))) rfl, ⟨neX3.1, neX3.2, pd1⟩, pnX3, by decide⟩
abbrev g_Dr_paintSide : GM := (yX3_paintSide, cX3_paintSide, 3, some .int, 2)
theorem ic_Dr_paintSide : IvC g_Dr_paintSide 1 := ⟨gT_of (mtb1 (mt4 (List.Mem.head _))) rfl, gT_of (mtb3 (mt64 (mt64 (mt64 (mt4 (mt4 (mt1 (List.Mem.head _)))))))) rfl, ⟨neX3.1, neX3.2, pd7⟩, pnX3, by decide⟩
abbrev g_Hm_init : GM := (yX4_init, cX4_init, 2, none, 3)
theorem ic_Hm_init : IvC g_Hm_init 0 := ⟨gT_of (mtb1 (mt1 (mt1 (List.Mem.head _)))) rfl, gT_of (mtb1 (mt16 (mt4 (mt4 (mt4 (mt1 (mt1 (mt1 (List.Mem.head _))))))))) rfl, ⟨neX4.1, neX4.2, pd3⟩, pnX4, by decide⟩
abbrev g_Hm_become : GM := (yX4_become, cX4_become, 3, none, 3)
theorem ic_Hm_become : IvC g_Hm_become 1 := ⟨gT_of (mtb1 (mt1 (mt1 (List.Mem.head _)))) rfl, gT_of (mtb4 (mt64 (mt16 (mt1 (mt1 (mt1 (List.Mem.head _))))))) rfl, ⟨neX4.1, neX4.2, pd40⟩, pnX4, by decide⟩
abbrev g_Tx_init : GM := (yX6_init, cX6_init, 1, none, 2)
theorem ic_Tx_init : IvC g_Tx_init 0 := ⟨gT_of (mtb1 (mt4 (mt1 (List.Mem.head _)))) rfl, gT_of (mtb1 (mt64 (mt64 (List.Mem.head _)))) rfl, ⟨neX6.1, neX6.2, pd3⟩, pnX6, by decide⟩
abbrev g_Tx_append : GM := (yX6_append, cX6_append, 2, some .boolean, 2)
theorem ic_Tx_append : IvC g_Tx_append 1 := ⟨gT_of (mtb1 (mt4 (mt1 (List.Mem.head _)))) rfl, gT_of (mtb2 (mt64 (mt64 (mt64 (List.Mem.head _))))) rfl, ⟨neX6.1, neX6.2, pd12⟩, pnX6, by decide⟩
abbrev g_Tx_takes : GM := (yX6_takes, cX6_takes, 3, some .boolean, 2)
theorem ic_Tx_takes : IvC g_Tx_takes 1 := ⟨gT_of (mtb1 (mt4 (mt1 (List.Mem.head _)))) rfl, gT_of (mtb2 (mt64 (mt64 (mt64 (mt4 (mt4 (mt4 (List.Mem.head _)))))))) rfl, ⟨neX6.1, neX6.2, pd5⟩, pnX6, by decide⟩
abbrev g_Tx_wordOf : GM := (yX6_wordOf, cX6_wordOf, 1, some (.object "java/lang/String"), 2)
theorem ic_Tx_wordOf : IvC g_Tx_wordOf 1 := ⟨gT_of (mtb1 (mt4 (mt1 (List.Mem.head _)))) rfl, gT_of (mtb2 (mt64 (mt64 (mt64 (mt16 (mt1 (mt1 (mt1 (List.Mem.head _))))))))) rfl, ⟨neX6.1, neX6.2, pd10⟩, pnX6, by decide⟩
abbrev g_St_coder : GM := (yJ0_coder_7d493, cJ0_coder_7d493, 1, some .byte, 2)
theorem ic_St_coder : IvC g_St_coder 0 := ⟨gT_of (mtb1 (mt4 (mt4 (mt4 (mt1 (mt1 (List.Mem.head _))))))) rfl, gT_of (mtb2 (mt64 (mt64 (mt64 (mt16 (mt16 (mt1 (mt1 (mt1 (List.Mem.head _)))))))))) rfl, ⟨neJ0.1, neJ0.2, pd0⟩, pnJ0, by decide⟩
abbrev g_St_length : GM := (yJ0_length_8abf5, cJ0_length_8abf5, 1, some .int, 3)
theorem ic_St_length : IvC g_St_length 0 := ⟨gT_of (mtb1 (mt4 (mt4 (mt4 (mt1 (mt1 (List.Mem.head _))))))) rfl, gT_of (mtb2 (mt64 (mt64 (mt64 (mt16 (mt4 (mt4 (mt4 (mt1 (mt1 (mt1 (List.Mem.head _)))))))))))) rfl, ⟨neJ0.1, neJ0.2, pd1⟩, pnJ0, by decide⟩
abbrev g_St_isLatin1 : GM := (yJ0_isLatin1_aae02, cJ0_isLatin1_aae02, 1, some .boolean, 2)
theorem ic_St_isLatin1 : IvC g_St_isLatin1 0 := ⟨gT_of (mtb1 (mt4 (mt4 (mt4 (mt1 (mt1 (List.Mem.head _))))))) rfl, gT_of (mtb2 (mt64 (mt64 (mt64 (mt16 (mt16 (mt4 (mt4 (mt4 (mt1 (List.Mem.head _))))))))))) rfl, ⟨neJ0.1, neJ0.2, pd4⟩, pnJ0, by decide⟩
abbrev g_Pc_checkIndex : GM := (yJ3_checkIndex_8e157, cJ3_checkIndex_8e157, 3, some .int, 2)
theorem ic_Pc_checkIndex : IvC g_Pc_checkIndex 3 := ⟨gT_of (mtb1 (mt16 (List.Mem.head _))) rfl, gT_of (mtb3 (mt4 (mt4 (List.Mem.head _)))) rfl, ⟨neJ3.1, neJ3.2, pd26⟩, pnJ3, by decide⟩
abbrev g_St_checkIndex : GM := (yJ0_checkIndex_df160, cJ0_checkIndex_df160, 2, none, 3)
theorem ic_St_checkIndex : IvC g_St_checkIndex 2 := ⟨gT_of (mtb1 (mt4 (mt4 (mt4 (mt1 (mt1 (List.Mem.head _))))))) rfl, gT_of (mtb3 (mt1 (mt1 (mt1 (List.Mem.head _))))) rfl, ⟨neJ0.1, neJ0.2, pd16⟩, pnJ0, by decide⟩
abbrev g_SL_charAt : GM := (yJ1_charAt_3b067, cJ1_charAt_3b067, 2, some .char, 4)
theorem ic_SL_charAt : IvC g_SL_charAt 2 := ⟨gT_of (mtb1 (mt4 (mt4 (mt4 (mt1 (mt1 (mt1 (List.Mem.head _)))))))) rfl, gT_of (mtb3 (List.Mem.head _)) rfl, ⟨neJ1.1, neJ1.2, pd42⟩, pnJ1, by decide⟩
abbrev g_St_charAt : GM := (yJ0_charAt_5068e, cJ0_charAt_5068e, 2, some .char, 5)
theorem ic_St_charAt : IvC g_St_charAt 1 := ⟨gT_of (mtb1 (mt4 (mt4 (mt4 (mt1 (mt1 (List.Mem.head _))))))) rfl, gT_of (mtb2 (mt64 (mt64 (mt64 (mt16 (mt16 (mt4 (mt4 (mt1 (List.Mem.head _)))))))))) rfl, ⟨neJ0.1, neJ0.2, pd6⟩, pnJ0, by decide⟩
abbrev g_Tx_alikeWith : GM := (yX6_alikeWith, cX6_alikeWith, 3, some .int, 6)
theorem ic_Tx_alikeWith : IvC g_Tx_alikeWith 1 := ⟨gT_of (mtb1 (mt4 (mt1 (List.Mem.head _)))) rfl, gT_of (mtb2 (mt64 (mt64 (mt64 (mt16 (mt4 (mt4 (mt1 (mt1 (mt1 (List.Mem.head _))))))))))) rfl, ⟨neX6.1, neX6.2, pd41⟩, pnX6, by decide⟩
abbrev g_Tx_takenWord : GM := (yX6_takenWord, cX6_takenWord, 5, some .int, 7)
theorem ic_Tx_takenWord : IvC g_Tx_takenWord 0 := ⟨gT_of (mtb1 (mt4 (mt1 (List.Mem.head _)))) rfl, gT_of (mtb2 (mt64 (mt64 (mt64 (mt16 (List.Mem.head _)))))) rfl, ⟨neX6.1, neX6.2, pd1⟩, pnX6, by decide⟩
abbrev g_Tx_takenNumber : GM := (yX6_takenNumber, cX6_takenNumber, 3, some .int, 2)
theorem ic_Tx_takenNumber : IvC g_Tx_takenNumber 0 := ⟨gT_of (mtb1 (mt4 (mt1 (List.Mem.head _)))) rfl, gT_of (mtb3 (mt16 (mt16 (List.Mem.head _)))) rfl, ⟨neX6.1, neX6.2, pd1⟩, pnX6, by decide⟩
abbrev g_SL_canEncode : GM := (yJ1_canEncode_9a6ad, cJ1_canEncode_9a6ad, 1, some .boolean, 2)
theorem ic_SL_canEncode : IvC g_SL_canEncode 1 := ⟨gT_of (mtb1 (mt4 (mt4 (mt4 (mt1 (mt1 (mt1 (List.Mem.head _)))))))) rfl, gT_of (mtb3 (mt64 (mt4 (List.Mem.head _)))) rfl, ⟨neJ1.1, neJ1.2, pd12⟩, pnJ1, by decide⟩
abbrev g_SL_indexOfChar : GM := (yJ1_indexOfChar_4cfef, cJ1_indexOfChar_4cfef, 6, some .int, 2)
theorem ic_SL_indexOfChar : IvC g_SL_indexOfChar 4 := ⟨gT_of (mtb1 (mt4 (mt4 (mt4 (mt1 (mt1 (mt1 (List.Mem.head _)))))))) rfl, gT_of (mtb3 (mt64 (mt4 (mt4 (mt1 (mt1 (mt1 (List.Mem.head _)))))))) rfl, ⟨neJ1.1, neJ1.2, pd43⟩, pnJ1, by decide⟩
abbrev g_SL_indexOf : GM := (yJ1_indexOf_4cfef, cJ1_indexOf_4cfef, 4, some .int, 3)
theorem ic_SL_indexOf : IvC g_SL_indexOf 4 := ⟨gT_of (mtb1 (mt4 (mt4 (mt4 (mt1 (mt1 (mt1 (List.Mem.head _)))))))) rfl, gT_of (mtb3 (mt64 (mt1 (List.Mem.head _)))) rfl, ⟨neJ1.1, neJ1.2, pd43⟩, pnJ1, by decide⟩
abbrev g_St_indexOf2 : GM := (yJ0_indexOf_7cf53, cJ0_indexOf_7cf53, 3, some .int, 4)
theorem ic_St_indexOf2 : IvC g_St_indexOf2 2 := ⟨gT_of (mtb1 (mt4 (mt4 (mt4 (mt1 (mt1 (List.Mem.head _))))))) rfl, gT_of (mtb3 (mt16 (mt16 (mt16 (mt4 (mt4 (mt4 (mt1 (List.Mem.head _))))))))) rfl, ⟨neJ0.1, neJ0.2, pd14⟩, pnJ0, by decide⟩
abbrev g_St_indexOf : GM := (yJ0_indexOf_0f7a4, cJ0_indexOf_0f7a4, 2, some .int, 5)
theorem ic_St_indexOf : IvC g_St_indexOf 1 := ⟨gT_of (mtb1 (mt4 (mt4 (mt4 (mt1 (mt1 (List.Mem.head _))))))) rfl, gT_of (mtb3 (mt16 (mt16 (mt16 (mt4 (mt4 (mt1 (List.Mem.head _)))))))) rfl, ⟨neJ0.1, neJ0.2, pd7⟩, pnJ0, by decide⟩
abbrev g_Tx_takenOneOf : GM := (yX6_takenOneOf, cX6_takenOneOf, 3, some .int, 6)
theorem ic_Tx_takenOneOf : IvC g_Tx_takenOneOf 1 := ⟨gT_of (mtb1 (mt4 (mt1 (List.Mem.head _)))) rfl, gT_of (mtb3 (mt16 (mt16 (mt16 (mt4 (mt1 (List.Mem.head _))))))) rfl, ⟨neX6.1, neX6.2, pd41⟩, pnX6, by decide⟩
abbrev g_Tx_addCode : GM := (yX6_addCode, cX6_addCode, 2, none, 2)
theorem ic_Tx_addCode : IvC g_Tx_addCode 1 := ⟨gT_of (mtb1 (mt4 (mt1 (List.Mem.head _)))) rfl, gT_of (mtb3 (mt64 (mt16 (mt16 (mt16 (mt4 (mt1 (mt1 (List.Mem.head _))))))))) rfl, ⟨neX6.1, neX6.2, pd11⟩, pnX6, by decide⟩
abbrev g_Tx_takesTest : GM := (yX6_takesTest, cX6_takesTest, 4, some .boolean, 7)
theorem ic_Tx_takesTest : IvC g_Tx_takesTest 0 := ⟨gT_of (mtb1 (mt4 (mt1 (List.Mem.head _)))) rfl, gT_of (mtb3 (mt16 (mt16 (mt16 (List.Mem.head _))))) rfl, ⟨neX6.1, neX6.2, pd4⟩, pnX6, by decide⟩
abbrev g_Tx_takesFactor (rn : Nat) : GM := (yX6_takesFactor, cX6_takesFactor, 5, some .boolean, 8 + rn)
theorem ic_Tx_takesFactor (rn : Nat) : IvC (g_Tx_takesFactor rn) 1 := ⟨gT_of (mtb1 (mt4 (mt1 (List.Mem.head _)))) rfl, gT_of (mtb3 (mt16 (mt16 (mt4 (mt4 (mt4 (List.Mem.head _))))))) rfl, ⟨neX6.1, neX6.2, pd12⟩, pnX6, Nat.le_of_ble_eq_true rfl⟩
abbrev g_Tx_takesAllOf (rn : Nat) : GM := (yX6_takesAllOf, cX6_takesAllOf, 3, some .boolean, 8 + rn)
theorem ic_Tx_takesAllOf (rn : Nat) : IvC (g_Tx_takesAllOf rn) 1 := ⟨gT_of (mtb1 (mt4 (mt1 (List.Mem.head _)))) rfl, gT_of (mtb3 (mt16 (mt16 (mt4 (mt4 (List.Mem.head _)))))) rfl, ⟨neX6.1, neX6.2, pd12⟩, pnX6, Nat.le_of_ble_eq_true rfl⟩
abbrev g_Tx_takesAnyOf (rn : Nat) : GM := (yX6_takesAnyOf, cX6_takesAnyOf, 3, some .boolean, 8 + rn)
theorem ic_Tx_takesAnyOf (rn : Nat) : IvC (g_Tx_takesAnyOf rn) 1 := ⟨gT_of (mtb1 (mt4 (mt1 (List.Mem.head _)))) rfl, gT_of (mtb3 (mt16 (mt16 (mt4 (List.Mem.head _))))) rfl, ⟨neX6.1, neX6.2, pd12⟩, pnX6, Nat.le_of_ble_eq_true rfl⟩
abbrev g_Ar_copyOf : GM := (yJ7_copyOf_59c91, cJ7_copyOf_59c91, 3, some (.array .int), 2)
theorem ic_Ar_copyOf : IvC g_Ar_copyOf 2 := ⟨gT_of (mtb1 (mt1 (mt1 (mt1 (List.Mem.head _))))) rfl, gT_of (mtb3 (mt64 (mt16 (mt16 (mt16 (mt4 (mt4 (mt1 (mt1 (List.Mem.head _)))))))))) rfl, ⟨neJ7.1, neJ7.2, pd47⟩, pnJ7, by decide⟩
abbrev g_Tx_parse : GM := (yX6_parse, cX6_parse, 4, some .int, 33)
theorem ic_Tx_parse : IvC g_Tx_parse 0 := ⟨gT_of (mtb1 (mt4 (mt1 (List.Mem.head _)))) rfl, gT_of (mtb2 (mt64 (mt64 (mt64 (mt4 (mt4 (List.Mem.head _))))))) rfl, ⟨neX6.1, neX6.2, pd1⟩, pnX6, by decide⟩
abbrev g_Tx_built : GM := (yX6_built, cX6_built, 3, some (.object "DoorSticks$House"), 3)
theorem ic_Tx_built : IvC g_Tx_built 0 := ⟨gT_of (mtb1 (mt4 (mt1 (List.Mem.head _)))) rfl, gT_of (mtb3 (mt64 (mt64 (mt16 (mt4 (mt4 (List.Mem.head _))))))) rfl, ⟨neX6.1, neX6.2, pd2⟩, pnX6, by decide⟩
abbrev g_Tp_init : GM := (yX7_init, cX7_init, 1, none, 2)
theorem ic_Tp_init : IvC g_Tp_init 0 := ⟨gT_of (mtb1 (mt4 (mt4 (mt1 (List.Mem.head _))))) rfl, gT_of (mtb2 (mt16 (mt1 (mt1 (mt1 (List.Mem.head _)))))) rfl, ⟨neX7.1, neX7.2, pd3⟩, pnX7, by decide⟩
abbrev g_Ar_fillL : GM := (yJ7_fill_d0a16, cJ7_fill_d0a16, 5, none, 2)
theorem ic_Ar_fillL : IvC g_Ar_fillL 2 := ⟨gT_of (mtb1 (mt1 (mt1 (mt1 (List.Mem.head _))))) rfl, gT_of (mtb4 (mt64 (mt64 (mt16 (mt4 (mt4 (List.Mem.head _))))))) rfl, ⟨neJ7.1, neJ7.2, pd48⟩, pnJ7, by decide⟩
abbrev g_Tp_becomeRow : GM := (yX7_becomeRow, cX7_becomeRow, 3, none, 3)
theorem ic_Tp_becomeRow : IvC g_Tp_becomeRow 2 := ⟨gT_of (mtb1 (mt4 (mt4 (mt1 (List.Mem.head _))))) rfl, gT_of (mtb4 (mt64 (mt64 (mt16 (mt4 (mt1 (List.Mem.head _))))))) rfl, ⟨neX7.1, neX7.2, pd16⟩, pnX7, by decide⟩
abbrev g_Tp_hasPlace : GM := (yX7_hasPlace, cX7_hasPlace, 2, some .boolean, 3)
theorem ic_Tp_hasPlace : IvC g_Tp_hasPlace 1 := ⟨gT_of (mtb1 (mt4 (mt4 (mt1 (List.Mem.head _))))) rfl, gT_of (mtb4 (mt64 (mt4 (mt4 (mt1 (mt1 (List.Mem.head _))))))) rfl, ⟨neX7.1, neX7.2, pd12⟩, pnX7, by decide⟩
abbrev g_Tp_hasPlaces : GM := (yX7_hasPlaces, cX7_hasPlaces, 3, some .boolean, 2)
theorem ic_Tp_hasPlaces : IvC g_Tp_hasPlaces 2 := ⟨gT_of (mtb1 (mt4 (mt4 (mt1 (List.Mem.head _))))) rfl, gT_of (mtb4 (mt64 (mt64 (mt16 (mt16 (mt4 (mt4 (mt4 (List.Mem.head _))))))))) rfl, ⟨neX7.1, neX7.2, pd17⟩, pnX7, by decide⟩
abbrev g_Tp_narrowed : GM := (yX7_narrowed, cX7_narrowed, 3, some .long, 2)
theorem ic_Tp_narrowed : IvC g_Tp_narrowed 1 := ⟨gT_of (mtb1 (mt4 (mt4 (mt1 (List.Mem.head _))))) rfl, gT_of (mtb4 (mt64 (mt64 (mt16 (mt16 (List.Mem.head _)))))) rfl, ⟨neX7.1, neX7.2, pd32⟩, pnX7, by decide⟩
abbrev g_D_init : GM := (yX8_init, cX8_init, 2, none, 4)
theorem ic_D_init : IvC g_D_init 0 := ⟨gT_of (mtb1 (mt1 (List.Mem.head _))) rfl, gT_of (mtb1 (mt16 (mt4 (mt1 (mt1 (mt1 (List.Mem.head _))))))) rfl, ⟨neX8.1, neX8.2, pd3⟩, pnX8, by decide⟩
abbrev g_D_air : GM := (yX8_air, cX8_air, 4, some .int, 3)
theorem ic_D_air : IvC g_D_air 2 := ⟨gT_of (mtb1 (mt1 (List.Mem.head _))) rfl, gT_of (mtb2 (mt64 (mt4 (mt1 (mt1 (mt1 (List.Mem.head _))))))) rfl, ⟨neX8.1, neX8.2, pd14⟩, pnX8, by decide⟩
abbrev g_D_lean : GM := (yX8_lean, cX8_lean, 3, some .int, 3)
theorem ic_D_lean : IvC g_D_lean 1 := ⟨gT_of (mtb1 (mt1 (List.Mem.head _))) rfl, gT_of (mtb2 (mt64 (mt4 (mt4 (mt4 (mt1 (mt1 (List.Mem.head _)))))))) rfl, ⟨neX8.1, neX8.2, pd7⟩, pnX8, by decide⟩
abbrev g_D_door : GM := (yX8_door, cX8_door, 4, some .int, 4)
theorem ic_D_door : IvC g_D_door 2 := ⟨gT_of (mtb1 (mt1 (List.Mem.head _))) rfl, gT_of (mtb2 (mt64 (mt16 (mt1 (mt1 (List.Mem.head _)))))) rfl, ⟨neX8.1, neX8.2, pd14⟩, pnX8, by decide⟩
abbrev g_D_doorAt : GM := (yX8_doorAt, cX8_doorAt, 2, some (.object "DoorSticks$Door"), 3)
theorem ic_D_doorAt : IvC g_D_doorAt 1 := ⟨gT_of (mtb1 (mt1 (List.Mem.head _))) rfl, gT_of (mtb2 (mt64 (mt16 (mt4 (mt4 (mt4 (mt1 (mt1 (mt1 (List.Mem.head _)))))))))) rfl, ⟨neX8.1, neX8.2, pd8⟩, pnX8, by decide⟩
abbrev g_D_holdingHouse : GM := (yX8_holdingHouse, cX8_holdingHouse, 2, some (.object "DoorSticks$House"), 3)
theorem ic_D_holdingHouse : IvC g_D_holdingHouse 0 := ⟨gT_of (mtb1 (mt1 (List.Mem.head _))) rfl, gT_of (mtb2 (mt64 (mt16 (mt16 (mt4 (mt1 (mt1 (mt1 (List.Mem.head _))))))))) rfl, ⟨neX8.1, neX8.2, pd2⟩, pnX8, by decide⟩
abbrev g_D_courseNow : GM := (yX8_courseNow, cX8_courseNow, 2, some (.object "DoorSticks$Course"), 7)
theorem ic_D_courseNow : IvC g_D_courseNow 1 := ⟨gT_of (mtb1 (mt1 (List.Mem.head _))) rfl, gT_of (mtb2 (mt64 (mt16 (mt16 (mt1 (mt1 (mt1 (List.Mem.head _)))))))) rfl, ⟨neX8.1, neX8.2, pd34⟩, pnX8, by decide⟩
abbrev g_D_of : GM := (yX8_of, cX8_of, 4, some .int, 8)
theorem ic_D_of : IvC g_D_of 2 := ⟨gT_of (mtb1 (mt1 (List.Mem.head _))) rfl, gT_of (mtb2 (mt64 (mt16 (mt4 (mt4 (mt1 (mt1 (mt1 (List.Mem.head _))))))))) rfl, ⟨neX8.1, neX8.2, pd14⟩, pnX8, by decide⟩
abbrev g_D_water : GM := (yX8_water, cX8_water, 6, some .int, 4)
theorem ic_D_water : IvC g_D_water 3 := ⟨gT_of (mtb1 (mt1 (List.Mem.head _))) rfl, gT_of (mtb2 (mt64 (mt64 (mt16 (mt16 (mt16 (mt4 (List.Mem.head _)))))))) rfl, ⟨neX8.1, neX8.2, pd18⟩, pnX8, by decide⟩
abbrev g_D_sag : GM := (yX8_sag, cX8_sag, 5, some .int, 4)
theorem ic_D_sag : IvC g_D_sag 2 := ⟨gT_of (mtb1 (mt1 (List.Mem.head _))) rfl, gT_of (mtb2 (mt64 (mt64 (mt16 (mt16 (mt16 (mt4 (mt4 (List.Mem.head _))))))))) rfl, ⟨neX8.1, neX8.2, pd14⟩, pnX8, by decide⟩
abbrev g_D_feed : GM := (yX8_feed, cX8_feed, 2, some .int, 3)
theorem ic_D_feed : IvC g_D_feed 1 := ⟨gT_of (mtb1 (mt1 (List.Mem.head _))) rfl, gT_of (mtb2 (mt64 (mt64 (mt16 (mt16 (mt16 (mt4 (mt4 (mt4 (List.Mem.head _)))))))))) rfl, ⟨neX8.1, neX8.2, pd7⟩, pnX8, by decide⟩
abbrev g_D_house : GM := (yX8_house, cX8_house, 2, some .int, 34)
theorem ic_D_house : IvC g_D_house 0 := ⟨gT_of (mtb1 (mt1 (List.Mem.head _))) rfl, gT_of (mtb2 (mt64 (mt64 (mt64 (mt4 (List.Mem.head _)))))) rfl, ⟨neX8.1, neX8.2, pd1⟩, pnX8, by decide⟩
abbrev g_D_told : GM := (yX8_told, cX8_told, 2, some .int, 4)
theorem ic_D_told : IvC g_D_told 1 := ⟨gT_of (mtb1 (mt1 (List.Mem.head _))) rfl, gT_of (mtb3 (mt64 (mt64 (mt16 (mt4 (mt4 (mt4 (mt1 (mt1 (List.Mem.head _)))))))))) rfl, ⟨neX8.1, neX8.2, pd7⟩, pnX8, by decide⟩
abbrev g_D_month : GM := (yX8_month, cX8_month, 5, some .int, 5)
theorem ic_D_month : IvC g_D_month 0 := ⟨gT_of (mtb1 (mt1 (List.Mem.head _))) rfl, gT_of (mtb3 (mt64 (mt64 (mt16 (mt16 (mt1 (mt1 (List.Mem.head _)))))))) rfl, ⟨neX8.1, neX8.2, pd1⟩, pnX8, by decide⟩
abbrev g_D_isPlaceOfMend : GM := (yX8_isPlaceOfMend, cX8_isPlaceOfMend, 2, some .boolean, 4)
theorem ic_D_isPlaceOfMend : IvC g_D_isPlaceOfMend 2 := ⟨gT_of (mtb1 (mt1 (List.Mem.head _))) rfl, gT_of (mtb3 (mt64 (mt64 (mt16 (mt16 (mt16 (mt4 (mt4 (List.Mem.head _))))))))) rfl, ⟨neX8.1, neX8.2, pd17⟩, pnX8, by decide⟩
abbrev g_D_mend : GM := (yX8_mend, cX8_mend, 6, some .int, 5)
theorem ic_D_mend : IvC g_D_mend 4 := ⟨gT_of (mtb1 (mt1 (List.Mem.head _))) rfl, gT_of (mtb3 (mt64 (mt64 (mt16 (mt16 (mt16 (mt4 (mt1 (List.Mem.head _))))))))) rfl, ⟨neX8.1, neX8.2, pd22⟩, pnX8, by decide⟩
abbrev g_D_run : GM := (yX8_run, cX8_run, 5, some .int, 8)
theorem ic_D_run : IvC g_D_run 3 := ⟨gT_of (mtb1 (mt1 (List.Mem.head _))) rfl, gT_of (mtb3 (mt64 (mt64 (mt64 (mt4 (mt4 (mt4 (mt1 (List.Mem.head _))))))))) rfl, ⟨neX8.1, neX8.2, pd18⟩, pnX8, by decide⟩
abbrev g_D_first : GM := (yX8_first, cX8_first, 6, some .int, 8)
theorem ic_D_first : IvC g_D_first 2 := ⟨gT_of (mtb1 (mt1 (List.Mem.head _))) rfl, gT_of (mtb3 (mt64 (mt64 (mt64 (mt16 (mt4 (mt4 (mt4 (List.Mem.head _))))))))) rfl, ⟨neX8.1, neX8.2, pd14⟩, pnX8, by decide⟩
abbrev g_D_worst : GM := (yX8_worst, cX8_worst, 6, some .int, 8)
theorem ic_D_worst : IvC g_D_worst 4 := ⟨gT_of (mtb1 (mt1 (List.Mem.head _))) rfl, gT_of (mtb3 (mt64 (mt64 (mt64 (mt16 (mt16 (mt4 (List.Mem.head _)))))))) rfl, ⟨neX8.1, neX8.2, pd22⟩, pnX8, by decide⟩
abbrev g_D_off : GM := (yX8_off, cX8_off, 4, some .int, 8)
theorem ic_D_off : IvC g_D_off 2 := ⟨gT_of (mtb1 (mt1 (List.Mem.head _))) rfl, gT_of (mtb3 (mt64 (mt64 (mt64 (mt16 (mt16 (mt4 (mt4 (mt4 (mt1 (mt1 (List.Mem.head _)))))))))))) rfl, ⟨neX8.1, neX8.2, pd14⟩, pnX8, by decide⟩
abbrev g_D_costOf : GM := (yX8_costOf, cX8_costOf, 6, some .int, 7)
theorem ic_D_costOf : IvC g_D_costOf 2 := ⟨gT_of (mtb1 (mt1 (List.Mem.head _))) rfl, gT_of (mtb4 (mt4 (mt4 (mt4 (mt1 (mt1 (mt1 (List.Mem.head _)))))))) rfl, ⟨neX8.1, neX8.2, pd36⟩, pnX8, by decide⟩
abbrev g_D_cheapest : GM := (yX8_cheapest, cX8_cheapest, 8, some .int, 8)
theorem ic_D_cheapest : IvC g_D_cheapest 2 := ⟨gT_of (mtb1 (mt1 (List.Mem.head _))) rfl, gT_of (mtb4 (mt4 (mt4 (mt1 (mt1 (mt1 (List.Mem.head _))))))) rfl, ⟨neX8.1, neX8.2, pd14⟩, pnX8, by decide⟩
abbrev g_D_why : GM := (yX8_why, cX8_why, 7, some .int, 8)
theorem ic_D_why : IvC g_D_why 2 := ⟨gT_of (mtb1 (mt1 (List.Mem.head _))) rfl, gT_of (mtb4 (mt16 (mt4 (mt4 (List.Mem.head _))))) rfl, ⟨neX8.1, neX8.2, pd14⟩, pnX8, by decide⟩
abbrev g_D_partOfTwelfths : GM := (yX8_partOfTwelfths, cX8_partOfTwelfths, 3, some .long, 2)
theorem ic_D_partOfTwelfths : IvC g_D_partOfTwelfths 2 := ⟨gT_of (mtb1 (mt1 (List.Mem.head _))) rfl, gT_of (mtb4 (mt16 (mt16 (mt4 (mt1 (List.Mem.head _)))))) rfl, ⟨neX8.1, neX8.2, pd15⟩, pnX8, by decide⟩
abbrev g_D_odds : GM := (yX8_odds, cX8_odds, 6, some .long, 8)
theorem ic_D_odds : IvC g_D_odds 2 := ⟨gT_of (mtb1 (mt1 (List.Mem.head _))) rfl, gT_of (mtb4 (mt16 (mt4 (mt4 (mt4 (mt1 (List.Mem.head _))))))) rfl, ⟨neX8.1, neX8.2, pd15⟩, pnX8, by decide⟩
abbrev g_D_mean : GM := (yX8_mean, cX8_mean, 7, some .long, 8)
theorem ic_D_mean : IvC g_D_mean 3 := ⟨gT_of (mtb1 (mt1 (List.Mem.head _))) rfl, gT_of (mtb4 (mt16 (mt16 (mt4 (mt4 (mt1 (List.Mem.head _))))))) rfl, ⟨neX8.1, neX8.2, pd19⟩, pnX8, by decide⟩
abbrev g_D_rubsLessChanged : GM := (yX8_rubsLessChanged, cX8_rubsLessChanged, 5, some .boolean, 7)
theorem ic_D_rubsLessChanged : IvC g_D_rubsLessChanged 2 := ⟨gT_of (mtb1 (mt1 (List.Mem.head _))) rfl, gT_of (mtb4 (mt16 (mt16 (mt16 (mt1 (List.Mem.head _)))))) rfl, ⟨neX8.1, neX8.2, pd38⟩, pnX8, by decide⟩
abbrev g_D_changed : GM := (yX8_changed, cX8_changed, 6, some .int, 8)
theorem ic_D_changed : IvC g_D_changed 1 := ⟨gT_of (mtb1 (mt1 (List.Mem.head _))) rfl, gT_of (mtb4 (mt16 (mt16 (mt4 (mt4 (mt4 (mt1 (List.Mem.head _)))))))) rfl, ⟨neX8.1, neX8.2, pd7⟩, pnX8, by decide⟩
abbrev g_D_book : GM := (yX8_book, cX8_book, 3, some .int, 4)
theorem ic_D_book : IvC g_D_book 2 := ⟨gT_of (mtb1 (mt1 (List.Mem.head _))) rfl, gT_of (mtb4 (mt16 (mt16 (mt16 (mt4 (mt4 (mt1 (List.Mem.head _)))))))) rfl, ⟨neX8.1, neX8.2, pd14⟩, pnX8, by decide⟩
abbrev g_D_looked : GM := (yX8_looked, cX8_looked, 5, some .int, 8)
theorem ic_D_looked : IvC g_D_looked 2 := ⟨gT_of (mtb1 (mt1 (List.Mem.head _))) rfl, gT_of (mtb4 (mt16 (mt16 (mt16 (mt4 (mt4 (mt4 (mt1 (List.Mem.head _))))))))) rfl, ⟨neX8.1, neX8.2, pd14⟩, pnX8, by decide⟩
abbrev g_D_tapeAt : GM := (yX8_tapeAt, cX8_tapeAt, 2, some (.object "DoorSticks$Tape"), 3)
theorem ic_D_tapeAt : IvC g_D_tapeAt 1 := ⟨gT_of (mtb1 (mt1 (List.Mem.head _))) rfl, gT_of (mtb4 (mt64 (mt4 (mt1 (mt1 (List.Mem.head _)))))) rfl, ⟨neX8.1, neX8.2, pd9⟩, pnX8, by decide⟩
abbrev g_D_judge : GM := (yX8_judge, cX8_judge, 7, some .int, 8)
theorem ic_D_judge : IvC g_D_judge 3 := ⟨gT_of (mtb1 (mt1 (List.Mem.head _))) rfl, gT_of (mtb4 (mt64 (mt1 (mt1 (List.Mem.head _))))) rfl, ⟨neX8.1, neX8.2, pd18⟩, pnX8, by decide⟩
abbrev g_D_image : GM := (yX8_image, cX8_image, 1, some .int, 4)
theorem ic_D_image : IvC g_D_image 0 := ⟨gT_of (mtb1 (mt1 (List.Mem.head _))) rfl, gT_of (mtb4 (mt64 (mt4 (mt4 (mt4 (mt1 (mt1 (mt1 (List.Mem.head _))))))))) rfl, ⟨neX8.1, neX8.2, pd1⟩, pnX8, by decide⟩
abbrev g_D_undo : GM := (yX8_undo, cX8_undo, 1, some .int, 4)
theorem ic_D_undo : IvC g_D_undo 0 := ⟨gT_of (mtb1 (mt1 (List.Mem.head _))) rfl, gT_of (mtb4 (mt64 (mt16 (mt4 (mt4 (mt1 (List.Mem.head _))))))) rfl, ⟨neX8.1, neX8.2, pd1⟩, pnX8, by decide⟩
abbrev g_D_act : GM := (yX8_act, cX8_act, 5, some .int, 44)
theorem ic_D_act : IvC g_D_act 3 := ⟨gT_of (mtb1 (mt1 (List.Mem.head _))) rfl, gT_of (mtb4 (mt64 (mt16 (mt4 (mt4 (mt4 (mt1 (List.Mem.head _)))))))) rfl, ⟨neX8.1, neX8.2, pd18⟩, pnX8, by decide⟩
abbrev g_D_trace : GM := (yX8_trace, cX8_trace, 2, some .int, 3)
theorem ic_D_trace : IvC g_D_trace 1 := ⟨gT_of (mtb1 (mt1 (List.Mem.head _))) rfl, gT_of (mtb4 (mt64 (mt16 (mt16 (mt16 (mt4 (mt4 (mt4 (List.Mem.head _))))))))) rfl, ⟨neX8.1, neX8.2, pd7⟩, pnX8, by decide⟩
abbrev g_D_isUnder : GM := (yX8_isUnder, cX8_isUnder, 4, some .boolean, 3)
theorem ic_D_isUnder : IvC g_D_isUnder 2 := ⟨gT_of (mtb1 (mt1 (List.Mem.head _))) rfl, gT_of (mtb4 (mt64 (mt64 (mt4 (mt4 (List.Mem.head _)))))) rfl, ⟨neX8.1, neX8.2, pd17⟩, pnX8, by decide⟩
abbrev g_D_taken : GM := (yX8_taken, cX8_taken, 4, some .int, 4)
theorem ic_D_taken : IvC g_D_taken 2 := ⟨gT_of (mtb1 (mt1 (List.Mem.head _))) rfl, gT_of (mtb4 (mt64 (mt64 (mt4 (mt1 (List.Mem.head _)))))) rfl, ⟨neX8.1, neX8.2, pd14⟩, pnX8, by decide⟩
abbrev g_D_count : GM := (yX8_count, cX8_count, 2, some .int, 2)
theorem ic_D_count : IvC g_D_count 1 := ⟨gT_of (mtb1 (mt1 (List.Mem.head _))) rfl, gT_of (mtb4 (mt64 (mt64 (mt4 (mt4 (mt4 (mt1 (List.Mem.head _)))))))) rfl, ⟨neX8.1, neX8.2, pd7⟩, pnX8, by decide⟩
abbrev g_D_tape : GM := (yX8_tape, cX8_tape, 5, some .int, 4)
theorem ic_D_tape : IvC g_D_tape 3 := ⟨gT_of (mtb1 (mt1 (List.Mem.head _))) rfl, gT_of (mtb4 (mt64 (mt64 (mt16 (mt1 (List.Mem.head _)))))) rfl, ⟨neX8.1, neX8.2, pd18⟩, pnX8, by decide⟩
abbrev g_D_item : GM := (yX8_item, cX8_item, 6, some .int, 4)
theorem ic_D_item : IvC g_D_item 3 := ⟨gT_of (mtb1 (mt1 (List.Mem.head _))) rfl, gT_of (mtb4 (mt64 (mt64 (mt16 (mt4 (mt4 (mt4 (List.Mem.head _)))))))) rfl, ⟨neX8.1, neX8.2, pd25⟩, pnX8, by decide⟩
abbrev g_D_read : GM := (yX8_read, cX8_read, 4, some .long, 4)
theorem ic_D_read : IvC g_D_read 2 := ⟨gT_of (mtb1 (mt1 (List.Mem.head _))) rfl, gT_of (mtb4 (mt64 (mt64 (mt16 (mt16 (mt4 (List.Mem.head _))))))) rfl, ⟨neX8.1, neX8.2, pd15⟩, pnX8, by decide⟩
abbrev g_D_shift : GM := (yX8_shift, cX8_shift, 8, some .int, 4)
theorem ic_D_shift : IvC g_D_shift 5 := ⟨gT_of (mtb1 (mt1 (List.Mem.head _))) rfl, gT_of (mtb4 (mt64 (mt64 (mt16 (mt16 (mt4 (mt4 (List.Mem.head _)))))))) rfl, ⟨neX8.1, neX8.2, pd23⟩, pnX8, by decide⟩
abbrev g_M_init : GM := (yX9_init, cX9_init, 1, none, 2)
theorem ic_M_init : IvC g_M_init 0 := ⟨gT_of (mtb1 (mt4 (mt4 (mt1 (mt1 (List.Mem.head _)))))) rfl, gT_of (mtb4 (mt64 (mt64 (mt16 (mt16 (mt16 (mt1 (mt1 (List.Mem.head _))))))))) rfl, ⟨neX9.1, neX9.2, pd3⟩, pnX9, by decide⟩
abbrev g_M_in : GM := (yX9_in, cX9_in, 4, some .boolean, 2)
theorem ic_M_in : IvC g_M_in 3 := ⟨gT_of (mtb1 (mt4 (mt4 (mt1 (mt1 (List.Mem.head _)))))) rfl, gT_of (mtb5 (mt64 (mt64 (mt4 (mt4 (mt1 (mt1 (List.Mem.head _)))))))) rfl, ⟨neX9.1, neX9.2, pd21⟩, pnX9, by decide⟩
abbrev g_M_isDoor : GM := (yX9_isDoor, cX9_isDoor, 2, some .boolean, 3)
theorem ic_M_isDoor : IvC g_M_isDoor 1 := ⟨gT_of (mtb1 (mt4 (mt4 (mt1 (mt1 (List.Mem.head _)))))) rfl, gT_of (mtb5 (mt64 (mt64 (mt16 (mt4 (mt4 (mt1 (mt1 (List.Mem.head _))))))))) rfl, ⟨neX9.1, neX9.2, pd12⟩, pnX9, by decide⟩
abbrev g_M_isSpot : GM := (yX9_isSpot, cX9_isSpot, 2, some .boolean, 3)
theorem ic_M_isSpot : IvC g_M_isSpot 1 := ⟨gT_of (mtb1 (mt4 (mt4 (mt1 (mt1 (List.Mem.head _)))))) rfl, gT_of (mtb6 (mt64 (mt16 (mt4 (mt1 (mt1 (List.Mem.head _))))))) rfl, ⟨neX9.1, neX9.2, pd12⟩, pnX9, by decide⟩
abbrev g_M_air : GM := (yX9_air, cX9_air, 4, some .int, 3)
theorem ic_M_air : IvC g_M_air 2 := ⟨gT_of (mtb1 (mt4 (mt4 (mt1 (mt1 (List.Mem.head _)))))) rfl, gT_of (mtb5 (mt64 (mt64 (mt4 (mt1 (mt1 (List.Mem.head _))))))) rfl, ⟨neX9.1, neX9.2, pd14⟩, pnX9, by decide⟩
abbrev g_M_lean : GM := (yX9_lean, cX9_lean, 3, some .int, 3)
theorem ic_M_lean : IvC g_M_lean 1 := ⟨gT_of (mtb1 (mt4 (mt4 (mt1 (mt1 (List.Mem.head _)))))) rfl, gT_of (mtb5 (mt64 (mt64 (mt4 (mt4 (mt4 (mt1 (mt1 (List.Mem.head _))))))))) rfl, ⟨neX9.1, neX9.2, pd7⟩, pnX9, by decide⟩
abbrev g_M_door : GM := (yX9_door, cX9_door, 5, some .int, 3)
theorem ic_M_door : IvC g_M_door 2 := ⟨gT_of (mtb1 (mt4 (mt4 (mt1 (mt1 (List.Mem.head _)))))) rfl, gT_of (mtb5 (mt64 (mt64 (mt16 (mt1 (mt1 (List.Mem.head _))))))) rfl, ⟨neX9.1, neX9.2, pd14⟩, pnX9, by decide⟩
abbrev g_M_water : GM := (yX9_water, cX9_water, 5, some .int, 4)
theorem ic_M_water : IvC g_M_water 3 := ⟨gT_of (mtb1 (mt4 (mt4 (mt1 (mt1 (List.Mem.head _)))))) rfl, gT_of (mtb5 (mt64 (mt64 (mt16 (mt4 (mt1 (mt1 (List.Mem.head _)))))))) rfl, ⟨neX9.1, neX9.2, pd18⟩, pnX9, by decide⟩
abbrev g_M_sag : GM := (yX9_sag, cX9_sag, 4, some .int, 4)
theorem ic_M_sag : IvC g_M_sag 2 := ⟨gT_of (mtb1 (mt4 (mt4 (mt1 (mt1 (List.Mem.head _)))))) rfl, gT_of (mtb5 (mt64 (mt64 (mt16 (mt4 (mt4 (mt4 (mt1 (mt1 (List.Mem.head _)))))))))) rfl, ⟨neX9.1, neX9.2, pd14⟩, pnX9, by decide⟩
abbrev g_M_feed : GM := (yX9_feed, cX9_feed, 2, some .int, 3)
theorem ic_M_feed : IvC g_M_feed 1 := ⟨gT_of (mtb1 (mt4 (mt4 (mt1 (mt1 (List.Mem.head _)))))) rfl, gT_of (mtb5 (mt64 (mt64 (mt16 (mt16 (mt1 (mt1 (List.Mem.head _)))))))) rfl, ⟨neX9.1, neX9.2, pd7⟩, pnX9, by decide⟩
abbrev g_M_next : GM := (yX9_next, cX9_next, 1, some .int, 2)
theorem ic_M_next : IvC g_M_next 0 := ⟨gT_of (mtb1 (mt4 (mt4 (mt1 (mt1 (List.Mem.head _)))))) rfl, gT_of (mtb5 (mt64 (mt64 (mt16 (mt16 (mt16 (mt4 (mt4 (mt4 (mt1 (mt1 (List.Mem.head _)))))))))))) rfl, ⟨neX9.1, neX9.2, pd1⟩, pnX9, by decide⟩
abbrev g_M_second : GM := (yX9_second, cX9_second, 1, some .int, 2)
theorem ic_M_second : IvC g_M_second 0 := ⟨gT_of (mtb1 (mt4 (mt4 (mt1 (mt1 (List.Mem.head _)))))) rfl, gT_of (mtb5 (mt64 (mt64 (mt16 (mt16 (mt16 (mt4 (mt1 (mt1 (List.Mem.head _)))))))))) rfl, ⟨neX9.1, neX9.2, pd1⟩, pnX9, by decide⟩
abbrev g_M_takes : GM := (yX9_takes, cX9_takes, 2, some .boolean, 3)
theorem ic_M_takes : IvC g_M_takes 1 := ⟨gT_of (mtb1 (mt4 (mt4 (mt1 (mt1 (List.Mem.head _)))))) rfl, gT_of (mtb5 (mt64 (mt64 (mt64 (mt4 (mt1 (mt1 (List.Mem.head _)))))))) rfl, ⟨neX9.1, neX9.2, pd12⟩, pnX9, by decide⟩
abbrev g_M_takesWord : GM := (yX9_takesWord, cX9_takesWord, 4, some .boolean, 4)
theorem ic_M_takesWord : IvC g_M_takesWord 2 := ⟨gT_of (mtb1 (mt4 (mt4 (mt1 (mt1 (List.Mem.head _)))))) rfl, gT_of (mtb5 (mt64 (mt64 (mt64 (mt1 (mt1 (List.Mem.head _))))))) rfl, ⟨neX9.1, neX9.2, pd17⟩, pnX9, by decide⟩
abbrev g_M_isDigit : GM := (yX9_isDigit, cX9_isDigit, 1, some .boolean, 3)
theorem ic_M_isDigit : IvC g_M_isDigit 0 := ⟨gT_of (mtb1 (mt4 (mt4 (mt1 (mt1 (List.Mem.head _)))))) rfl, gT_of (mtb5 (mt64 (mt64 (mt64 (mt16 (mt1 (mt1 (List.Mem.head _)))))))) rfl, ⟨neX9.1, neX9.2, pd4⟩, pnX9, by decide⟩
abbrev g_M_takesNumber : GM := (yX9_takesNumber, cX9_takesNumber, 2, some .boolean, 4)
theorem ic_M_takesNumber : IvC g_M_takesNumber 0 := ⟨gT_of (mtb1 (mt4 (mt4 (mt1 (mt1 (List.Mem.head _)))))) rfl, gT_of (mtb5 (mt64 (mt64 (mt64 (mt4 (mt4 (mt4 (mt1 (mt1 (List.Mem.head _)))))))))) rfl, ⟨neX9.1, neX9.2, pd4⟩, pnX9, by decide⟩
abbrev g_M_put : GM := (yX9_put, cX9_put, 2, none, 2)
theorem ic_M_put : IvC g_M_put 1 := ⟨gT_of (mtb1 (mt4 (mt4 (mt1 (mt1 (List.Mem.head _)))))) rfl, gT_of (mtb5 (mt64 (mt64 (mt64 (mt16 (mt16 (mt1 (mt1 (List.Mem.head _))))))))) rfl, ⟨neX9.1, neX9.2, pd11⟩, pnX9, by decide⟩
abbrev g_M_whole : GM := (yX9_whole, cX9_whole, 1, none, 3)
theorem ic_M_whole : IvC g_M_whole 0 := ⟨gT_of (mtb1 (mt4 (mt4 (mt1 (mt1 (List.Mem.head _)))))) rfl, gT_of (mtb5 (mt64 (mt64 (mt64 (mt16 (mt16 (mt4 (mt1 (mt1 (List.Mem.head _)))))))))) rfl, ⟨neX9.1, neX9.2, pd3⟩, pnX9, by decide⟩
abbrev g_M_settle : GM := (yX9_settle, cX9_settle, 2, none, 3)
theorem ic_M_settle : IvC g_M_settle 1 := ⟨gT_of (mtb1 (mt4 (mt4 (mt1 (mt1 (List.Mem.head _)))))) rfl, gT_of (mtb5 (mt64 (mt64 (mt64 (mt16 (mt16 (mt4 (mt4 (mt1 (mt1 (List.Mem.head _))))))))))) rfl, ⟨neX9.1, neX9.2, pd11⟩, pnX9, by decide⟩
abbrev g_M_place : GM := (yX9_place, cX9_place, 2, some .int, 2)
theorem ic_M_place : IvC g_M_place 1 := ⟨gT_of (mtb1 (mt4 (mt4 (mt1 (mt1 (List.Mem.head _)))))) rfl, gT_of (mtb5 (mt64 (mt64 (mt64 (mt16 (mt4 (mt4 (mt4 (mt1 (mt1 (List.Mem.head _))))))))))) rfl, ⟨neX9.1, neX9.2, pd7⟩, pnX9, by decide⟩
abbrev g_M_takesTest : GM := (yX9_takesTest, cX9_takesTest, 3, some .boolean, 5)
theorem ic_M_takesTest : IvC g_M_takesTest 0 := ⟨gT_of (mtb1 (mt4 (mt4 (mt1 (mt1 (List.Mem.head _)))))) rfl, gT_of (mtb5 (mt64 (mt64 (mt64 (mt16 (mt4 (mt4 (mt1 (mt1 (List.Mem.head _)))))))))) rfl, ⟨neX9.1, neX9.2, pd4⟩, pnX9, by decide⟩
abbrev g_M_takesE : GM := (yX9_takesE, cX9_takesE, 4, some .boolean, 6)
theorem ic_M_takesE : IvC g_M_takesE 1 := ⟨gT_of (mtb1 (mt4 (mt4 (mt1 (mt1 (List.Mem.head _)))))) rfl, gT_of (mtb5 (mt64 (mt64 (mt64 (mt16 (mt4 (mt1 (mt1 (List.Mem.head _))))))))) rfl, ⟨neX9.1, neX9.2, pd12⟩, pnX9, by decide⟩
abbrev g_M_third : GM := (yX9_third, cX9_third, 1, some .int, 2)
theorem ic_M_third : IvC g_M_third 0 := ⟨gT_of (mtb1 (mt4 (mt4 (mt1 (mt1 (List.Mem.head _)))))) rfl, gT_of (mtb5 (mt64 (mt64 (mt64 (mt4 (mt4 (mt1 (mt1 (List.Mem.head _))))))))) rfl, ⟨neX9.1, neX9.2, pd1⟩, pnX9, by decide⟩
abbrev g_M_fourth : GM := (yX9_fourth, cX9_fourth, 1, some .int, 2)
theorem ic_M_fourth : IvC g_M_fourth 0 := ⟨gT_of (mtb1 (mt4 (mt4 (mt1 (mt1 (List.Mem.head _)))))) rfl, gT_of (mtb5 (mt64 (mt64 (mt16 (mt16 (mt16 (mt4 (mt4 (mt1 (mt1 (List.Mem.head _))))))))))) rfl, ⟨neX9.1, neX9.2, pd1⟩, pnX9, by decide⟩
abbrev g_M_takesHead : GM := (yX9_takesHead, cX9_takesHead, 4, some .boolean, 5)
theorem ic_M_takesHead : IvC g_M_takesHead 1 := ⟨gT_of (mtb1 (mt4 (mt4 (mt1 (mt1 (List.Mem.head _)))))) rfl, gT_of (mtb5 (mt64 (mt64 (mt16 (mt16 (mt16 (mt1 (mt1 (List.Mem.head _))))))))) rfl, ⟨neX9.1, neX9.2, pd12⟩, pnX9, by decide⟩
abbrev g_M_takesClause : GM := (yX9_takesClause, cX9_takesClause, 2, some .boolean, 7)
theorem ic_M_takesClause : IvC g_M_takesClause 1 := ⟨gT_of (mtb1 (mt4 (mt4 (mt1 (mt1 (List.Mem.head _)))))) rfl, gT_of (mtb5 (mt64 (mt64 (mt16 (mt16 (mt4 (mt4 (mt4 (mt1 (mt1 (List.Mem.head _))))))))))) rfl, ⟨neX9.1, neX9.2, pd12⟩, pnX9, by decide⟩
abbrev g_M_goesText : GM := (yX9_goesText, cX9_goesText, 3, some .boolean, 8)
theorem ic_M_goesText : IvC g_M_goesText 1 := ⟨gT_of (mtb1 (mt4 (mt4 (mt1 (mt1 (List.Mem.head _)))))) rfl, gT_of (mtb5 (mt64 (mt64 (mt16 (mt16 (mt4 (mt4 (mt1 (mt1 (List.Mem.head _)))))))))) rfl, ⟨neX9.1, neX9.2, pd12⟩, pnX9, by decide⟩
abbrev g_M_house : GM := (yX9_house, cX9_house, 2, some .int, 9)
theorem ic_M_house : IvC g_M_house 0 := ⟨gT_of (mtb1 (mt4 (mt4 (mt1 (mt1 (List.Mem.head _)))))) rfl, gT_of (mtb5 (mt64 (mt64 (mt16 (mt16 (mt4 (mt1 (mt1 (List.Mem.head _))))))))) rfl, ⟨neX9.1, neX9.2, pd1⟩, pnX9, by decide⟩
abbrev g_M_begin : GM := (yX9_begin, cX9_begin, 1, some .int, 2)
theorem ic_M_begin : IvC g_M_begin 0 := ⟨gT_of (mtb1 (mt4 (mt4 (mt1 (mt1 (List.Mem.head _)))))) rfl, gT_of (mtb6 (mt4 (mt4 (mt4 (mt1 (mt1 (List.Mem.head _))))))) rfl, ⟨neX9.1, neX9.2, pd1⟩, pnX9, by decide⟩
abbrev g_M_behind : GM := (yX9_behind, cX9_behind, 1, some .int, 2)
theorem ic_M_behind : IvC g_M_behind 0 := ⟨gT_of (mtb1 (mt4 (mt4 (mt1 (mt1 (List.Mem.head _)))))) rfl, gT_of (mtb6 (mt16 (mt1 (mt1 (List.Mem.head _))))) rfl, ⟨neX9.1, neX9.2, pd1⟩, pnX9, by decide⟩
abbrev g_M_lastOf : GM := (yX9_lastOf, cX9_lastOf, 5, some .int, 3)
theorem ic_M_lastOf : IvC g_M_lastOf 2 := ⟨gT_of (mtb1 (mt4 (mt4 (mt1 (mt1 (List.Mem.head _)))))) rfl, gT_of (mtb6 (mt16 (mt16 (mt16 (mt4 (mt1 (mt1 (List.Mem.head _)))))))) rfl, ⟨neX9.1, neX9.2, pd14⟩, pnX9, by decide⟩
abbrev g_M_hasSwell : GM := (yX9_hasSwell, cX9_hasSwell, 2, some .boolean, 3)
theorem ic_M_hasSwell : IvC g_M_hasSwell 0 := ⟨gT_of (mtb1 (mt4 (mt4 (mt1 (mt1 (List.Mem.head _)))))) rfl, gT_of (mtb6 (mt4 (mt4 (mt1 (mt1 (List.Mem.head _)))))) rfl, ⟨neX9.1, neX9.2, pd4⟩, pnX9, by decide⟩
abbrev g_M_factOf : GM := (yX9_factOf, cX9_factOf, 3, some .int, 2)
theorem ic_M_factOf : IvC g_M_factOf 2 := ⟨gT_of (mtb1 (mt4 (mt4 (mt1 (mt1 (List.Mem.head _)))))) rfl, gT_of (mtb6 (mt16 (mt4 (mt4 (mt4 (mt1 (mt1 (List.Mem.head _)))))))) rfl, ⟨neX9.1, neX9.2, pd14⟩, pnX9, by decide⟩
abbrev g_M_holds : GM := (yX9_holds, cX9_holds, 8, some .boolean, 3)
theorem ic_M_holds : IvC g_M_holds 2 := ⟨gT_of (mtb1 (mt4 (mt4 (mt1 (mt1 (List.Mem.head _)))))) rfl, gT_of (mtb6 (mt16 (mt4 (mt4 (mt1 (mt1 (List.Mem.head _))))))) rfl, ⟨neX9.1, neX9.2, pd17⟩, pnX9, by decide⟩
abbrev g_M_sumOf : GM := (yX9_sumOf, cX9_sumOf, 5, some .int, 4)
theorem ic_M_sumOf : IvC g_M_sumOf 2 := ⟨gT_of (mtb1 (mt4 (mt4 (mt1 (mt1 (List.Mem.head _)))))) rfl, gT_of (mtb6 (mt16 (mt4 (mt1 (mt1 (List.Mem.head _)))))) rfl, ⟨neX9.1, neX9.2, pd14⟩, pnX9, by decide⟩
abbrev g_M_swellOf : GM := (yX9_swellOf, cX9_swellOf, 3, some .int, 5)
theorem ic_M_swellOf : IvC g_M_swellOf 1 := ⟨gT_of (mtb1 (mt4 (mt4 (mt1 (mt1 (List.Mem.head _)))))) rfl, gT_of (mtb6 (mt4 (mt1 (mt1 (List.Mem.head _))))) rfl, ⟨neX9.1, neX9.2, pd7⟩, pnX9, by decide⟩
abbrev g_M_bendOf : GM := (yX9_bendOf, cX9_bendOf, 3, some .int, 2)
theorem ic_M_bendOf : IvC g_M_bendOf 1 := ⟨gT_of (mtb1 (mt4 (mt4 (mt1 (mt1 (List.Mem.head _)))))) rfl, gT_of (mtb6 (mt16 (mt16 (mt4 (mt1 (mt1 (List.Mem.head _))))))) rfl, ⟨neX9.1, neX9.2, pd7⟩, pnX9, by decide⟩
abbrev g_M_hangOf : GM := (yX9_hangOf, cX9_hangOf, 3, some .int, 2)
theorem ic_M_hangOf : IvC g_M_hangOf 1 := ⟨gT_of (mtb1 (mt4 (mt4 (mt1 (mt1 (List.Mem.head _)))))) rfl, gT_of (mtb6 (mt16 (mt16 (mt1 (mt1 (List.Mem.head _)))))) rfl, ⟨neX9.1, neX9.2, pd7⟩, pnX9, by decide⟩
abbrev g_M_gapBy : GM := (yX9_gapBy, cX9_gapBy, 8, some .int, 2)
theorem ic_M_gapBy : IvC g_M_gapBy 6 := ⟨gT_of (mtb1 (mt4 (mt4 (mt1 (mt1 (List.Mem.head _)))))) rfl, gT_of (mtb6 (mt16 (mt16 (mt4 (mt4 (mt1 (mt1 (List.Mem.head _)))))))) rfl, ⟨neX9.1, neX9.2, pd24⟩, pnX9, by decide⟩
abbrev g_M_gap : GM := (yX9_gap, cX9_gap, 3, some .int, 6)
theorem ic_M_gap : IvC g_M_gap 2 := ⟨gT_of (mtb1 (mt4 (mt4 (mt1 (mt1 (List.Mem.head _)))))) rfl, gT_of (mtb6 (mt1 (mt1 (List.Mem.head _)))) rfl, ⟨neX9.1, neX9.2, pd14⟩, pnX9, by decide⟩
abbrev g_M_rubs : GM := (yX9_rubs, cX9_rubs, 4, some .int, 7)
theorem ic_M_rubs : IvC g_M_rubs 1 := ⟨gT_of (mtb1 (mt4 (mt4 (mt1 (mt1 (List.Mem.head _)))))) rfl, gT_of (mtb6 (mt16 (mt16 (mt4 (mt4 (mt4 (mt1 (mt1 (List.Mem.head _))))))))) rfl, ⟨neX9.1, neX9.2, pd7⟩, pnX9, by decide⟩
abbrev g_M_draughts : GM := (yX9_draughts, cX9_draughts, 4, some .int, 7)
theorem ic_M_draughts : IvC g_M_draughts 1 := ⟨gT_of (mtb1 (mt4 (mt4 (mt1 (mt1 (List.Mem.head _)))))) rfl, gT_of (mtb6 (mt16 (mt16 (mt16 (mt1 (mt1 (List.Mem.head _))))))) rfl, ⟨neX9.1, neX9.2, pd7⟩, pnX9, by decide⟩
abbrev g_M_of : GM := (yX9_of, cX9_of, 3, some .int, 8)
theorem ic_M_of : IvC g_M_of 2 := ⟨gT_of (mtb1 (mt4 (mt4 (mt1 (mt1 (List.Mem.head _)))))) rfl, gT_of (mtb5 (mt64 (mt64 (mt64 (mt16 (mt16 (mt4 (mt4 (mt4 (mt1 (mt1 (List.Mem.head _)))))))))))) rfl, ⟨neX9.1, neX9.2, pd14⟩, pnX9, by decide⟩
abbrev g_M_told : GM := (yX9_told, cX9_told, 2, some .int, 4)
theorem ic_M_told : IvC g_M_told 1 := ⟨gT_of (mtb1 (mt4 (mt4 (mt1 (mt1 (List.Mem.head _)))))) rfl, gT_of (mtb6 (mt16 (mt16 (mt16 (mt4 (mt4 (mt1 (mt1 (List.Mem.head _))))))))) rfl, ⟨neX9.1, neX9.2, pd7⟩, pnX9, by decide⟩
abbrev g_M_nearer : GM := (yX9_nearer, cX9_nearer, 4, some .int, 2)
theorem ic_M_nearer : IvC g_M_nearer 3 := ⟨gT_of (mtb1 (mt4 (mt4 (mt1 (mt1 (List.Mem.head _)))))) rfl, gT_of (mtb6 (mt64 (mt4 (mt4 (mt1 (mt1 (List.Mem.head _))))))) rfl, ⟨neX9.1, neX9.2, pd27⟩, pnX9, by decide⟩
abbrev g_M_goMonth : GM := (yX9_goMonth, cX9_goMonth, 4, none, 5)
theorem ic_M_goMonth : IvC g_M_goMonth 1 := ⟨gT_of (mtb1 (mt4 (mt4 (mt1 (mt1 (List.Mem.head _)))))) rfl, gT_of (mtb6 (mt64 (mt4 (mt1 (mt1 (List.Mem.head _)))))) rfl, ⟨neX9.1, neX9.2, pd11⟩, pnX9, by decide⟩
abbrev g_M_goOn : GM := (yX9_goOn, cX9_goOn, 1, none, 6)
theorem ic_M_goOn : IvC g_M_goOn 0 := ⟨gT_of (mtb1 (mt4 (mt4 (mt1 (mt1 (List.Mem.head _)))))) rfl, gT_of (mtb6 (mt64 (mt1 (mt1 (List.Mem.head _))))) rfl, ⟨neX9.1, neX9.2, pd3⟩, pnX9, by decide⟩
abbrev g_M_month : GM := (yX9_month, cX9_month, 1, some .int, 7)
theorem ic_M_month : IvC g_M_month 0 := ⟨gT_of (mtb1 (mt4 (mt4 (mt1 (mt1 (List.Mem.head _)))))) rfl, gT_of (mtb6 (mt16 (mt16 (mt16 (mt4 (mt4 (mt4 (mt1 (mt1 (List.Mem.head _)))))))))) rfl, ⟨neX9.1, neX9.2, pd1⟩, pnX9, by decide⟩
abbrev g_M_isWhere : GM := (yX9_isWhere, cX9_isWhere, 3, some .boolean, 4)
theorem ic_M_isWhere : IvC g_M_isWhere 2 := ⟨gT_of (mtb1 (mt4 (mt4 (mt1 (mt1 (List.Mem.head _)))))) rfl, gT_of (mtb6 (mt64 (mt16 (mt1 (mt1 (List.Mem.head _)))))) rfl, ⟨neX9.1, neX9.2, pd17⟩, pnX9, by decide⟩
abbrev g_M_planes : GM := (yX9_planes, cX9_planes, 6, some .int, 2)
theorem ic_M_planes : IvC g_M_planes 3 := ⟨gT_of (mtb1 (mt4 (mt4 (mt1 (mt1 (List.Mem.head _)))))) rfl, gT_of (mtb6 (mt64 (mt16 (mt4 (mt4 (mt1 (mt1 (List.Mem.head _)))))))) rfl, ⟨neX9.1, neX9.2, pd18⟩, pnX9, by decide⟩
abbrev g_M_packed : GM := (yX9_packed, cX9_packed, 4, some .int, 2)
theorem ic_M_packed : IvC g_M_packed 2 := ⟨gT_of (mtb1 (mt4 (mt4 (mt1 (mt1 (List.Mem.head _)))))) rfl, gT_of (mtb6 (mt64 (mt16 (mt4 (mt4 (mt4 (mt1 (mt1 (List.Mem.head _))))))))) rfl, ⟨neX9.1, neX9.2, pd14⟩, pnX9, by decide⟩
abbrev g_M_paints : GM := (yX9_paints, cX9_paints, 4, some .int, 2)
theorem ic_M_paints : IvC g_M_paints 2 := ⟨gT_of (mtb1 (mt4 (mt4 (mt1 (mt1 (List.Mem.head _)))))) rfl, gT_of (mtb6 (mt64 (mt16 (mt16 (mt1 (mt1 (List.Mem.head _))))))) rfl, ⟨neX9.1, neX9.2, pd14⟩, pnX9, by decide⟩
abbrev g_M_mend : GM := (yX9_mend, cX9_mend, 6, some .int, 5)
theorem ic_M_mend : IvC g_M_mend 4 := ⟨gT_of (mtb1 (mt4 (mt4 (mt1 (mt1 (List.Mem.head _)))))) rfl, gT_of (mtb6 (mt64 (mt4 (mt4 (mt4 (mt1 (mt1 (List.Mem.head _)))))))) rfl, ⟨neX9.1, neX9.2, pd22⟩, pnX9, by decide⟩
abbrev g_M_keep : GM := (yX9_keep, cX9_keep, 2, none, 2)
theorem ic_M_keep : IvC g_M_keep 0 := ⟨gT_of (mtb1 (mt4 (mt4 (mt1 (mt1 (List.Mem.head _)))))) rfl, gT_of (mtb6 (mt64 (mt16 (mt16 (mt4 (mt4 (mt1 (mt1 (List.Mem.head _))))))))) rfl, ⟨neX9.1, neX9.2, pd3⟩, pnX9, by decide⟩
abbrev g_M_putBack : GM := (yX9_putBack, cX9_putBack, 2, none, 2)
theorem ic_M_putBack : IvC g_M_putBack 0 := ⟨gT_of (mtb1 (mt4 (mt4 (mt1 (mt1 (List.Mem.head _)))))) rfl, gT_of (mtb6 (mt64 (mt16 (mt16 (mt4 (mt4 (mt4 (mt1 (mt1 (List.Mem.head _)))))))))) rfl, ⟨neX9.1, neX9.2, pd3⟩, pnX9, by decide⟩
abbrev g_M_run : GM := (yX9_run, cX9_run, 5, some .int, 7)
theorem ic_M_run : IvC g_M_run 3 := ⟨gT_of (mtb1 (mt4 (mt4 (mt1 (mt1 (List.Mem.head _)))))) rfl, gT_of (mtb6 (mt64 (mt16 (mt16 (mt4 (mt1 (mt1 (List.Mem.head _)))))))) rfl, ⟨neX9.1, neX9.2, pd18⟩, pnX9, by decide⟩
abbrev g_M_first : GM := (yX9_first, cX9_first, 6, some .int, 8)
theorem ic_M_first : IvC g_M_first 2 := ⟨gT_of (mtb1 (mt4 (mt4 (mt1 (mt1 (List.Mem.head _)))))) rfl, gT_of (mtb6 (mt64 (mt16 (mt16 (mt16 (mt1 (mt1 (List.Mem.head _)))))))) rfl, ⟨neX9.1, neX9.2, pd14⟩, pnX9, by decide⟩
abbrev g_M_layGaps : GM := (yX9_layGaps, cX9_layGaps, 6, none, 7)
theorem ic_M_layGaps : IvC g_M_layGaps 3 := ⟨gT_of (mtb1 (mt4 (mt4 (mt1 (mt1 (List.Mem.head _)))))) rfl, gT_of (mtb6 (mt64 (mt16 (mt16 (mt16 (mt4 (mt4 (mt1 (mt1 (List.Mem.head _)))))))))) rfl, ⟨neX9.1, neX9.2, pd20⟩, pnX9, by decide⟩
abbrev g_M_worst : GM := (yX9_worst, cX9_worst, 5, some .int, 8)
theorem ic_M_worst : IvC g_M_worst 4 := ⟨gT_of (mtb1 (mt4 (mt4 (mt1 (mt1 (List.Mem.head _)))))) rfl, gT_of (mtb6 (mt64 (mt16 (mt16 (mt16 (mt4 (mt1 (mt1 (List.Mem.head _))))))))) rfl, ⟨neX9.1, neX9.2, pd22⟩, pnX9, by decide⟩
abbrev g_M_offOf : GM := (yX9_offOf, cX9_offOf, 3, some .int, 8)
theorem ic_M_offOf : IvC g_M_offOf 2 := ⟨gT_of (mtb1 (mt4 (mt4 (mt1 (mt1 (List.Mem.head _)))))) rfl, gT_of (mtb6 (mt64 (mt64 (mt1 (mt1 (List.Mem.head _)))))) rfl, ⟨neX9.1, neX9.2, pd14⟩, pnX9, by decide⟩
abbrev g_M_off : GM := (yX9_off, cX9_off, 6, some .int, 9)
theorem ic_M_off : IvC g_M_off 2 := ⟨gT_of (mtb1 (mt4 (mt4 (mt1 (mt1 (List.Mem.head _)))))) rfl, gT_of (mtb6 (mt64 (mt16 (mt16 (mt16 (mt4 (mt4 (mt4 (mt1 (mt1 (List.Mem.head _))))))))))) rfl, ⟨neX9.1, neX9.2, pd14⟩, pnX9, by decide⟩
abbrev g_M_costOf : GM := (yX9_costOf, cX9_costOf, 8, some .int, 9)
theorem ic_M_costOf : IvC g_M_costOf 2 := ⟨gT_of (mtb1 (mt4 (mt4 (mt1 (mt1 (List.Mem.head _)))))) rfl, gT_of (mtb6 (mt64 (mt64 (mt4 (mt4 (mt1 (mt1 (List.Mem.head _)))))))) rfl, ⟨neX9.1, neX9.2, pd14⟩, pnX9, by decide⟩
abbrev g_M_cheapest : GM := (yX9_cheapest, cX9_cheapest, 7, some .int, 10)
theorem ic_M_cheapest : IvC g_M_cheapest 2 := ⟨gT_of (mtb1 (mt4 (mt4 (mt1 (mt1 (List.Mem.head _)))))) rfl, gT_of (mtb6 (mt64 (mt64 (mt4 (mt1 (mt1 (List.Mem.head _))))))) rfl, ⟨neX9.1, neX9.2, pd14⟩, pnX9, by decide⟩
abbrev g_M_why : GM := (yX9_why, cX9_why, 7, some .int, 7)
theorem ic_M_why : IvC g_M_why 2 := ⟨gT_of (mtb1 (mt4 (mt4 (mt1 (mt1 (List.Mem.head _)))))) rfl, gT_of (mtb6 (mt64 (mt64 (mt4 (mt4 (mt4 (mt1 (mt1 (List.Mem.head _))))))))) rfl, ⟨neX9.1, neX9.2, pd14⟩, pnX9, by decide⟩
abbrev g_M_divisor : GM := (yX9_divisor, cX9_divisor, 6, some .int, 2)
theorem ic_M_divisor : IvC g_M_divisor 2 := ⟨gT_of (mtb1 (mt4 (mt4 (mt1 (mt1 (List.Mem.head _)))))) rfl, gT_of (mtb6 (mt64 (mt64 (mt16 (mt4 (mt4 (mt1 (mt1 (mt1 (List.Mem.head _)))))))))) rfl, ⟨neX9.1, neX9.2, pd14⟩, pnX9, by decide⟩
abbrev g_M_byTwelve : GM := (yX9_byTwelve, cX9_byTwelve, 4, some .long, 3)
theorem ic_M_byTwelve : IvC g_M_byTwelve 2 := ⟨gT_of (mtb1 (mt4 (mt4 (mt1 (mt1 (List.Mem.head _)))))) rfl, gT_of (mtb6 (mt64 (mt64 (mt16 (mt4 (mt1 (mt1 (mt1 (List.Mem.head _))))))))) rfl, ⟨neX9.1, neX9.2, pd15⟩, pnX9, by decide⟩
abbrev g_M_odds : GM := (yX9_odds, cX9_odds, 5, some .long, 8)
theorem ic_M_odds : IvC g_M_odds 2 := ⟨gT_of (mtb1 (mt4 (mt4 (mt1 (mt1 (List.Mem.head _)))))) rfl, gT_of (mtb6 (mt64 (mt64 (mt16 (mt1 (mt1 (List.Mem.head _))))))) rfl, ⟨neX9.1, neX9.2, pd15⟩, pnX9, by decide⟩
abbrev g_M_mean : GM := (yX9_mean, cX9_mean, 6, some .long, 6)
theorem ic_M_mean : IvC g_M_mean 3 := ⟨gT_of (mtb1 (mt4 (mt4 (mt1 (mt1 (List.Mem.head _)))))) rfl, gT_of (mtb6 (mt64 (mt64 (mt16 (mt4 (mt4 (mt4 (mt1 (mt1 (mt1 (List.Mem.head _))))))))))) rfl, ⟨neX9.1, neX9.2, pd19⟩, pnX9, by decide⟩
abbrev g_M_ones : GM := (yX9_ones, cX9_ones, 4, some .int, 2)
theorem ic_M_ones : IvC g_M_ones 1 := ⟨gT_of (mtb1 (mt4 (mt4 (mt1 (mt1 (List.Mem.head _)))))) rfl, gT_of (mtb6 (mt64 (mt64 (mt16 (mt16 (mt4 (mt4 (mt1 (mt1 (mt1 (List.Mem.head _))))))))))) rfl, ⟨neX9.1, neX9.2, pd7⟩, pnX9, by decide⟩
abbrev g_M_swapCuts : GM := (yX9_swapCuts, cX9_swapCuts, 5, none, 2)
theorem ic_M_swapCuts : IvC g_M_swapCuts 2 := ⟨gT_of (mtb1 (mt4 (mt4 (mt1 (mt1 (List.Mem.head _)))))) rfl, gT_of (mtb6 (mt64 (mt64 (mt16 (mt16 (mt4 (mt4 (mt4 (mt1 (mt1 (mt1 (List.Mem.head _)))))))))))) rfl, ⟨neX9.1, neX9.2, pd16⟩, pnX9, by decide⟩
abbrev g_M_areChanged : GM := (yX9_areChanged, cX9_areChanged, 5, some .boolean, 8)
theorem ic_M_areChanged : IvC g_M_areChanged 2 := ⟨gT_of (mtb1 (mt4 (mt4 (mt1 (mt1 (List.Mem.head _)))))) rfl, gT_of (mtb6 (mt64 (mt64 (mt16 (mt16 (mt4 (mt1 (mt1 (mt1 (List.Mem.head _)))))))))) rfl, ⟨neX9.1, neX9.2, pd17⟩, pnX9, by decide⟩
abbrev g_M_changed : GM := (yX9_changed, cX9_changed, 6, some .int, 9)
theorem ic_M_changed : IvC g_M_changed 1 := ⟨gT_of (mtb1 (mt4 (mt4 (mt1 (mt1 (List.Mem.head _)))))) rfl, gT_of (mtb6 (mt64 (mt64 (mt16 (mt16 (mt1 (mt1 (mt1 (List.Mem.head _))))))))) rfl, ⟨neX9.1, neX9.2, pd7⟩, pnX9, by decide⟩
abbrev g_M_book : GM := (yX9_book, cX9_book, 3, some .int, 4)
theorem ic_M_book : IvC g_M_book 2 := ⟨gT_of (mtb1 (mt4 (mt4 (mt1 (mt1 (List.Mem.head _)))))) rfl, gT_of (mtb6 (mt64 (mt64 (mt16 (mt16 (mt16 (mt1 (mt1 (mt1 (List.Mem.head _)))))))))) rfl, ⟨neX9.1, neX9.2, pd14⟩, pnX9, by decide⟩
abbrev g_M_looked : GM := (yX9_looked, cX9_looked, 5, some .int, 7)
theorem ic_M_looked : IvC g_M_looked 2 := ⟨gT_of (mtb1 (mt4 (mt4 (mt1 (mt1 (List.Mem.head _)))))) rfl, gT_of (mtb6 (mt64 (mt64 (mt16 (mt16 (mt16 (mt4 (mt1 (mt1 (mt1 (List.Mem.head _))))))))))) rfl, ⟨neX9.1, neX9.2, pd14⟩, pnX9, by decide⟩
abbrev g_M_isTape : GM := (yX9_isTape, cX9_isTape, 2, some .boolean, 3)
theorem ic_M_isTape : IvC g_M_isTape 1 := ⟨gT_of (mtb1 (mt4 (mt4 (mt1 (mt1 (List.Mem.head _)))))) rfl, gT_of (mtb6 (mt64 (mt64 (mt16 (mt16 (mt16 (mt4 (mt4 (mt4 (mt1 (mt1 (mt1 (List.Mem.head _))))))))))))) rfl, ⟨neX9.1, neX9.2, pd12⟩, pnX9, by decide⟩
abbrev g_M_judge : GM := (yX9_judge, cX9_judge, 5, some .int, 7)
theorem ic_M_judge : IvC g_M_judge 3 := ⟨gT_of (mtb1 (mt4 (mt4 (mt1 (mt1 (List.Mem.head _)))))) rfl, gT_of (mtb6 (mt64 (mt64 (mt16 (mt16 (mt16 (mt4 (mt4 (mt1 (mt1 (mt1 (List.Mem.head _)))))))))))) rfl, ⟨neX9.1, neX9.2, pd18⟩, pnX9, by decide⟩
abbrev g_M_image : GM := (yX9_image, cX9_image, 2, some .int, 2)
theorem ic_M_image : IvC g_M_image 0 := ⟨gT_of (mtb1 (mt4 (mt4 (mt1 (mt1 (List.Mem.head _)))))) rfl, gT_of (mtb6 (mt64 (mt64 (mt64 (mt1 (mt1 (mt1 (List.Mem.head _)))))))) rfl, ⟨neX9.1, neX9.2, pd1⟩, pnX9, by decide⟩
abbrev g_M_undo : GM := (yX9_undo, cX9_undo, 2, some .int, 2)
theorem ic_M_undo : IvC g_M_undo 0 := ⟨gT_of (mtb1 (mt4 (mt4 (mt1 (mt1 (List.Mem.head _)))))) rfl, gT_of (mtb6 (mt64 (mt64 (mt64 (mt4 (mt1 (mt1 (mt1 (List.Mem.head _))))))))) rfl, ⟨neX9.1, neX9.2, pd1⟩, pnX9, by decide⟩
abbrev g_M_body : GM := (yX9_body, cX9_body, 2, none, 2)
theorem ic_M_body : IvC g_M_body 1 := ⟨gT_of (mtb1 (mt4 (mt4 (mt1 (mt1 (List.Mem.head _)))))) rfl, gT_of (mtb6 (mt64 (mt64 (mt64 (mt16 (mt1 (mt1 (mt1 (List.Mem.head _))))))))) rfl, ⟨neX9.1, neX9.2, pd11⟩, pnX9, by decide⟩
abbrev g_M_doorSwells : GM := (yX9_doorSwells, cX9_doorSwells, 3, some .int, 3)
theorem ic_M_doorSwells : IvC g_M_doorSwells 2 := ⟨gT_of (mtb1 (mt4 (mt4 (mt1 (mt1 (List.Mem.head _)))))) rfl, gT_of (mtb6 (mt64 (mt64 (mt64 (mt16 (mt4 (mt1 (mt1 (mt1 (List.Mem.head _)))))))))) rfl, ⟨neX9.1, neX9.2, pd14⟩, pnX9, by decide⟩
abbrev g_M_swellsAct : GM := (yX9_swellsAct, cX9_swellsAct, 3, some .int, 4)
theorem ic_M_swellsAct : IvC g_M_swellsAct 2 := ⟨gT_of (mtb1 (mt4 (mt4 (mt1 (mt1 (List.Mem.head _)))))) rfl, gT_of (mtb6 (mt64 (mt64 (mt64 (mt4 (mt4 (mt4 (mt1 (mt1 (mt1 (List.Mem.head _))))))))))) rfl, ⟨neX9.1, neX9.2, pd14⟩, pnX9, by decide⟩
abbrev g_M_doorHangs : GM := (yX9_doorHangs, cX9_doorHangs, 3, some .int, 5)
theorem ic_M_doorHangs : IvC g_M_doorHangs 2 := ⟨gT_of (mtb1 (mt4 (mt4 (mt1 (mt1 (List.Mem.head _)))))) rfl, gT_of (mtb6 (mt64 (mt64 (mt64 (mt16 (mt16 (mt1 (mt1 (mt1 (List.Mem.head _)))))))))) rfl, ⟨neX9.1, neX9.2, pd14⟩, pnX9, by decide⟩
abbrev g_M_swollenHangs : GM := (yX9_swollenHangs, cX9_swollenHangs, 3, some .int, 6)
theorem ic_M_swollenHangs : IvC g_M_swollenHangs 2 := ⟨gT_of (mtb1 (mt4 (mt4 (mt1 (mt1 (List.Mem.head _)))))) rfl, gT_of (mtb6 (mt64 (mt64 (mt64 (mt16 (mt4 (mt4 (mt4 (mt1 (mt1 (mt1 (List.Mem.head _)))))))))))) rfl, ⟨neX9.1, neX9.2, pd14⟩, pnX9, by decide⟩
abbrev g_M_hangsAct : GM := (yX9_hangsAct, cX9_hangsAct, 4, some .int, 7)
theorem ic_M_hangsAct : IvC g_M_hangsAct 2 := ⟨gT_of (mtb1 (mt4 (mt4 (mt1 (mt1 (List.Mem.head _)))))) rfl, gT_of (mtb6 (mt64 (mt64 (mt64 (mt16 (mt4 (mt4 (mt1 (mt1 (mt1 (List.Mem.head _))))))))))) rfl, ⟨neX9.1, neX9.2, pd14⟩, pnX9, by decide⟩
abbrev g_M_doorTells : GM := (yX9_doorTells, cX9_doorTells, 3, some .int, 8)
theorem ic_M_doorTells : IvC g_M_doorTells 2 := ⟨gT_of (mtb1 (mt4 (mt4 (mt1 (mt1 (List.Mem.head _)))))) rfl, gT_of (mtb6 (mt64 (mt64 (mt64 (mt16 (mt16 (mt4 (mt4 (mt1 (mt1 (mt1 (List.Mem.head _)))))))))))) rfl, ⟨neX9.1, neX9.2, pd14⟩, pnX9, by decide⟩
abbrev g_M_tellsAct : GM := (yX9_tellsAct, cX9_tellsAct, 4, some .int, 9)
theorem ic_M_tellsAct : IvC g_M_tellsAct 2 := ⟨gT_of (mtb1 (mt4 (mt4 (mt1 (mt1 (List.Mem.head _)))))) rfl, gT_of (mtb6 (mt64 (mt64 (mt64 (mt16 (mt16 (mt4 (mt1 (mt1 (mt1 (List.Mem.head _))))))))))) rfl, ⟨neX9.1, neX9.2, pd14⟩, pnX9, by decide⟩
abbrev g_M_act : GM := (yX9_act, cX9_act, 4, some .int, 10)
theorem ic_M_act : IvC g_M_act 3 := ⟨gT_of (mtb1 (mt4 (mt4 (mt1 (mt1 (List.Mem.head _)))))) rfl, gT_of (mtb6 (mt64 (mt64 (mt64 (mt4 (mt4 (mt1 (mt1 (mt1 (List.Mem.head _)))))))))) rfl, ⟨neX9.1, neX9.2, pd18⟩, pnX9, by decide⟩
abbrev g_M_trace : GM := (yX9_trace, cX9_trace, 2, some .int, 3)
theorem ic_M_trace : IvC g_M_trace 1 := ⟨gT_of (mtb1 (mt4 (mt4 (mt1 (mt1 (List.Mem.head _)))))) rfl, gT_of (mtb6 (mt64 (mt64 (mt64 (mt16 (mt16 (mt4 (mt4 (mt4 (mt1 (mt1 (mt1 (List.Mem.head _))))))))))))) rfl, ⟨neX9.1, neX9.2, pd7⟩, pnX9, by decide⟩
abbrev g_M_taken : GM := (yX9_taken, cX9_taken, 4, some .int, 4)
theorem ic_M_taken : IvC g_M_taken 2 := ⟨gT_of (mtb1 (mt4 (mt4 (mt1 (mt1 (List.Mem.head _)))))) rfl, gT_of (mtb7 (mt1 (mt1 (mt1 (List.Mem.head _))))) rfl, ⟨neX9.1, neX9.2, pd14⟩, pnX9, by decide⟩
abbrev g_M_count : GM := (yX9_count, cX9_count, 2, some .int, 2)
theorem ic_M_count : IvC g_M_count 1 := ⟨gT_of (mtb1 (mt4 (mt4 (mt1 (mt1 (List.Mem.head _)))))) rfl, gT_of (mtb7 (mt4 (mt1 (mt1 (mt1 (List.Mem.head _)))))) rfl, ⟨neX9.1, neX9.2, pd7⟩, pnX9, by decide⟩
abbrev g_M_tape : GM := (yX9_tape, cX9_tape, 5, some .int, 4)
theorem ic_M_tape : IvC g_M_tape 3 := ⟨gT_of (mtb1 (mt4 (mt4 (mt1 (mt1 (List.Mem.head _)))))) rfl, gT_of (mtb7 (mt4 (mt4 (mt1 (mt1 (mt1 (List.Mem.head _))))))) rfl, ⟨neX9.1, neX9.2, pd18⟩, pnX9, by decide⟩
abbrev g_M_narrow : GM := (yX9_narrow, cX9_narrow, 4, some .long, 2)
theorem ic_M_narrow : IvC g_M_narrow 2 := ⟨gT_of (mtb1 (mt4 (mt4 (mt1 (mt1 (List.Mem.head _)))))) rfl, gT_of (mtb7 (mt16 (mt1 (mt1 (mt1 (List.Mem.head _)))))) rfl, ⟨neX9.1, neX9.2, pd29⟩, pnX9, by decide⟩
abbrev g_M_item : GM := (yX9_item, cX9_item, 5, some .int, 4)
theorem ic_M_item : IvC g_M_item 3 := ⟨gT_of (mtb1 (mt4 (mt4 (mt1 (mt1 (List.Mem.head _)))))) rfl, gT_of (mtb7 (mt4 (mt4 (mt4 (mt1 (mt1 (mt1 (List.Mem.head _)))))))) rfl, ⟨neX9.1, neX9.2, pd25⟩, pnX9, by decide⟩
abbrev g_M_read : GM := (yX9_read, cX9_read, 3, some .long, 4)
theorem ic_M_read : IvC g_M_read 2 := ⟨gT_of (mtb1 (mt4 (mt4 (mt1 (mt1 (List.Mem.head _)))))) rfl, gT_of (mtb7 (mt16 (mt4 (mt1 (mt1 (mt1 (List.Mem.head _))))))) rfl, ⟨neX9.1, neX9.2, pd15⟩, pnX9, by decide⟩
abbrev g_M_shift : GM := (yX9_shift, cX9_shift, 7, some .int, 4)
theorem ic_M_shift : IvC g_M_shift 5 := ⟨gT_of (mtb1 (mt4 (mt4 (mt1 (mt1 (List.Mem.head _)))))) rfl, gT_of (mtb7 (mt16 (mt4 (mt4 (mt1 (mt1 (mt1 (List.Mem.head _)))))))) rfl, ⟨neX9.1, neX9.2, pd23⟩, pnX9, by decide⟩
abbrev grec_takes (sel rn : Nat) : GM := match sel with
  | 0 => g_Tx_takesAnyOf rn
  | 1 => g_Tx_takesAllOf rn
  | _ => g_Tx_takesFactor rn
abbrev grec_swells (sel rn : Nat) : GM := match sel with
  | _ => g_Acts_swells rn
abbrev grec_hangs (sel rn : Nat) : GM := match sel with
  | _ => g_Acts_hangs rn
abbrev grec_tells (sel rn : Nat) : GM := match sel with
  | _ => g_Acts_tells rn
theorem flX8_12 : FLk RX8 12 9 0 := ⟨by decide, by decide, by decide, rfl, gT_of (mtb2 (mt16 (mt16 (mt1 (mt1 (List.Mem.head _)))))) rfl⟩
theorem flX8_18 : FLk RX8 18 9 1 := ⟨by decide, by decide, by decide, rfl, gT_of (mtb2 (mt16 (mt16 (mt1 (mt1 (mt1 (List.Mem.head _))))))) rfl⟩
theorem flX8_24 : FLk RX8 24 9 3 := ⟨by decide, by decide, by decide, rfl, gT_of (mtb2 (mt16 (mt16 (mt4 (mt1 (List.Mem.head _)))))) rfl⟩
theorem flX8_35 : FLk RX8 35 9 4 := ⟨by decide, by decide, by decide, rfl, gT_of (mtb2 (mt16 (mt16 (mt4 (mt1 (mt1 (List.Mem.head _))))))) rfl⟩
theorem flX8_39 : FLk RX8 39 9 5 := ⟨by decide, by decide, by decide, rfl, gT_of (mtb2 (mt16 (mt16 (mt4 (mt1 (mt1 (mt1 (List.Mem.head _)))))))) rfl⟩
theorem flX8_46 : FLk RX8 46 9 7 := ⟨by decide, by decide, by decide, rfl, gT_of (mtb2 (mt16 (mt16 (mt4 (mt4 (mt1 (List.Mem.head _))))))) rfl⟩
theorem flX8_50 : FLk RX8 50 9 8 := ⟨by decide, by decide, by decide, rfl, gT_of (mtb2 (mt16 (mt16 (mt4 (mt4 (mt1 (mt1 (List.Mem.head _)))))))) rfl⟩
theorem flX8_56 : FLk RX8 56 9 9 := ⟨by decide, by decide, by decide, rfl, gT_of (mtb2 (mt16 (mt16 (mt4 (mt4 (mt1 (mt1 (mt1 (List.Mem.head _))))))))) rfl⟩
theorem flX8_62 : FLk RX8 62 9 10 := ⟨by decide, by decide, by decide, rfl, gT_of (mtb2 (mt16 (mt16 (mt4 (mt4 (mt4 (List.Mem.head _))))))) rfl⟩
theorem flX8_71 : FLk RX8 71 5 0 := ⟨by decide, by decide, by decide, rfl, gT_of (mtb1 (mt64 (mt16 (mt4 (mt1 (mt1 (List.Mem.head _))))))) rfl⟩
theorem flX8_75 : FLk RX8 75 5 3 := ⟨by decide, by decide, by decide, rfl, gT_of (mtb1 (mt64 (mt16 (mt4 (mt4 (mt4 (mt1 (List.Mem.head _)))))))) rfl⟩
theorem flX8_79 : FLk RX8 79 5 2 := ⟨by decide, by decide, by decide, rfl, gT_of (mtb1 (mt64 (mt16 (mt4 (mt4 (mt1 (mt1 (List.Mem.head _)))))))) rfl⟩
theorem flX8_82 : FLk RX8 82 5 1 := ⟨by decide, by decide, by decide, rfl, gT_of (mtb1 (mt64 (mt16 (mt4 (mt4 (List.Mem.head _)))))) rfl⟩
theorem flX8_96 : FLk RX8 96 4 7 := ⟨by decide, by decide, by decide, rfl, gT_of (mtb1 (mt16 (mt16 (mt16 (mt4 (mt4 (mt4 (mt1 (List.Mem.head _))))))))) rfl⟩
theorem flX8_107 : FLk RX8 107 4 1 := ⟨by decide, by decide, by decide, rfl, gT_of (mtb1 (mt16 (mt16 (mt4 (mt4 (mt4 (mt1 (mt1 (mt1 (List.Mem.head _)))))))))) rfl⟩
theorem flX8_110 : FLk RX8 110 4 2 := ⟨by decide, by decide, by decide, rfl, gT_of (mtb1 (mt16 (mt16 (mt16 (mt1 (mt1 (List.Mem.head _))))))) rfl⟩
theorem flX8_113 : FLk RX8 113 4 5 := ⟨by decide, by decide, by decide, rfl, gT_of (mtb1 (mt16 (mt16 (mt16 (mt4 (mt4 (mt1 (List.Mem.head _)))))))) rfl⟩
theorem flX8_116 : FLk RX8 116 4 6 := ⟨by decide, by decide, by decide, rfl, gT_of (mtb1 (mt16 (mt16 (mt16 (mt4 (mt4 (mt1 (mt1 (mt1 (List.Mem.head _)))))))))) rfl⟩
theorem flX8_119 : FLk RX8 119 4 3 := ⟨by decide, by decide, by decide, rfl, gT_of (mtb1 (mt16 (mt16 (mt16 (mt4 (List.Mem.head _)))))) rfl⟩
theorem flX8_122 : FLk RX8 122 4 4 := ⟨by decide, by decide, by decide, rfl, gT_of (mtb1 (mt16 (mt16 (mt16 (mt4 (mt1 (mt1 (List.Mem.head _)))))))) rfl⟩
theorem flX8_125 : FLk RX8 125 3 5 := ⟨by decide, by decide, by decide, rfl, gT_of (mtb1 (mt64 (mt64 (mt64 (mt4 (mt4 (List.Mem.head _))))))) rfl⟩
theorem flX8_128 : FLk RX8 128 3 6 := ⟨by decide, by decide, by decide, rfl, gT_of (mtb1 (mt64 (mt64 (mt64 (mt4 (mt4 (mt1 (mt1 (List.Mem.head _))))))))) rfl⟩
theorem flX8_131 : FLk RX8 131 3 7 := ⟨by decide, by decide, by decide, rfl, gT_of (mtb1 (mt64 (mt64 (mt64 (mt4 (mt4 (mt4 (List.Mem.head _)))))))) rfl⟩
theorem flX8_145 : FLk RX8 145 7 0 := ⟨by decide, by decide, by decide, rfl, gT_of (mtb1 (mt64 (mt64 (mt4 (mt1 (List.Mem.head _)))))) rfl⟩
theorem flX8_148 : FLk RX8 148 9 6 := ⟨by decide, by decide, by decide, rfl, gT_of (mtb2 (mt16 (mt16 (mt4 (mt4 (List.Mem.head _)))))) rfl⟩
theorem flX8_158 : FLk RX8 158 5 5 := ⟨by decide, by decide, by decide, rfl, gT_of (mtb1 (mt64 (mt16 (mt16 (mt1 (mt1 (List.Mem.head _))))))) rfl⟩
theorem flX8_164 : FLk RX8 164 6 2 := ⟨by decide, by decide, by decide, rfl, gT_of (mtb1 (mt64 (mt64 (mt16 (mt16 (mt4 (mt1 (mt1 (mt1 (List.Mem.head _)))))))))) rfl⟩
theorem flX8_167 : FLk RX8 167 6 3 := ⟨by decide, by decide, by decide, rfl, gT_of (mtb1 (mt64 (mt64 (mt16 (mt16 (mt4 (mt4 (mt1 (List.Mem.head _))))))))) rfl⟩
theorem flX8_170 : FLk RX8 170 5 4 := ⟨by decide, by decide, by decide, rfl, gT_of (mtb1 (mt64 (mt16 (mt16 (List.Mem.head _))))) rfl⟩
theorem flX8_212 : FLk RX8 212 3 1 := ⟨by decide, by decide, by decide, rfl, gT_of (mtb1 (mt64 (mt64 (mt64 (mt1 (mt1 (List.Mem.head _))))))) rfl⟩
theorem flX8_225 : FLk RX8 225 3 8 := ⟨by decide, by decide, by decide, rfl, gT_of (mtb1 (mt64 (mt64 (mt64 (mt4 (mt4 (mt4 (mt1 (mt1 (List.Mem.head _)))))))))) rfl⟩
theorem flX8_228 : FLk RX8 228 3 9 := ⟨by decide, by decide, by decide, rfl, gT_of (mtb1 (mt64 (mt64 (mt64 (mt16 (List.Mem.head _)))))) rfl⟩
theorem flX8_242 : FLk RX8 242 3 4 := ⟨by decide, by decide, by decide, rfl, gT_of (mtb1 (mt64 (mt64 (mt64 (mt4 (mt1 (mt1 (List.Mem.head _)))))))) rfl⟩
theorem flX8_260 : FLk RX8 260 5 8 := ⟨by decide, by decide, by decide, rfl, gT_of (mtb1 (mt64 (mt16 (mt16 (mt4 (mt4 (List.Mem.head _))))))) rfl⟩
theorem flX8_263 : FLk RX8 263 5 6 := ⟨by decide, by decide, by decide, rfl, gT_of (mtb1 (mt64 (mt16 (mt16 (mt4 (List.Mem.head _)))))) rfl⟩
theorem flX8_266 : FLk RX8 266 5 7 := ⟨by decide, by decide, by decide, rfl, gT_of (mtb1 (mt64 (mt16 (mt16 (mt4 (mt1 (mt1 (List.Mem.head _)))))))) rfl⟩
theorem flX8_278 : FLk RX8 278 8 0 := ⟨by decide, by decide, by decide, rfl, gT_of (mtb2 (mt16 (mt4 (mt1 (mt1 (List.Mem.head _)))))) rfl⟩
theorem flX8_284 : FLk RX8 284 8 2 := ⟨by decide, by decide, by decide, rfl, gT_of (mtb2 (mt16 (mt4 (mt4 (mt1 (List.Mem.head _)))))) rfl⟩
theorem flX8_292 : FLk RX8 292 9 2 := ⟨by decide, by decide, by decide, rfl, gT_of (mtb2 (mt16 (mt16 (mt4 (List.Mem.head _))))) rfl⟩
theorem flX8_306 : FLk RX8 306 1 0 := ⟨by decide, by decide, by decide, rfl, gT_of (mtb1 (mt64 (mt64 (mt64 (mt16 (mt16 (mt4 (mt4 (mt4 (mt1 (List.Mem.head _))))))))))) rfl⟩
theorem flX8_312 : FLk RX8 312 1 1 := ⟨by decide, by decide, by decide, rfl, gT_of (mtb1 (mt64 (mt64 (mt64 (mt16 (mt16 (mt4 (mt4 (mt4 (mt1 (mt1 (mt1 (List.Mem.head _))))))))))))) rfl⟩
theorem flX0_11 : FLk RX0 11 1 0 := ⟨by decide, by decide, by decide, rfl, gT_of (mtb1 (mt64 (mt64 (mt64 (mt16 (mt16 (mt4 (mt4 (mt4 (List.Mem.head _)))))))))) rfl⟩
theorem flX0_15 : FLk RX0 15 1 1 := ⟨by decide, by decide, by decide, rfl, gT_of (mtb1 (mt64 (mt64 (mt64 (mt16 (mt16 (mt4 (mt4 (mt4 (mt1 (mt1 (List.Mem.head _)))))))))))) rfl⟩
theorem flX0_25 : FLk RX0 25 4 1 := ⟨by decide, by decide, by decide, rfl, gT_of (mtb1 (mt16 (mt16 (mt4 (mt4 (mt4 (mt1 (mt1 (List.Mem.head _))))))))) rfl⟩
theorem flX0_30 : FLk RX0 30 1 2 := ⟨by decide, by decide, by decide, rfl, gT_of (mtb2 (List.Mem.head _)) rfl⟩
theorem flX0_31 : FLk RX0 31 4 2 := ⟨by decide, by decide, by decide, rfl, gT_of (mtb1 (mt16 (mt16 (mt16 (mt1 (List.Mem.head _)))))) rfl⟩
theorem flX0_34 : FLk RX0 34 1 3 := ⟨by decide, by decide, by decide, rfl, gT_of (mtb2 (mt1 (List.Mem.head _))) rfl⟩
theorem flX0_35 : FLk RX0 35 4 0 := ⟨by decide, by decide, by decide, rfl, gT_of (mtb1 (mt16 (mt16 (mt4 (mt4 (mt4 (List.Mem.head _))))))) rfl⟩
theorem flX0_38 : FLk RX0 38 1 4 := ⟨by decide, by decide, by decide, rfl, gT_of (mtb2 (mt1 (mt1 (List.Mem.head _)))) rfl⟩
theorem flX1_7 : FLk RX1 7 2 0 := ⟨by decide, by decide, by decide, rfl, gT_of (mtb3 (mt64 (mt64 (mt4 (mt4 (List.Mem.head _)))))) rfl⟩
theorem flX1_13 : FLk RX1 13 2 1 := ⟨by decide, by decide, by decide, rfl, gT_of (mtb3 (mt64 (mt64 (mt4 (mt4 (mt1 (mt1 (List.Mem.head _)))))))) rfl⟩
theorem flX1_16 : FLk RX1 16 2 2 := ⟨by decide, by decide, by decide, rfl, gT_of (mtb3 (mt64 (mt64 (mt4 (mt4 (mt4 (List.Mem.head _))))))) rfl⟩
theorem flX2_16 : FLk RX2 16 3 0 := ⟨by decide, by decide, by decide, rfl, gT_of (mtb1 (mt64 (mt64 (mt64 (List.Mem.head _))))) rfl⟩
theorem flX2_25 : FLk RX2 25 3 1 := ⟨by decide, by decide, by decide, rfl, gT_of (mtb1 (mt64 (mt64 (mt64 (mt1 (List.Mem.head _)))))) rfl⟩
theorem flX2_29 : FLk RX2 29 3 2 := ⟨by decide, by decide, by decide, rfl, gT_of (mtb1 (mt64 (mt64 (mt64 (mt1 (mt1 (mt1 (List.Mem.head _)))))))) rfl⟩
theorem flX2_33 : FLk RX2 33 3 8 := ⟨by decide, by decide, by decide, rfl, gT_of (mtb1 (mt64 (mt64 (mt64 (mt4 (mt4 (mt4 (mt1 (List.Mem.head _))))))))) rfl⟩
theorem flX2_36 : FLk RX2 36 3 9 := ⟨by decide, by decide, by decide, rfl, gT_of (mtb1 (mt64 (mt64 (mt64 (mt4 (mt4 (mt4 (mt1 (mt1 (mt1 (List.Mem.head _))))))))))) rfl⟩
theorem flX2_43 : FLk RX2 43 5 0 := ⟨by decide, by decide, by decide, rfl, gT_of (mtb1 (mt64 (mt16 (mt4 (mt1 (List.Mem.head _)))))) rfl⟩
theorem flX2_52 : FLk RX2 52 5 4 := ⟨by decide, by decide, by decide, rfl, gT_of (mtb1 (mt64 (mt16 (mt4 (mt4 (mt4 (mt1 (mt1 (List.Mem.head _))))))))) rfl⟩
theorem flX2_56 : FLk RX2 56 3 3 := ⟨by decide, by decide, by decide, rfl, gT_of (mtb1 (mt64 (mt64 (mt64 (mt4 (List.Mem.head _)))))) rfl⟩
theorem flX2_57 : FLk RX2 57 5 3 := ⟨by decide, by decide, by decide, rfl, gT_of (mtb1 (mt64 (mt16 (mt4 (mt4 (mt1 (mt1 (mt1 (List.Mem.head _))))))))) rfl⟩
theorem flX2_60 : FLk RX2 60 3 4 := ⟨by decide, by decide, by decide, rfl, gT_of (mtb1 (mt64 (mt64 (mt64 (mt4 (mt1 (List.Mem.head _))))))) rfl⟩
theorem flX2_68 : FLk RX2 68 6 1 := ⟨by decide, by decide, by decide, rfl, gT_of (mtb1 (mt64 (mt64 (mt16 (mt16 (mt4 (List.Mem.head _))))))) rfl⟩
theorem flX2_82 : FLk RX2 82 3 5 := ⟨by decide, by decide, by decide, rfl, gT_of (mtb1 (mt64 (mt64 (mt64 (mt4 (mt1 (mt1 (mt1 (List.Mem.head _))))))))) rfl⟩
theorem flX2_88 : FLk RX2 88 3 6 := ⟨by decide, by decide, by decide, rfl, gT_of (mtb1 (mt64 (mt64 (mt64 (mt4 (mt4 (mt1 (List.Mem.head _)))))))) rfl⟩
theorem flX2_93 : FLk RX2 93 3 7 := ⟨by decide, by decide, by decide, rfl, gT_of (mtb1 (mt64 (mt64 (mt64 (mt4 (mt4 (mt1 (mt1 (mt1 (List.Mem.head _)))))))))) rfl⟩
theorem flX2_102 : FLk RX2 102 6 2 := ⟨by decide, by decide, by decide, rfl, gT_of (mtb1 (mt64 (mt64 (mt16 (mt16 (mt4 (mt1 (mt1 (List.Mem.head _))))))))) rfl⟩
theorem flX2_128 : FLk RX2 128 4 7 := ⟨by decide, by decide, by decide, rfl, gT_of (mtb1 (mt16 (mt16 (mt16 (mt4 (mt4 (mt4 (mt1 (mt1 (List.Mem.head _)))))))))) rfl⟩
theorem flX2_131 : FLk RX2 131 4 4 := ⟨by decide, by decide, by decide, rfl, gT_of (mtb1 (mt16 (mt16 (mt16 (mt4 (mt1 (mt1 (mt1 (List.Mem.head _))))))))) rfl⟩
theorem flX2_138 : FLk RX2 138 6 3 := ⟨by decide, by decide, by decide, rfl, gT_of (mtb1 (mt64 (mt64 (mt16 (mt16 (mt4 (mt4 (mt1 (mt1 (List.Mem.head _)))))))))) rfl⟩
theorem flX3_9 : FLk RX3 9 4 5 := ⟨by decide, by decide, by decide, rfl, gT_of (mtb1 (mt16 (mt16 (mt16 (mt4 (mt4 (List.Mem.head _))))))) rfl⟩
theorem flX3_15 : FLk RX3 15 4 6 := ⟨by decide, by decide, by decide, rfl, gT_of (mtb1 (mt16 (mt16 (mt16 (mt4 (mt4 (mt1 (mt1 (List.Mem.head _))))))))) rfl⟩
theorem flX3_18 : FLk RX3 18 4 7 := ⟨by decide, by decide, by decide, rfl, gT_of (mtb1 (mt16 (mt16 (mt16 (mt4 (mt4 (mt4 (List.Mem.head _)))))))) rfl⟩
theorem flX3_21 : FLk RX3 21 4 8 := ⟨by decide, by decide, by decide, rfl, gT_of (mtb1 (mt16 (mt16 (mt16 (mt4 (mt4 (mt4 (mt1 (mt1 (mt1 (List.Mem.head _))))))))))) rfl⟩
theorem flX3_24 : FLk RX3 24 4 0 := ⟨by decide, by decide, by decide, rfl, gT_of (mtb1 (mt16 (mt16 (mt4 (mt4 (mt1 (mt1 (mt1 (List.Mem.head _))))))))) rfl⟩
theorem flX3_28 : FLk RX3 28 4 1 := ⟨by decide, by decide, by decide, rfl, gT_of (mtb1 (mt16 (mt16 (mt4 (mt4 (mt4 (mt1 (List.Mem.head _)))))))) rfl⟩
theorem flX3_31 : FLk RX3 31 4 2 := ⟨by decide, by decide, by decide, rfl, gT_of (mtb1 (mt16 (mt16 (mt16 (List.Mem.head _))))) rfl⟩
theorem flX3_34 : FLk RX3 34 4 3 := ⟨by decide, by decide, by decide, rfl, gT_of (mtb1 (mt16 (mt16 (mt16 (mt1 (mt1 (mt1 (List.Mem.head _)))))))) rfl⟩
theorem flX3_37 : FLk RX3 37 4 4 := ⟨by decide, by decide, by decide, rfl, gT_of (mtb1 (mt16 (mt16 (mt16 (mt4 (mt1 (List.Mem.head _))))))) rfl⟩
theorem flX4_9 : FLk RX4 9 5 0 := ⟨by decide, by decide, by decide, rfl, gT_of (mtb1 (mt64 (mt16 (mt4 (List.Mem.head _))))) rfl⟩
theorem flX4_17 : FLk RX4 17 5 1 := ⟨by decide, by decide, by decide, rfl, gT_of (mtb1 (mt64 (mt16 (mt4 (mt1 (mt1 (mt1 (List.Mem.head _)))))))) rfl⟩
theorem flX4_21 : FLk RX4 21 5 5 := ⟨by decide, by decide, by decide, rfl, gT_of (mtb1 (mt64 (mt16 (mt16 (mt1 (List.Mem.head _)))))) rfl⟩
theorem flX4_25 : FLk RX4 25 5 6 := ⟨by decide, by decide, by decide, rfl, gT_of (mtb1 (mt64 (mt16 (mt16 (mt1 (mt1 (mt1 (List.Mem.head _)))))))) rfl⟩
theorem flX4_28 : FLk RX4 28 5 7 := ⟨by decide, by decide, by decide, rfl, gT_of (mtb1 (mt64 (mt16 (mt16 (mt4 (mt1 (List.Mem.head _))))))) rfl⟩
theorem flX4_48 : FLk RX4 48 5 2 := ⟨by decide, by decide, by decide, rfl, gT_of (mtb1 (mt64 (mt16 (mt4 (mt4 (mt1 (List.Mem.head _))))))) rfl⟩
theorem flX4_51 : FLk RX4 51 5 3 := ⟨by decide, by decide, by decide, rfl, gT_of (mtb1 (mt64 (mt16 (mt4 (mt4 (mt4 (List.Mem.head _))))))) rfl⟩
theorem flX4_54 : FLk RX4 54 5 4 := ⟨by decide, by decide, by decide, rfl, gT_of (mtb1 (mt64 (mt16 (mt4 (mt4 (mt4 (mt1 (mt1 (mt1 (List.Mem.head _)))))))))) rfl⟩
theorem flX4_57 : FLk RX4 57 5 8 := ⟨by decide, by decide, by decide, rfl, gT_of (mtb1 (mt64 (mt16 (mt16 (mt4 (mt1 (mt1 (mt1 (List.Mem.head _))))))))) rfl⟩
theorem flX5_7 : FLk RX5 7 6 0 := ⟨by decide, by decide, by decide, rfl, gT_of (mtb1 (mt64 (mt64 (mt16 (mt16 (mt1 (mt1 (List.Mem.head _)))))))) rfl⟩
theorem flX5_13 : FLk RX5 13 2 0 := ⟨by decide, by decide, by decide, rfl, gT_of (mtb3 (mt64 (mt64 (mt4 (mt4 (mt1 (List.Mem.head _))))))) rfl⟩
theorem flX5_21 : FLk RX5 21 2 1 := ⟨by decide, by decide, by decide, rfl, gT_of (mtb3 (mt64 (mt64 (mt4 (mt4 (mt1 (mt1 (mt1 (List.Mem.head _))))))))) rfl⟩
theorem flX5_24 : FLk RX5 24 6 1 := ⟨by decide, by decide, by decide, rfl, gT_of (mtb1 (mt64 (mt64 (mt16 (mt16 (mt1 (mt1 (mt1 (List.Mem.head _))))))))) rfl⟩
theorem flX5_28 : FLk RX5 28 6 2 := ⟨by decide, by decide, by decide, rfl, gT_of (mtb1 (mt64 (mt64 (mt16 (mt16 (mt4 (mt1 (List.Mem.head _)))))))) rfl⟩
theorem flX5_31 : FLk RX5 31 6 3 := ⟨by decide, by decide, by decide, rfl, gT_of (mtb1 (mt64 (mt64 (mt16 (mt16 (mt4 (mt4 (List.Mem.head _)))))))) rfl⟩
theorem flX6_9 : FLk RX6 9 7 1 := ⟨by decide, by decide, by decide, rfl, gT_of (mtb1 (mt64 (mt64 (mt4 (mt1 (mt1 (List.Mem.head _))))))) rfl⟩
theorem flX6_15 : FLk RX6 15 7 3 := ⟨by decide, by decide, by decide, rfl, gT_of (mtb1 (mt64 (mt64 (mt4 (mt4 (List.Mem.head _)))))) rfl⟩
theorem flX6_19 : FLk RX6 19 7 5 := ⟨by decide, by decide, by decide, rfl, gT_of (mtb1 (mt64 (mt64 (mt4 (mt4 (mt1 (mt1 (List.Mem.head _)))))))) rfl⟩
theorem flX6_22 : FLk RX6 22 7 0 := ⟨by decide, by decide, by decide, rfl, gT_of (mtb1 (mt64 (mt64 (mt4 (List.Mem.head _))))) rfl⟩
theorem flX6_26 : FLk RX6 26 7 2 := ⟨by decide, by decide, by decide, rfl, gT_of (mtb1 (mt64 (mt64 (mt4 (mt1 (mt1 (mt1 (List.Mem.head _)))))))) rfl⟩
theorem flX6_29 : FLk RX6 29 7 4 := ⟨by decide, by decide, by decide, rfl, gT_of (mtb1 (mt64 (mt64 (mt4 (mt4 (mt1 (List.Mem.head _))))))) rfl⟩
theorem flX6_43 : FLk RX6 43 7 6 := ⟨by decide, by decide, by decide, rfl, gT_of (mtb1 (mt64 (mt64 (mt4 (mt4 (mt1 (mt1 (mt1 (List.Mem.head _))))))))) rfl⟩
theorem flX7_9 : FLk RX7 9 8 0 := ⟨by decide, by decide, by decide, rfl, gT_of (mtb2 (mt16 (mt4 (mt1 (List.Mem.head _))))) rfl⟩
theorem flX7_13 : FLk RX7 13 8 2 := ⟨by decide, by decide, by decide, rfl, gT_of (mtb2 (mt16 (mt4 (mt4 (List.Mem.head _))))) rfl⟩
theorem flX7_17 : FLk RX7 17 8 1 := ⟨by decide, by decide, by decide, rfl, gT_of (mtb2 (mt16 (mt4 (mt1 (mt1 (mt1 (List.Mem.head _))))))) rfl⟩
theorem flX9_7 : FLk RX9 7 10 0 := ⟨by decide, by decide, by decide, rfl, gT_of (mtb4 (mt64 (mt64 (mt16 (mt16 (mt16 (mt4 (List.Mem.head _)))))))) rfl⟩
theorem flX9_13 : FLk RX9 13 10 1 := ⟨by decide, by decide, by decide, rfl, gT_of (mtb4 (mt64 (mt64 (mt16 (mt16 (mt16 (mt4 (mt1 (List.Mem.head _))))))))) rfl⟩
theorem flX9_17 : FLk RX9 17 10 2 := ⟨by decide, by decide, by decide, rfl, gT_of (mtb4 (mt64 (mt64 (mt16 (mt16 (mt16 (mt4 (mt1 (mt1 (List.Mem.head _)))))))))) rfl⟩
theorem flX9_20 : FLk RX9 20 10 3 := ⟨by decide, by decide, by decide, rfl, gT_of (mtb4 (mt64 (mt64 (mt16 (mt16 (mt16 (mt4 (mt1 (mt1 (mt1 (List.Mem.head _))))))))))) rfl⟩
theorem flX9_23 : FLk RX9 23 10 4 := ⟨by decide, by decide, by decide, rfl, gT_of (mtb4 (mt64 (mt64 (mt16 (mt16 (mt16 (mt4 (mt4 (List.Mem.head _))))))))) rfl⟩
theorem flX9_26 : FLk RX9 26 10 5 := ⟨by decide, by decide, by decide, rfl, gT_of (mtb4 (mt64 (mt64 (mt16 (mt16 (mt16 (mt4 (mt4 (mt1 (List.Mem.head _)))))))))) rfl⟩
theorem flX9_29 : FLk RX9 29 10 6 := ⟨by decide, by decide, by decide, rfl, gT_of (mtb4 (mt64 (mt64 (mt16 (mt16 (mt16 (mt4 (mt4 (mt1 (mt1 (List.Mem.head _))))))))))) rfl⟩
theorem flX9_32 : FLk RX9 32 10 7 := ⟨by decide, by decide, by decide, rfl, gT_of (mtb4 (mt64 (mt64 (mt16 (mt16 (mt16 (mt4 (mt4 (mt1 (mt1 (mt1 (List.Mem.head _)))))))))))) rfl⟩
theorem flX9_35 : FLk RX9 35 10 8 := ⟨by decide, by decide, by decide, rfl, gT_of (mtb4 (mt64 (mt64 (mt16 (mt16 (mt16 (mt4 (mt4 (mt4 (List.Mem.head _)))))))))) rfl⟩
theorem flX9_38 : FLk RX9 38 10 9 := ⟨by decide, by decide, by decide, rfl, gT_of (mtb4 (mt64 (mt64 (mt16 (mt16 (mt16 (mt4 (mt4 (mt4 (mt1 (List.Mem.head _))))))))))) rfl⟩
theorem flX9_41 : FLk RX9 41 10 10 := ⟨by decide, by decide, by decide, rfl, gT_of (mtb4 (mt64 (mt64 (mt16 (mt16 (mt16 (mt4 (mt4 (mt4 (mt1 (mt1 (List.Mem.head _)))))))))))) rfl⟩
theorem flX9_44 : FLk RX9 44 10 11 := ⟨by decide, by decide, by decide, rfl, gT_of (mtb4 (mt64 (mt64 (mt16 (mt16 (mt16 (mt4 (mt4 (mt4 (mt1 (mt1 (mt1 (List.Mem.head _))))))))))))) rfl⟩
theorem flX9_47 : FLk RX9 47 10 12 := ⟨by decide, by decide, by decide, rfl, gT_of (mtb4 (mt64 (mt64 (mt64 (List.Mem.head _))))) rfl⟩
theorem flX9_50 : FLk RX9 50 10 13 := ⟨by decide, by decide, by decide, rfl, gT_of (mtb4 (mt64 (mt64 (mt64 (mt1 (List.Mem.head _)))))) rfl⟩
theorem flX9_53 : FLk RX9 53 10 14 := ⟨by decide, by decide, by decide, rfl, gT_of (mtb4 (mt64 (mt64 (mt64 (mt1 (mt1 (List.Mem.head _))))))) rfl⟩
theorem flX9_56 : FLk RX9 56 10 15 := ⟨by decide, by decide, by decide, rfl, gT_of (mtb4 (mt64 (mt64 (mt64 (mt1 (mt1 (mt1 (List.Mem.head _)))))))) rfl⟩
theorem flX9_59 : FLk RX9 59 10 16 := ⟨by decide, by decide, by decide, rfl, gT_of (mtb4 (mt64 (mt64 (mt64 (mt4 (List.Mem.head _)))))) rfl⟩
theorem flX9_62 : FLk RX9 62 10 17 := ⟨by decide, by decide, by decide, rfl, gT_of (mtb4 (mt64 (mt64 (mt64 (mt4 (mt1 (List.Mem.head _))))))) rfl⟩
theorem flX9_65 : FLk RX9 65 10 18 := ⟨by decide, by decide, by decide, rfl, gT_of (mtb4 (mt64 (mt64 (mt64 (mt4 (mt1 (mt1 (List.Mem.head _)))))))) rfl⟩
theorem flX9_68 : FLk RX9 68 10 19 := ⟨by decide, by decide, by decide, rfl, gT_of (mtb4 (mt64 (mt64 (mt64 (mt4 (mt1 (mt1 (mt1 (List.Mem.head _))))))))) rfl⟩
theorem flX9_71 : FLk RX9 71 10 20 := ⟨by decide, by decide, by decide, rfl, gT_of (mtb4 (mt64 (mt64 (mt64 (mt4 (mt4 (List.Mem.head _))))))) rfl⟩
theorem flX9_74 : FLk RX9 74 10 21 := ⟨by decide, by decide, by decide, rfl, gT_of (mtb4 (mt64 (mt64 (mt64 (mt4 (mt4 (mt1 (List.Mem.head _)))))))) rfl⟩
theorem flX9_77 : FLk RX9 77 10 22 := ⟨by decide, by decide, by decide, rfl, gT_of (mtb4 (mt64 (mt64 (mt64 (mt4 (mt4 (mt1 (mt1 (List.Mem.head _))))))))) rfl⟩
theorem flX9_80 : FLk RX9 80 10 23 := ⟨by decide, by decide, by decide, rfl, gT_of (mtb4 (mt64 (mt64 (mt64 (mt4 (mt4 (mt1 (mt1 (mt1 (List.Mem.head _)))))))))) rfl⟩
theorem flX9_83 : FLk RX9 83 10 24 := ⟨by decide, by decide, by decide, rfl, gT_of (mtb4 (mt64 (mt64 (mt64 (mt4 (mt4 (mt4 (List.Mem.head _)))))))) rfl⟩
theorem flX9_86 : FLk RX9 86 10 25 := ⟨by decide, by decide, by decide, rfl, gT_of (mtb4 (mt64 (mt64 (mt64 (mt4 (mt4 (mt4 (mt1 (List.Mem.head _))))))))) rfl⟩
theorem flX9_89 : FLk RX9 89 10 26 := ⟨by decide, by decide, by decide, rfl, gT_of (mtb4 (mt64 (mt64 (mt64 (mt4 (mt4 (mt4 (mt1 (mt1 (List.Mem.head _)))))))))) rfl⟩
theorem flX9_92 : FLk RX9 92 10 27 := ⟨by decide, by decide, by decide, rfl, gT_of (mtb4 (mt64 (mt64 (mt64 (mt4 (mt4 (mt4 (mt1 (mt1 (mt1 (List.Mem.head _))))))))))) rfl⟩
theorem flX9_95 : FLk RX9 95 10 28 := ⟨by decide, by decide, by decide, rfl, gT_of (mtb4 (mt64 (mt64 (mt64 (mt16 (List.Mem.head _)))))) rfl⟩
theorem flX9_98 : FLk RX9 98 10 29 := ⟨by decide, by decide, by decide, rfl, gT_of (mtb4 (mt64 (mt64 (mt64 (mt16 (mt1 (List.Mem.head _))))))) rfl⟩
theorem flX9_102 : FLk RX9 102 10 30 := ⟨by decide, by decide, by decide, rfl, gT_of (mtb4 (mt64 (mt64 (mt64 (mt16 (mt1 (mt1 (List.Mem.head _)))))))) rfl⟩
theorem flX9_105 : FLk RX9 105 10 31 := ⟨by decide, by decide, by decide, rfl, gT_of (mtb4 (mt64 (mt64 (mt64 (mt16 (mt1 (mt1 (mt1 (List.Mem.head _))))))))) rfl⟩
theorem flX9_108 : FLk RX9 108 10 32 := ⟨by decide, by decide, by decide, rfl, gT_of (mtb4 (mt64 (mt64 (mt64 (mt16 (mt4 (List.Mem.head _))))))) rfl⟩
theorem flX9_111 : FLk RX9 111 10 33 := ⟨by decide, by decide, by decide, rfl, gT_of (mtb4 (mt64 (mt64 (mt64 (mt16 (mt4 (mt1 (List.Mem.head _)))))))) rfl⟩
theorem flX9_114 : FLk RX9 114 10 34 := ⟨by decide, by decide, by decide, rfl, gT_of (mtb4 (mt64 (mt64 (mt64 (mt16 (mt4 (mt1 (mt1 (List.Mem.head _))))))))) rfl⟩
theorem flX9_117 : FLk RX9 117 10 35 := ⟨by decide, by decide, by decide, rfl, gT_of (mtb4 (mt64 (mt64 (mt64 (mt16 (mt4 (mt1 (mt1 (mt1 (List.Mem.head _)))))))))) rfl⟩
theorem flX9_120 : FLk RX9 120 10 36 := ⟨by decide, by decide, by decide, rfl, gT_of (mtb4 (mt64 (mt64 (mt64 (mt16 (mt4 (mt4 (List.Mem.head _)))))))) rfl⟩
theorem flX9_123 : FLk RX9 123 10 37 := ⟨by decide, by decide, by decide, rfl, gT_of (mtb4 (mt64 (mt64 (mt64 (mt16 (mt4 (mt4 (mt1 (List.Mem.head _))))))))) rfl⟩
theorem flX9_126 : FLk RX9 126 10 38 := ⟨by decide, by decide, by decide, rfl, gT_of (mtb4 (mt64 (mt64 (mt64 (mt16 (mt4 (mt4 (mt1 (mt1 (List.Mem.head _)))))))))) rfl⟩
theorem flX9_129 : FLk RX9 129 10 39 := ⟨by decide, by decide, by decide, rfl, gT_of (mtb4 (mt64 (mt64 (mt64 (mt16 (mt4 (mt4 (mt1 (mt1 (mt1 (List.Mem.head _))))))))))) rfl⟩
theorem flX9_132 : FLk RX9 132 10 40 := ⟨by decide, by decide, by decide, rfl, gT_of (mtb4 (mt64 (mt64 (mt64 (mt16 (mt4 (mt4 (mt4 (List.Mem.head _))))))))) rfl⟩
theorem flX9_136 : FLk RX9 136 10 41 := ⟨by decide, by decide, by decide, rfl, gT_of (mtb4 (mt64 (mt64 (mt64 (mt16 (mt4 (mt4 (mt4 (mt1 (List.Mem.head _)))))))))) rfl⟩
theorem flX9_139 : FLk RX9 139 10 42 := ⟨by decide, by decide, by decide, rfl, gT_of (mtb4 (mt64 (mt64 (mt64 (mt16 (mt4 (mt4 (mt4 (mt1 (mt1 (List.Mem.head _))))))))))) rfl⟩
theorem flX9_142 : FLk RX9 142 10 43 := ⟨by decide, by decide, by decide, rfl, gT_of (mtb4 (mt64 (mt64 (mt64 (mt16 (mt4 (mt4 (mt4 (mt1 (mt1 (mt1 (List.Mem.head _)))))))))))) rfl⟩
theorem flX9_145 : FLk RX9 145 10 44 := ⟨by decide, by decide, by decide, rfl, gT_of (mtb4 (mt64 (mt64 (mt64 (mt16 (mt16 (List.Mem.head _))))))) rfl⟩
theorem flX9_148 : FLk RX9 148 10 45 := ⟨by decide, by decide, by decide, rfl, gT_of (mtb4 (mt64 (mt64 (mt64 (mt16 (mt16 (mt1 (List.Mem.head _)))))))) rfl⟩
theorem flX9_151 : FLk RX9 151 10 46 := ⟨by decide, by decide, by decide, rfl, gT_of (mtb4 (mt64 (mt64 (mt64 (mt16 (mt16 (mt1 (mt1 (List.Mem.head _))))))))) rfl⟩
theorem flX9_154 : FLk RX9 154 10 47 := ⟨by decide, by decide, by decide, rfl, gT_of (mtb4 (mt64 (mt64 (mt64 (mt16 (mt16 (mt1 (mt1 (mt1 (List.Mem.head _)))))))))) rfl⟩
theorem flX9_157 : FLk RX9 157 10 48 := ⟨by decide, by decide, by decide, rfl, gT_of (mtb4 (mt64 (mt64 (mt64 (mt16 (mt16 (mt4 (List.Mem.head _)))))))) rfl⟩
theorem flX9_160 : FLk RX9 160 10 49 := ⟨by decide, by decide, by decide, rfl, gT_of (mtb4 (mt64 (mt64 (mt64 (mt16 (mt16 (mt4 (mt1 (List.Mem.head _))))))))) rfl⟩
theorem flX9_163 : FLk RX9 163 10 50 := ⟨by decide, by decide, by decide, rfl, gT_of (mtb4 (mt64 (mt64 (mt64 (mt16 (mt16 (mt4 (mt1 (mt1 (List.Mem.head _)))))))))) rfl⟩
theorem flX9_166 : FLk RX9 166 10 51 := ⟨by decide, by decide, by decide, rfl, gT_of (mtb4 (mt64 (mt64 (mt64 (mt16 (mt16 (mt4 (mt1 (mt1 (mt1 (List.Mem.head _))))))))))) rfl⟩
theorem flX9_169 : FLk RX9 169 10 52 := ⟨by decide, by decide, by decide, rfl, gT_of (mtb4 (mt64 (mt64 (mt64 (mt16 (mt16 (mt4 (mt4 (List.Mem.head _))))))))) rfl⟩
theorem flX9_172 : FLk RX9 172 10 53 := ⟨by decide, by decide, by decide, rfl, gT_of (mtb4 (mt64 (mt64 (mt64 (mt16 (mt16 (mt4 (mt4 (mt1 (List.Mem.head _)))))))))) rfl⟩
theorem flX9_175 : FLk RX9 175 10 54 := ⟨by decide, by decide, by decide, rfl, gT_of (mtb4 (mt64 (mt64 (mt64 (mt16 (mt16 (mt4 (mt4 (mt1 (mt1 (List.Mem.head _))))))))))) rfl⟩
theorem flX9_178 : FLk RX9 178 10 55 := ⟨by decide, by decide, by decide, rfl, gT_of (mtb4 (mt64 (mt64 (mt64 (mt16 (mt16 (mt4 (mt4 (mt1 (mt1 (mt1 (List.Mem.head _)))))))))))) rfl⟩
theorem flX9_181 : FLk RX9 181 10 56 := ⟨by decide, by decide, by decide, rfl, gT_of (mtb4 (mt64 (mt64 (mt64 (mt16 (mt16 (mt4 (mt4 (mt4 (List.Mem.head _)))))))))) rfl⟩
theorem flX9_184 : FLk RX9 184 10 57 := ⟨by decide, by decide, by decide, rfl, gT_of (mtb4 (mt64 (mt64 (mt64 (mt16 (mt16 (mt4 (mt4 (mt4 (mt1 (List.Mem.head _))))))))))) rfl⟩
theorem flX9_187 : FLk RX9 187 10 58 := ⟨by decide, by decide, by decide, rfl, gT_of (mtb4 (mt64 (mt64 (mt64 (mt16 (mt16 (mt4 (mt4 (mt4 (mt1 (mt1 (List.Mem.head _)))))))))))) rfl⟩
theorem flX9_190 : FLk RX9 190 10 59 := ⟨by decide, by decide, by decide, rfl, gT_of (mtb4 (mt64 (mt64 (mt64 (mt16 (mt16 (mt4 (mt4 (mt4 (mt1 (mt1 (mt1 (List.Mem.head _))))))))))))) rfl⟩
theorem flX9_193 : FLk RX9 193 10 60 := ⟨by decide, by decide, by decide, rfl, gT_of (mtb5 (List.Mem.head _)) rfl⟩
theorem flX9_196 : FLk RX9 196 10 61 := ⟨by decide, by decide, by decide, rfl, gT_of (mtb5 (mt1 (List.Mem.head _))) rfl⟩
theorem flX9_200 : FLk RX9 200 10 62 := ⟨by decide, by decide, by decide, rfl, gT_of (mtb5 (mt1 (mt1 (List.Mem.head _)))) rfl⟩
theorem ivX8_11 : IvI RX8 11 yX4_init := ⟨gT_of (mtb1 (mt16 (mt4 (mt4 (mt4 (mt1 (List.Mem.head _))))))) rfl, gT_of (mtb1 (mt16 (mt4 (mt4 (mt4 (mt1 (mt1 (List.Mem.head _)))))))) rfl, rfl⟩
theorem ivX8_23 : IvIN RX8 23 yX6_init := ⟨"DoorSticks", nW_of (mtb1 (mt64 (mt16 (mt16 (mt16 (mt4 (mt4 (mt4 (mt1 (mt1 (List.Mem.head _))))))))))) rfl, gT_of (mtb1 (mt64 (mt16 (mt16 (mt16 (mt4 (mt4 (mt4 (mt1 (mt1 (mt1 (List.Mem.head _)))))))))))) rfl, rfl⟩
theorem ivX8_32 : IvI RX8 32 yX5_init := ⟨gT_of (mtb1 (mt64 (mt64 (mt16 (mt4 (mt4 (mt4 (mt1 (mt1 (List.Mem.head _)))))))))) rfl, gT_of (mtb1 (mt64 (mt64 (mt16 (mt4 (mt4 (mt4 (mt1 (mt1 (mt1 (List.Mem.head _))))))))))) rfl, rfl⟩
theorem ivX8_45 : IvIN RX8 45 yX2_init := ⟨"DoorSticks", nW_of (mtb1 (mt64 (mt64 (mt16 (mt16 (mt16 (mt4 (mt1 (mt1 (mt1 (List.Mem.head _))))))))))) rfl, gT_of (mtb1 (mt64 (mt64 (mt16 (mt16 (mt16 (mt4 (mt4 (List.Mem.head _))))))))) rfl, rfl⟩
theorem ivX8_55 : IvIN RX8 55 yX0_init := ⟨"DoorSticks", nW_of (mtb1 (mt64 (mt64 (mt64 (mt16 (mt16 (mt4 (mt4 (List.Mem.head _))))))))) rfl, gT_of (mtb1 (mt64 (mt64 (mt64 (mt16 (mt16 (mt4 (mt4 (mt1 (List.Mem.head _)))))))))) rfl, rfl⟩
theorem ivX8_66 : IvIN RX8 66 yX7_init := ⟨"DoorSticks", nW_of (mtb2 (mt16 (mt1 (List.Mem.head _)))) rfl, gT_of (mtb2 (mt16 (mt1 (mt1 (List.Mem.head _))))) rfl, rfl⟩
theorem ivX8_67 : IvS RX8 67 yX8_within := ⟨gT_of (mtb2 (mt64 (mt4 (mt4 (List.Mem.head _))))) rfl, gT_of (mtb2 (mt64 (mt4 (mt4 (mt1 (List.Mem.head _)))))) rfl⟩
theorem ivX8_86 : IvV RX8 86 yX3_begin := ⟨gT_of (mtb2 (mt64 (mt16 (mt1 (mt1 (mt1 (List.Mem.head _))))))) rfl, gT_of (mtb2 (mt64 (mt16 (mt4 (List.Mem.head _))))) rfl, gT_of (mtb2 (mt64 (mt16 (mt4 (mt1 (List.Mem.head _)))))) rfl⟩
theorem ivX8_92 : IvV RX8 92 yX8_doorAt := ⟨gT_of (mtb2 (mt64 (mt16 (mt4 (mt4 (mt4 (List.Mem.head _))))))) rfl, gT_of (mtb2 (mt64 (mt16 (mt4 (mt4 (mt4 (mt1 (mt1 (List.Mem.head _))))))))) rfl, gT_of (mpr1 (List.Mem.head _)) rfl⟩
theorem ivX8_99 : IvV RX8 99 yX8_courseNow := ⟨gT_of (mtb2 (mt64 (mt16 (mt16 (List.Mem.head _))))) rfl, gT_of (mtb2 (mt64 (mt16 (mt16 (mt1 (mt1 (List.Mem.head _))))))) rfl, gT_of (mpr1 (mt1 (List.Mem.head _))) rfl⟩
theorem ivX8_103 : IvV RX8 103 yX2_gap := ⟨gT_of (mtb2 (mt64 (mt64 (mt16 (mt4 (mt4 (mt4 (mt1 (mt1 (List.Mem.head _)))))))))) rfl, gT_of (mtb2 (mt64 (mt64 (mt16 (mt4 (mt4 (mt4 (mt1 (mt1 (mt1 (List.Mem.head _))))))))))) rfl, gT_of (mtb2 (mt64 (mt64 (mt16 (mt16 (List.Mem.head _)))))) rfl⟩
theorem ivX8_134 : IvV RX8 134 yX2_rubbing := ⟨gT_of (mtb2 (mt64 (mt64 (mt16 (mt16 (mt4 (mt4 (List.Mem.head _)))))))) rfl, gT_of (mtb2 (mt64 (mt64 (mt16 (mt16 (mt4 (mt4 (mt1 (List.Mem.head _))))))))) rfl, gT_of (mtb2 (mt64 (mt64 (mt16 (mt16 (mt4 (mt4 (mt1 (mt1 (List.Mem.head _)))))))))) rfl⟩
theorem ivX8_138 : IvV RX8 138 yX2_draughty := ⟨gT_of (mtb2 (mt64 (mt64 (mt16 (mt16 (mt4 (mt4 (mt4 (mt1 (List.Mem.head _)))))))))) rfl, gT_of (mtb2 (mt64 (mt64 (mt16 (mt16 (mt4 (mt4 (mt4 (mt1 (mt1 (List.Mem.head _))))))))))) rfl, gT_of (mtb2 (mt64 (mt64 (mt16 (mt16 (mt4 (mt4 (mt4 (mt1 (mt1 (mt1 (List.Mem.head _)))))))))))) rfl⟩
theorem ivX8_141 : IvV RX8 141 yX6_append := ⟨gT_of (mtb2 (mt64 (mt64 (mt16 (mt16 (mt16 (mt4 (mt4 (mt4 (mt1 (List.Mem.head _))))))))))) rfl, gT_of (mtb2 (mt64 (mt64 (mt16 (mt16 (mt16 (mt4 (mt4 (mt4 (mt1 (mt1 (List.Mem.head _)))))))))))) rfl, gT_of (mtb2 (mt64 (mt64 (mt16 (mt16 (mt16 (mt4 (mt4 (mt4 (mt1 (mt1 (mt1 (List.Mem.head _))))))))))))) rfl⟩
theorem ivX8_151 : IvV RX8 151 yX6_parse := ⟨gT_of (mtb2 (mt64 (mt64 (mt64 (mt4 (mt1 (List.Mem.head _))))))) rfl, gT_of (mtb2 (mt64 (mt64 (mt64 (mt4 (mt1 (mt1 (List.Mem.head _)))))))) rfl, gT_of (mtb2 (mt64 (mt64 (mt64 (mt4 (mt1 (mt1 (mt1 (List.Mem.head _))))))))) rfl⟩
theorem ivX8_154 : IvV RX8 154 yX6_built := ⟨gT_of (mtb3 (mt64 (mt64 (mt16 (mt4 (mt1 (List.Mem.head _))))))) rfl, gT_of (mtb3 (mt64 (mt64 (mt16 (mt4 (mt1 (mt1 (List.Mem.head _)))))))) rfl, gT_of (mtb3 (mt64 (mt64 (mt16 (mt4 (mt1 (mt1 (mt1 (List.Mem.head _))))))))) rfl⟩
theorem ivX8_161 : IvV RX8 161 yX8_holdingHouse := ⟨gT_of (mtb2 (mt64 (mt16 (mt16 (mt4 (List.Mem.head _)))))) rfl, gT_of (mtb2 (mt64 (mt16 (mt16 (mt4 (mt1 (mt1 (List.Mem.head _)))))))) rfl, gT_of (mpr1 (mt1 (mt1 (List.Mem.head _)))) rfl⟩
theorem ivX8_173 : IvV RX8 173 yX3_takeUp := ⟨gT_of (mtb3 (mt64 (mt64 (mt16 (mt16 (mt1 (mt1 (mt1 (List.Mem.head _))))))))) rfl, gT_of (mtb3 (mt64 (mt64 (mt16 (mt16 (mt4 (List.Mem.head _))))))) rfl, gT_of (mtb3 (mt64 (mt64 (mt16 (mt16 (mt4 (mt1 (List.Mem.head _)))))))) rfl⟩
theorem ivX8_177 : IvV RX8 177 yX3_factsIn := ⟨gT_of (mtb3 (mt64 (mt64 (mt16 (mt16 (mt4 (mt1 (mt1 (mt1 (List.Mem.head _)))))))))) rfl, gT_of (mtb2 (mt64 (mt16 (mt16 (mt16 (mt4 (mt4 (mt1 (List.Mem.head _))))))))) rfl, gT_of (mtb2 (mt64 (mt16 (mt16 (mt16 (mt4 (mt4 (mt1 (mt1 (List.Mem.head _)))))))))) rfl⟩
theorem ivX8_181 : IvV RX8 181 yX5_total := ⟨gT_of (mtb3 (mt64 (mt64 (mt16 (mt16 (mt4 (mt4 (List.Mem.head _)))))))) rfl, gT_of (mtb2 (mt64 (mt64 (mt1 (List.Mem.head _))))) rfl, gT_of (mtb2 (mt64 (mt64 (mt1 (mt1 (List.Mem.head _)))))) rfl⟩
theorem ivX8_185 : IvV RX8 185 yX3_drawOut := ⟨gT_of (mtb3 (mt64 (mt64 (mt16 (mt16 (mt4 (mt4 (mt1 (List.Mem.head _))))))))) rfl, gT_of (mtb3 (mt64 (mt64 (mt16 (mt16 (mt4 (mt4 (mt1 (mt1 (List.Mem.head _)))))))))) rfl, gT_of (mtb3 (mt64 (mt64 (mt16 (mt16 (mt4 (mt4 (mt1 (mt1 (mt1 (List.Mem.head _))))))))))) rfl⟩
theorem ivX8_188 : IvS RX8 188 yX8_sunk := ⟨gT_of (mtb3 (mt64 (mt64 (mt16 (mt16 (mt4 (mt4 (mt4 (mt1 (mt1 (List.Mem.head _))))))))))) rfl, gT_of (mtb3 (mt64 (mt64 (mt16 (mt16 (mt4 (mt4 (mt4 (mt1 (mt1 (mt1 (List.Mem.head _)))))))))))) rfl⟩
theorem ivX8_192 : IvS RX8 192 yX8_isPlaceOfMend := ⟨gT_of (mtb3 (mt64 (mt64 (mt16 (mt16 (mt16 (mt4 (mt1 (mt1 (List.Mem.head _)))))))))) rfl, gT_of (mtb3 (mt64 (mt64 (mt16 (mt16 (mt16 (mt4 (mt1 (mt1 (mt1 (List.Mem.head _))))))))))) rfl⟩
theorem ivX8_196 : IvV RX8 196 yX3_cutMore := ⟨gT_of (mtb3 (mt64 (mt64 (mt16 (mt16 (mt16 (mt4 (mt4 (mt1 (mt1 (List.Mem.head _))))))))))) rfl, gT_of (mtb3 (mt64 (mt64 (mt16 (mt16 (mt16 (mt4 (mt4 (mt1 (mt1 (mt1 (List.Mem.head _)))))))))))) rfl, gT_of (mtb3 (mt64 (mt64 (mt16 (mt16 (mt16 (mt4 (mt4 (mt4 (List.Mem.head _)))))))))) rfl⟩
theorem ivX8_200 : IvV RX8 200 yX3_packMore := ⟨gT_of (mtb3 (mt64 (mt64 (mt16 (mt16 (mt16 (mt4 (mt4 (mt4 (mt1 (mt1 (List.Mem.head _)))))))))))) rfl, gT_of (mtb3 (mt64 (mt64 (mt16 (mt16 (mt16 (mt4 (mt4 (mt4 (mt1 (mt1 (mt1 (List.Mem.head _))))))))))))) rfl, gT_of (mtb3 (mt64 (mt64 (mt64 (List.Mem.head _))))) rfl⟩
theorem ivX8_203 : IvV RX8 203 yX3_driveScrews := ⟨gT_of (mtb3 (mt64 (mt64 (mt64 (mt1 (mt1 (List.Mem.head _))))))) rfl, gT_of (mtb3 (mt64 (mt64 (mt64 (mt1 (mt1 (mt1 (List.Mem.head _)))))))) rfl, gT_of (mtb3 (mt64 (mt64 (mt64 (mt4 (List.Mem.head _)))))) rfl⟩
theorem ivX8_206 : IvV RX8 206 yX3_paintSide := ⟨gT_of (mtb3 (mt64 (mt64 (mt64 (mt4 (mt1 (mt1 (List.Mem.head _)))))))) rfl, gT_of (mtb3 (mt64 (mt64 (mt64 (mt4 (mt1 (mt1 (mt1 (List.Mem.head _))))))))) rfl, gT_of (mtb3 (mt64 (mt64 (mt64 (mt4 (mt4 (List.Mem.head _))))))) rfl⟩
theorem ivX8_209 : IvV RX8 209 yX2_goOn := ⟨gT_of (mtb3 (mt64 (mt64 (mt64 (mt4 (mt4 (mt4 (mt1 (mt1 (List.Mem.head _)))))))))) rfl, gT_of (mtb3 (mt64 (mt64 (mt64 (mt4 (mt4 (mt4 (mt1 (mt1 (mt1 (List.Mem.head _))))))))))) rfl, gT_of (mtb3 (mt64 (mt64 (mt64 (mt16 (List.Mem.head _)))))) rfl⟩
theorem ivX8_216 : IvV RX8 216 yX2_firstRubbing := ⟨gT_of (mtb3 (mt64 (mt64 (mt64 (mt16 (mt4 (mt4 (mt4 (mt1 (List.Mem.head _)))))))))) rfl, gT_of (mtb3 (mt64 (mt64 (mt64 (mt16 (mt4 (mt4 (mt4 (mt1 (mt1 (List.Mem.head _))))))))))) rfl, gT_of (mtb3 (mt64 (mt64 (mt64 (mt16 (mt4 (mt4 (mt4 (mt1 (mt1 (mt1 (List.Mem.head _)))))))))))) rfl⟩
theorem ivX8_219 : IvS RX8 219 yX8_isSpot := ⟨gT_of (mtb3 (mt64 (mt64 (mt16 (mt16 (mt16 (mt4 (mt4 (mt1 (List.Mem.head _)))))))))) rfl, gT_of (mtb2 (mt64 (mt64 (mt16 (mt16 (mt1 (mt1 (mt1 (List.Mem.head _))))))))) rfl⟩
theorem ivX8_222 : IvV RX8 222 yX2_goThrough := ⟨gT_of (mtb3 (mt64 (mt64 (mt64 (mt16 (mt16 (mt4 (mt1 (List.Mem.head _))))))))) rfl, gT_of (mtb3 (mt64 (mt64 (mt64 (mt16 (mt16 (mt4 (mt1 (mt1 (List.Mem.head _)))))))))) rfl, gT_of (mtb3 (mt64 (mt64 (mt64 (mt16 (mt16 (mt4 (mt1 (mt1 (mt1 (List.Mem.head _))))))))))) rfl⟩
theorem ivX8_231 : IvV RX8 231 yX2_fitsWhenCut := ⟨gT_of (mtb3 (mt64 (mt64 (mt64 (mt16 (mt16 (mt4 (mt4 (mt4 (mt1 (mt1 (mt1 (List.Mem.head _))))))))))))) rfl, gT_of (mtb4 (List.Mem.head _)) rfl, gT_of (mtb4 (mt1 (List.Mem.head _))) rfl⟩
theorem ivX8_235 : IvV RX8 235 yX2_missing := ⟨gT_of (mtb4 (mt4 (mt1 (mt1 (mt1 (List.Mem.head _)))))) rfl, gT_of (mtb4 (mt4 (List.Mem.head _))) rfl, gT_of (mtb4 (mt4 (mt1 (List.Mem.head _)))) rfl⟩
theorem ivX8_238 : IvV RX8 238 yX8_costOf := ⟨gT_of (mtb4 (mt4 (mt4 (mt4 (List.Mem.head _))))) rfl, gT_of (mtb4 (mt4 (mt4 (mt4 (mt1 (mt1 (List.Mem.head _))))))) rfl, gT_of (mpr1 (mt4 (mt4 (mt4 (mt1 (mt1 (mt1 (List.Mem.head _)))))))) rfl⟩
theorem ivX8_243 : IvS RX8 243 yX8_takenUp := ⟨gT_of (mtb4 (mt16 (mt4 (mt4 (mt1 (List.Mem.head _)))))) rfl, gT_of (mtb2 (mt64 (mt64 (mt16 (mt16 (mt4 (mt1 (mt1 (List.Mem.head _))))))))) rfl⟩
theorem ivX8_249 : IvV RX8 249 yX2_goInAir := ⟨gT_of (mtb4 (mt16 (mt4 (mt4 (mt4 (mt1 (mt1 (mt1 (List.Mem.head _))))))))) rfl, gT_of (mtb4 (mt16 (mt16 (List.Mem.head _)))) rfl, gT_of (mtb4 (mt16 (mt16 (mt1 (List.Mem.head _))))) rfl⟩
theorem ivX8_252 : IvS RX8 252 yX8_partOfTwelfths := ⟨gT_of (mtb4 (mt16 (mt16 (mt1 (mt1 (mt1 (List.Mem.head _))))))) rfl, gT_of (mtb4 (mt16 (mt16 (mt4 (List.Mem.head _))))) rfl⟩
theorem ivX8_256 : IvV RX8 256 yX8_rubsLessChanged := ⟨gT_of (mtb4 (mt16 (mt16 (mt4 (mt4 (mt4 (mt1 (mt1 (List.Mem.head _))))))))) rfl, gT_of (mtb4 (mt16 (mt16 (mt16 (List.Mem.head _))))) rfl, gT_of (mpr2 (List.Mem.head _)) rfl⟩
theorem ivX8_274 : IvV RX8 274 yX8_tapeAt := ⟨gT_of (mtb4 (mt64 (mt1 (mt1 (mt1 (List.Mem.head _)))))) rfl, gT_of (mtb4 (mt64 (mt4 (mt1 (List.Mem.head _))))) rfl, gT_of (mpr2 (mt1 (List.Mem.head _))) rfl⟩
theorem ivX8_281 : IvV RX8 281 yX7_hasPlace := ⟨gT_of (mtb4 (mt64 (mt4 (mt1 (mt1 (mt1 (List.Mem.head _))))))) rfl, gT_of (mtb4 (mt64 (mt4 (mt4 (List.Mem.head _))))) rfl, gT_of (mtb4 (mt64 (mt4 (mt4 (mt1 (List.Mem.head _)))))) rfl⟩
theorem ivX8_288 : IvV RX8 288 yX4_become := ⟨gT_of (mtb4 (mt64 (mt16 (List.Mem.head _)))) rfl, gT_of (mtb4 (mt64 (mt16 (mt1 (List.Mem.head _))))) rfl, gT_of (mtb4 (mt64 (mt16 (mt1 (mt1 (List.Mem.head _)))))) rfl⟩
theorem ivX8_296 : IvV RX8 296 yX0_forget := ⟨gT_of (mtb4 (mt64 (mt16 (mt4 (mt4 (mt4 (mt1 (mt1 (List.Mem.head _))))))))) rfl, gT_of (mtb4 (mt64 (mt16 (mt4 (mt4 (mt4 (mt1 (mt1 (mt1 (List.Mem.head _)))))))))) rfl, gT_of (mtb4 (mt64 (mt16 (mt16 (List.Mem.head _))))) rfl⟩
theorem ivX8_299 : IvV RX8 299 yX0_perform := ⟨gT_of (mtb4 (mt64 (mt16 (mt16 (mt1 (mt1 (List.Mem.head _))))))) rfl, gT_of (mtb4 (mt64 (mt16 (mt16 (mt1 (mt1 (mt1 (List.Mem.head _)))))))) rfl, gT_of (mtb4 (mt64 (mt16 (mt16 (mt4 (List.Mem.head _)))))) rfl⟩
theorem ivX8_303 : IvV RX8 303 yX0_keptCount := ⟨gT_of (mtb4 (mt64 (mt16 (mt16 (mt16 (mt4 (mt4 (mt4 (mt1 (List.Mem.head _)))))))))) rfl, gT_of (mtb4 (mt64 (mt16 (mt16 (mt16 (mt4 (mt4 (mt4 (mt1 (mt1 (List.Mem.head _))))))))))) rfl, gT_of (mtb4 (mt64 (mt16 (mt16 (mt16 (mt4 (mt4 (mt4 (mt1 (mt1 (mt1 (List.Mem.head _)))))))))))) rfl⟩
theorem ivX8_309 : IvS RX8 309 yX8_isUnder := ⟨gT_of (mtb4 (mt64 (mt64 (mt4 (mt1 (mt1 (List.Mem.head _))))))) rfl, gT_of (mtb4 (mt64 (mt64 (mt4 (mt1 (mt1 (mt1 (List.Mem.head _)))))))) rfl⟩
theorem ivX8_315 : IvV RX8 315 yX7_becomeRow := ⟨gT_of (mtb4 (mt64 (mt64 (mt16 (mt1 (mt1 (List.Mem.head _))))))) rfl, gT_of (mtb4 (mt64 (mt64 (mt16 (mt1 (mt1 (mt1 (List.Mem.head _)))))))) rfl, gT_of (mtb4 (mt64 (mt64 (mt16 (mt4 (List.Mem.head _)))))) rfl⟩
theorem ivX8_319 : IvV RX8 319 yX7_narrowed := ⟨gT_of (mtb4 (mt64 (mt64 (mt16 (mt4 (mt4 (mt4 (mt1 (List.Mem.head _))))))))) rfl, gT_of (mtb4 (mt64 (mt64 (mt16 (mt4 (mt4 (mt4 (mt1 (mt1 (List.Mem.head _)))))))))) rfl, gT_of (mtb4 (mt64 (mt64 (mt16 (mt4 (mt4 (mt4 (mt1 (mt1 (mt1 (List.Mem.head _))))))))))) rfl⟩
theorem ivX8_323 : IvV RX8 323 yX7_hasPlaces := ⟨gT_of (mtb4 (mt64 (mt64 (mt16 (mt16 (mt4 (mt4 (mt1 (List.Mem.head _))))))))) rfl, gT_of (mtb4 (mt64 (mt64 (mt16 (mt16 (mt4 (mt4 (mt1 (mt1 (List.Mem.head _)))))))))) rfl, gT_of (mtb4 (mt64 (mt64 (mt16 (mt16 (mt4 (mt4 (mt1 (mt1 (mt1 (List.Mem.head _))))))))))) rfl⟩
theorem ivX8_338 : IvV RX8 338 yX2_begin := ⟨gT_of (mtb2 (mt64 (mt16 (mt16 (mt4 (mt4 (List.Mem.head _))))))) rfl, gT_of (mtb2 (mt64 (mt16 (mt16 (mt4 (mt4 (mt1 (List.Mem.head _)))))))) rfl, gT_of (mtb2 (mt64 (mt16 (mt16 (mt4 (mt4 (mt1 (mt1 (List.Mem.head _))))))))) rfl⟩
theorem ivX8_341 : IvV RX8 341 yX2_settle := ⟨gT_of (mtb4 (mt16 (List.Mem.head _))) rfl, gT_of (mtb2 (mt64 (mt16 (mt16 (mt16 (mt4 (mt1 (List.Mem.head _)))))))) rfl, gT_of (mtb2 (mt64 (mt16 (mt16 (mt16 (mt4 (mt1 (mt1 (List.Mem.head _))))))))) rfl⟩
theorem ivX8_344 : IvV RX8 344 yX2_missingSpots := ⟨gT_of (mtb4 (mt16 (mt1 (List.Mem.head _)))) rfl, gT_of (mtb4 (mt16 (mt1 (mt1 (List.Mem.head _))))) rfl, gT_of (mtb4 (mt16 (mt1 (mt1 (mt1 (List.Mem.head _)))))) rfl⟩
theorem ivX8_347 : IvV RX8 347 yX2_rubsWith := ⟨gT_of (mtb4 (mt16 (mt16 (mt16 (mt1 (mt1 (List.Mem.head _))))))) rfl, gT_of (mtb4 (mt16 (mt16 (mt16 (mt1 (mt1 (mt1 (List.Mem.head _)))))))) rfl, gT_of (mtb4 (mt16 (mt16 (mt16 (mt4 (List.Mem.head _)))))) rfl⟩
theorem ivX0_39 : IvS RX0 39 yX0_swells := ⟨gT_of (mtb4 (mt64 (mt16 (mt16 (mt4 (mt1 (mt1 (List.Mem.head _)))))))) rfl, gT_of (mtb4 (mt64 (mt16 (mt16 (mt4 (mt1 (mt1 (mt1 (List.Mem.head _))))))))) rfl⟩
theorem ivX0_43 : IvS RX0 43 yX0_hangs := ⟨gT_of (mtb4 (mt64 (mt16 (mt16 (mt16 (mt1 (mt1 (mt1 (List.Mem.head _))))))))) rfl, gT_of (mtb4 (mt64 (mt16 (mt16 (mt16 (mt4 (List.Mem.head _))))))) rfl⟩
theorem ivX0_46 : IvS RX0 46 yX0_tells := ⟨gT_of (mtb4 (mt64 (mt16 (mt16 (mt16 (mt4 (mt1 (mt1 (List.Mem.head _))))))))) rfl, gT_of (mtb4 (mt64 (mt16 (mt16 (mt16 (mt4 (mt1 (mt1 (mt1 (List.Mem.head _)))))))))) rfl⟩
theorem ivX0_49 : IvSN RX0 49 yX8_within := ⟨"DoorSticks", nW_of (mtb4 (mt64 (mt16 (mt16 (mt16 (List.Mem.head _)))))) rfl, gT_of (mtb2 (mt64 (mt4 (mt4 (mt1 (List.Mem.head _)))))) rfl⟩
theorem ivX0_56 : IvV RX0 56 yX0_began := ⟨gT_of (mtb4 (mt64 (mt16 (mt16 (mt4 (mt4 (mt1 (List.Mem.head _)))))))) rfl, gT_of (mtb4 (mt64 (mt16 (mt16 (mt4 (mt4 (mt1 (mt1 (mt1 (List.Mem.head _)))))))))) rfl, gT_of (mpr2 (mt1 (mt1 (List.Mem.head _)))) rfl⟩
theorem ivX0_60 : IvS RX0 60 yX0_above := ⟨gT_of (mtb4 (mt64 (mt16 (mt16 (mt4 (mt4 (mt4 (mt1 (List.Mem.head _))))))))) rfl, gT_of (mtb4 (mt64 (mt16 (mt16 (mt4 (mt4 (mt4 (mt1 (mt1 (List.Mem.head _)))))))))) rfl⟩
theorem ivX1_22 : IvS RX1 22 yX1_testHolds := ⟨gT_of (mtb2 (mt64 (mt64 (mt4 (mt4 (mt1 (List.Mem.head _))))))) rfl, gT_of (mtb2 (mt64 (mt64 (mt4 (mt4 (mt1 (mt1 (List.Mem.head _)))))))) rfl⟩
theorem ivX2_13 : IvI RX2 13 yX5_init := ⟨gT_of (mtb1 (mt64 (mt64 (mt16 (mt16 (mt16 (mt4 (mt4 (mt4 (mt1 (List.Mem.head _))))))))))) rfl, gT_of (mtb1 (mt64 (mt64 (mt16 (mt4 (mt4 (mt4 (mt1 (mt1 (mt1 (List.Mem.head _))))))))))) rfl, rfl⟩
theorem ivX2_24 : IvIN RX2 24 yX3_init := ⟨"DoorSticks", nW_of (mtb1 (mt64 (mt64 (mt16 (mt16 (mt16 (mt4 (mt4 (mt4 (mt1 (mt1 (mt1 (List.Mem.head _))))))))))))) rfl, gT_of (mtb1 (mt16 (mt16 (mt4 (mt4 (List.Mem.head _)))))) rfl, rfl⟩
theorem ivX2_39 : IvV RX2 39 yX3_become := ⟨gT_of (mtb2 (mt64 (mt16 (mt16 (mt4 (mt4 (mt4 (List.Mem.head _)))))))) rfl, gT_of (mtb2 (mt64 (mt16 (mt16 (mt4 (mt4 (mt4 (mt1 (List.Mem.head _))))))))) rfl, gT_of (mtb2 (mt64 (mt16 (mt16 (mt4 (mt4 (mt4 (mt1 (mt1 (List.Mem.head _)))))))))) rfl⟩
theorem ivX2_61 : IvV RX2 61 yX2_settle := ⟨gT_of (mtb2 (mt64 (mt16 (mt16 (mt16 (mt4 (List.Mem.head _))))))) rfl, gT_of (mtb2 (mt64 (mt16 (mt16 (mt16 (mt4 (mt1 (List.Mem.head _)))))))) rfl, gT_of (mtb2 (mt64 (mt16 (mt16 (mt16 (mt4 (mt1 (mt1 (List.Mem.head _))))))))) rfl⟩
theorem ivX2_64 : IvV RX2 64 yX3_factsIn := ⟨gT_of (mtb2 (mt64 (mt16 (mt16 (mt16 (mt4 (mt4 (List.Mem.head _)))))))) rfl, gT_of (mtb2 (mt64 (mt16 (mt16 (mt16 (mt4 (mt4 (mt1 (List.Mem.head _))))))))) rfl, gT_of (mtb2 (mt64 (mt16 (mt16 (mt16 (mt4 (mt4 (mt1 (mt1 (List.Mem.head _)))))))))) rfl⟩
theorem ivX2_74 : IvV RX2 74 yX5_total := ⟨gT_of (mtb2 (mt64 (mt64 (List.Mem.head _)))) rfl, gT_of (mtb2 (mt64 (mt64 (mt1 (List.Mem.head _))))) rfl, gT_of (mtb2 (mt64 (mt64 (mt1 (mt1 (List.Mem.head _)))))) rfl⟩
theorem ivX2_78 : IvV RX2 78 yX3_swell := ⟨gT_of (mtb2 (mt64 (mt64 (mt4 (mt4 (mt4 (List.Mem.head _))))))) rfl, gT_of (mtb2 (mt64 (mt64 (mt4 (mt4 (mt4 (mt1 (List.Mem.head _)))))))) rfl, gT_of (mtb2 (mt64 (mt64 (mt4 (mt4 (mt4 (mt1 (mt1 (List.Mem.head _))))))))) rfl⟩
theorem ivX2_84 : IvV RX2 84 yX3_bend := ⟨gT_of (mtb2 (mt64 (mt64 (mt16 (mt1 (mt1 (mt1 (List.Mem.head _)))))))) rfl, gT_of (mtb2 (mt64 (mt64 (mt16 (mt4 (List.Mem.head _)))))) rfl, gT_of (mtb2 (mt64 (mt64 (mt16 (mt4 (mt1 (List.Mem.head _))))))) rfl⟩
theorem ivX2_90 : IvV RX2 90 yX3_hang := ⟨gT_of (mtb2 (mt64 (mt64 (mt16 (mt4 (mt4 (mt1 (mt1 (List.Mem.head _))))))))) rfl, gT_of (mtb2 (mt64 (mt64 (mt16 (mt4 (mt4 (mt1 (mt1 (mt1 (List.Mem.head _)))))))))) rfl, gT_of (mtb2 (mt64 (mt64 (mt16 (mt4 (mt4 (mt4 (List.Mem.head _)))))))) rfl⟩
theorem ivX2_95 : IvV RX2 95 yX3_takeUp := ⟨gT_of (mtb3 (mt64 (mt64 (mt64 (mt16 (mt4 (mt1 (mt1 (List.Mem.head _))))))))) rfl, gT_of (mtb3 (mt64 (mt64 (mt16 (mt16 (mt4 (List.Mem.head _))))))) rfl, gT_of (mtb3 (mt64 (mt64 (mt16 (mt16 (mt4 (mt1 (List.Mem.head _)))))))) rfl⟩
theorem ivX2_99 : IvV RX2 99 yX3_drawOut := ⟨gT_of (mtb3 (mt64 (mt64 (mt64 (mt16 (mt4 (mt1 (mt1 (mt1 (List.Mem.head _)))))))))) rfl, gT_of (mtb3 (mt64 (mt64 (mt16 (mt16 (mt4 (mt4 (mt1 (mt1 (List.Mem.head _)))))))))) rfl, gT_of (mtb3 (mt64 (mt64 (mt16 (mt16 (mt4 (mt4 (mt1 (mt1 (mt1 (List.Mem.head _))))))))))) rfl⟩
theorem ivX2_105 : IvSN RX2 105 yX8_sunk := ⟨"DoorSticks", nW_of (mtb3 (mt64 (mt64 (mt64 (mt16 (mt4 (mt4 (List.Mem.head _)))))))) rfl, gT_of (mtb3 (mt64 (mt64 (mt16 (mt16 (mt4 (mt4 (mt4 (mt1 (mt1 (mt1 (List.Mem.head _)))))))))))) rfl⟩
theorem ivX2_109 : IvV RX2 109 yX2_pass := ⟨gT_of (mtb3 (mt64 (mt64 (mt64 (mt16 (mt1 (mt1 (List.Mem.head _)))))))) rfl, gT_of (mtb3 (mt64 (mt64 (mt64 (mt16 (mt4 (List.Mem.head _))))))) rfl, gT_of (mpr1 (mt4 (mt4 (mt4 (mt1 (mt1 (List.Mem.head _))))))) rfl⟩
theorem ivX2_112 : IvV RX2 112 yX2_gap := ⟨gT_of (mtb2 (mt64 (mt64 (mt16 (mt16 (mt4 (mt4 (mt4 (List.Mem.head _))))))))) rfl, gT_of (mtb2 (mt64 (mt64 (mt16 (mt4 (mt4 (mt4 (mt1 (mt1 (mt1 (List.Mem.head _))))))))))) rfl, gT_of (mtb2 (mt64 (mt64 (mt16 (mt16 (List.Mem.head _)))))) rfl⟩
theorem ivX2_124 : IvSN RX2 124 yX8_isSpot := ⟨"DoorSticks", nW_of (mtb2 (mt64 (mt64 (mt16 (mt16 (mt1 (mt1 (List.Mem.head _)))))))) rfl, gT_of (mtb2 (mt64 (mt64 (mt16 (mt16 (mt1 (mt1 (mt1 (List.Mem.head _))))))))) rfl⟩
theorem ivX2_134 : IvSN RX2 134 yX8_takenUp := ⟨"DoorSticks", nW_of (mtb2 (mt64 (mt64 (mt16 (mt16 (mt4 (mt1 (List.Mem.head _)))))))) rfl, gT_of (mtb2 (mt64 (mt64 (mt16 (mt16 (mt4 (mt1 (mt1 (List.Mem.head _))))))))) rfl⟩
theorem ivX2_141 : IvV RX2 141 yX2_missing := ⟨gT_of (mtb4 (mt1 (mt1 (mt1 (List.Mem.head _))))) rfl, gT_of (mtb4 (mt4 (List.Mem.head _))) rfl, gT_of (mtb4 (mt4 (mt1 (List.Mem.head _)))) rfl⟩
theorem ivX3_40 : IvS RX3 40 yJ7_fill_53178 := ⟨gT_of (mtb2 (mt64 (mt16 (mt4 (mt1 (mt1 (mt1 (List.Mem.head _)))))))) rfl, gT_of (mtb1 (mt16 (mt16 (mt4 (List.Mem.head _))))) rfl⟩
theorem ivX3_52 : IvV RX3 52 yX3_dampness := ⟨gT_of (mtb2 (mt64 (mt16 (mt16 (mt16 (mt4 (mt4 (mt4 (List.Mem.head _))))))))) rfl, gT_of (mtb2 (mt64 (mt16 (mt16 (mt16 (mt4 (mt4 (mt4 (mt1 (mt1 (List.Mem.head _))))))))))) rfl, gT_of (mpr1 (mt1 (mt1 (mt1 (List.Mem.head _))))) rfl⟩
theorem ivX4_31 : IvS RX4 31 yJ7_fill_53178 := ⟨gT_of (mtb1 (mt16 (mt16 (mt1 (mt1 (mt1 (List.Mem.head _))))))) rfl, gT_of (mtb1 (mt16 (mt16 (mt4 (List.Mem.head _))))) rfl⟩
theorem ivX4_37 : IvIN RX4 37 yX3_init := ⟨"DoorSticks", nW_of (mtb1 (mt16 (mt16 (mt4 (mt1 (mt1 (mt1 (List.Mem.head _)))))))) rfl, gT_of (mtb1 (mt16 (mt16 (mt4 (mt4 (List.Mem.head _)))))) rfl, rfl⟩
theorem ivX4_44 : IvV RX4 44 yX3_become := ⟨gT_of (mtb4 (mt64 (mt16 (mt4 (mt1 (List.Mem.head _)))))) rfl, gT_of (mtb2 (mt64 (mt16 (mt16 (mt4 (mt4 (mt4 (mt1 (List.Mem.head _))))))))) rfl, gT_of (mtb2 (mt64 (mt16 (mt16 (mt4 (mt4 (mt4 (mt1 (mt1 (List.Mem.head _)))))))))) rfl⟩
theorem ivX5_34 : IvV RX5 34 yX1_holds := ⟨gT_of (mtb2 (mt64 (mt64 (mt4 (List.Mem.head _))))) rfl, gT_of (mtb2 (mt64 (mt64 (mt4 (mt1 (List.Mem.head _)))))) rfl, gT_of (mtb2 (mt64 (mt64 (mt4 (mt1 (mt1 (List.Mem.head _))))))) rfl⟩
theorem ivX6_32 : IvV RX6 32 yX6_takes := ⟨gT_of (mtb2 (mt64 (mt64 (mt64 (mt4 (mt4 (mt1 (List.Mem.head _)))))))) rfl, gT_of (mtb2 (mt64 (mt64 (mt64 (mt4 (mt4 (mt1 (mt1 (mt1 (List.Mem.head _)))))))))) rfl, gT_of (mpr1 (mt4 (List.Mem.head _))) rfl⟩
theorem ivX6_36 : IvV RX6 36 yX6_takenWord := ⟨gT_of (mtb2 (mt64 (mt64 (mt64 (mt4 (mt4 (mt4 (mt1 (List.Mem.head _))))))))) rfl, gT_of (mtb2 (mt64 (mt64 (mt64 (mt4 (mt4 (mt4 (mt1 (mt1 (mt1 (List.Mem.head _))))))))))) rfl, gT_of (mpr1 (mt4 (mt1 (List.Mem.head _)))) rfl⟩
theorem ivX6_40 : IvV RX6 40 yX6_takenNumber := ⟨gT_of (mtb3 (mt16 (mt4 (mt4 (mt4 (mt1 (List.Mem.head _))))))) rfl, gT_of (mtb3 (mt16 (mt4 (mt4 (mt4 (mt1 (mt1 (mt1 (List.Mem.head _))))))))) rfl, gT_of (mpr1 (mt4 (mt1 (mt1 (mt1 (List.Mem.head _)))))) rfl⟩
theorem ivX6_46 : IvV RX6 46 yX6_takesAnyOf := ⟨gT_of (mtb3 (mt16 (mt16 (mt1 (List.Mem.head _))))) rfl, gT_of (mtb3 (mt16 (mt16 (mt1 (mt1 (mt1 (List.Mem.head _))))))) rfl, gT_of (mpr1 (mt4 (mt4 (List.Mem.head _)))) rfl⟩
theorem ivX6_50 : IvS RX6 50 yJ7_copyOf_59c91 := ⟨gT_of (mtb3 (mt64 (mt16 (mt16 (mt16 (mt4 (mt4 (List.Mem.head _)))))))) rfl, gT_of (mtb3 (mt64 (mt16 (mt16 (mt16 (mt4 (mt4 (mt1 (List.Mem.head _))))))))) rfl⟩
theorem ivX6_56 : IvI RX6 56 yX1_init := ⟨gT_of (mtb3 (mt64 (mt64 (mt4 (List.Mem.head _))))) rfl, gT_of (mtb3 (mt64 (mt64 (mt4 (mt1 (List.Mem.head _)))))) rfl, rfl⟩
theorem ivX6_61 : IvI RX6 61 yX5_init := ⟨gT_of (mtb3 (mt64 (mt64 (mt16 (mt4 (mt4 (mt1 (mt1 (List.Mem.head _))))))))) rfl, gT_of (mtb1 (mt64 (mt64 (mt16 (mt4 (mt4 (mt4 (mt1 (mt1 (mt1 (List.Mem.head _))))))))))) rfl, rfl⟩
theorem ivX6_64 : IvV RX6 64 yX6_takesAllOf := ⟨gT_of (mtb3 (mt16 (mt16 (mt4 (mt1 (List.Mem.head _)))))) rfl, gT_of (mtb3 (mt16 (mt16 (mt4 (mt1 (mt1 (mt1 (List.Mem.head _)))))))) rfl, gT_of (mpr1 (mt4 (mt4 (mt1 (List.Mem.head _))))) rfl⟩
theorem ivX6_67 : IvV RX6 67 yX6_addCode := ⟨gT_of (mtb3 (mt64 (mt16 (mt16 (mt16 (mt1 (mt1 (mt1 (List.Mem.head _))))))))) rfl, gT_of (mtb3 (mt64 (mt16 (mt16 (mt16 (mt4 (mt1 (List.Mem.head _)))))))) rfl, gT_of (mpr1 (mt4 (mt4 (mt4 (mt1 (List.Mem.head _)))))) rfl⟩
theorem ivX6_71 : IvV RX6 71 yX6_takesFactor := ⟨gT_of (mtb3 (mt16 (mt16 (mt4 (mt4 (mt1 (List.Mem.head _))))))) rfl, gT_of (mtb3 (mt16 (mt16 (mt4 (mt4 (mt1 (mt1 (mt1 (List.Mem.head _))))))))) rfl, gT_of (mpr1 (mt4 (mt4 (mt1 (mt1 (List.Mem.head _)))))) rfl⟩
theorem ivX6_74 : IvV RX6 74 yX6_takesTest := ⟨gT_of (mtb3 (mt16 (mt16 (mt4 (mt4 (mt4 (mt1 (List.Mem.head _)))))))) rfl, gT_of (mtb3 (mt16 (mt16 (mt4 (mt4 (mt4 (mt1 (mt1 (mt1 (List.Mem.head _)))))))))) rfl, gT_of (mpr1 (mt4 (mt4 (mt1 (mt1 (mt1 (List.Mem.head _))))))) rfl⟩
theorem ivX6_80 : IvV RX6 80 yX6_takenOneOf := ⟨gT_of (mtb3 (mt16 (mt16 (mt16 (mt1 (mt1 (List.Mem.head _))))))) rfl, gT_of (mtb3 (mt16 (mt16 (mt16 (mt4 (List.Mem.head _)))))) rfl, gT_of (mpr1 (mt4 (mt4 (mt4 (List.Mem.head _))))) rfl⟩
theorem ivX6_86 : IvS RX6 86 yX1_codeOfTest := ⟨gT_of (mtb3 (mt64 (mt16 (mt16 (mt16 (List.Mem.head _)))))) rfl, gT_of (mtb3 (mt64 (mt16 (mt16 (mt16 (mt1 (List.Mem.head _))))))) rfl⟩
theorem ivX6_90 : IvV RX6 90 yJ0_indexOf_0f7a4 := ⟨gT_of (mtb3 (mt16 (mt16 (mt16 (mt4 (mt1 (mt1 (List.Mem.head _)))))))) rfl, gT_of (mtb3 (mt16 (mt16 (mt16 (mt4 (mt1 (mt1 (mt1 (List.Mem.head _))))))))) rfl, gT_of (mtb3 (mt16 (mt16 (mt16 (mt4 (mt4 (List.Mem.head _))))))) rfl⟩
theorem ivX6_102 : IvS RX6 102 yX6_wordOf := ⟨gT_of (mtb2 (mt64 (mt64 (mt64 (mt16 (mt1 (List.Mem.head _))))))) rfl, gT_of (mtb2 (mt64 (mt64 (mt64 (mt16 (mt1 (mt1 (List.Mem.head _)))))))) rfl⟩
theorem ivX6_106 : IvV RX6 106 yX6_alikeWith := ⟨gT_of (mtb2 (mt64 (mt64 (mt64 (mt16 (mt4 (mt4 (List.Mem.head _)))))))) rfl, gT_of (mtb2 (mt64 (mt64 (mt64 (mt16 (mt4 (mt4 (mt1 (mt1 (List.Mem.head _)))))))))) rfl, gT_of (mpr1 (mt4 (mt1 (mt1 (List.Mem.head _))))) rfl⟩
theorem ivX6_109 : IvV RX6 109 yJ0_length_8abf5 := ⟨gT_of (mtb2 (mt64 (mt64 (mt64 (mt16 (mt4 (mt4 (mt4 (List.Mem.head _))))))))) rfl, gT_of (mtb2 (mt64 (mt64 (mt64 (mt16 (mt4 (mt4 (mt4 (mt1 (List.Mem.head _)))))))))) rfl, gT_of (mtb2 (mt64 (mt64 (mt64 (mt16 (mt4 (mt4 (mt4 (mt1 (mt1 (List.Mem.head _))))))))))) rfl⟩
theorem ivX6_111 : IvV RX6 111 yJ0_charAt_5068e := ⟨gT_of (mtb2 (mt64 (mt64 (mt64 (mt16 (mt16 (mt4 (mt1 (mt1 (List.Mem.head _)))))))))) rfl, gT_of (mtb2 (mt64 (mt64 (mt64 (mt16 (mt16 (mt4 (mt1 (mt1 (mt1 (List.Mem.head _))))))))))) rfl, gT_of (mtb2 (mt64 (mt64 (mt64 (mt16 (mt16 (mt4 (mt4 (List.Mem.head _))))))))) rfl⟩
theorem ivX7_20 : IvS RX7 20 yJ7_fill_d0a16 := ⟨gT_of (mtb4 (mt64 (mt64 (mt16 (mt4 (mt1 (mt1 (List.Mem.head _)))))))) rfl, gT_of (mtb4 (mt64 (mt64 (mt16 (mt4 (mt1 (mt1 (mt1 (List.Mem.head _))))))))) rfl⟩
theorem ivX7_26 : IvSN RX7 26 yX8_within := ⟨"DoorSticks", nW_of (mtb4 (mt64 (mt4 (mt4 (mt1 (mt1 (mt1 (List.Mem.head _)))))))) rfl, gT_of (mtb2 (mt64 (mt4 (mt4 (mt1 (List.Mem.head _)))))) rfl⟩
theorem ivX9_203 : IvV RX9 203 yX9_in := ⟨gT_of (mtb5 (mt64 (mt64 (mt4 (mt1 (mt1 (mt1 (List.Mem.head _)))))))) rfl, gT_of (mtb5 (mt64 (mt64 (mt4 (mt4 (mt1 (List.Mem.head _))))))) rfl, gT_of (mpr2 (mt1 (mt1 (mt1 (List.Mem.head _))))) rfl⟩
theorem ivX9_207 : IvV RX9 207 yX9_isDoor := ⟨gT_of (mtb5 (mt64 (mt64 (mt16 (mt4 (mt1 (mt1 (mt1 (List.Mem.head _))))))))) rfl, gT_of (mtb5 (mt64 (mt64 (mt16 (mt4 (mt4 (mt1 (List.Mem.head _)))))))) rfl, gT_of (mpr2 (mt4 (List.Mem.head _))) rfl⟩
theorem ivX9_211 : IvV RX9 211 yX9_next := ⟨gT_of (mtb5 (mt64 (mt64 (mt16 (mt16 (mt16 (mt4 (mt4 (mt1 (mt1 (mt1 (List.Mem.head _)))))))))))) rfl, gT_of (mtb5 (mt64 (mt64 (mt16 (mt16 (mt16 (mt4 (mt4 (mt4 (mt1 (List.Mem.head _))))))))))) rfl, gT_of (mpr2 (mt4 (mt4 (mt1 (mt1 (List.Mem.head _)))))) rfl⟩
theorem ivX9_215 : IvV RX9 215 yX9_takes := ⟨gT_of (mtb5 (mt64 (mt64 (mt64 (mt1 (mt1 (mt1 (List.Mem.head _)))))))) rfl, gT_of (mtb5 (mt64 (mt64 (mt64 (mt4 (mt1 (List.Mem.head _))))))) rfl, gT_of (mpr2 (mt4 (mt4 (mt4 (List.Mem.head _))))) rfl⟩
theorem ivX9_218 : IvV RX9 218 yX9_isDigit := ⟨gT_of (mtb5 (mt64 (mt64 (mt64 (mt4 (mt4 (mt4 (mt1 (mt1 (mt1 (List.Mem.head _))))))))))) rfl, gT_of (mtb5 (mt64 (mt64 (mt64 (mt16 (mt1 (List.Mem.head _))))))) rfl, gT_of (mpr2 (mt4 (mt4 (mt4 (mt1 (mt1 (mt1 (List.Mem.head _)))))))) rfl⟩
theorem ivX9_222 : IvV RX9 222 yX9_put := ⟨gT_of (mtb5 (mt64 (mt64 (mt64 (mt16 (mt4 (mt4 (mt4 (mt1 (mt1 (mt1 (List.Mem.head _)))))))))))) rfl, gT_of (mtb5 (mt64 (mt64 (mt64 (mt16 (mt16 (mt1 (List.Mem.head _)))))))) rfl, gT_of (mpr3 (mt1 (mt1 (mt1 (List.Mem.head _))))) rfl⟩
theorem ivX9_226 : IvV RX9 226 yX9_place := ⟨gT_of (mtb5 (mt64 (mt64 (mt64 (mt16 (mt4 (mt4 (mt1 (mt1 (mt1 (List.Mem.head _))))))))))) rfl, gT_of (mtb5 (mt64 (mt64 (mt64 (mt16 (mt4 (mt4 (mt4 (mt1 (List.Mem.head _)))))))))) rfl, gT_of (mpr3 (mt1 (mt1 (List.Mem.head _)))) rfl⟩
theorem ivX9_230 : IvV RX9 230 yX9_takesNumber := ⟨gT_of (mtb5 (mt64 (mt64 (mt64 (mt4 (mt4 (mt1 (mt1 (mt1 (List.Mem.head _)))))))))) rfl, gT_of (mtb5 (mt64 (mt64 (mt64 (mt4 (mt4 (mt4 (mt1 (List.Mem.head _))))))))) rfl, gT_of (mpr2 (mt4 (mt4 (mt4 (mt1 (mt1 (List.Mem.head _))))))) rfl⟩
theorem ivX9_233 : IvV RX9 233 yX9_whole := ⟨gT_of (mtb5 (mt64 (mt64 (mt64 (mt16 (mt16 (mt1 (mt1 (mt1 (List.Mem.head _)))))))))) rfl, gT_of (mtb5 (mt64 (mt64 (mt64 (mt16 (mt16 (mt4 (mt1 (List.Mem.head _))))))))) rfl, gT_of (mpr3 (mt4 (List.Mem.head _))) rfl⟩
theorem ivX9_236 : IvV RX9 236 yX9_takesTest := ⟨gT_of (mtb5 (mt64 (mt64 (mt64 (mt16 (mt4 (mt1 (mt1 (mt1 (List.Mem.head _)))))))))) rfl, gT_of (mtb5 (mt64 (mt64 (mt64 (mt16 (mt4 (mt4 (mt1 (List.Mem.head _))))))))) rfl, gT_of (mpr3 (mt1 (List.Mem.head _))) rfl⟩
theorem ivX9_239 : IvV RX9 239 yX9_settle := ⟨gT_of (mtb5 (mt64 (mt64 (mt64 (mt16 (mt16 (mt4 (mt1 (mt1 (mt1 (List.Mem.head _))))))))))) rfl, gT_of (mtb5 (mt64 (mt64 (mt64 (mt16 (mt16 (mt4 (mt4 (mt1 (List.Mem.head _)))))))))) rfl, gT_of (mpr3 (mt4 (mt1 (List.Mem.head _)))) rfl⟩
theorem ivX9_242 : IvV RX9 242 yX9_second := ⟨gT_of (mtb5 (mt64 (mt64 (mt16 (mt16 (mt16 (mt1 (mt1 (mt1 (List.Mem.head _)))))))))) rfl, gT_of (mtb5 (mt64 (mt64 (mt16 (mt16 (mt16 (mt4 (mt1 (List.Mem.head _))))))))) rfl, gT_of (mpr2 (mt4 (mt4 (List.Mem.head _)))) rfl⟩
theorem ivX9_245 : IvV RX9 245 yX9_fourth := ⟨gT_of (mtb5 (mt64 (mt64 (mt16 (mt16 (mt16 (mt4 (mt1 (mt1 (mt1 (List.Mem.head _))))))))))) rfl, gT_of (mtb5 (mt64 (mt64 (mt16 (mt16 (mt16 (mt4 (mt4 (mt1 (List.Mem.head _)))))))))) rfl, gT_of (mpr2 (mt4 (mt4 (mt1 (List.Mem.head _))))) rfl⟩
theorem ivX9_248 : IvV RX9 248 yX9_takesWord := ⟨gT_of (mtb5 (mt64 (mt64 (mt16 (mt16 (mt16 (mt4 (mt4 (mt4 (mt1 (mt1 (mt1 (List.Mem.head _))))))))))))) rfl, gT_of (mtb5 (mt64 (mt64 (mt64 (mt1 (List.Mem.head _)))))) rfl, gT_of (mpr2 (mt4 (mt4 (mt1 (mt1 (mt1 (List.Mem.head _))))))) rfl⟩
theorem ivX9_252 : IvV RX9 252 yX9_third := ⟨gT_of (mtb5 (mt64 (mt64 (mt64 (mt4 (mt1 (mt1 (mt1 (List.Mem.head _))))))))) rfl, gT_of (mtb5 (mt64 (mt64 (mt64 (mt4 (mt4 (mt1 (List.Mem.head _)))))))) rfl, gT_of (mpr2 (mt4 (mt4 (mt4 (mt1 (List.Mem.head _)))))) rfl⟩
theorem ivX9_255 : IvV RX9 255 yX9_takesHead := ⟨gT_of (mtb5 (mt64 (mt64 (mt16 (mt16 (mt4 (mt4 (mt4 (mt1 (mt1 (mt1 (List.Mem.head _)))))))))))) rfl, gT_of (mtb5 (mt64 (mt64 (mt16 (mt16 (mt16 (mt1 (List.Mem.head _)))))))) rfl, gT_of (mpr2 (mt4 (mt1 (mt1 (mt1 (List.Mem.head _)))))) rfl⟩
theorem ivX9_258 : IvV RX9 258 yX9_takesE := ⟨gT_of (mtb5 (mt64 (mt64 (mt64 (mt16 (mt1 (mt1 (mt1 (List.Mem.head _))))))))) rfl, gT_of (mtb5 (mt64 (mt64 (mt64 (mt16 (mt4 (mt1 (List.Mem.head _)))))))) rfl, gT_of (mpr3 (List.Mem.head _)) rfl⟩
theorem ivX9_261 : IvV RX9 261 yX9_takesClause := ⟨gT_of (mtb5 (mt64 (mt64 (mt16 (mt16 (mt4 (mt4 (mt1 (mt1 (mt1 (List.Mem.head _))))))))))) rfl, gT_of (mtb5 (mt64 (mt64 (mt16 (mt16 (mt4 (mt4 (mt4 (mt1 (List.Mem.head _)))))))))) rfl, gT_of (mpr2 (mt4 (mt1 (mt1 (List.Mem.head _))))) rfl⟩
theorem ivX9_264 : IvV RX9 264 yX9_goesText := ⟨gT_of (mtb5 (mt64 (mt64 (mt16 (mt16 (mt4 (mt1 (mt1 (mt1 (List.Mem.head _)))))))))) rfl, gT_of (mtb5 (mt64 (mt64 (mt16 (mt16 (mt4 (mt4 (mt1 (List.Mem.head _))))))))) rfl, gT_of (mpr2 (mt4 (mt1 (List.Mem.head _)))) rfl⟩
theorem ivX9_267 : IvV RX9 267 yX9_begin := ⟨gT_of (mtb6 (mt4 (mt4 (mt1 (mt1 (mt1 (List.Mem.head _))))))) rfl, gT_of (mtb6 (mt4 (mt4 (mt4 (mt1 (List.Mem.head _)))))) rfl, gT_of (mpr3 (mt4 (mt4 (mt1 (List.Mem.head _))))) rfl⟩
theorem ivX9_270 : IvV RX9 270 yX9_behind := ⟨gT_of (mtb6 (mt4 (mt4 (mt4 (mt1 (mt1 (mt1 (List.Mem.head _)))))))) rfl, gT_of (mtb6 (mt16 (mt1 (List.Mem.head _)))) rfl, gT_of (mpr3 (mt4 (mt4 (mt1 (mt1 (List.Mem.head _)))))) rfl⟩
theorem ivX9_273 : IvV RX9 273 yX9_factOf := ⟨gT_of (mtb6 (mt16 (mt4 (mt4 (mt1 (mt1 (mt1 (List.Mem.head _)))))))) rfl, gT_of (mtb6 (mt16 (mt4 (mt4 (mt4 (mt1 (List.Mem.head _))))))) rfl, gT_of (mpr3 (mt4 (mt4 (mt4 (mt1 (List.Mem.head _)))))) rfl⟩
theorem ivX9_277 : IvV RX9 277 yX9_holds := ⟨gT_of (mtb6 (mt16 (mt4 (mt1 (mt1 (mt1 (List.Mem.head _))))))) rfl, gT_of (mtb6 (mt16 (mt4 (mt4 (mt1 (List.Mem.head _)))))) rfl, gT_of (mpr3 (mt4 (mt4 (mt4 (List.Mem.head _))))) rfl⟩
theorem ivX9_280 : IvV RX9 280 yX9_hasSwell := ⟨gT_of (mtb6 (mt4 (mt1 (mt1 (mt1 (List.Mem.head _)))))) rfl, gT_of (mtb6 (mt4 (mt4 (mt1 (List.Mem.head _))))) rfl, gT_of (mpr3 (mt4 (mt4 (List.Mem.head _)))) rfl⟩
theorem ivX9_283 : IvV RX9 283 yX9_sumOf := ⟨gT_of (mtb6 (mt16 (mt1 (mt1 (mt1 (List.Mem.head _)))))) rfl, gT_of (mtb6 (mt16 (mt4 (mt1 (List.Mem.head _))))) rfl, gT_of (mpr3 (mt4 (mt4 (mt1 (mt1 (mt1 (List.Mem.head _))))))) rfl⟩
theorem ivX9_286 : IvV RX9 286 yX9_swellOf := ⟨gT_of (mtb6 (mt1 (mt1 (mt1 (List.Mem.head _))))) rfl, gT_of (mtb6 (mt4 (mt1 (List.Mem.head _)))) rfl, gT_of (mpr3 (mt4 (mt1 (mt1 (mt1 (List.Mem.head _)))))) rfl⟩
theorem ivX9_289 : IvV RX9 289 yX9_hangOf := ⟨gT_of (mtb6 (mt16 (mt4 (mt4 (mt4 (mt1 (mt1 (mt1 (List.Mem.head _))))))))) rfl, gT_of (mtb6 (mt16 (mt16 (mt1 (List.Mem.head _))))) rfl, gT_of (mpr3 (mt4 (mt4 (mt4 (mt1 (mt1 (List.Mem.head _))))))) rfl⟩
theorem ivX9_292 : IvV RX9 292 yX9_bendOf := ⟨gT_of (mtb6 (mt16 (mt16 (mt1 (mt1 (mt1 (List.Mem.head _))))))) rfl, gT_of (mtb6 (mt16 (mt16 (mt4 (mt1 (List.Mem.head _)))))) rfl, gT_of (mpr3 (mt4 (mt4 (mt4 (mt1 (mt1 (mt1 (List.Mem.head _)))))))) rfl⟩
theorem ivX9_295 : IvV RX9 295 yX9_gapBy := ⟨gT_of (mtb6 (mt16 (mt16 (mt4 (mt1 (mt1 (mt1 (List.Mem.head _)))))))) rfl, gT_of (mtb6 (mt16 (mt16 (mt4 (mt4 (mt1 (List.Mem.head _))))))) rfl, gT_of (mpr4 (List.Mem.head _)) rfl⟩
theorem ivX9_299 : IvV RX9 299 yX9_gap := ⟨gT_of (mtb5 (mt64 (mt64 (mt64 (mt16 (mt16 (mt4 (mt4 (mt4 (mt1 (mt1 (mt1 (List.Mem.head _))))))))))))) rfl, gT_of (mtb6 (mt1 (List.Mem.head _))) rfl, gT_of (mpr3 (mt4 (mt1 (mt1 (List.Mem.head _))))) rfl⟩
theorem ivX9_302 : IvV RX9 302 yX9_lastOf := ⟨gT_of (mtb6 (mt16 (mt16 (mt16 (mt1 (mt1 (mt1 (List.Mem.head _)))))))) rfl, gT_of (mtb6 (mt16 (mt16 (mt16 (mt4 (mt1 (List.Mem.head _))))))) rfl, gT_of (mpr4 (mt1 (mt1 (mt1 (List.Mem.head _))))) rfl⟩
theorem ivX9_305 : IvV RX9 305 yX9_rubs := ⟨gT_of (mtb6 (mt16 (mt16 (mt4 (mt4 (mt1 (mt1 (mt1 (List.Mem.head _))))))))) rfl, gT_of (mtb6 (mt16 (mt16 (mt4 (mt4 (mt4 (mt1 (List.Mem.head _)))))))) rfl, gT_of (mpr4 (mt1 (List.Mem.head _))) rfl⟩
theorem ivX9_308 : IvV RX9 308 yX9_draughts := ⟨gT_of (mtb6 (mt16 (mt16 (mt4 (mt4 (mt4 (mt1 (mt1 (mt1 (List.Mem.head _)))))))))) rfl, gT_of (mtb6 (mt16 (mt16 (mt16 (mt1 (List.Mem.head _)))))) rfl, gT_of (mpr4 (mt1 (mt1 (List.Mem.head _)))) rfl⟩
theorem ivX9_311 : IvV RX9 311 yX9_nearer := ⟨gT_of (mtb6 (mt64 (mt4 (mt1 (mt1 (mt1 (List.Mem.head _))))))) rfl, gT_of (mtb6 (mt64 (mt4 (mt4 (mt1 (List.Mem.head _)))))) rfl, gT_of (mpr4 (mt4 (mt1 (mt1 (List.Mem.head _))))) rfl⟩
theorem ivX9_315 : IvV RX9 315 yX9_goMonth := ⟨gT_of (mtb6 (mt64 (mt1 (mt1 (mt1 (List.Mem.head _)))))) rfl, gT_of (mtb6 (mt64 (mt4 (mt1 (List.Mem.head _))))) rfl, gT_of (mpr4 (mt4 (mt1 (List.Mem.head _)))) rfl⟩
theorem ivX9_318 : IvV RX9 318 yX9_goOn := ⟨gT_of (mtb6 (mt16 (mt16 (mt16 (mt4 (mt4 (mt4 (mt1 (mt1 (mt1 (List.Mem.head _))))))))))) rfl, gT_of (mtb6 (mt64 (mt1 (List.Mem.head _)))) rfl, gT_of (mpr4 (mt4 (List.Mem.head _))) rfl⟩
theorem ivX9_321 : IvV RX9 321 yX9_isSpot := ⟨gT_of (mtb6 (mt64 (mt16 (mt1 (mt1 (mt1 (List.Mem.head _))))))) rfl, gT_of (mtb6 (mt64 (mt16 (mt4 (mt1 (List.Mem.head _)))))) rfl, gT_of (mpr4 (mt4 (mt4 (List.Mem.head _)))) rfl⟩
theorem ivX9_324 : IvV RX9 324 yX9_isWhere := ⟨gT_of (mtb6 (mt64 (mt4 (mt4 (mt4 (mt1 (mt1 (mt1 (List.Mem.head _))))))))) rfl, gT_of (mtb6 (mt64 (mt16 (mt1 (List.Mem.head _))))) rfl, gT_of (mpr4 (mt4 (mt1 (mt1 (mt1 (List.Mem.head _)))))) rfl⟩
theorem ivX9_327 : IvV RX9 327 yX9_planes := ⟨gT_of (mtb6 (mt64 (mt16 (mt4 (mt1 (mt1 (mt1 (List.Mem.head _)))))))) rfl, gT_of (mtb6 (mt64 (mt16 (mt4 (mt4 (mt1 (List.Mem.head _))))))) rfl, gT_of (mpr4 (mt4 (mt4 (mt1 (List.Mem.head _))))) rfl⟩
theorem ivX9_331 : IvV RX9 331 yX9_packed := ⟨gT_of (mtb6 (mt64 (mt16 (mt4 (mt4 (mt1 (mt1 (mt1 (List.Mem.head _))))))))) rfl, gT_of (mtb6 (mt64 (mt16 (mt4 (mt4 (mt4 (mt1 (List.Mem.head _)))))))) rfl, gT_of (mpr4 (mt4 (mt4 (mt1 (mt1 (List.Mem.head _)))))) rfl⟩
theorem ivX9_334 : IvV RX9 334 yX9_paints := ⟨gT_of (mtb6 (mt64 (mt16 (mt4 (mt4 (mt4 (mt1 (mt1 (mt1 (List.Mem.head _)))))))))) rfl, gT_of (mtb6 (mt64 (mt16 (mt16 (mt1 (List.Mem.head _)))))) rfl, gT_of (mpr4 (mt4 (mt4 (mt1 (mt1 (mt1 (List.Mem.head _))))))) rfl⟩
theorem ivX9_337 : IvV RX9 337 yX9_keep := ⟨gT_of (mtb6 (mt64 (mt16 (mt16 (mt4 (mt1 (mt1 (mt1 (List.Mem.head _))))))))) rfl, gT_of (mtb6 (mt64 (mt16 (mt16 (mt4 (mt4 (mt1 (List.Mem.head _)))))))) rfl, gT_of (mpr4 (mt4 (mt4 (mt4 (List.Mem.head _))))) rfl⟩
theorem ivX9_340 : IvV RX9 340 yX9_putBack := ⟨gT_of (mtb6 (mt64 (mt16 (mt16 (mt4 (mt4 (mt1 (mt1 (mt1 (List.Mem.head _)))))))))) rfl, gT_of (mtb6 (mt64 (mt16 (mt16 (mt4 (mt4 (mt4 (mt1 (List.Mem.head _))))))))) rfl, gT_of (mpr4 (mt4 (mt4 (mt4 (mt1 (List.Mem.head _)))))) rfl⟩
theorem ivX9_343 : IvV RX9 343 yX9_layGaps := ⟨gT_of (mtb6 (mt64 (mt16 (mt16 (mt16 (mt4 (mt1 (mt1 (mt1 (List.Mem.head _)))))))))) rfl, gT_of (mtb6 (mt64 (mt16 (mt16 (mt16 (mt4 (mt4 (mt1 (List.Mem.head _))))))))) rfl, gT_of (mpr4 (mt4 (mt4 (mt4 (mt1 (mt1 (List.Mem.head _))))))) rfl⟩
theorem ivX9_347 : IvV RX9 347 yX9_offOf := ⟨gT_of (mtb6 (mt64 (mt16 (mt16 (mt16 (mt4 (mt4 (mt4 (mt1 (mt1 (mt1 (List.Mem.head _)))))))))))) rfl, gT_of (mtb6 (mt64 (mt64 (mt1 (List.Mem.head _))))) rfl, gT_of (mpr4 (mt4 (mt4 (mt4 (mt1 (mt1 (mt1 (List.Mem.head _)))))))) rfl⟩
theorem ivX9_350 : IvV RX9 350 yX9_costOf := ⟨gT_of (mtb6 (mt64 (mt64 (mt4 (mt1 (mt1 (mt1 (List.Mem.head _)))))))) rfl, gT_of (mtb6 (mt64 (mt64 (mt4 (mt4 (mt1 (List.Mem.head _))))))) rfl, gT_of (mpr5 (List.Mem.head _)) rfl⟩
theorem ivX9_353 : IvV RX9 353 yX9_divisor := ⟨gT_of (mtb6 (mt64 (mt64 (mt16 (mt4 (mt4 (List.Mem.head _))))))) rfl, gT_of (mtb6 (mt64 (mt64 (mt16 (mt4 (mt4 (mt1 (mt1 (List.Mem.head _))))))))) rfl, gT_of (mpr5 (mt1 (mt1 (List.Mem.head _)))) rfl⟩
theorem ivX9_358 : IvV RX9 358 yX9_byTwelve := ⟨gT_of (mtb6 (mt64 (mt64 (mt16 (mt4 (List.Mem.head _)))))) rfl, gT_of (mtb6 (mt64 (mt64 (mt16 (mt4 (mt1 (mt1 (List.Mem.head _)))))))) rfl, gT_of (mpr5 (mt1 (List.Mem.head _))) rfl⟩
theorem ivX9_362 : IvV RX9 362 yX9_ones := ⟨gT_of (mtb6 (mt64 (mt64 (mt16 (mt16 (mt4 (mt4 (List.Mem.head _)))))))) rfl, gT_of (mtb6 (mt64 (mt64 (mt16 (mt16 (mt4 (mt4 (mt1 (mt1 (List.Mem.head _)))))))))) rfl, gT_of (mpr5 (mt4 (List.Mem.head _))) rfl⟩
theorem ivX9_365 : IvV RX9 365 yX9_swapCuts := ⟨gT_of (mtb6 (mt64 (mt64 (mt16 (mt16 (mt4 (mt4 (mt4 (List.Mem.head _))))))))) rfl, gT_of (mtb6 (mt64 (mt64 (mt16 (mt16 (mt4 (mt4 (mt4 (mt1 (mt1 (List.Mem.head _))))))))))) rfl, gT_of (mpr5 (mt4 (mt1 (List.Mem.head _)))) rfl⟩
theorem ivX9_369 : IvV RX9 369 yX9_areChanged := ⟨gT_of (mtb6 (mt64 (mt64 (mt16 (mt16 (mt4 (List.Mem.head _))))))) rfl, gT_of (mtb6 (mt64 (mt64 (mt16 (mt16 (mt4 (mt1 (mt1 (List.Mem.head _))))))))) rfl, gT_of (mpr5 (mt1 (mt1 (mt1 (List.Mem.head _))))) rfl⟩
theorem ivX9_372 : IvV RX9 372 yX9_isTape := ⟨gT_of (mtb6 (mt64 (mt64 (mt16 (mt16 (mt16 (mt4 (mt4 (mt4 (List.Mem.head _)))))))))) rfl, gT_of (mtb6 (mt64 (mt64 (mt16 (mt16 (mt16 (mt4 (mt4 (mt4 (mt1 (mt1 (List.Mem.head _)))))))))))) rfl, gT_of (mpr5 (mt4 (mt1 (mt1 (List.Mem.head _))))) rfl⟩
theorem ivX9_375 : IvV RX9 375 yX9_body := ⟨gT_of (mtb6 (mt64 (mt64 (mt64 (mt16 (List.Mem.head _)))))) rfl, gT_of (mtb6 (mt64 (mt64 (mt64 (mt16 (mt1 (mt1 (List.Mem.head _)))))))) rfl, gT_of (mpr5 (mt4 (mt4 (List.Mem.head _)))) rfl⟩
theorem ivX9_378 : IvV RX9 378 yX9_doorSwells := ⟨gT_of (mtb6 (mt64 (mt64 (mt64 (mt16 (mt4 (List.Mem.head _))))))) rfl, gT_of (mtb6 (mt64 (mt64 (mt64 (mt16 (mt4 (mt1 (mt1 (List.Mem.head _))))))))) rfl, gT_of (mpr5 (mt4 (mt4 (mt1 (List.Mem.head _))))) rfl⟩
theorem ivX9_381 : IvV RX9 381 yX9_swellsAct := ⟨gT_of (mtb6 (mt64 (mt64 (mt64 (mt4 (mt4 (mt4 (List.Mem.head _)))))))) rfl, gT_of (mtb6 (mt64 (mt64 (mt64 (mt4 (mt4 (mt4 (mt1 (mt1 (List.Mem.head _)))))))))) rfl, gT_of (mpr5 (mt4 (mt1 (mt1 (mt1 (List.Mem.head _)))))) rfl⟩
theorem ivX9_384 : IvV RX9 384 yX9_doorHangs := ⟨gT_of (mtb6 (mt64 (mt64 (mt64 (mt16 (mt16 (List.Mem.head _))))))) rfl, gT_of (mtb6 (mt64 (mt64 (mt64 (mt16 (mt16 (mt1 (mt1 (List.Mem.head _))))))))) rfl, gT_of (mpr5 (mt4 (mt4 (mt4 (List.Mem.head _))))) rfl⟩
theorem ivX9_387 : IvV RX9 387 yX9_swollenHangs := ⟨gT_of (mtb6 (mt64 (mt64 (mt64 (mt16 (mt4 (mt4 (mt4 (List.Mem.head _))))))))) rfl, gT_of (mtb6 (mt64 (mt64 (mt64 (mt16 (mt4 (mt4 (mt4 (mt1 (mt1 (List.Mem.head _))))))))))) rfl, gT_of (mpr5 (mt4 (mt4 (mt1 (mt1 (mt1 (List.Mem.head _))))))) rfl⟩
theorem ivX9_390 : IvV RX9 390 yX9_hangsAct := ⟨gT_of (mtb6 (mt64 (mt64 (mt64 (mt16 (mt4 (mt4 (List.Mem.head _)))))))) rfl, gT_of (mtb6 (mt64 (mt64 (mt64 (mt16 (mt4 (mt4 (mt1 (mt1 (List.Mem.head _)))))))))) rfl, gT_of (mpr5 (mt4 (mt4 (mt1 (mt1 (List.Mem.head _)))))) rfl⟩
theorem ivX9_393 : IvV RX9 393 yX9_doorTells := ⟨gT_of (mtb6 (mt64 (mt64 (mt64 (mt16 (mt16 (mt4 (mt4 (List.Mem.head _))))))))) rfl, gT_of (mtb6 (mt64 (mt64 (mt64 (mt16 (mt16 (mt4 (mt4 (mt1 (mt1 (List.Mem.head _))))))))))) rfl, gT_of (mpr5 (mt4 (mt4 (mt4 (mt1 (mt1 (List.Mem.head _))))))) rfl⟩
theorem ivX9_396 : IvV RX9 396 yX9_tellsAct := ⟨gT_of (mtb6 (mt64 (mt64 (mt64 (mt16 (mt16 (mt4 (List.Mem.head _)))))))) rfl, gT_of (mtb6 (mt64 (mt64 (mt64 (mt16 (mt16 (mt4 (mt1 (mt1 (List.Mem.head _)))))))))) rfl, gT_of (mpr5 (mt4 (mt4 (mt4 (mt1 (List.Mem.head _)))))) rfl⟩
theorem ivX9_399 : IvV RX9 399 yX9_narrow := ⟨gT_of (mtb7 (mt16 (List.Mem.head _))) rfl, gT_of (mtb7 (mt16 (mt1 (mt1 (List.Mem.head _))))) rfl, gT_of (mpr5 (mt4 (mt4 (mt4 (mt1 (mt1 (mt1 (List.Mem.head _)))))))) rfl⟩
theorem ivJ0_335 : IvV RJ0 335 yJ0_coder_7d493 := ⟨gT_of (mtb2 (mt64 (mt64 (mt64 (mt16 (mt16 (List.Mem.head _))))))) rfl, gT_of (mtb2 (mt64 (mt64 (mt64 (mt16 (mt16 (mt1 (List.Mem.head _)))))))) rfl, gT_of (mtb2 (mt64 (mt64 (mt64 (mt16 (mt16 (mt1 (mt1 (List.Mem.head _))))))))) rfl⟩
theorem ivJ0_492 : IvV RJ0 492 yJ0_isLatin1_aae02 := ⟨gT_of (mtb2 (mt64 (mt64 (mt64 (mt16 (mt16 (mt4 (mt4 (mt1 (mt1 (List.Mem.head _))))))))))) rfl, gT_of (mtb2 (mt64 (mt64 (mt64 (mt16 (mt16 (mt4 (mt4 (mt1 (mt1 (mt1 (List.Mem.head _)))))))))))) rfl, gT_of (mtb2 (mt64 (mt64 (mt64 (mt16 (mt16 (mt4 (mt4 (mt4 (List.Mem.head _)))))))))) rfl⟩
theorem ivJ0_495 : IvS RJ0 495 yJ1_charAt_3b067 := ⟨gT_of (mtb2 (mt64 (mt64 (mt64 (mt16 (mt16 (mt4 (mt4 (mt4 (mt1 (mt1 (List.Mem.head _)))))))))))) rfl, gT_of (mtb2 (mt64 (mt64 (mt64 (mt16 (mt16 (mt4 (mt4 (mt4 (mt1 (mt1 (mt1 (List.Mem.head _))))))))))))) rfl⟩
theorem ivJ0_505 : IvV RJ0 505 yJ0_length_8abf5 := ⟨gT_of (mtb3 (mt16 (mt16 (mt16 (mt4 (mt4 (mt4 (mt1 (mt1 (List.Mem.head _)))))))))) rfl, gT_of (mtb2 (mt64 (mt64 (mt64 (mt16 (mt4 (mt4 (mt4 (mt1 (List.Mem.head _)))))))))) rfl, gT_of (mtb2 (mt64 (mt64 (mt64 (mt16 (mt4 (mt4 (mt4 (mt1 (mt1 (List.Mem.head _))))))))))) rfl⟩
theorem ivJ0_633 : IvV RJ0 633 yJ0_indexOf_7cf53 := ⟨gT_of (mtb3 (mt16 (mt16 (mt16 (mt4 (mt4 (mt1 (mt1 (List.Mem.head _))))))))) rfl, gT_of (mtb3 (mt16 (mt16 (mt16 (mt4 (mt4 (mt1 (mt1 (mt1 (List.Mem.head _)))))))))) rfl, gT_of (mtb3 (mt16 (mt16 (mt16 (mt4 (mt4 (mt4 (List.Mem.head _)))))))) rfl⟩
theorem ivJ0_637 : IvS RJ0 637 yJ1_indexOf_4cfef := ⟨gT_of (mtb3 (mt16 (mt16 (mt16 (mt4 (mt4 (mt4 (mt1 (mt1 (mt1 (List.Mem.head _))))))))))) rfl, gT_of (mtb3 (mt64 (List.Mem.head _))) rfl⟩
theorem ivJ0_1059 : IvS RJ0 1059 yJ3_checkIndex_8e157 := ⟨gT_of (mtb3 (mt4 (mt1 (mt1 (List.Mem.head _))))) rfl, gT_of (mtb3 (mt4 (mt1 (mt1 (mt1 (List.Mem.head _)))))) rfl⟩
theorem ivJ1_9 : IvS RJ1 9 yJ0_checkIndex_df160 := ⟨gT_of (mtb3 (mt1 (List.Mem.head _))) rfl, gT_of (mtb3 (mt1 (mt1 (List.Mem.head _)))) rfl⟩
theorem ivJ1_88 : IvS RJ1 88 yJ1_canEncode_9a6ad := ⟨gT_of (mtb3 (mt64 (mt1 (mt1 (List.Mem.head _))))) rfl, gT_of (mtb3 (mt64 (mt1 (mt1 (mt1 (List.Mem.head _)))))) rfl⟩
theorem ivJ1_95 : IvS RJ1 95 yJ1_indexOfChar_4cfef := ⟨gT_of (mtb3 (mt64 (mt4 (mt4 (mt1 (List.Mem.head _)))))) rfl, gT_of (mtb3 (mt64 (mt4 (mt4 (mt1 (mt1 (List.Mem.head _))))))) rfl⟩
