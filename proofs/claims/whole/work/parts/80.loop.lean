/-! the law's loop -/
theorem lp_in {L i : Nat} (hL : L ≤ 3072) (hi' : 6 * i ≤ 6000) (h : ¬ Int32.ofNat L - 6 < Int32.ofNat (6 * i)) : 6 * i + 6 ≤ L := by
  by_cases q : 6 ≤ L
  · have e : Int32.ofNat L - 6 = Int32.ofNat (L - 6) := by
      obtain ⟨d, rfl⟩ : ∃ d, L = d + 6 := ⟨L - 6, by omega⟩
      rw [Nat.add_sub_cancel, Int32.ofNat_add]
      exact Int32.add_sub_cancel _ _
    rw [e] at h
    by_cases z : L - 6 < 6 * i
    · exact absurd ((oN_lt (by omega) (by omega)).mpr z) h
    · omega
  · have p : (0 : Int32) ≤ Int32.ofNat (6 * i) := (oN_le (m := 0) (by omega) (by omega)).mpr (by omega)
    refine absurd ?_ h
    refine Int32.lt_of_lt_of_le ?_ p
    rcases (show L = 0 ∨ L = 1 ∨ L = 2 ∨ L = 3 ∨ L = 4 ∨ L = 5 by omega) with e | e | e | e | e | e <;> rw [e] <;> decide
section LOOP
variable {D : DN} {E : EN} {p : Program} {l : Launch} {e : Env} {s : State} {m : MethodId} {args : Array Value} {below : List Frame} {meth : Method} {c : Code} {Q : State → Prop} {b L : Nat} {xs : Nat → Int32}
def lcs (E : EN) (b n : Nat) : List (Nat × Value) := [(3, .int (Int32.ofNat n)), (0, .ref b), (1, .ref (adr E 9)), (2, .ref (adr E 12451850))]
theorem lw_head {i : Nat} {la : Array Slot} {H : Heap} {locs : List Loc} {cells slots : Nat} (hB : LB D E p s m args c b L xs) (hla : lv_has la 4 (lcs E b (6 * i))) (hi' : i ≤ 512) (hS : va_S (bA E) s.heap H locs)
    (k1 : 6 * i + 6 ≤ L → W p l e room_1 s m args below meth c H locs cells slots Q (F0 m 27 la [])) (k2 : W p l e room_1 s m args below meth c H locs cells slots Q (F0 m 1308 la [])) : W p l e room_1 s m args below meth c H locs cells slots Q (F0 m 18 la []) := by
  obtain ⟨⟨g1, g2, g3, g4, g5, g6, g7⟩, hX, hb, hL⟩ := id hB
  have l0 := hla.2.2 (0, .ref b) (by simp [lcs])
  have l3 := hla.2.2 (3, .int (Int32.ofNat (6 * i))) (by simp [lcs])
  refine lv_iload_n g1 g2 dL_law_18 rfl l3 (lv_aload_n g1 g2 dL_law_19 rfl l0 (va_slen g1 g2 hX (by rw [g7]; exact hb) (fun q => by unfold bA at q; omega) hS dL_law_20 (lv_bipush g1 g2 dL_law_21 (v := 6) (by decide) (lv_isub g1 g2 dL_law_23 ?_))))
  exact lv_icmp_gt (tgt := 1308) g1 g2 dL_law_24 (by decide) (fun _ => k2) (fun z => k1 (lp_in hL (by omega) z))
theorem lw_body {i : Nat} {C M : Mem} {la : Array Slot} {H : Heap} {locs : List Loc} {cells slots : Nat} (hL : LI i C M) (hi' : i < 512) (hB : LB D E p s m args c b L xs) (hla : lv_has la 4 (lcs E b (6 * i))) (hn6 : 6 * i + 6 ≤ L) (hV : L2 D E C M s H locs cells slots) (hc : cells = mZ C) (hs : slots = mW C + mW M)
    (kk : ∀ (C' M' : Mem) (H1 : Heap) (locs1 : List Loc), LI (i + 1) C' M' → L2 D E C' M' s H1 locs1 (mZ C') (mW C' + mW M') → W p l e room_1 s m args below meth c H1 locs1 (mZ C') (mW C' + mW M') Q (F0 m 1302 la [])) : W p l e room_1 s m args below meth c H locs cells slots Q (F0 m 27 la []) := by
  obtain ⟨⟨g1, g2, g3, g4, g5, g6, g7⟩, hX, hb, hL3⟩ := id hB
  have l0 := hla.2.2 (0, .ref b) (by simp [lcs])
  have l1 := hla.2.2 (1, .ref (adr E 9)) (by simp [lcs])
  have l2 := hla.2.2 (2, .ref (adr E 12451850)) (by simp [lcs])
  have l3 := hla.2.2 (3, .int (Int32.ofNat (6 * i))) (by simp [lcs])
  have ix : (Int32.ofNat (6 * i)).toNatClampNeg = 6 * i := oN_ix (by omega)
  have hin : vp_in (Int32.ofNat (6 * i)) L := by
    rintro (q | q)
    · have := (oN_lt (m := 6 * i) (i := 0) (by omega) (by omega)).mp q
      omega
    · rw [ix] at q; omega
  refine lv_aload_n g1 g2 dL_law_27 rfl l0 (lv_iload_n g1 g2 dL_law_28 rfl l3 (va_sld g1 g2 hX (by rw [g7]; exact hb) (fun q => by unfold bA at q; omega) hV.2.2.2.2.2.1 hin dL_law_29 (lv_bipush g1 g2 dL_law_30 (v := 63) (by decide) (lv_iand g1 g2 dL_law_32 ?_))))
  generalize xs (Int32.ofNat (6 * i)).toNatClampNeg &&& 63 = x
  have out : W p l e room_1 s m args below meth c H locs cells slots Q (F0 m 1302 la []) := by
    rw [hc, hs]
    refine kk C M H locs ?_ (by rw [← hc, ← hs]; exact hV)
    obtain ⟨h1, h2, h3, h4, h5, h6, h7, h8, h9, h10, h11, h12⟩ := hL
    exact ⟨h1, h2, h3, h4, h5, h6, h7, h8, h9, h10, by omega, by omega⟩
  by_cases q1 : x.toInt < 0
  · exact lv_tableOut (tgt := 1302) g1 g2 dL_law_33 (Or.inl q1) (by decide) out
  by_cases q2 : 32 < x.toInt
  · exact lv_tableOut (tgt := 1302) g1 g2 dL_law_33 (Or.inr q2) (by decide) out
  obtain ⟨k, hk⟩ : ∃ k : Nat, x.toInt = k := ⟨x.toInt.toNat, by omega⟩
  have hk32 : k ≤ 32 := by omega
  have ek : (x.toInt - 0).toNat = k := by omega
  rcases (show k = 0 ∨ k = 1 ∨ k = 2 ∨ k = 3 ∨ k = 4 ∨ k = 5 ∨ k = 6 ∨ k = 7 ∨ k = 8 ∨ k = 9 ∨ k = 10 ∨ k = 11 ∨ k = 12 ∨ k = 13 ∨ k = 14 ∨ k = 15 ∨ k = 16 ∨ k = 17 ∨ k = 18 ∨ k = 19 ∨ k = 20 ∨ k = 21 ∨ k = 22 ∨ k = 23 ∨ k = 24 ∨ k = 25 ∨ k = 26 ∨ k = 27 ∨ k = 28 ∨ k = 29 ∨ k = 30 ∨ k = 31 ∨ k = 32 by omega) with rfl | rfl | rfl | rfl | rfl | rfl | rfl | rfl | rfl | rfl | rfl | rfl | rfl | rfl | rfl | rfl | rfl | rfl | rfl | rfl | rfl | rfl | rfl | rfl | rfl | rfl | rfl | rfl | rfl | rfl | rfl | rfl | rfl
  · exact lv_tableIn (off := 147) (tgt := 180) g1 g2 dL_law_33 q1 q2 (by rw [ek]; rfl) (by decide) (cs_air hL hi' hB hla.1 l0 l1 l2 l3 hn6 hV kk)
  · exact lv_tableIn (off := 180) (tgt := 213) g1 g2 dL_law_33 q1 q2 (by rw [ek]; rfl) (by decide) (cs_lean hL hi' hB hla.1 l0 l1 l2 l3 hn6 hV kk)
  · exact lv_tableIn (off := 203) (tgt := 236) g1 g2 dL_law_33 q1 q2 (by rw [ek]; rfl) (by decide) (cs_door hL hi' hB hla.1 l0 l1 l2 l3 hn6 hV kk)
  · exact lv_tableIn (off := 236) (tgt := 269) g1 g2 dL_law_33 q1 q2 (by rw [ek]; rfl) (by decide) (cs_of hL hi' hB hla.1 l0 l1 l2 l3 hn6 hV kk)
  · exact lv_tableIn (off := 269) (tgt := 302) g1 g2 dL_law_33 q1 q2 (by rw [ek]; rfl) (by decide) (cs_water hL hi' hB hla.1 l0 l1 l2 l3 hn6 hV kk)
  · exact lv_tableIn (off := 312) (tgt := 345) g1 g2 dL_law_33 q1 q2 (by rw [ek]; rfl) (by decide) (cs_sag hL hi' hB hla.1 l0 l1 l2 l3 hn6 hV kk)
  · exact lv_tableIn (off := 345) (tgt := 378) g1 g2 dL_law_33 q1 q2 (by rw [ek]; rfl) (by decide) (cs_feed hL hi' hB hla.1 l0 l1 l2 l3 hn6 hV kk)
  · exact lv_tableIn (off := 368) (tgt := 401) g1 g2 dL_law_33 q1 q2 (by rw [ek]; rfl) (by decide) (cs_house hL hi' hB hla.1 l0 l1 l2 l3 hn6 hV kk)
  · exact lv_tableIn (off := 381) (tgt := 414) g1 g2 dL_law_33 q1 q2 (by rw [ek]; rfl) (by decide) (cs_told hL hi' hB hla.1 l0 l1 l2 l3 hn6 hV kk)
  · exact lv_tableIn (off := 404) (tgt := 437) g1 g2 dL_law_33 q1 q2 (by rw [ek]; rfl) (by decide) (cs_month hL hi' hB hla.1 l0 l1 l2 l3 hn6 hV kk)
  · exact lv_tableIn (off := 417) (tgt := 450) g1 g2 dL_law_33 q1 q2 (by rw [ek]; rfl) (by decide) (cs_mend hL hi' hB hla.1 l0 l1 l2 l3 hn6 hV kk)
  · exact lv_tableIn (off := 470) (tgt := 503) g1 g2 dL_law_33 q1 q2 (by rw [ek]; rfl) (by decide) (cs_run hL hi' hB hla.1 l0 l1 l2 l3 hn6 hV kk)
  · exact lv_tableIn (off := 513) (tgt := 546) g1 g2 dL_law_33 q1 q2 (by rw [ek]; rfl) (by decide) (cs_first hL hi' hB hla.1 l0 l1 l2 l3 hn6 hV kk)
  · exact lv_tableIn (off := 546) (tgt := 579) g1 g2 dL_law_33 q1 q2 (by rw [ek]; rfl) (by decide) (cs_worst hL hi' hB hla.1 l0 l1 l2 l3 hn6 hV kk)
  · exact lv_tableIn (off := 599) (tgt := 632) g1 g2 dL_law_33 q1 q2 (by rw [ek]; rfl) (by decide) (cs_off hL hi' hB hla.1 l0 l1 l2 l3 hn6 hV kk)
  · exact lv_tableIn (off := 632) (tgt := 665) g1 g2 dL_law_33 q1 q2 (by rw [ek]; rfl) (by decide) (cs_cheapest hL hi' hB hla.1 l0 l1 l2 l3 hn6 hV kk)
  · exact lv_tableIn (off := 665) (tgt := 698) g1 g2 dL_law_33 q1 q2 (by rw [ek]; rfl) (by decide) (cs_why hL hi' hB hla.1 l0 l1 l2 l3 hn6 hV kk)
  · exact lv_tableIn (off := 698) (tgt := 731) g1 g2 dL_law_33 q1 q2 (by rw [ek]; rfl) (by decide) (cs_odds hL hi' hB hla.1 l0 l1 l2 l3 hn6 hV kk)
  · exact lv_tableIn (off := 732) (tgt := 765) g1 g2 dL_law_33 q1 q2 (by rw [ek]; rfl) (by decide) (cs_mean hL hi' hB hla.1 l0 l1 l2 l3 hn6 hV kk)
  · exact lv_tableIn (off := 776) (tgt := 809) g1 g2 dL_law_33 q1 q2 (by rw [ek]; rfl) (by decide) (cs_changed hL hi' hB hla.1 l0 l1 l2 l3 hn6 hV kk)
  · exact lv_tableIn (off := 799) (tgt := 832) g1 g2 dL_law_33 q1 q2 (by rw [ek]; rfl) (by decide) (cs_book hL hi' hB hla.1 l0 l1 l2 l3 hn6 hV kk)
  · exact lv_tableIn (off := 832) (tgt := 865) g1 g2 dL_law_33 q1 q2 (by rw [ek]; rfl) (by decide) (cs_looked hL hi' hB hla.1 l0 l1 l2 l3 hn6 hV kk)
  · exact lv_tableIn (off := 865) (tgt := 898) g1 g2 dL_law_33 q1 q2 (by rw [ek]; rfl) (by decide) (cs_judge hL hi' hB hla.1 l0 l1 l2 l3 hn6 hV kk)
  · exact lv_tableIn (off := 908) (tgt := 941) g1 g2 dL_law_33 q1 q2 (by rw [ek]; rfl) (by decide) (cs_image hL hi' hB hla.1 l0 l1 l2 l3 hn6 hV kk)
  · exact lv_tableIn (off := 921) (tgt := 954) g1 g2 dL_law_33 q1 q2 (by rw [ek]; rfl) (by decide) (cs_undo hL hi' hB hla.1 l0 l1 l2 l3 hn6 hV kk)
  · exact lv_tableIn (off := 934) (tgt := 967) g1 g2 dL_law_33 q1 q2 (by rw [ek]; rfl) (by decide) (cs_act hL hi' hB hla.1 l0 l1 l2 l3 hn6 hV kk)
  · exact lv_tableIn (off := 977) (tgt := 1010) g1 g2 dL_law_33 q1 q2 (by rw [ek]; rfl) (by decide) (cs_trace hL hi' hB hla.1 l0 l1 l2 l3 hn6 hV kk)
  · exact lv_tableIn (off := 1000) (tgt := 1033) g1 g2 dL_law_33 q1 q2 (by rw [ek]; rfl) (by decide) (cs_taken hL hi' hB hla.1 l0 l1 l2 l3 hn6 hV kk)
  · exact lv_tableIn (off := 1033) (tgt := 1066) g1 g2 dL_law_33 q1 q2 (by rw [ek]; rfl) (by decide) (cs_count hL hi' hB hla.1 l0 l1 l2 l3 hn6 hV kk)
  · exact lv_tableIn (off := 1056) (tgt := 1089) g1 g2 dL_law_33 q1 q2 (by rw [ek]; rfl) (by decide) (cs_tape hL hi' hB hla.1 l0 l1 l2 l3 hn6 hV kk)
  · exact lv_tableIn (off := 1099) (tgt := 1132) g1 g2 dL_law_33 q1 q2 (by rw [ek]; rfl) (by decide) (cs_item hL hi' hB hla.1 l0 l1 l2 l3 hn6 hV kk)
  · exact lv_tableIn (off := 1172) (tgt := 1205) g1 g2 dL_law_33 q1 q2 (by rw [ek]; rfl) (by decide) (cs_read hL hi' hB hla.1 l0 l1 l2 l3 hn6 hV kk)
  · exact lv_tableIn (off := 1206) (tgt := 1239) g1 g2 dL_law_33 q1 q2 (by rw [ek]; rfl) (by decide) (cs_shift hL hi' hB hla.1 l0 l1 l2 l3 hn6 hV kk)
theorem lw_loop (hB : LB D E p s m args c b L xs) (kend : ∀ (C M : Mem) (H1 : Heap) (locs1 : List Loc) (la : Array Slot), L2 D E C M s H1 locs1 (mZ C) (mW C + mW M) → mZ C ≤ 600000 → mW C + mW M ≤ 7302249 → W p l e room_1 s m args below meth c H1 locs1 (mZ C) (mW C + mW M) Q (F0 m 1308 la [])) :
    ∀ (k i : Nat) (C M : Mem) (la : Array Slot) (H : Heap) (locs : List Loc), i + k = 512 → LI i C M → lv_has la 4 (lcs E b (6 * i)) → L2 D E C M s H locs (mZ C) (mW C + mW M) → W p l e room_1 s m args below meth c H locs (mZ C) (mW C + mW M) Q (F0 m 18 la [])
  | 0, i, C, M, la, H, locs, hk, hL, hla, hV => by
    obtain ⟨h1, h2, h3, h4, h5, h6, h7, h8, h9, h10, h11, h12⟩ := id hL
    have hL3 := hB.2.2.2
    exact lw_head hB hla (by omega) hV.2.2.2.2.2.1 (fun z => by omega) (kend C M H locs la hV (by omega) (by omega))
  | k + 1, i, C, M, la, H, locs, hk, hL, hla, hV => by
    obtain ⟨h1, h2, h3, h4, h5, h6, h7, h8, h9, h10, h11, h12⟩ := id hL
    refine lw_head hB hla (by omega) hV.2.2.2.2.2.1 (fun z => ?_) (kend C M H locs la hV (by omega) (by omega))
    refine lw_body hL (by omega) hB hla z hV rfl rfl fun C' M' H1 locs1 hL' hV' => ?_
    refine lv_iinc (k := 0) (v := Int32.ofNat (6 * (i + 1))) (lv' := lcs E b (6 * (i + 1))) hB.1.1 hB.1.2.1 dL_law_1302 hla rfl ?_ (by decide) rfl fun la' hla' => ?_
    · rw [show 6 * (i + 1) = 6 * i + 6 by omega, Int32.ofNat_add]; rfl
    · exact lv_goto (tgt := 18) hB.1.1 hB.1.2.1 dL_law_1305 (by decide) (lw_loop hB kend k (i + 1) C' M' la' H1 locs1 (by omega) hL' hla' hV')
end LOOP
