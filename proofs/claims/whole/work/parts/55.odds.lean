/-! odds, mean -/
theorem pt_M (M : Mem) : ∀ (n : Nat) (a b c : Int32), f_D_partOfTwelfths_l3 M n a b c = f_D_partOfTwelfths_l3 (zM 0) n a b c
  | 0, _, _, _ => rfl
  | n + 1, a, b, c => by
    simp only [f_D_partOfTwelfths_l3, lte, pt_M M n]
    rfl
theorem dv_M (M : Mem) : ∀ (n : Nat) (a b : Int32), f_M_divisor_l5 M n a b = f_M_divisor_l5 (zM 0) n a b
  | 0, _, _ => rfl
  | n + 1, a, b => by
    simp only [f_M_divisor_l5, lte, dv_M M n]
def okP (v : Nat) : Bool := (f_D_partOfTwelfths (Int32.ofNat v) 0 (zM 0)).isSome && (f_D_partOfTwelfths (Int32.ofNat v) 0 (zM 0) == f_M_byTwelve (Int32.ofNat v) 0 (zM 0)) && (f_D_partOfTwelfths (Int32.ofNat v) 1 (zM 0)).isSome && (f_D_partOfTwelfths (Int32.ofNat v) 1 (zM 0) == f_M_byTwelve (Int32.ofNat v) 1 (zM 0))
theorem okP_is : (List.range 1189).all okP = true := by decide +kernel
theorem parts_eq {v : Nat} (hv : v < 1189) {p : Int32} (hp : 0 ≤ p ∧ p ≤ 1) (C M : Mem) : ∃ a, f_D_partOfTwelfths (Int32.ofNat v) p C = some a ∧ f_M_byTwelve (Int32.ofNat v) p M = some a := by
  have e1 : f_D_partOfTwelfths (Int32.ofNat v) p C = f_D_partOfTwelfths (Int32.ofNat v) p (zM 0) := pt_M C _ _ _ _
  have e2 : f_M_byTwelve (Int32.ofNat v) p M = f_M_byTwelve (Int32.ofNat v) p (zM 0) := by
    unfold f_M_byTwelve f_M_divisor
    rw [dv_M M]
  have := List.all_eq_true.mp okP_is v (List.mem_range.mpr hv)
  simp only [okP, Bool.and_eq_true, beq_iff_eq] at this
  obtain ⟨⟨⟨a1, a2⟩, a3⟩, a4⟩ := this
  rw [e1, e2]
  rcases (show p = 0 ∨ p = 1 by grind) with e | e
  · subst e
    obtain ⟨a, ha⟩ := Option.isSome_iff_exists.mp a1
    exact ⟨a, ha, by rw [← a2]; exact ha⟩
  · subst e
    obtain ⟨a, ha⟩ := Option.isSome_iff_exists.mp a3
    exact ⟨a, ha, by rw [← a4]; exact ha⟩
/-- a call that answers a long -/
def SimL (C M : Mem) (x : Option (Int64 × Mem)) (y : Mem → Option (Int64 × Mem)) : Prop := ∃ a C' hs' M', x = some (a, C') ∧ mZ C ≤ mZ C' ∧ y (bump M (mZ C')) = some (a, M') ∧ Rel hs' C' M'
theorem siml_of {hs : Nat → List Cls} {C M C' M' : Mem} {a : Int64} {x : Option (Int64 × Mem)} {y : Mem → Option (Int64 × Mem)} (h : Rel hs C M) (hx : x = some (a, C')) (hz : mZ C' = mZ C) (hy : y M = some (a, M')) (hR : Rel hs C' M') : SimL C M x y :=
  ⟨a, C', hs, M', hx, Nat.le_of_eq hz.symm, by rw [hz, h.2.2.2.2.2]; exact hy, hR⟩
theorem siml_ask {hs : Nat → List Cls} {C M C' M' : Mem} {a : Int64} {x : Option (Int64 × Mem)} {y : Mem → Option (Int64 × Mem)} (h : Rel hs C M) (hx : x = some (a, C')) (hC : Fr kC C C') (hy : y M = some (a, M')) (hM : Fi jM M M') : SimL C M x y := siml_of h hx hC.2.2.2 hy (rel_ask h hC hM)
theorem siml_no {hs : Nat → List Cls} {C M : Mem} (a : Int64) {x : Option (Int64 × Mem)} {y : Mem → Option (Int64 × Mem)} (h : Rel hs C M) (hx : x = some (a, C)) (hy : y M = some (a, M)) : SimL C M x y := siml_of h hx rfl hy h
theorem stC_fr {C C1 : Mem} (hF : Fr kC C C1) {d : Nat} (hd : d + 600000 ≤ 7602179) : stC C1 d = stC C d := by
  funext i
  unfold stC
  rw [hF.1 d _ (by unfold kC; omega), hF.1 (d + 131143) _ (by unfold kC; omega), hF.1 (d + 262215) _ (by unfold kC; omega), hF.1 (d + 393415) _ (by unfold kC; omega), hF.1 131077 3 (by unfold kC; omega), hF.1 131077 4 (by unfold kC; omega)]
theorem hRep_k {C C1 : Mem} (hF : Fr kC C C1) {hid : Nat} {cs : List Cls} (h : HRep C hid cs) : HRep C1 hid cs :=
  h.fr (fun a ha k => hF.1 a k (by unfold hReg at ha; unfold kC; omega)) (fun a ha k => hF.2.1 a k (by unfold hReg at ha; unfold kC; omega))
theorem hold_k {C C1 : Mem} (hF : Fr kC C C1) : f_D_holdingHouse C1 = f_D_holdingHouse C :=
  hold_same (fun k => hF.1 _ _ (by unfold kC; omega)) (by
    funext k
    exact hF.2.1 _ _ (by unfold kC; omega))
theorem now_again {C C1 : Mem} (hF : Fr kC C C1) {hid : Nat} {cs : List Cls} (h1 : f_D_holdingHouse C = some hid) (h2 : HRep C hid cs) (h3 : wfH cs) {d : Nat} (hd : d + 600000 ≤ 7602179) : ∃ C', f_D_courseNow d C1 = some (7602179, C') ∧ CoT C' 7602179 hid cs (stC C d) ∧ Fr kC C C' := by
  obtain ⟨C', a1, a2, a3, -⟩ := now_c ((hold_k hF).trans h1) (hRep_k hF h2) h3 hd
  rw [stC_fr hF hd] at a2
  exact ⟨C', a1, a2, hF.trans a3⟩
theorem inAir_c {C : Mem} {hid : Nat} {cs : List Cls} {S : Nat → Int32} (hC : CoS C 7602179 hid cs S) (hw : wfH cs) (a : Int32) : ∃ C', f_Co_goInAir 7602179 a C = some C' ∧ CoT C' 7602179 hid cs (pasS cs a S) ∧ Fr kC C C' := by
  obtain ⟨C1, p1, p2, p3⟩ := pass_c (t := 7602179) (Or.inl rfl) hC hw a
  obtain ⟨C2, s1, s2, s3⟩ := settle_c (t := 7602179) (Or.inl rfl) p2 hw
  exact ⟨C2, by simp only [f_Co_goInAir, p1, s1, bdg], s2, (p3.trans s3).mono coP1⟩
/-- the model is back -/
theorem Gn.again {M0 M1 M3 : Mem} {n m b n' m' b' : Nat} {cs cs' : List Cls} {A A' : Nat → Int32} {SS SS' : Nat → Nat → Int32} (_ : Gn M0 M1 n' m' b' cs' A' SS') (hM : MoA M0 n m SS) (hH : MHb M0 cs b) (hG : ∀ k, k < 12 → mI M0 12583307 k = A k) (hK : Kp M0 M3) (hF : Fi jM M0 M3) : Gn M0 M3 n m b cs A SS :=
  ⟨hM.fi hF, hK, hF.mono (fun a k q => Or.inr q), hH.fi hF, fun k hk => (hF.1 _ _ (by unfold jM; omega)).trans (hG k hk)⟩
theorem odds_all {C M0 : Mem} {n m b j hid d : Nat} {cs : List Cls} {A : Nat → Int32} {SS : Nat → Nat → Int32} {v2 : Int32} (hv : 0 ≤ v2 ∧ v2 ≤ 1) (hd : d + 600000 ≤ 7602179) (kd : d % 131072 = 4) (hj : j < n) (hj4 : j < 4) (hm : m < 50000) (hw : wfH cs) (hA : airA A) (h1 : f_D_holdingHouse C = some hid) (h2 : HRep C hid cs) (hS : SS j = stC C d) (hAC : ∀ k, k < 12 → mI C 262539 k = A k) (hM : MoA M0 n m SS) (hH : MHb M0 cs b) (hG : ∀ k, k < 12 → mI M0 12583307 k = A k) : ∀ (k f1 f2 i c : Nat) (C1 M1 : Mem), k < f1 → k < f2 → i + k = 12 → c ≤ i → Fr kC C C1 → Gn M0 M1 n m b cs A SS → Fi jM M0 M1 → ∃ a C' M', f_D_odds_l29 f1 v2 d (Int32.ofNat c) (Int32.ofNat i) C1 = some (a, C') ∧ f_M_odds_l31 f2 (Int32.ofNat j) v2 (Int32.ofNat c) (Int32.ofNat i) M1 = some (a, M') ∧ Fr kC C C' ∧ Fi jM M0 M'
  | k, 0, _, _, _, _, _, h, _, _, _, _, _, _ => by omega
  | k, _, 0, _, _, _, _, _, h, _, _, _, _, _ => by omega
  | 0, f1 + 1, f2 + 1, i, c, C1, M1, _, _, hi', hc, hF, hM1, hJ => by
    have e : i = 12 := by omega
    subst e
    obtain ⟨a, x1, x2⟩ := parts_eq (v := c) (by omega) hv C1 M1
    have c12 : (12 : Int32) ≤ Int32.ofNat 12 := by decide
    refine ⟨a, C1, M1, ?_, ?_, hF, hJ⟩
    · simp only [f_D_odds_l29, if_pos c12, x1, bdg]
    · simp only [f_M_odds_l31, if_pos c12, x2, bdg]
  | k + 1, f1 + 1, f2 + 1, i, c, C1, M1, _, _, hi', hc, hF, hM1, hJ => by
    have i12 : i < 12 := by omega
    have c12 : ¬ (12 : Int32) ≤ Int32.ofNat i := fun q => by have := (oN_le (m := 12) (i := i) (by omega) (by omega)).mp q; omega
    have hr : inR (Int32.ofNat i) 12 := oN_in (by omega) i12
    have hx : (Int32.ofNat i).toNatClampNeg = i := oN_ix (by omega)
    obtain ⟨C2, n1, n2, n3⟩ := now_again hF h1 h2 hw hd
    obtain ⟨C3, g1, g2, g3⟩ := inAir_c n2.1 hw (A i)
    have hA2 : mI C2 262539 i = A i := (n3.1 _ _ (by unfold kC; omega)).trans (hAC i i12)
    obtain ⟨M2, r1, r2⟩ := hM1.month (by omega) hw (hA i i12)
    obtain ⟨hSM, ho⟩ := r2.door hj
    obtain ⟨M3, u1, u2⟩ := rubs_m hj4 hSM ho hw r2.2.2.2.1
    obtain ⟨M4, b1, b2', b3⟩ := (r2.pil u2).back
    have hG1 : mI M1 12583307 i = A i := hM1.2.2.2.2 i i12
    have g4 := hM1.again hM hH hG b2' b3
    have rb : f_Co_rubbing 7602179 C3 = some (rubS cs (pasS cs (A i) (SS j))) := by rw [hS]; exact rubbing_c g2
    by_cases q : rubS cs (pasS cs (A i) (SS j)) = 0
    · obtain ⟨a, C', M', x1, x2, x3, x4⟩ := odds_all hv hd kd hj hj4 hm hw hA h1 h2 hS hAC hM hH hG k f1 f2 (i + 1) c C3 M4 (by omega) (by omega) (by omega) (by omega) (n3.trans g3) g4 b3
      refine ⟨a, C', M', ?_, ?_, x3, x4⟩
      · simp only [f_D_odds_l29, if_neg c12, gd_pos kd, n1, bdg, ap2g, gd_pos hr, gdT, hx, hA2, g1, rb, if_pos q, lte, oN_s, Int32.add_zero]
        exact x1
      · simp only [f_M_odds_l31, if_neg c12, gd_pos hr, hx, hG1, r1, bdg, u1, ap2g, if_pos q, b1, lte, oN_s, Int32.add_zero]
        exact x2
    · obtain ⟨a, C', M', x1, x2, x3, x4⟩ := odds_all hv hd kd hj hj4 hm hw hA h1 h2 hS hAC hM hH hG k f1 f2 (i + 1) (c + 1) C3 M4 (by omega) (by omega) (by omega) (by omega) (n3.trans g3) g4 b3
      refine ⟨a, C', M', ?_, ?_, x3, x4⟩
      · simp only [f_D_odds_l29, if_neg c12, gd_pos kd, n1, bdg, ap2g, gd_pos hr, gdT, hx, hA2, g1, rb, if_neg q, lte, oN_s]
        exact x1
      · simp only [f_M_odds_l31, if_neg c12, gd_pos hr, hx, hG1, r1, bdg, u1, ap2g, if_neg q, b1, lte, oN_s]
        exact x2
theorem sim_odds {hs : Nat → List Cls} {C M : Mem} (h : Rel hs C M) (p1 p2 : Int32) : SimL C M (f_D_odds p1 p2 C) (f_M_odds p1 p2) := by
  rcases door_at h p1 with ⟨j, hj, ej, e0, hr, hlt, eC, eM⟩ | ⟨eC, eM⟩
  · by_cases h9 : 0 ≤ p2 ∧ p2 ≤ 1
    · obtain ⟨hid, n, m, b, cs, hE⟩ := enter h
      have hjn := door_n h hE hj (by rw [← e0]; exact hlt)
      obtain ⟨M1, k1, k2⟩ := Gn.start hE
      obtain ⟨M1', k1', _, k3⟩ := keep_m M
      have ek : M1' = M1 := Option.some.inj (k1'.symm.trans k1)
      subst ek
      obtain ⟨h1, h2, h3, h4, h5, -, hm9, hA, hG, -⟩ := hE
      obtain ⟨a, C', M', x1, x2, x3, x4⟩ := odds_all (v2 := p2) h9 (dlo hj) (dkd j) hjn hj (by omega) h3 hA h1 h2 rfl (fun _ _ => rfl) h5 h4 hG 12 200 200 0 0 C M1' (by omega) (by omega) (by omega) (by omega) Fr.rf k2 (k3.mono kp_jM).fi
      have z := dnz j
      generalize 786436 + 655360 * j = d at *
      refine siml_ask h (a := a) (C' := C') (M' := M') ?_ x3 ?_ x4
      · simp only [f_D_odds, eC, bdg, if_neg z, wi1 h9, if_neg i10]
        exact x1
      · simp only [f_M_odds, eM, if_neg i10, mi1 h9, k1, bdg]
        rw [e0]; exact x2
    · refine siml_no (-9223372036854775808) h ?_ ?_
      · simp only [f_D_odds, eC, bdg, if_neg (dnz j), wi0 h9, if_true]
      · simp only [f_M_odds, eM, mi0 h9, if_neg i10, if_true]
  · exact siml_no (-9223372036854775808) h (by simp only [f_D_odds, eC, bdg, if_true]) (by simp only [f_M_odds, eM, if_true])
theorem mean_all {C M0 : Mem} {n m b j hid d s : Nat} {cs : List Cls} {A : Nat → Int32} {SS : Nat → Nat → Int32} {v2 : Int32} (hs2 : s < 2) (hv : 0 ≤ v2 ∧ v2 ≤ 1) (hd : d + 600000 ≤ 7602179) (kd : d % 131072 = 4) (hj : j < n) (hj4 : j < 4) (hm : m < 50000) (hw : wfH cs) (hA : airA A) (h1 : f_D_holdingHouse C = some hid) (h2 : HRep C hid cs) (hS : SS j = stC C d) (hAC : ∀ k, k < 12 → mI C 262539 k = A k) (hM : MoA M0 n m SS) (hH : MHb M0 cs b) (hG : ∀ k, k < 12 → mI M0 12583307 k = A k) : ∀ (k f1 f2 i c : Nat) (C1 M1 : Mem), k < f1 → k < f2 → i + k = 12 → c ≤ 99 * i → Fr kC C C1 → Gn M0 M1 n m b cs A SS → Fi jM M0 M1 → ∃ a C' M', f_D_mean_l40 f1 (Int32.ofNat s) v2 d (Int32.ofNat c) (Int32.ofNat i) C1 = some (a, C') ∧ f_M_mean_l42 f2 (Int32.ofNat j) (Int32.ofNat s) v2 (Int32.ofNat c) (Int32.ofNat i) M1 = some (a, M') ∧ Fr kC C C' ∧ Fi jM M0 M'
  | k, 0, _, _, _, _, _, h, _, _, _, _, _, _ => by omega
  | k, _, 0, _, _, _, _, _, h, _, _, _, _, _ => by omega
  | 0, f1 + 1, f2 + 1, i, c, C1, M1, _, _, hi', hc, hF, hM1, hJ => by
    have e : i = 12 := by omega
    subst e
    obtain ⟨a, x1, x2⟩ := parts_eq (v := c) (by omega) hv C1 M1
    have c12 : (12 : Int32) ≤ Int32.ofNat 12 := by decide
    refine ⟨a, C1, M1, ?_, ?_, hF, hJ⟩
    · simp only [f_D_mean_l40, if_pos c12, x1, bdg]
    · simp only [f_M_mean_l42, if_pos c12, x2, bdg]
  | k + 1, f1 + 1, f2 + 1, i, c, C1, M1, _, _, hi', hc, hF, hM1, hJ => by
    have i12 : i < 12 := by omega
    have c12 : ¬ (12 : Int32) ≤ Int32.ofNat i := fun q => by have := (oN_le (m := 12) (i := i) (by omega) (by omega)).mp q; omega
    have hr : inR (Int32.ofNat i) 12 := oN_in (by omega) i12
    have hx : (Int32.ofNat i).toNatClampNeg = i := oN_ix (by omega)
    have hrj : inR (Int32.ofNat j) 4 := oN_in (by omega) hj4
    have hxj : (Int32.ofNat j).toNatClampNeg = j := oN_ix (by omega)
    have hrs : inR (Int32.ofNat s) 2 := oN_in (by omega) hs2
    have hxs : (Int32.ofNat s).toNatClampNeg = s := oN_ix (by omega)
    obtain ⟨C2, n1, n2, n3⟩ := now_again hF h1 h2 hw hd
    obtain ⟨C3, g1, g2, g3⟩ := inAir_c n2.1 hw (A i)
    have hA2 : mI C2 262539 i = A i := (n3.1 _ _ (by unfold kC; omega)).trans (hAC i i12)
    obtain ⟨M2, r1, r2⟩ := hM1.month (by omega) hw (hA i i12)
    obtain ⟨hSM, ho⟩ := r2.door hj
    obtain ⟨M4, b1, b2', b3⟩ := r2.back
    have hG1 : mI M1 12583307 i = A i := hM1.2.2.2.2 i i12
    have g4 := hM1.again hM hH hG b2' b3
    obtain ⟨⟨m1, m2, m3, m4, m5, m6, m7⟩, -⟩ := id hSM
    obtain ⟨⟨-, ⟨w5, w6⟩, -⟩, -⟩ := g2.1
    have o5 := ho.2.2.2.2.1
    have o6 := ho.2.2.2.2.2.1
    have fin : ∀ w, 0 ≤ w ∧ w ≤ 99 → mI C3 8126539 s = w → (if Int32.ofNat s = 0 then mI M2 12976267 j else mI M2 13107339 j) = w → ∃ a C' M', f_D_mean_l40 (f1 + 1) (Int32.ofNat s) v2 d (Int32.ofNat c) (Int32.ofNat i) C1 = some (a, C') ∧ f_M_mean_l42 (f2 + 1) (Int32.ofNat j) (Int32.ofNat s) v2 (Int32.ofNat c) (Int32.ofNat i) M1 = some (a, M') ∧ Fr kC C C' ∧ Fi jM M0 M' := fun w hw99 e1 e2 => by
      obtain ⟨u, hu, rfl⟩ := oN_of hw99 (n := 100) (by decide)
      have sm : Int32.ofNat c + Int32.ofNat u = Int32.ofNat (c + u) := (Int32.ofNat_add c u).symm
      obtain ⟨a, C', M', x1, x2, x3, x4⟩ := mean_all hs2 hv hd kd hj hj4 hm hw hA h1 h2 hS hAC hM hH hG k f1 f2 (i + 1) (c + u) C3 M4 (by omega) (by omega) (by omega) (by omega) (n3.trans g3) g4 b3
      refine ⟨a, C', M', ?_, ?_, x3, x4⟩
      · simp only [f_D_mean_l40, if_neg c12, gd_pos kd, n1, bdg, ap2g, gd_pos hr, gdT, hx, hA2, g1, gd_pos hrs, hxs, e1, lte, oN_s, sm]
        exact x1
      · simp only [f_M_mean_l42, if_neg c12, gd_pos hr, hx, hG1, r1, bdg, gd_pos hrj, hxj, lte, b1, oN_s]
        by_cases z : Int32.ofNat s = 0
        · rw [if_pos z] at e2
          rw [if_pos z, e2, sm]; exact x2
        · rw [if_neg z] at e2
          rw [if_neg z, e2, sm]; exact x2
    rcases (show s = 0 ∨ s = 1 by omega) with q | q
    · subst q
      refine fin _ o5 ?_ ((if_pos (by decide)).trans m5)
      rw [hS]; exact w5
    · subst q
      refine fin _ o6 ?_ ((if_neg (by decide)).trans m6)
      rw [hS]; exact w6
theorem sim_mean {hs : Nat → List Cls} {C M : Mem} (h : Rel hs C M) (p1 p2 p3 : Int32) : SimL C M (f_D_mean p1 p2 p3 C) (f_M_mean p1 p2 p3) := by
  rcases door_at h p1 with ⟨j, hj, ej, e0, hr, hlt, eC, eM⟩ | ⟨eC, eM⟩
  · by_cases h8 : 0 ≤ p2 ∧ p2 ≤ 1
    · by_cases h9 : 0 ≤ p3 ∧ p3 ≤ 1
      · obtain ⟨hid, n, m, b, cs, hE⟩ := enter h
        have hjn := door_n h hE hj (by rw [← e0]; exact hlt)
        obtain ⟨M1, k1, k2⟩ := Gn.start hE
        obtain ⟨M1', k1', _, k3⟩ := keep_m M
        have ek : M1' = M1 := Option.some.inj (k1'.symm.trans k1)
        subst ek
        obtain ⟨s, hs2, es⟩ := oN_of h8 (n := 2) (by decide)
        obtain ⟨h1, h2, h3, h4, h5, -, hm9, hA, hG, -⟩ := hE
        obtain ⟨a, C', M', x1, x2, x3, x4⟩ := mean_all (v2 := p3) hs2 h9 (dlo hj) (dkd j) hjn hj (by omega) h3 hA h1 h2 rfl (fun _ _ => rfl) h5 h4 hG 12 200 200 0 0 C M1' (by omega) (by omega) (by omega) (by omega) Fr.rf k2 (k3.mono kp_jM).fi
        have z := dnz j
        generalize 786436 + 655360 * j = d at *
        refine siml_ask h (a := a) (C' := C') (M' := M') ?_ x3 ?_ x4
        · simp only [f_D_mean, eC, bdg, if_neg z, wi1 h8, wi1 h9, if_neg i10]
          rw [es]; exact x1
        · simp only [f_M_mean, eM, if_neg i10, mi1 h8, mi1 h9, k1, bdg]
          rw [e0, es]; exact x2
      · refine siml_no (-9223372036854775808) h ?_ ?_
        · simp only [f_D_mean, eC, bdg, if_neg (dnz j), wi1 h8, wi0 h9, if_neg i10, if_true]
        · simp only [f_M_mean, eM, mi1 h8, mi0 h9, if_neg i10, if_true]
    · refine siml_no (-9223372036854775808) h ?_ ?_
      · simp only [f_D_mean, eC, bdg, if_neg (dnz j), wi0 h8, if_true]
      · simp only [f_M_mean, eM, mi0 h8, if_neg i10, if_true]
  · exact siml_no (-9223372036854775808) h (by simp only [f_D_mean, eC, bdg, if_true]) (by simp only [f_M_mean, eM, if_true])
