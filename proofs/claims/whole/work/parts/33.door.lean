/-! door -/
theorem Rel.more {hs : Nat → List Cls} {C M : Mem} (h : Rel hs C M) {j : Nat} (hj : j < 4) (h0 : rdI C (ce 60) = Int32.ofNat j) (hn : mI C (786436 + 655360 * j) 0 = Int32.ofNat j) : Rel hs (wrI C (ce 60) (Int32.ofNat (j + 1))) (wrI M (me 60) (Int32.ofNat (j + 1))) := by
  obtain ⟨a1, a2, a3, a4, a5, a6⟩ := h
  have nz : ∀ k, k < nC → k ≠ 60 → rdI (wrI C (ce 60) (Int32.ofNat (j + 1))) (ce k) = rdI C (ce k) := fun k hk hne => by rw [rd_wr, if_neg fun q => hne (ce_inj hk (by decide) q)]
  have nI : ∀ a, hReg a → ∀ k, mI (wrI C (ce 60) (Int32.ofNat (j + 1))) a k = mI C a k := fun a ha k => mI_ne (ne_of_P ha (ce_reg (by decide)))
  have nM : ∀ a, mReg a → ∀ k, mI (wrI M (me 60) (Int32.ofNat (j + 1))) a k = mI M a k := fun a ha k => mI_ne (ne_of_P ha (me_reg (i := 60) (by decide)).1)
  have b : (0 : Int32) ≤ Int32.ofNat (j + 1) ∧ Int32.ofNat (j + 1) ≤ 4 := by
    rcases (show j = 0 ∨ j = 1 ∨ j = 2 ∨ j = 3 by omega) with e | e | e | e <;> subst e <;> decide
  have np : ∀ p, pnC p → rdI (wrI C (ce 60) (Int32.ofNat (j + 1))) p = rdI C p := fun p hp => rd_ne (ne_of_P hp (ce_pn (by decide)))
  refine ⟨a1.set (by decide) (by decide) b.1 b.2, a2.fr nI (fun _ _ _ => rfl) (nz _ (by decide) (by decide)) nM, a3.fr (fun k hk hq => nz k hk (by omega)), ?_, a5, a6⟩
  obtain ⟨x1, x2, x3⟩ := a4
  have e1 : ∀ i, i < 4 → mI (wrI C (ce 60) (Int32.ofNat (j + 1))) (786436 + 655360 * i) 0 = mI C (786436 + 655360 * i) 0 := fun i hi' => np (_, _) ⟨i, hi', Or.inr (Or.inr (Or.inl rfl))⟩
  refine ⟨fun i hi' => ?_, fun i hi' hl => ?_, fun q => ?_⟩
  · have e2 : mI (wrI C (ce 60) (Int32.ofNat (j + 1))) (786436 + 655360 * i + 262215) 0 = mI C (786436 + 655360 * i + 262215) 0 := np (_, _) ⟨i, hi', Or.inl rfl⟩
    have e3 : mI (wrI C (ce 60) (Int32.ofNat (j + 1))) (786436 + 655360 * i + 262215) 1 = mI C (786436 + 655360 * i + 262215) 1 := np (_, _) ⟨i, hi', Or.inr (Or.inl rfl)⟩
    rw [e2, e3, mI_ne (me_reg (i := 60) (by decide)).2.1.symm]; exact x1 i hi'
  · rw [rd_wr, if_pos rfl] at hl
    rw [e1 i hi']
    have := (oN_lt (by omega) (by omega)).mp hl
    by_cases e : i = j
    · subst e; exact hn
    · exact x2 i hi' (by rw [h0]; exact (oN_lt (by omega) (by omega)).mpr (by omega))
  · rw [nz 178 (by decide) (by decide)] at q
    rw [nz 149 (by decide) (by decide)]
    obtain ⟨y1, y2⟩ := x3 q
    refine ⟨fun i hi' => ?_, fun i hi' hl => ?_⟩
    · have e2 : mI (wrI C (ce 60) (Int32.ofNat (j + 1))) (4063236 + 655360 * i + 262215) 0 = mI C (4063236 + 655360 * i + 262215) 0 := np (_, _) ⟨i, hi', Or.inr (Or.inr (Or.inr (Or.inl rfl)))⟩
      have e3 : mI (wrI C (ce 60) (Int32.ofNat (j + 1))) (4063236 + 655360 * i + 262215) 1 = mI C (4063236 + 655360 * i + 262215) 1 := np (_, _) ⟨i, hi', Or.inr (Or.inr (Or.inr (Or.inr (Or.inl rfl))))⟩
      rw [e2, e3, mI_ne (me_reg (i := 60) (by decide)).2.2.symm]; exact y1 i hi'
    · have e2 : mI (wrI C (ce 60) (Int32.ofNat (j + 1))) (4063236 + 655360 * i) 0 = mI C (4063236 + 655360 * i) 0 := np (_, _) ⟨i, hi', Or.inr (Or.inr (Or.inr (Or.inr (Or.inr rfl))))⟩
      rw [e2]; exact y2 i hi' hl
theorem setI_comm (M : Mem) {a b : Nat} (h : a ≠ b) (k l : Nat) (v w : Int32) : setI (setI M a k v) b l w = setI (setI M b l w) a k v := by
  have : up2 (up2 (mI M) a k v) b l w = up2 (up2 (mI M) b l w) a k v := by
    funext c j
    unfold up2
    by_cases q : c = b ∧ j = l
    · rw [if_pos q, if_neg (fun x => h (x.1.symm.trans q.1)), if_pos q]
    · rw [if_neg q, if_neg q]
  show (mV M, mZ M, mW M, up2 (up2 (mI M) a k v) b l w, mL M, mR M) = (mV M, mZ M, mW M, up2 (up2 (mI M) b l w) a k v, mL M, mR M)
  rw [this]
theorem perm5 (Z : Mem) (j : Nat) (a b c d e : Int32) : setI (setI (setI (setI (setI Z 12976267 j a) 13107339 j b) 13238411 j c) 13369483 j d) 13500555 j e = setI (setI (setI (setI (setI Z 13369483 j d) 13500555 j e) 12976267 j a) 13107339 j b) 13238411 j c := by
  rw [setI_comm _ (show (13238411 : Nat) ≠ 13369483 by decide), setI_comm _ (show (13107339 : Nat) ≠ 13369483 by decide), setI_comm _ (show (12976267 : Nat) ≠ 13369483 by decide), setI_comm _ (show (13238411 : Nat) ≠ 13500555 by decide), setI_comm _ (show (13107339 : Nat) ≠ 13500555 by decide), setI_comm _ (show (12976267 : Nat) ≠ 13500555 by decide)]
theorem door_l97 {j : Nat} (hj : j < 4) (M : Mem) : f_M_door_l97 200 (Int32.ofNat j) 0 M = (lt (setI (setI (setI (setI (setI (setI M 13632267 (6 * j + 0) 4) 13632267 (6 * j + 1) 4) 13632267 (6 * j + 2) 4) 13632267 (6 * j + 3) 4) 13632267 (6 * j + 4) 4) 13632267 (6 * j + 5) 4) fun M1 => some (Int32.ofNat j, setI M1 12451850 1 (mI M1 12451850 1 + 1))) := by
  have st : ∀ (n i : Nat) (M : Mem), i < 6 → f_M_door_l97 (n + 1) (Int32.ofNat j) (Int32.ofNat i) M = f_M_door_l97 n (Int32.ofNat j) (Int32.ofNat (i + 1)) (setI M 13632267 (6 * j + i) 4) := by
    intro n i M hi'
    simp only [f_M_door_l97] 
    rw [if_neg (show ¬ (6 : Int32) ≤ Int32.ofNat i from fun q => by have := (oN_le (m := 6) (by omega) (by omega)).mp q; omega), ix6 hj hi', gd_pos (oN_in (by omega) (by omega)), oN_ix (by omega), oN_s]; rfl
  rw [show f_M_door_l97 200 (Int32.ofNat j) 0 M = f_M_door_l97 (199 + 1) (Int32.ofNat j) (Int32.ofNat 0) M from rfl, st 199 0 M (by decide), st 198 1 _ (by decide), st 197 2 _ (by decide), st 196 3 _ (by decide), st 195 4 _ (by decide), st 194 5 _ (by decide)]
  rfl
theorem bds {α β : Type} (x : α) (g : α → Option β) : bd (some x) g = g x := Eq.trans rfl rfl
theorem mS {M : Mem} {a k b l : Nat} {v : Int32} (h : b ≠ a) : mI (setI M a k v) b l = mI M b l := if_neg fun q => h q.1
def dBeg (d a b c : Nat) (x k v : Int32) (C : Mem) : Mem := wrI (wrI (wrI (wrI (wrI (wrI (wrI (wrI (wrI (wrI (wrI (wrI (wrI (wrI (wrI C (d, 0) x) (d, 1) k) (d, 2) v) (d, 3) 0) (d, 4) 0) (a, 0) 50) (a, 1) 50) (b, 0) 0) (b, 1) 0) (c, 0) 4) (c, 1) 4) (c, 2) 4) (c, 3) 4) (c, 4) 4) (c, 5) 4
def mBeg (j : Nat) (k v : Int32) (M : Mem) : Mem := wrI (wrI (wrI (wrI (wrI (wrI (wrI (wrI (wrI (wrI (wrI (wrI (wrI M (12714123, j) k) (12845195, j) v) (13369483, j) 0) (13500555, j) 0) (12976267, j) 50) (13107339, j) 50) (13238411, j) 0) (13632267, 6 * j + 0) 4) (13632267, 6 * j + 1) 4) (13632267, 6 * j + 2) 4) (13632267, 6 * j + 3) 4) (13632267, 6 * j + 4) 4) (13632267, 6 * j + 5) 4
theorem begin_eq {d a b c : Nat} (ha : d + 131143 = a) (hb : d + 262215 = b) (hc : d + 393415 = c) (la : lnA a = 2) (lb : lnA b = 2) (lc : lnA c = 6) (x k v : Int32) (C : Mem) : f_Dr_begin d x k v C = some (dBeg d a b c x k v C) := by
  unfold f_Dr_begin; rw [lte, lte, lte, lte, lte, ha, fill2 la, bds, hb, fill2 lb, bds, hc, fill6 lc, bds]; rfl
theorem dBeg_at {d a b c : Nat} {x k v : Int32} {C : Mem} {q l : Nat} (h : q ≠ d ∧ q ≠ a ∧ q ≠ b ∧ q ≠ c) : mI (dBeg d a b c x k v C) q l = mI C q l := by
  obtain ⟨h1, h2, h3, h4⟩ := h
  unfold dBeg
  rw [mI_ne h4, mI_ne h4, mI_ne h4, mI_ne h4, mI_ne h4, mI_ne h4, mI_ne h3, mI_ne h3, mI_ne h2, mI_ne h2, mI_ne h1, mI_ne h1, mI_ne h1, mI_ne h1, mI_ne h1]
theorem dBeg_0 {d a b c : Nat} {x k v : Int32} {C : Mem} (h : d ≠ a ∧ d ≠ b ∧ d ≠ c) : mI (dBeg d a b c x k v C) d 0 = x := by
  obtain ⟨h2, h3, h4⟩ := h
  unfold dBeg
  rw [mI_ne h4, mI_ne h4, mI_ne h4, mI_ne h4, mI_ne h4, mI_ne h4, mI_ne h3, mI_ne h3, mI_ne h2, mI_ne h2]
  simp [mI_wrI]
theorem mBeg_at {j : Nat} {k v : Int32} {M : Mem} : mI (mBeg j k v M) 12451850 1 = mI M 12451850 1 := by
  unfold mBeg
  rw [mI_ne (p := (13632267, 6 * j + 5)) (show (12451850 : Nat) ≠ 13632267 by decide), mI_ne (p := (13632267, 6 * j + 4)) (show (12451850 : Nat) ≠ 13632267 by decide), mI_ne (p := (13632267, 6 * j + 3)) (show (12451850 : Nat) ≠ 13632267 by decide), mI_ne (p := (13632267, 6 * j + 2)) (show (12451850 : Nat) ≠ 13632267 by decide), mI_ne (p := (13632267, 6 * j + 1)) (show (12451850 : Nat) ≠ 13632267 by decide), mI_ne (p := (13632267, 6 * j + 0)) (show (12451850 : Nat) ≠ 13632267 by decide), mI_ne (p := (13238411, j)) (show (12451850 : Nat) ≠ 13238411 by decide), mI_ne (p := (13107339, j)) (show (12451850 : Nat) ≠ 13107339 by decide), mI_ne (p := (12976267, j)) (show (12451850 : Nat) ≠ 12976267 by decide), mI_ne (p := (13500555, j)) (show (12451850 : Nat) ≠ 13500555 by decide), mI_ne (p := (13369483, j)) (show (12451850 : Nat) ≠ 13369483 by decide), mI_ne (p := (12845195, j)) (show (12451850 : Nat) ≠ 12845195 by decide), mI_ne (p := (12714123, j)) (show (12451850 : Nat) ≠ 12714123 by decide)]
theorem dBeg_z {d a b c : Nat} {x k v : Int32} {C : Mem} : mZ (dBeg d a b c x k v C) = mZ C := by
  simp only [dBeg, mZ_wrI]
theorem mdoor {M : Mem} {j : Nat} (hj : j < 4) {p1 p2 : Int32} (hp : 0 ≤ p1 ∧ p1 ≤ 6) (hq : 0 ≤ p2 ∧ p2 ≤ 9) (h4 : ¬ mI M 12451850 1 = 4) (ej : mI M 12451850 1 = Int32.ofNat j) : f_M_door p1 p2 M = some (Int32.ofNat j, setI (mBeg j p1 p2 M) 12451850 1 (Int32.ofNat (j + 1))) := by
  have hr := oN_in (i := j) (n := 4) (by omega) hj
  unfold f_M_door
  rw [mi1 hp, mi1 hq, if_neg i10, if_neg i10, if_neg h4, lte, ej, gd_pos hr, lte, gd_pos hr, lte, gd_pos hr, lte, gd_pos hr, lte, gd_pos hr, lte, gd_pos hr, lte, gd_pos hr, lte, door_l97 hj, oN_ix (by omega), perm5, lte]
  have e : mI (mBeg j p1 p2 M) 12451850 1 + 1 = Int32.ofNat (j + 1) := by rw [mBeg_at, ej, oN_s]
  rw [← e]
  rfl
theorem rel_begin {hs : Nat → List Cls} {C M : Mem} (h : Rel hs C M) {j : Nat} (hj : j < 4) {p1 p2 : Int32} (hp : 0 ≤ p1 ∧ p1 ≤ 6) (hq : 0 ≤ p2 ∧ p2 ≤ 9) : Rel hs (dBeg (786436 + 655360 * j) (786436 + 655360 * j + 131143) (786436 + 655360 * j + 262215) (786436 + 655360 * j + 393415) (Int32.ofNat j) p1 p2 C) (mBeg j p1 p2 M) := by
  obtain ⟨k1, k2, k3, k4, k5⟩ := ce_kind hj
  obtain ⟨v1, v2, v3, v4, v5⟩ := ce_v hj
  obtain ⟨s1, s2, s3, s4, s5⟩ := ce_sag hj
  obtain ⟨g1, g2, g3, g4, g5⟩ := ce_pack hj
  obtain ⟨w1, w2, w3, w4, w5⟩ := ce_w0 hj
  obtain ⟨y1, y2, y3, y4, y5⟩ := ce_w1 hj
  have c0 := ce_cut hj (show 0 < 6 by decide)
  have c1 := ce_cut hj (show 1 < 6 by decide)
  have c2 := ce_cut hj (show 2 < 6 by decide)
  have c3 := ce_cut hj (show 3 < 6 by decide)
  have c4 := ce_cut hj (show 4 < 6 by decide)
  have c5 := ce_cut hj (show 5 < 6 by decide)
  have r0 := h.number hj
  have r1 := r0.set k3 (by omega) (v := p1) (by rw [k4]; exact hp.1) (by rw [k5]; exact hp.2)
  have r2 := r1.set v3 (by omega) (v := p2) (by rw [v4]; exact hq.1) (by rw [v5]; exact hq.2)
  have r3 := r2.set s3 (by omega) (v := 0) (by rw [s4]; decide) (by rw [s5]; decide)
  have r4 := r3.set g3 (by omega) (v := 0) (by rw [g4]; decide) (by rw [g5]; decide)
  have r5 := r4.set w3 (by omega) (v := 50) (by rw [w4]; decide) (by rw [w5]; decide)
  have r6 := r5.set y3 (by omega) (v := 50) (by rw [y4]; decide) (by rw [y5]; decide)
  have r7 := r6.paint hj (u := 0) (v := 0) (w := 0) (Or.inl rfl) (Or.inl rfl) rfl
  have r8 := r7.set c0.2.2.1 (by omega) (v := 4) (by rw [c0.2.2.2.1]; decide) (by rw [c0.2.2.2.2]; decide)
  have r9 := r8.set c1.2.2.1 (by omega) (v := 4) (by rw [c1.2.2.2.1]; decide) (by rw [c1.2.2.2.2]; decide)
  have r10 := r9.set c2.2.2.1 (by omega) (v := 4) (by rw [c2.2.2.2.1]; decide) (by rw [c2.2.2.2.2]; decide)
  have r11 := r10.set c3.2.2.1 (by omega) (v := 4) (by rw [c3.2.2.2.1]; decide) (by rw [c3.2.2.2.2]; decide)
  have r12 := r11.set c4.2.2.1 (by omega) (v := 4) (by rw [c4.2.2.2.1]; decide) (by rw [c4.2.2.2.2]; decide)
  have r13 := r12.set c5.2.2.1 (by omega) (v := 4) (by rw [c5.2.2.2.1]; decide) (by rw [c5.2.2.2.2]; decide)
  rw [k1, k2, v1, v2, s1, s2, g1, g2, w1, w2, y1, y2, c0.1, c0.2.1, c1.1, c1.2.1, c2.1, c2.2.1, c3.1, c3.2.1, c4.1, c4.2.1, c5.1, c5.2.1] at r13
  exact r13
theorem door_c {j : Nat} (hj : j < 4) {p1 p2 : Int32} (hp : 0 ≤ p1 ∧ p1 ≤ 6) (hq : 0 ≤ p2 ∧ p2 ≤ 9) {C X : Mem} (d3 : mI C 131077 2 = Int32.ofNat j) (eC : f_Dr_begin (786436 + 655360 * j) (Int32.ofNat j) p1 p2 C = some X) (e1 : mI X 131077 2 = Int32.ofNat j) : f_D_door p1 p2 C = some (Int32.ofNat j, setI X 131077 2 (Int32.ofNat (j + 1))) := by
  have hlt : Int32.ofNat j < 4 := (oN_lt (m := j) (i := 4) (by omega) (by omega)).mpr hj
  have hr := oN_in (i := j) (n := 4) (by omega) hj
  unfold f_D_door
  rw [d3, wi1 hp, wi1 hq, if_neg i10, if_neg i10, if_pos hlt, lte, gd_pos hr, oN_ix (show j < 2147483648 by omega), eC, bds, lte, e1, oN_s]
theorem begin_d {C : Mem} {j : Nat} (hj : j < 4) {p1 p2 : Int32} (h0 : mI C 131077 2 = Int32.ofNat j) : ∃ X, X = dBeg (786436 + 655360 * j) (786436 + 655360 * j + 131143) (786436 + 655360 * j + 262215) (786436 + 655360 * j + 393415) (Int32.ofNat j) p1 p2 C ∧ f_Dr_begin (786436 + 655360 * j) (Int32.ofNat j) p1 p2 C = some X ∧ mI X 131077 2 = Int32.ofNat j ∧ mI X (786436 + 655360 * j) 0 = Int32.ofNat j ∧ mZ X = mZ C := by
  refine ⟨_, rfl, begin_eq (d := 786436 + 655360 * j) rfl rfl rfl ?_ ?_ ?_ (Int32.ofNat j) p1 p2 C, ?_, dBeg_0 (by omega), dBeg_z⟩
  · unfold lnA; omega
  · unfold lnA; omega
  · unfold lnA; omega
  · rw [dBeg_at (by omega), h0]
theorem sim_door {hs : Nat → List Cls} {C M : Mem} (h : Rel hs C M) (p1 p2 : Int32) : Sim C M (f_D_door p1 p2 C) (f_M_door p1 p2) := by
  obtain ⟨d1, d2, d3, d4⟩ := door_lim h
  by_cases hp : 0 ≤ p1 ∧ p1 ≤ 6
  · by_cases hq : 0 ≤ p2 ∧ p2 ≤ 9
    · by_cases h4 : rdI C (ce 60) = 4
      · exact sim_no (-4) h (by simp only [f_D_door, wi1 hp, wi1 hq, if_neg i10, d3, h4]; rfl) (by simp only [f_M_door, mi1 hp, mi1 hq, if_neg i10, d4, h4, if_true])
      · have hx : 0 ≤ rdI C (ce 60) ∧ rdI C (ce 60) ≤ 3 := ⟨d1, by grind⟩
        obtain ⟨j, hj, ej⟩ := oN_of hx (n := 4) (by decide)
        obtain ⟨X, x1, x2, x3, x4, x5⟩ := begin_d (p1 := p1) (p2 := p2) hj (d3.trans ej)
        have rX := rel_begin h hj hp hq
        rw [← x1] at rX
        have eM := mdoor hj hp hq (M := M) (by rw [d4]; exact h4) (by rw [d4]; exact ej)
        exact sim_of h (door_c hj hp hq (d3.trans ej) x2 x3) x5 eM (rX.more hj x3 x4)
    · exact sim_no (-2) h (by simp only [f_D_door, wi1 hp, wi0 hq, if_neg i10, if_true]) (by simp only [f_M_door, mi1 hp, mi0 hq, if_neg i10, if_true])
  · exact sim_no (-1) h (by simp only [f_D_door, wi0 hp, if_true]) (by simp only [f_M_door, mi0 hp, if_true])
