/-! one call as a pair: what it gives -/
def Cal (sR : Nat → Nat → Nat) (Γ : GM) (as : List Value) (X : Mem) (z : Option Value × Mem) : Prop := ∃ (γ : Type) (finc : γ → Option Value × Mem) (fc : Option γ) (y : γ), Ct sR Γ finc as fc X ∧ fc = some y ∧ finc y = z
theorem Cal.ok {sR : Nat → Nat → Nat} {Γ : GM} {as : List Value} {X : Mem} {z : Option Value × Mem} (h : Cal sR Γ as X z) (hp : pOK sR X as) : ext X z.2 ∧ pOK sR z.2 z.1.toList := by
  obtain ⟨γ, finc, fc, y, hC, hy, rfl⟩ := h
  exact (hC.2 y hy ⟨hp.1, hp.2.1, fun v hv => by
    rcases List.mem_append.mp (List.append_nil _ ▸ hv) with h | h
    · rcases lcA_in as v h with h | h
      · exact hp.2.2 v h
      · subst h; trivial
    · rw [(List.mem_replicate.mp h).2]; trivial⟩).1
/-- what holds before the i-th item -/
def LI (i : Nat) (C M : Mem) : Prop := (∃ hs, Rel hs C M) ∧ cl C ∧ stI sRC C ∧ 9 ∈ mV C ∧ cl M ∧ stI sRM M ∧ 12451850 ∈ mV M ∧ 7471311 ∈ mV C ∧ 136 ≤ mZ C ∧ hLt M ∧ mZ C ≤ 136 + 22 * i ∧ mW C + mW M ≤ 6000 + 1044 * i
/-- ints and longs -/
def nums (as : List Value) : Prop := ∀ v, v ∈ as → ∀ M, lvV M v
theorem cl_bump {M : Mem} {z : Nat} (h : cl M) (hz : mZ M ≤ z) : cl (bump M z) := fun a ha => by
  obtain ⟨h1, h2, h3, h4⟩ := h a ha
  exact ⟨h1, h2, Nat.lt_of_lt_of_le h3 hz, h4⟩
theorem stp {i : Nat} {C M : Mem} {Γc Γm : GM} {as : List Value} {v : Value} {C' M' : Mem} (h : LI i C M) (hn : nums as) (cc : Cal sRC Γc (.ref 9 :: as) C (some v, C')) (cm : Cal sRM Γm (.ref 12451850 :: as) (bump M (mZ C')) (some v, M')) (hR : ∃ hs, Rel hs C' M') (hs1 : mZ C' ≤ mZ C + 22) (hs2 : mW C' ≤ mW C + 1044) (hk : Kx true (bump M (mZ C')) M') : LI (i + 1) C' M' := by
  obtain ⟨h1, h2, h3, h4, h5, h6, h7, h8, h9, h10, h11, h12⟩ := h
  have hzM : mZ M = mZ C := by obtain ⟨hs, hh⟩ := h1; exact hh.2.2.2.2.2.symm
  obtain ⟨e1, p1⟩ := cc.ok ⟨h2, h3, fun w hw => by
    rcases List.mem_cons.mp hw with q | q
    · subst q; exact Or.inr (Or.inr h4)
    · exact hn w q C⟩
  obtain ⟨e2, p2⟩ := cm.ok ⟨cl_bump h5 (by rw [hzM]; exact e1.1), h6, fun w hw => by
    rcases List.mem_cons.mp hw with q | q
    · subst q; exact Or.inr (Or.inr h7)
    · exact hn w q _⟩
  obtain ⟨k1, k2, k3, k4⟩ := hk
  have a1 : mZ C ≤ mZ C' := e1.1
  have k3' : mW M' = mW M := k3
  exact ⟨hR, p1.1, p1.2.1, e1.2.2 _ h4, p2.1, p2.2.1, e2.2.2 _ h7, e1.2.2 _ h8, by omega, fun j hj => (k4 rfl j).trans (h10 j hj), by omega, by omega⟩
/-- the four kinds of calls -/
def StpC (i : Nat) (C M : Mem) (Γc Γm : GM) (as : List Value) (B : Value → Prop) : Prop := ∃ (v : Value) (C' M' : Mem), B v ∧ Cal sRC Γc (.ref 9 :: as) C (some v, C') ∧ Cal sRM Γm (.ref 12451850 :: as) (bump M (mZ C')) (some v, M') ∧ LI (i + 1) C' M'
def isI (v : Value) : Prop := ∃ a, v = .int a
def isL (v : Value) : Prop := ∃ a, v = .long a
theorem stp_W {i : Nat} {C M : Mem} {Γc Γm : GM} {as : List Value} {x : Option (Int32 × Mem)} {y : Mem → Option (Int32 × Mem)} (h : LI i C M) (hn : nums as) (oC : Ct sRC Γc fWi (.ref 9 :: as) x C) (oM : ∀ X, Ct sRM Γm fWi (.ref 12451850 :: as) (y X) X) (hS : Sim C M x y) (hs : ∀ r C', x = some (r, C') → mZ C' ≤ mZ C + 22 ∧ mW C' ≤ mW C + 1044) (hk : ∀ X, Ke true X (y X)) : StpC i C M Γc Γm as isI := by
  obtain ⟨a, C', hs', M', x1, x2, x3, x4⟩ := hS
  have cc : Cal sRC Γc (.ref 9 :: as) C (some (.int a), C') := ⟨_, _, _, _, oC, x1, rfl⟩
  have cm : Cal sRM Γm (.ref 12451850 :: as) (bump M (mZ C')) (some (.int a), M') := ⟨_, _, _, _, oM _, x3, rfl⟩
  exact ⟨.int a, C', M', ⟨a, rfl⟩, cc, cm, stp h hn cc cm ⟨hs', x4⟩ (hs _ _ x1).1 (hs _ _ x1).2 (hk _ _ _ x3)⟩
theorem stp_L {i : Nat} {C M : Mem} {Γc Γm : GM} {as : List Value} {x : Option (Int64 × Mem)} {y : Mem → Option (Int64 × Mem)} (h : LI i C M) (hn : nums as) (oC : Ct sRC Γc fWl (.ref 9 :: as) x C) (oM : ∀ X, Ct sRM Γm fWl (.ref 12451850 :: as) (y X) X) (hS : SimL C M x y) (hs : ∀ r C', x = some (r, C') → mZ C' ≤ mZ C + 22 ∧ mW C' ≤ mW C + 1044) (hk : ∀ X, Ke true X (y X)) : StpC i C M Γc Γm as isL := by
  obtain ⟨a, C', hs', M', x1, x2, x3, x4⟩ := hS
  have cc : Cal sRC Γc (.ref 9 :: as) C (some (.long a), C') := ⟨_, _, _, _, oC, x1, rfl⟩
  have cm : Cal sRM Γm (.ref 12451850 :: as) (bump M (mZ C')) (some (.long a), M') := ⟨_, _, _, _, oM _, x3, rfl⟩
  exact ⟨.long a, C', M', ⟨a, rfl⟩, cc, cm, stp h hn cc cm ⟨hs', x4⟩ (hs _ _ x1).1 (hs _ _ x1).2 (hk _ _ _ x3)⟩
theorem rel_bump {hs : Nat → List Cls} {C M : Mem} (h : Rel hs C M) : bump M (mZ C) = M := by
  have e : mZ C = mZ M := h.2.2.2.2.2
  rw [e]; rfl
theorem stp_R {i : Nat} {C M : Mem} {Γc Γm : GM} {as : List Value} {α : Type} {fi : α → Option Value × Mem} {fm : Mem → α → Option Value × Mem} {g : α → Value} {B : Value → Prop} {x : Option α} {y : Mem → Option α} (hB : ∀ a, B (g a)) (h : LI i C M) (hn : nums as) (oC : Ct sRC Γc fi (.ref 9 :: as) x C) (oM : ∀ X, Ct sRM Γm (fm X) (.ref 12451850 :: as) (y X) X) (f1 : ∀ a, fi a = (some (g a), C)) (f2 : ∀ X a, fm X a = (some (g a), X)) (hS : SimR x (y M)) : StpC i C M Γc Γm as B := by
  obtain ⟨a, x1, x2⟩ := hS
  obtain ⟨hs, hR⟩ := id h.1
  have eb := rel_bump hR
  have cc : Cal sRC Γc (.ref 9 :: as) C (some (g a), C) := ⟨_, _, _, _, oC, x1, f1 a⟩
  have cm : Cal sRM Γm (.ref 12451850 :: as) (bump M (mZ C)) (some (g a), M) := by rw [eb]; exact ⟨_, _, _, _, oM _, x2, f2 _ a⟩
  refine ⟨g a, C, M, hB a, cc, cm, stp h hn cc cm ⟨hs, hR⟩ (by omega) (by omega) ?_⟩
  rw [eb]; exact Kx.rf
theorem same_sz {α : Type} {C : Mem} {x : Option (α × Mem)} (h : Ke false C x) : ∀ r C', x = some (r, C') → mZ C' ≤ mZ C + 22 ∧ mW C' ≤ mW C + 1044 := fun r C' e => by
  obtain ⟨-, k2, k3, -⟩ := h r C' e
  omega
def numB (v : Value) : Bool := match v with
  | .ref _ => false
  | _ => true
theorem nums_of {as : List Value} (h : as.all numB = true) : nums as := fun v hv M => by
  have := List.all_eq_true.mp h v hv
  cases v <;> first | trivial | cases this
theorem st_air {i : Nat} {C M : Mem} (h : LI i C M) (p1 : Int32) (p2 : Int32) : StpC i C M g_D_air g_M_air [.int p1, .int p2] isI := by
  obtain ⟨hs, hR⟩ := id h.1
  exact stp_W h (nums_of rfl) (o_D_air p1 p2 C) (fun X => o_M_air p1 p2 X) (sim_air hR p1 p2) (same_sz (k_f_D_air p1 p2 Kx.rf)) (fun X => k_f_M_air p1 p2 Kx.rf)
theorem st_lean {i : Nat} {C M : Mem} (h : LI i C M) (p1 : Int32) : StpC i C M g_D_lean g_M_lean [.int p1] isI := by
  obtain ⟨hs, hR⟩ := id h.1
  exact stp_W h (nums_of rfl) (o_D_lean p1 C) (fun X => o_M_lean p1 X) (sim_lean hR p1) (same_sz (k_f_D_lean p1 Kx.rf)) (fun X => k_f_M_lean p1 Kx.rf)
theorem st_door {i : Nat} {C M : Mem} (h : LI i C M) (p1 : Int32) (p2 : Int32) : StpC i C M g_D_door g_M_door [.int p1, .int p2] isI := by
  obtain ⟨hs, hR⟩ := id h.1
  exact stp_W h (nums_of rfl) (o_D_door p1 p2 C) (fun X => o_M_door p1 p2 X) (sim_door hR p1 p2) (same_sz (k_f_D_door p1 p2 Kx.rf)) (fun X => k_f_M_door p1 p2 Kx.rf)
theorem st_of {i : Nat} {C M : Mem} (h : LI i C M) (p1 : Int32) (p2 : Int32) : StpC i C M g_D_of g_M_of [.int p1, .int p2] isI := by
  obtain ⟨hs, hR⟩ := id h.1
  exact stp_W h (nums_of rfl) (o_D_of p1 p2 C) (fun X => o_M_of p1 p2 X) (sim_of_ hR p1 p2) (same_sz (k_f_D_of p1 p2 Kx.rf)) (fun X => k_f_M_of p1 p2 Kx.rf)
theorem st_water {i : Nat} {C M : Mem} (h : LI i C M) (p1 : Int32) (p2 : Int32) (p3 : Int32) : StpC i C M g_D_water g_M_water [.int p1, .int p2, .int p3] isI := by
  obtain ⟨hs, hR⟩ := id h.1
  exact stp_W h (nums_of rfl) (o_D_water p1 p2 p3 C) (fun X => o_M_water p1 p2 p3 X) (sim_water hR p1 p2 p3) (same_sz (k_f_D_water p1 p2 p3 Kx.rf)) (fun X => k_f_M_water p1 p2 p3 Kx.rf)
theorem st_sag {i : Nat} {C M : Mem} (h : LI i C M) (p1 : Int32) (p2 : Int32) : StpC i C M g_D_sag g_M_sag [.int p1, .int p2] isI := by
  obtain ⟨hs, hR⟩ := id h.1
  exact stp_W h (nums_of rfl) (o_D_sag p1 p2 C) (fun X => o_M_sag p1 p2 X) (sim_sag hR p1 p2) (same_sz (k_f_D_sag p1 p2 Kx.rf)) (fun X => k_f_M_sag p1 p2 Kx.rf)
theorem st_feed {i : Nat} {C M : Mem} (h : LI i C M) (p1 : Int32) : StpC i C M g_D_feed g_M_feed [.int p1] isI := by
  obtain ⟨hs, hR⟩ := id h.1
  exact stp_W h (nums_of rfl) (o_D_feed p1 C) (fun X => o_M_feed p1 X) (sim_feed hR p1) (same_sz (k_f_D_feed p1 Kx.rf)) (fun X => k_f_M_feed p1 Kx.rf)
theorem st_house {i : Nat} {C M : Mem} (h : LI i C M)  : StpC i C M g_D_house g_M_house [] isI := by
  obtain ⟨hs, hR⟩ := id h.1
  exact stp_W h (nums_of rfl) (o_D_house C) (fun X => o_M_house X) (sim_house hR h.2.1 h.2.2.2.2.2.2.2.1 h.2.2.2.2.2.2.2.2.1 h.2.2.2.2.2.2.2.2.2.1 (fun X r X' e => (k_f_M_house (Kx.rf (b := true)) r X' e).2.1)) (fun r C' e => s_house e) (fun X => k_f_M_house Kx.rf)
theorem st_told {i : Nat} {C M : Mem} (h : LI i C M) (p1 : Int32) : StpC i C M g_D_told g_M_told [.int p1] isI := by
  obtain ⟨hs, hR⟩ := id h.1
  exact stp_R (fm := fRi) (g := .int) (y := fun X => f_M_told p1 X) (fun a => ⟨a, rfl⟩) h (nums_of rfl) (o_D_told p1 C) (fun X => o_M_told p1 X) (fun _ => rfl) (fun _ _ => rfl) (sim_told hR p1)
theorem st_month {i : Nat} {C M : Mem} (h : LI i C M)  : StpC i C M g_D_month g_M_month [] isI := by
  obtain ⟨hs, hR⟩ := id h.1
  exact stp_W h (nums_of rfl) (o_D_month C) (fun X => o_M_month X) (sim_month hR) (same_sz (k_f_D_month Kx.rf)) (fun X => k_f_M_month Kx.rf)
theorem st_mend {i : Nat} {C M : Mem} (h : LI i C M) (p1 : Int32) (p2 : Int32) (p3 : Int32) (p4 : Int32) : StpC i C M g_D_mend g_M_mend [.int p1, .int p2, .int p3, .int p4] isI := by
  obtain ⟨hs, hR⟩ := id h.1
  exact stp_W h (nums_of rfl) (o_D_mend p1 p2 p3 p4 C) (fun X => o_M_mend p1 p2 p3 p4 X) (sim_mend hR p1 p2 p3 p4) (same_sz (k_f_D_mend p1 p2 p3 p4 Kx.rf)) (fun X => k_f_M_mend p1 p2 p3 p4 Kx.rf)
theorem st_run {i : Nat} {C M : Mem} (h : LI i C M) (p1 : Int32) (p2 : Int32) (p3 : Int32) : StpC i C M g_D_run g_M_run [.int p1, .int p2, .int p3] isI := by
  obtain ⟨hs, hR⟩ := id h.1
  exact stp_W h (nums_of rfl) (o_D_run p1 p2 p3 C) (fun X => o_M_run p1 p2 p3 X) (sim_run hR p1 p2 p3) (same_sz (k_f_D_run p1 p2 p3 Kx.rf)) (fun X => k_f_M_run p1 p2 p3 Kx.rf)
theorem st_first {i : Nat} {C M : Mem} (h : LI i C M) (p1 : Int32) (p2 : Int32) : StpC i C M g_D_first g_M_first [.int p1, .int p2] isI := by
  obtain ⟨hs, hR⟩ := id h.1
  exact stp_W h (nums_of rfl) (o_D_first p1 p2 C) (fun X => o_M_first p1 p2 X) (sim_first hR p1 p2) (same_sz (k_f_D_first p1 p2 Kx.rf)) (fun X => k_f_M_first p1 p2 Kx.rf)
theorem st_worst {i : Nat} {C M : Mem} (h : LI i C M) (p1 : Int32) (p2 : Int32) (p3 : Int32) (p4 : Int32) : StpC i C M g_D_worst g_M_worst [.int p1, .int p2, .int p3, .int p4] isI := by
  obtain ⟨hs, hR⟩ := id h.1
  exact stp_W h (nums_of rfl) (o_D_worst p1 p2 p3 p4 C) (fun X => o_M_worst p1 p2 p3 p4 X) (sim_worst hR p1 p2 p3 p4) (same_sz (k_f_D_worst p1 p2 p3 p4 Kx.rf)) (fun X => k_f_M_worst p1 p2 p3 p4 Kx.rf)
theorem st_off {i : Nat} {C M : Mem} (h : LI i C M) (p1 : Int32) (p2 : Int32) : StpC i C M g_D_off g_M_off [.int p1, .int p2] isI := by
  obtain ⟨hs, hR⟩ := id h.1
  exact stp_W h (nums_of rfl) (o_D_off p1 p2 C) (fun X => o_M_off p1 p2 X) (sim_off hR p1 p2) (same_sz (k_f_D_off p1 p2 Kx.rf)) (fun X => k_f_M_off p1 p2 Kx.rf)
theorem st_cheapest {i : Nat} {C M : Mem} (h : LI i C M) (p1 : Int32) (p2 : Int32) : StpC i C M g_D_cheapest g_M_cheapest [.int p1, .int p2] isI := by
  obtain ⟨hs, hR⟩ := id h.1
  exact stp_W h (nums_of rfl) (o_D_cheapest p1 p2 C) (fun X => o_M_cheapest p1 p2 X) (sim_cheapest hR p1 p2) (same_sz (k_f_D_cheapest p1 p2 Kx.rf)) (fun X => k_f_M_cheapest p1 p2 Kx.rf)
theorem st_why {i : Nat} {C M : Mem} (h : LI i C M) (p1 : Int32) (p2 : Int32) : StpC i C M g_D_why g_M_why [.int p1, .int p2] isI := by
  obtain ⟨hs, hR⟩ := id h.1
  exact stp_W h (nums_of rfl) (o_D_why p1 p2 C) (fun X => o_M_why p1 p2 X) (sim_why hR p1 p2) (same_sz (k_f_D_why p1 p2 Kx.rf)) (fun X => k_f_M_why p1 p2 Kx.rf)
theorem st_odds {i : Nat} {C M : Mem} (h : LI i C M) (p1 : Int32) (p2 : Int32) : StpC i C M g_D_odds g_M_odds [.int p1, .int p2] isL := by
  obtain ⟨hs, hR⟩ := id h.1
  exact stp_L h (nums_of rfl) (o_D_odds p1 p2 C) (fun X => o_M_odds p1 p2 X) (sim_odds hR p1 p2) (same_sz (k_f_D_odds p1 p2 Kx.rf)) (fun X => k_f_M_odds p1 p2 Kx.rf)
theorem st_mean {i : Nat} {C M : Mem} (h : LI i C M) (p1 : Int32) (p2 : Int32) (p3 : Int32) : StpC i C M g_D_mean g_M_mean [.int p1, .int p2, .int p3] isL := by
  obtain ⟨hs, hR⟩ := id h.1
  exact stp_L h (nums_of rfl) (o_D_mean p1 p2 p3 C) (fun X => o_M_mean p1 p2 p3 X) (sim_mean hR p1 p2 p3) (same_sz (k_f_D_mean p1 p2 p3 Kx.rf)) (fun X => k_f_M_mean p1 p2 p3 Kx.rf)
theorem st_changed {i : Nat} {C M : Mem} (h : LI i C M) (p1 : Int32) : StpC i C M g_D_changed g_M_changed [.int p1] isI := by
  obtain ⟨hs, hR⟩ := id h.1
  exact stp_W h (nums_of rfl) (o_D_changed p1 C) (fun X => o_M_changed p1 X) (sim_changed hR p1) (same_sz (k_f_D_changed p1 Kx.rf)) (fun X => k_f_M_changed p1 Kx.rf)
theorem st_book {i : Nat} {C M : Mem} (h : LI i C M) (p1 : Int32) (p2 : Int32) : StpC i C M g_D_book g_M_book [.int p1, .int p2] isI := by
  obtain ⟨hs, hR⟩ := id h.1
  exact stp_W h (nums_of rfl) (o_D_book p1 p2 C) (fun X => o_M_book p1 p2 X) (sim_book hR p1 p2) (same_sz (k_f_D_book p1 p2 Kx.rf)) (fun X => k_f_M_book p1 p2 Kx.rf)
theorem st_looked {i : Nat} {C M : Mem} (h : LI i C M) (p1 : Int32) (p2 : Int32) : StpC i C M g_D_looked g_M_looked [.int p1, .int p2] isI := by
  obtain ⟨hs, hR⟩ := id h.1
  exact stp_W h (nums_of rfl) (o_D_looked p1 p2 C) (fun X => o_M_looked p1 p2 X) (sim_looked hR p1 p2) (same_sz (k_f_D_looked p1 p2 Kx.rf)) (fun X => k_f_M_looked p1 p2 Kx.rf)
theorem st_judge {i : Nat} {C M : Mem} (h : LI i C M) (p1 : Int32) (p2 : Int32) (p3 : Int32) : StpC i C M g_D_judge g_M_judge [.int p1, .int p2, .int p3] isI := by
  obtain ⟨hs, hR⟩ := id h.1
  exact stp_W h (nums_of rfl) (o_D_judge p1 p2 p3 C) (fun X => o_M_judge p1 p2 p3 X) (sim_judge hR p1 p2 p3) (same_sz (k_f_D_judge p1 p2 p3 Kx.rf)) (fun X => k_f_M_judge p1 p2 p3 Kx.rf)
theorem st_image {i : Nat} {C M : Mem} (h : LI i C M)  : StpC i C M g_D_image g_M_image [] isI := by
  obtain ⟨hs, hR⟩ := id h.1
  exact stp_W h (nums_of rfl) (o_D_image C) (fun X => o_M_image X) (sim_image hR) (same_sz (k_f_D_image Kx.rf)) (fun X => k_f_M_image Kx.rf)
theorem st_undo {i : Nat} {C M : Mem} (h : LI i C M)  : StpC i C M g_D_undo g_M_undo [] isI := by
  obtain ⟨hs, hR⟩ := id h.1
  exact stp_W h (nums_of rfl) (o_D_undo C) (fun X => o_M_undo X) (sim_undo hR) (same_sz (k_f_D_undo Kx.rf)) (fun X => k_f_M_undo Kx.rf)
theorem st_act {i : Nat} {C M : Mem} (h : LI i C M) (p1 : Int32) (p2 : Int32) (p3 : Int32) : StpC i C M g_D_act g_M_act [.int p1, .int p2, .int p3] isI := by
  obtain ⟨hs, hR⟩ := id h.1
  exact stp_W h (nums_of rfl) (o_D_act p1 p2 p3 C) (fun X => o_M_act p1 p2 p3 X) (sim_act hR p1 p2 p3) (same_sz (k_f_D_act p1 p2 p3 Kx.rf)) (fun X => k_f_M_act p1 p2 p3 Kx.rf)
theorem st_trace {i : Nat} {C M : Mem} (h : LI i C M) (p1 : Int32) : StpC i C M g_D_trace g_M_trace [.int p1] isI := by
  obtain ⟨hs, hR⟩ := id h.1
  exact stp_R (fm := fRi) (g := .int) (y := fun X => f_M_trace p1 X) (fun a => ⟨a, rfl⟩) h (nums_of rfl) (o_D_trace p1 C) (fun X => o_M_trace p1 X) (fun _ => rfl) (fun _ _ => rfl) (sim_trace hR p1)
theorem st_taken {i : Nat} {C M : Mem} (h : LI i C M) (p1 : Int32) (p2 : Int32) : StpC i C M g_D_taken g_M_taken [.int p1, .int p2] isI := by
  obtain ⟨hs, hR⟩ := id h.1
  exact stp_R (fm := fRi) (g := .int) (y := fun X => f_M_taken p1 p2 X) (fun a => ⟨a, rfl⟩) h (nums_of rfl) (o_D_taken p1 p2 C) (fun X => o_M_taken p1 p2 X) (fun _ => rfl) (fun _ _ => rfl) (sim_taken hR p1 p2)
theorem st_count {i : Nat} {C M : Mem} (h : LI i C M) (p1 : Int32) : StpC i C M g_D_count g_M_count [.int p1] isI := by
  obtain ⟨hs, hR⟩ := id h.1
  exact stp_R (fm := fRi) (g := .int) (y := fun X => some (f_M_count p1 X)) (fun a => ⟨a, rfl⟩) h (nums_of rfl) (o_D_count p1 C) (fun X => o_M_count p1 X) (fun _ => rfl) (fun _ _ => rfl) (⟨_, rfl, congrArg some (sim_count hR p1).symm⟩)
theorem st_tape {i : Nat} {C M : Mem} (h : LI i C M) (p1 : Int32) (p2 : Int32) (p3 : Int32) : StpC i C M g_D_tape g_M_tape [.int p1, .int p2, .int p3] isI := by
  obtain ⟨hs, hR⟩ := id h.1
  exact stp_W h (nums_of rfl) (o_D_tape p1 p2 p3 C) (fun X => o_M_tape p1 p2 p3 X) (sim_tape hR p1 p2 p3) (same_sz (k_f_D_tape p1 p2 p3 Kx.rf)) (fun X => k_f_M_tape p1 p2 p3 Kx.rf)
theorem st_item {i : Nat} {C M : Mem} (h : LI i C M) (p1 : Int32) (p2 : Int32) (p3 : Int64) : StpC i C M g_D_item g_M_item [.int p1, .int p2, .long p3] isI := by
  obtain ⟨hs, hR⟩ := id h.1
  exact stp_W h (nums_of rfl) (o_D_item p1 p2 p3 C) (fun X => o_M_item p1 p2 p3 X) (sim_item hR p1 p2 p3) (same_sz (k_f_D_item p1 p2 p3 Kx.rf)) (fun X => k_f_M_item p1 p2 p3 Kx.rf)
theorem st_read {i : Nat} {C M : Mem} (h : LI i C M) (p1 : Int32) (p2 : Int32) : StpC i C M g_D_read g_M_read [.int p1, .int p2] isL := by
  obtain ⟨hs, hR⟩ := id h.1
  exact stp_R (fm := fRl) (g := .long) (y := fun X => f_M_read p1 p2 X) (fun a => ⟨a, rfl⟩) h (nums_of rfl) (o_D_read p1 p2 C) (fun X => o_M_read p1 p2 X) (fun _ => rfl) (fun _ _ => rfl) (sim_read hR p1 p2)
theorem st_shift {i : Nat} {C M : Mem} (h : LI i C M) (p1 : Int32) (p2 : Int32) (p3 : Int32) (p4 : Int32) (p5 : Int32) : StpC i C M g_D_shift g_M_shift [.int p1, .int p2, .int p3, .int p4, .int p5] isI := by
  obtain ⟨hs, hR⟩ := id h.1
  exact stp_W h (nums_of rfl) (o_D_shift p1 p2 p3 p4 p5 C) (fun X => o_M_shift p1 p2 p3 p4 p5 X) (sim_shift hR p1 p2 p3 p4 p5) (same_sz (k_f_D_shift p1 p2 p3 p4 p5 Kx.rf)) (fun X => k_f_M_shift p1 p2 p3 p4 p5 Kx.rf)
