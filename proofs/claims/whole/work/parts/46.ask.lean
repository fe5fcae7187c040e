/-! THE CLASS: what is asked of it, first half -/
theorem e_hasSensor {x : Nat} {S : q_S} {R : q_HR} {I : q_HI} {A : q_A} {a : Int} (hS : w_Sh x S R) (hB : z_B A) (hC : w_C x S R I A) (ha : r_i a) : f_X9_hasSensor S R I x a = some (if 0 ≤ a ∧ a < A 0 1 then 1 else 0) := by
  have h1 := hB.1
  have e6 := hC.1.1
  unfold f_X9_hasSensor
  simp only [k_0 hS, r_0_0 hS, k_1 hS, e6]
  by_cases c1 : a < 0
  · rw [if_neg (show ¬ (0 ≤ a ∧ a < A 0 1) by omega)]
    simp (disch := (first | trivial | assumption | omega | (refine r_iE ?_ ?_ <;> omega) | (refine r_lE ?_ ?_ <;> omega) | fail)) only [↓q_gdT, ↓q_ltE, ↓if_pos, ↓if_neg]
  · by_cases c2 : A 0 1 ≤ a
    · rw [if_neg (show ¬ (0 ≤ a ∧ a < A 0 1) by omega)]
      simp (disch := (first | trivial | assumption | omega | (refine r_iE ?_ ?_ <;> omega) | (refine r_lE ?_ ?_ <;> omega) | fail)) only [↓q_gdT, ↓q_ltE, ↓if_pos, ↓if_neg]
    · rw [if_pos (show 0 ≤ a ∧ a < A 0 1 by omega)]
      simp (disch := (first | trivial | assumption | omega | (refine r_iE ?_ ?_ <;> omega) | (refine r_lE ?_ ?_ <;> omega) | fail)) only [↓q_gdT, ↓q_ltE, ↓if_pos, ↓if_neg]
theorem e_hasClass {x : Nat} {S : q_S} {R : q_HR} {I : q_HI} {A : q_A} {a : Int} (hS : w_Sh x S R) (hB : z_B A) (hC : w_C x S R I A) (ha : r_i a) : f_X9_hasClass S R I x a = some (if 0 ≤ a ∧ a < A 0 4 then 1 else 0) := by
  have h1 := hB.nk
  have e6 := hC.1.2.2.2.1
  unfold f_X9_hasClass
  simp only [k_0 hS, e6]
  by_cases c1 : a < 0
  · rw [if_neg (show ¬ (0 ≤ a ∧ a < A 0 4) by omega)]
    simp (disch := (first | trivial | assumption | omega | (refine r_iE ?_ ?_ <;> omega) | (refine r_lE ?_ ?_ <;> omega) | fail)) only [↓q_gdT, ↓q_ltE, ↓if_pos, ↓if_neg]
  · by_cases c2 : A 0 4 ≤ a
    · rw [if_neg (show ¬ (0 ≤ a ∧ a < A 0 4) by omega)]
      simp (disch := (first | trivial | assumption | omega | (refine r_iE ?_ ?_ <;> omega) | (refine r_lE ?_ ?_ <;> omega) | fail)) only [↓q_gdT, ↓q_ltE, ↓if_pos, ↓if_neg]
    · rw [if_pos (show 0 ≤ a ∧ a < A 0 4 by omega)]
      simp (disch := (first | trivial | assumption | omega | (refine r_iE ?_ ?_ <;> omega) | (refine r_lE ?_ ?_ <;> omega) | fail)) only [↓q_gdT, ↓q_ltE, ↓if_pos, ↓if_neg]
/-- samples there are -/
abbrev z_hv (A : q_A) (a b : Int) : Prop := (0 ≤ a ∧ a < A 0 4) ∧ 0 ≤ b ∧ b < A 4 a.toNat
theorem e_hasSample {x : Nat} {S : q_S} {R : q_HR} {I : q_HI} {A : q_A} {a b : Int} (hS : w_Sh x S R) (hB : z_B A) (hC : w_C x S R I A) (ha : r_i a) (hb : r_i b) : ∃ r : Int, f_X9_hasSample S R I x a b = some r ∧ ((r = 0 ∧ ¬ z_hv A a b) ∨ (r = 1 ∧ z_hv A a b)) := by
  have h1 := hB.nk
  have q1 := e_hasClass hS hB hC ha
  unfold f_X9_hasSample z_hv
  simp only [k_0 hS]
  by_cases c : 0 ≤ a ∧ a < A 0 4
  · rw [if_pos c] at q1
    obtain ⟨k, rfl⟩ : ∃ k : Nat, a = (k : Int) := ⟨a.toNat, by omega⟩
    have hk8 : k < 8 := by omega
    have e2 := (hC.sa hB (show k < z_nk A by omega)).1
    have hn := (hB.ns (show k < z_nk A by omega)).1
    simp only [r_0_3 hS, k_32 hS, n_32 hS, Int.toNat_natCast, r_32 hS hk8, kg_0 hS hk8, rg_0_0 hS hk8, kg_1 hS hk8, e2]
    by_cases c2 : b < 0
    · refine ⟨0, ?_, Or.inl ⟨rfl, by omega⟩⟩
      simp (disch := (first | trivial | assumption | omega | (refine r_iE ?_ ?_ <;> omega) | (refine r_lE ?_ ?_ <;> omega) | fail)) only [↓q_gdT, ↓q_ltE, ↓if_pos, ↓if_neg, ↓q_bdE q1]
    · by_cases c3 : A 4 k ≤ b
      · refine ⟨0, ?_, Or.inl ⟨rfl, by omega⟩⟩
        simp (disch := (first | trivial | assumption | omega | (refine r_iE ?_ ?_ <;> omega) | (refine r_lE ?_ ?_ <;> omega) | fail)) only [↓q_gdT, ↓q_ltE, ↓if_pos, ↓if_neg, ↓q_bdE q1]
      · refine ⟨1, ?_, Or.inr ⟨rfl, by omega⟩⟩
        simp (disch := (first | trivial | assumption | omega | (refine r_iE ?_ ?_ <;> omega) | (refine r_lE ?_ ?_ <;> omega) | fail)) only [↓q_gdT, ↓q_ltE, ↓if_pos, ↓if_neg, ↓q_bdE q1]
  · rw [if_neg c] at q1
    refine ⟨0, ?_, Or.inl ⟨rfl, fun q => c q.1⟩⟩
    simp (disch := (first | trivial | assumption | omega | (refine r_iE ?_ ?_ <;> omega) | (refine r_lE ?_ ?_ <;> omega) | fail)) only [↓q_gdT, ↓q_ltE, ↓if_pos, ↓if_neg, ↓q_bdE q1]
abbrev z_t : Nat → Bool := z_bit 31
def o_sampleCount (A : q_A) (a : Int) : Int := if 0 ≤ a ∧ a < A 0 4 then A 4 a.toNat else -2
theorem g_sampleCount {x : Nat} {S : q_S} {R : q_HR} {I : q_HI} {A : q_A} {a : Int} (hS : w_Sh x S R) (hB : z_B A) (hC : w_C x S R I A) (ha : r_i a) : f_X9_sampleCount S R I x a = some (o_sampleCount A a) := by
  have h1 := hB.nk
  have q1 := e_hasClass hS hB hC ha
  unfold f_X9_sampleCount o_sampleCount
  simp only [k_0 hS]
  by_cases c : 0 ≤ a ∧ a < A 0 4
  · rw [if_pos c] at q1 ⊢
    obtain ⟨k, rfl⟩ : ∃ k : Nat, a = (k : Int) := ⟨a.toNat, by omega⟩
    have hk8 : k < 8 := by omega
    have e2 := (hC.sa hB (show k < z_nk A by omega)).1
    simp only [r_0_3 hS, k_32 hS, n_32 hS, Int.toNat_natCast, r_32 hS hk8, kg_0 hS hk8, rg_0_0 hS hk8, kg_1 hS hk8, e2]
    simp (disch := (first | trivial | assumption | omega | (refine r_iE ?_ ?_ <;> omega) | (refine r_lE ?_ ?_ <;> omega) | fail)) only [↓q_gdT, ↓q_ltE, ↓if_pos, ↓if_neg, ↓q_bdE q1]
  · rw [if_neg c] at q1 ⊢
    simp (disch := (first | trivial | assumption | omega | (refine r_iE ?_ ?_ <;> omega) | (refine r_lE ?_ ?_ <;> omega) | fail)) only [↓q_gdT, ↓q_ltE, ↓if_pos, ↓if_neg, ↓q_bdE q1]
def o_ratio (A : q_A) (a : Int) : Int := if 0 ≤ a ∧ a < A 0 1 then (if A 0 7 = 0 then -5 else z_rat A 0 a.toNat) else -2
theorem g_ratio {x : Nat} {S : q_S} {R : q_HR} {I : q_HI} {A : q_A} {a : Int} (hS : w_Sh x S R) (hB : z_B A) (hC : w_C x S R I A) (ha : r_i a) : f_X9_ratio S R I x a = some (o_ratio A a) := by
  have h1 := hB.1
  have h7 := hB.2.2.2.2.2.2.1
  have e9 := hC.1.2.2.1
  have q1 := e_hasSensor hS hB hC ha
  unfold f_X9_ratio o_ratio
  simp only [k_0 hS, e9, r_0_0 hS, k_1 hS]
  by_cases c : 0 ≤ a ∧ a < A 0 1
  · rw [if_pos c] at q1 ⊢
    by_cases c7 : A 0 7 = 0
    · rw [if_pos c7]
      simp (disch := (first | trivial | assumption | omega | (refine r_iE ?_ ?_ <;> omega) | (refine r_lE ?_ ?_ <;> omega) | fail)) only [↓q_gdT, ↓q_ltE, ↓if_pos, ↓if_neg, ↓q_bdE q1]
    · rw [if_neg c7]
      obtain ⟨k, rfl⟩ : ∃ k : Nat, a = (k : Int) := ⟨a.toNat, by omega⟩
      obtain ⟨hu, rd, cM, cB1, cB2, cE⟩ := hC.cu hS hB
      have q2 := e_ratioIn (s := k) hS hC.2.1 hB.base cM cB2 (by omega)
      have c6 := cM.1
      rw [(cE (by omega)).2] at q2
      rw [Int.toNat_natCast]
      simp (disch := (first | trivial | assumption | omega | (refine r_iE ?_ ?_ <;> omega) | (refine r_lE ?_ ?_ <;> omega) | fail)) only [↓q_gdT, ↓q_ltE, ↓if_pos, ↓if_neg, ↓q_bdE q1, ↓q_bdE q2, c6]
      rfl
  · rw [if_neg c] at q1 ⊢
    simp (disch := (first | trivial | assumption | omega | (refine r_iE ?_ ?_ <;> omega) | (refine r_lE ?_ ?_ <;> omega) | fail)) only [↓q_gdT, ↓q_ltE, ↓if_pos, ↓if_neg, ↓q_bdE q1]
def o_feature (A : q_A) (a : Int) : Int := if 0 ≤ a ∧ a < A 0 1 then (if A 0 7 = 0 then -5 else z_fe A 0 a.toNat + 10000) else -2
theorem g_feature {x : Nat} {S : q_S} {R : q_HR} {I : q_HI} {A : q_A} {a : Int} (hS : w_Sh x S R) (hB : z_B A) (hC : w_C x S R I A) (ha : r_i a) : f_X9_feature S R I x a = some (o_feature A a) := by
  have h1 := hB.1
  have h7 := hB.2.2.2.2.2.2.1
  have e9 := hC.1.2.2.1
  have q1 := e_hasSensor hS hB hC ha
  unfold f_X9_feature o_feature
  simp only [k_0 hS, e9, r_0_0 hS, k_1 hS]
  by_cases c : 0 ≤ a ∧ a < A 0 1
  · rw [if_pos c] at q1 ⊢
    by_cases c7 : A 0 7 = 0
    · rw [if_pos c7]
      simp (disch := (first | trivial | assumption | omega | (refine r_iE ?_ ?_ <;> omega) | (refine r_lE ?_ ?_ <;> omega) | fail)) only [↓q_gdT, ↓q_ltE, ↓if_pos, ↓if_neg, ↓q_bdE q1]
    · rw [if_neg c7]
      obtain ⟨k, rfl⟩ : ∃ k : Nat, a = (k : Int) := ⟨a.toNat, by omega⟩
      obtain ⟨hu, rd, cM, cB1, cB2, cE⟩ := hC.cu hS hB
      have q2 := e_featureIn (s := k) hS hC.cv hB cM cB1 cB2 (by omega)
      have c6 := cM.1
      rw [(cE (by omega)).2, (cE (by omega)).1] at q2
      rw [Int.toNat_natCast]
      simp (disch := (first | trivial | assumption | omega | (refine r_iE ?_ ?_ <;> omega) | (refine r_lE ?_ ?_ <;> omega) | fail)) only [↓q_gdT, ↓q_ltE, ↓if_pos, ↓if_neg, ↓q_bdE q1, ↓q_bdE q2, c6]
      rfl
  · rw [if_neg c] at q1 ⊢
    simp (disch := (first | trivial | assumption | omega | (refine r_iE ?_ ?_ <;> omega) | (refine r_lE ?_ ?_ <;> omega) | fail)) only [↓q_gdT, ↓q_ltE, ↓if_pos, ↓if_neg, ↓q_bdE q1]
def o_humiditySlope (A : q_A) (a : Int) : Int := if 0 ≤ a ∧ a < A 0 1 then (if z_sxx A = 0 then -1 else 1000 * z_sxy A a.toNat / z_sxx A + 10000000) else -2
theorem g_humiditySlope {x : Nat} {S : q_S} {R : q_HR} {I : q_HI} {A : q_A} {a : Int} (hS : w_Sh x S R) (hB : z_B A) (hC : w_C x S R I A) (ha : r_i a) : f_X9_humiditySlope S R I x a = some (o_humiditySlope A a) := by
  have h1 := hB.1
  have e4 := hC.2.2.2.2.2.2.2.2.2
  have q1 := e_hasSensor hS hB hC ha
  unfold f_X9_humiditySlope o_humiditySlope
  simp only [k_0 hS, r_0_0 hS, k_1 hS, e4]
  by_cases c : 0 ≤ a ∧ a < A 0 1
  · rw [if_pos c] at q1 ⊢
    obtain ⟨k, rfl⟩ : ∃ k : Nat, a = (k : Int) := ⟨a.toNat, by omega⟩
    have hk5 : k < 5 := by omega
    obtain ⟨b0, b2⟩ := z_sxB hB
    have b1 := b0 k hk5
    have e8 := hC.2.2.2.2.2.2.2.2.1 k hk5
    by_cases c7 : z_sxx A = 0
    · rw [if_pos c7]
      simp (disch := (first | trivial | assumption | omega | (refine r_iE ?_ ?_ <;> omega) | (refine r_lE ?_ ?_ <;> omega) | fail)) only [↓q_gdT, ↓q_ltE, ↓if_pos, ↓if_neg, ↓q_bdE q1]
    · rw [if_neg c7]
      have q2 := e_quot (a := 1000 * z_sxy A k) (b := z_sxx A) (r_lE (by omega) (by omega)) (r_lE (by omega) (by omega)) (by omega)
      simp only [r_1_3 hS, k_8 hS, n_8 hS, Int.toNat_natCast, e8]
      simp (disch := (first | trivial | assumption | omega | (refine r_iE ?_ ?_ <;> omega) | (refine r_lE ?_ ?_ <;> omega) | fail)) only [↓q_gdT, ↓q_ltE, ↓if_pos, ↓if_neg, ↓q_bdE q1, ↓q_bdE q2]
  · rw [if_neg c] at q1 ⊢
    simp (disch := (first | trivial | assumption | omega | (refine r_iE ?_ ?_ <;> omega) | (refine r_lE ?_ ?_ <;> omega) | fail)) only [↓q_gdT, ↓q_ltE, ↓if_pos, ↓if_neg, ↓q_bdE q1]
def o_driftComponent (A : q_A) (a : Int) : Int := if 0 ≤ a ∧ a < A 0 1 then z_dc A a.toNat + 1000 else -2
/-- refresh alone keeps to the scratch -/
theorem e_refreshQ {x : Nat} {S : q_S} {R : q_HR} {I : q_HI} {A : q_A} (hS : w_Sh x S R) (hB : z_B A) (hC : w_C x S R I A) : ∃ I', f_X1_refresh S R I (x + 9) (x + 1) = some I' ∧ w_Q x I I' ∧ (∀ s, s < 5 → I' (x + 28) s = z_dc A s) ∧ (I' (x + 9) 6 = if z_gm A = 0 then 0 else 1) ∧ w_rw x I' A (z_nr A) := by
  obtain ⟨I2, q2, f2, f29, c2, x2, w2⟩ := e_refresh hS hB hC.cv hC.re
  refine ⟨I2, q2, fun a j h => ?_, c2, x2, w2⟩
  by_cases e : a = x + 9
  · subst e
    exact f29 j (fun q => h (by unfold w_sc; omega))
  · rw [f2 a (fun q => h (by unfold w_sc; omega))]
theorem g_driftComponent {x : Nat} {S : q_S} {R : q_HR} {I : q_HI} {A : q_A} {a : Int} (hS : w_Sh x S R) (hB : z_B A) (hC : w_C x S R I A) (ha : r_i a) : ∃ I', f_X9_driftComponent S R I x a = some (o_driftComponent A a, I') ∧ w_Q x I I' := by
  have h1 := hB.1
  have q1 := e_hasSensor hS hB hC ha
  unfold f_X9_driftComponent o_driftComponent
  simp only [k_0 hS, r_0_0 hS, k_1 hS, r_0_1 hS, k_9 hS, r_9_5 hS, k_28 hS, n_28 hS]
  by_cases c : 0 ≤ a ∧ a < A 0 1
  · rw [if_pos c] at q1 ⊢
    obtain ⟨k, rfl⟩ : ∃ k : Nat, a = (k : Int) := ⟨a.toNat, by omega⟩
    obtain ⟨I2, q2, Q2, c2, x2, w2⟩ := e_refreshQ hS hB hC
    refine ⟨I2, ?_, Q2⟩
    have e := c2 k (by omega)
    simp only [Int.toNat_natCast]
    simp (disch := (first | trivial | assumption | omega | (refine r_iE ?_ ?_ <;> omega) | (refine r_lE ?_ ?_ <;> omega) | fail)) only [↓q_gdT, ↓q_ltE, ↓if_pos, ↓if_neg, ↓q_bdE q1, ↓q_bdE q2, e]
  · rw [if_neg c] at q1 ⊢
    refine ⟨I, ?_, w_Q.rf⟩
    simp (disch := (first | trivial | assumption | omega | (refine r_iE ?_ ?_ <;> omega) | (refine r_lE ?_ ?_ <;> omega) | fail)) only [↓q_gdT, ↓q_ltE, ↓if_pos, ↓if_neg, ↓q_bdE q1]
def o_driftPosition (A : q_A) : Int := if A 0 7 = 0 then -5 else if z_gm A = 0 then -1 else 1000 * z_dn A / z_dq A + 1000000
theorem g_driftPosition {x : Nat} {S : q_S} {R : q_HR} {I : q_HI} {A : q_A} (hS : w_Sh x S R) (hB : z_B A) (hC : w_C x S R I A) : ∃ I', f_X9_driftPosition S R I x = some (o_driftPosition A, I') ∧ w_Q x I I' := by
  have h7 := hB.2.2.2.2.2.2.1
  have e9 := hC.1.2.2.1
  unfold f_X9_driftPosition o_driftPosition
  simp only [k_0 hS, e9, r_0_0 hS, k_1 hS, r_0_1 hS, k_9 hS, r_0_7 hS, k_50 hS]
  by_cases c7 : A 0 7 = 0
  · rw [if_pos c7]
    refine ⟨I, ?_, w_Q.rf⟩
    simp (disch := (first | trivial | assumption | omega | (refine r_iE ?_ ?_ <;> omega) | (refine r_lE ?_ ?_ <;> omega) | fail)) only [↓q_gdT, ↓q_ltE, ↓if_pos, ↓if_neg]
  · rw [if_neg c7]
    obtain ⟨I2, q2, Q2, c2, x2, w2⟩ := e_refreshQ hS hB hC
    by_cases cg : z_gm A = 0
    · rw [if_pos cg]
      rw [if_pos cg] at x2
      refine ⟨I2, ?_, Q2⟩
      simp (disch := (first | trivial | assumption | omega | (refine r_iE ?_ ?_ <;> omega) | (refine r_lE ?_ ?_ <;> omega) | fail)) only [↓q_gdT, ↓q_ltE, ↓if_pos, ↓if_neg, ↓q_bdE q2, x2]
    · rw [if_neg cg]
      rw [if_neg cg] at x2
      have hC2 := hC.q Q2
      obtain ⟨hu, rd, cM, cB1, cB2, cE⟩ := hC2.cu hS hB
      have q3 := e_fill (I := I2) (rw := x + 50) hS hC2.cv hB cM cB1 cB2 (k_50 hS) (n_50 hS) (by omega)
      generalize hI3 : z_row I2 (x + 50) (fun s => z_fev A hu (rd s) s) 5 = I3 at q3
      have Q3 : w_Q x I2 I3 := fun a j h => by
        rw [← hI3, z_row_ne _ _ (fun e => h (by unfold w_sc; omega))]
      have hn := hB.2.2.1
      have en : (z_nr A : Int) = A 0 3 := by unfold z_nr; omega
      have q4 := e_positionOf (I := I3) hS hB (w2.fr (fun k hk => by rw [← hI3]; exact z_row_ne _ _ (by omega))) (fun s hs => by rw [← hI3, z_row_ne _ _ (by omega)]; exact c2 s hs) (fun s hs => by rw [← hI3, z_row_at _ hs, (cE (by omega)).1, (cE (by omega)).2]; rfl) cg
      have c6 := cM.1
      refine ⟨I3, ?_, Q2.tr Q3⟩
      simp (disch := (first | trivial | assumption | omega | (refine r_iE ?_ ?_ <;> omega) | (refine r_lE ?_ ?_ <;> omega) | fail)) only [↓q_gdT, ↓q_ltE, ↓if_pos, ↓if_neg, ↓q_bdE q2, x2, c6, ↓q_bdE q3, ↓q_bdE q4]
def o_predictedReference (A : q_A) (a v : Int) : Int := if 0 ≤ a ∧ a < A 0 1 then (if 0 ≤ v ∧ v ≤ 999 then (if 2 ≤ A 0 3 then z_pd A a.toNat v + 10000000 else -1) else -3) else -2
theorem g_predictedReference {x : Nat} {S : q_S} {R : q_HR} {I : q_HI} {A : q_A} {a v : Int} (hS : w_Sh x S R) (hB : z_B A) (hC : w_C x S R I A) (ha : r_i a) (hv : r_i v) : ∃ I', f_X9_predictedReference S R I x a v = some (o_predictedReference A a v, I') ∧ w_Q x I I' := by
  have h1 := hB.1
  have h3 := hB.2.2.1
  have q1 := e_hasSensor hS hB hC ha
  have q2 := e_isWithin (a := v) (b := 0) (c := 999) hv (r_iE (by omega) (by omega)) (r_iE (by omega) (by omega))
  have e10 := hC.1.2.2.2.2.2.2.2.2
  unfold f_X9_predictedReference o_predictedReference
  simp only [k_0 hS, r_0_0 hS, k_1 hS, r_0_1 hS, k_9 hS, r_9_0 hS, k_10 hS, e10]
  by_cases c : 0 ≤ a ∧ a < A 0 1
  · rw [if_pos c] at q1 ⊢
    by_cases cv : 0 ≤ v ∧ v ≤ 999
    · rw [if_pos cv] at q2 ⊢
      by_cases c2 : 2 ≤ A 0 3
      · rw [if_pos c2]
        obtain ⟨k, rfl⟩ : ∃ k : Nat, a = (k : Int) := ⟨a.toNat, by omega⟩
        obtain ⟨I2, q3, Q2, c2', x2, w2⟩ := e_refreshQ hS hB hC
        have hC2 := hC.q Q2
        obtain ⟨I3, q4, f4⟩ := e_predict (I := I2) (s := k) (v := v) hS hB hC2.1.2.2.2.2.2.2.2.2 (fun j hj => (hC2.2.2.2.2.1 j hj).2) w2 (by omega) cv c2
        refine ⟨I3, ?_, Q2.tr (fun b j h => by rw [f4 b (fun q => h (by unfold w_sc; omega))])⟩
        rw [Int.toNat_natCast]
        simp (disch := (first | trivial | assumption | omega | (refine r_iE ?_ ?_ <;> omega) | (refine r_lE ?_ ?_ <;> omega) | fail)) only [↓q_gdT, ↓q_ltE, ↓if_pos, ↓if_neg, ↓q_bdE q1, ↓q_bdE q2, ↓q_bdE q3, ↓q_bd2E q4]
      · rw [if_neg c2]
        refine ⟨I, ?_, w_Q.rf⟩
        simp (disch := (first | trivial | assumption | omega | (refine r_iE ?_ ?_ <;> omega) | (refine r_lE ?_ ?_ <;> omega) | fail)) only [↓q_gdT, ↓q_ltE, ↓if_pos, ↓if_neg, ↓q_bdE q1, ↓q_bdE q2]
    · rw [if_neg cv] at q2 ⊢
      refine ⟨I, ?_, w_Q.rf⟩
      simp (disch := (first | trivial | assumption | omega | (refine r_iE ?_ ?_ <;> omega) | (refine r_lE ?_ ?_ <;> omega) | fail)) only [↓q_gdT, ↓q_ltE, ↓if_pos, ↓if_neg, ↓q_bdE q1, ↓q_bdE q2]
  · rw [if_neg c] at q1 ⊢
    refine ⟨I, ?_, w_Q.rf⟩
    simp (disch := (first | trivial | assumption | omega | (refine r_iE ?_ ?_ <;> omega) | (refine r_lE ?_ ?_ <;> omega) | fail)) only [↓q_gdT, ↓q_ltE, ↓if_pos, ↓if_neg, ↓q_bdE q1]
