/-! THE REFERENCE: what is asked of it, first half -/
theorem z_m0 : ∀ s : Fin 5, (q_and (q_shr 0 (s.val : Int)) 1 = 0 ↔ z_bit 31 s.val = true) := by decide
theorem z_m0s {A : q_A} (hB : z_B A) (s : Nat) (h : (s : Int) < A 0 1) : q_and (q_shr 0 (s : Int)) 1 = 0 ↔ z_t s = true := z_m0 ⟨s, by have := hB.1; omega⟩
theorem z_t5 : ∀ s : Fin 5, z_bit 31 s.val = true := by decide
theorem z_ta {s : Nat} (h : s < 5) : z_t s = true := z_t5 ⟨s, h⟩
theorem m_lays0 {x : Nat} {S : q_S} {R : q_HR} {I : q_HI} {A : q_A} (hS : w_Sh x S R) (hB : z_B A) (hD : w_D x I A) : ∃ J, f_X10_lays S R I (x + 171) 0 = some J ∧ w_T x I J ∧ w_L x J A z_t := m_lays hS hB hD (z_m0s hB)
theorem h_sensorCount {x : Nat} {S : q_S} {R : q_HR} {I : q_HI} {A : q_A} (hS : w_Sh x S R) (hD : w_D x I A) : ∃ I', f_X10_sensorCount S R I (x + 171) = some (A 0 1, I') ∧ w_T x I I' := by
  refine ⟨q_up I (x + 171) 0 0, ?_, w_T.z⟩
  unfold f_X10_sensorCount
  simp only [k_171 hS]
  simp (disch := (first | trivial | assumption | omega | (refine r_iE ?_ ?_ <;> omega) | (refine r_lE ?_ ?_ <;> omega) | fail)) only [↓q_gdT, ↓q_ltE, ↓if_pos, ↓if_neg, hD.z.f1]
theorem h_classCount {x : Nat} {S : q_S} {R : q_HR} {I : q_HI} {A : q_A} (hS : w_Sh x S R) (hD : w_D x I A) : ∃ I', f_X10_classCount S R I (x + 171) = some (A 0 4, I') ∧ w_T x I I' := by
  refine ⟨q_up I (x + 171) 0 0, ?_, w_T.z⟩
  unfold f_X10_classCount
  simp only [k_171 hS]
  simp (disch := (first | trivial | assumption | omega | (refine r_iE ?_ ?_ <;> omega) | (refine r_lE ?_ ?_ <;> omega) | fail)) only [↓q_gdT, ↓q_ltE, ↓if_pos, ↓if_neg, hD.z.f4]
theorem h_sampleCount {x : Nat} {S : q_S} {R : q_HR} {I : q_HI} {A : q_A} {a : Int} (hS : w_Sh x S R) (hB : z_B A) (hD : w_D x I A) (ha : r_i a) : ∃ I', f_X10_sampleCount S R I (x + 171) a = some (o_sampleCount A a, I') ∧ w_T x I I' := by
  have h1 := hB.nk
  have q1 := m_isClass hS hB hD.z ha
  refine ⟨q_up I (x + 171) 0 0, ?_, w_T.z⟩
  unfold f_X10_sampleCount o_sampleCount
  simp only [k_171 hS, q_ltE, r_171_13 hS, k_175 hS, n_175 hS, hD.z.d4]
  by_cases c : 0 ≤ a ∧ a < A 0 4
  · rw [if_pos c] at q1 ⊢
    simp (disch := (first | trivial | assumption | omega | (refine r_iE ?_ ?_ <;> omega) | (refine r_lE ?_ ?_ <;> omega) | fail)) only [↓q_gdT, ↓q_ltE, ↓if_pos, ↓if_neg, ↓q_bdE q1]
  · rw [if_neg c] at q1 ⊢
    simp (disch := (first | trivial | assumption | omega | (refine r_iE ?_ ?_ <;> omega) | (refine r_lE ?_ ?_ <;> omega) | fail)) only [↓q_gdT, ↓q_ltE, ↓if_pos, ↓if_neg, ↓q_bdE q1]
theorem h_ratio {x : Nat} {S : q_S} {R : q_HR} {I : q_HI} {A : q_A} {a : Int} (hS : w_Sh x S R) (hB : z_B A) (hD : w_D x I A) (ha : r_i a) : ∃ I', f_X10_ratio S R I (x + 171) a = some (o_ratio A a, I') ∧ w_T x I I' := by
  have h1 := hB.1
  have h7 := hB.2.2.2.2.2.2.1
  have q1 := m_isSensor hS hB hD.z ha
  refine ⟨q_up I (x + 171) 0 0, ?_, w_T.z⟩
  unfold f_X10_ratio o_ratio
  simp only [k_171 hS, q_ltE, hD.z.f7]
  by_cases c : 0 ≤ a ∧ a < A 0 1
  · rw [if_pos c] at q1 ⊢
    by_cases c7 : A 0 7 = 0
    · rw [if_pos c7]
      simp (disch := (first | trivial | assumption | omega | (refine r_iE ?_ ?_ <;> omega) | (refine r_lE ?_ ?_ <;> omega) | fail)) only [↓q_gdT, ↓q_ltE, ↓if_pos, ↓if_neg, ↓q_bdE q1]
    · rw [if_neg c7]
      obtain ⟨k, rfl⟩ : ∃ k : Nat, a = (k : Int) := ⟨a.toNat, by omega⟩
      have q2 := m_ratioOf (p := 0) (s := k) hS hB hD.z (Or.inl ⟨rfl, by omega⟩) (by omega) (by omega)
      rw [show ((0 : Nat) : Int) = 0 from rfl] at q2
      rw [Int.toNat_natCast]
      simp (disch := (first | trivial | assumption | omega | (refine r_iE ?_ ?_ <;> omega) | (refine r_lE ?_ ?_ <;> omega) | fail)) only [↓q_gdT, ↓q_ltE, ↓if_pos, ↓if_neg, ↓q_bdE q1, ↓q_bdE q2]
  · rw [if_neg c] at q1 ⊢
    simp (disch := (first | trivial | assumption | omega | (refine r_iE ?_ ?_ <;> omega) | (refine r_lE ?_ ?_ <;> omega) | fail)) only [↓q_gdT, ↓q_ltE, ↓if_pos, ↓if_neg, ↓q_bdE q1]
theorem h_feature {x : Nat} {S : q_S} {R : q_HR} {I : q_HI} {A : q_A} {a : Int} (hS : w_Sh x S R) (hB : z_B A) (hD : w_D x I A) (ha : r_i a) : ∃ I', f_X10_feature S R I (x + 171) a = some (o_feature A a, I') ∧ w_T x I I' := by
  have h1 := hB.1
  have h7 := hB.2.2.2.2.2.2.1
  have q1 := m_isSensor hS hB hD.z ha
  unfold f_X10_feature o_feature
  simp only [k_171 hS, q_ltE, hD.z.f7]
  by_cases c : 0 ≤ a ∧ a < A 0 1
  · rw [if_pos c] at q1 ⊢
    by_cases c7 : A 0 7 = 0
    · rw [if_pos c7]
      refine ⟨q_up I (x + 171) 0 0, ?_, w_T.z⟩
      simp (disch := (first | trivial | assumption | omega | (refine r_iE ?_ ?_ <;> omega) | (refine r_lE ?_ ?_ <;> omega) | fail)) only [↓q_gdT, ↓q_ltE, ↓if_pos, ↓if_neg, ↓q_bdE q1]
    · rw [if_neg c7]
      obtain ⟨k, rfl⟩ : ∃ k : Nat, a = (k : Int) := ⟨a.toNat, by omega⟩
      obtain ⟨J, q2, f2⟩ := m_featureOf (p := 0) (s := k) hS hB hD.z (Or.inl ⟨rfl, by omega⟩) (by omega) (by omega)
      rw [show ((0 : Nat) : Int) = 0 from rfl] at q2
      rw [Int.toNat_natCast]
      refine ⟨J, ?_, w_T.z.tr (fun a j h => f2 a j (fun q => h (by unfold w_tm; omega)))⟩
      simp (disch := (first | trivial | assumption | omega | (refine r_iE ?_ ?_ <;> omega) | (refine r_lE ?_ ?_ <;> omega) | fail)) only [↓q_gdT, ↓q_ltE, ↓if_pos, ↓if_neg, ↓q_bdE q1, ↓q_bd2E q2]
  · rw [if_neg c] at q1 ⊢
    refine ⟨q_up I (x + 171) 0 0, ?_, w_T.z⟩
    simp (disch := (first | trivial | assumption | omega | (refine r_iE ?_ ?_ <;> omega) | (refine r_lE ?_ ?_ <;> omega) | fail)) only [↓q_gdT, ↓q_ltE, ↓if_pos, ↓if_neg, ↓q_bdE q1]
theorem h_humiditySlope {x : Nat} {S : q_S} {R : q_HR} {I : q_HI} {A : q_A} {a : Int} (hS : w_Sh x S R) (hB : z_B A) (hD : w_D x I A) (ha : r_i a) : ∃ I', f_X10_humiditySlope S R I (x + 171) a = some (o_humiditySlope A a, I') ∧ w_T x I I' := by
  have h1 := hB.1
  have q1 := m_isSensor hS hB hD.z ha
  unfold f_X10_humiditySlope o_humiditySlope
  simp only [k_171 hS, q_ltE]
  by_cases c : 0 ≤ a ∧ a < A 0 1
  · rw [if_pos c] at q1 ⊢
    obtain ⟨k, rfl⟩ : ∃ k : Nat, a = (k : Int) := ⟨a.toNat, by omega⟩
    have hk5 : k < 5 := by omega
    obtain ⟨b0, b2⟩ := z_sxB hB
    have b1 := b0 k hk5
    have q2 := m_fits (s := k) hS hB hD.z hk5
    generalize hI2 : q_up (q_up (q_up I (x + 171) 0 0) (x + 171) 14 (z_sxy A k)) (x + 171) 15 (z_sxx A) = I2 at q2
    have u15 : I2 (x + 171) 15 = z_sxx A := by rw [← hI2, q_up_at]
    have u14 : I2 (x + 171) 14 = z_sxy A k := by rw [← hI2, q_up_nj (by omega), q_up_at]
    rw [Int.toNat_natCast]
    refine ⟨I2, ?_, ?_⟩
    · by_cases c7 : z_sxx A = 0
      · rw [if_pos c7]
        simp (disch := (first | trivial | assumption | omega | (refine r_iE ?_ ?_ <;> omega) | (refine r_lE ?_ ?_ <;> omega) | fail)) only [↓q_gdT, ↓q_ltE, ↓if_pos, ↓if_neg, ↓q_bdE q1, ↓q_bdE q2, u15]
      · rw [if_neg c7]
        have q3 := e_down (a := 1000 * z_sxy A k) (b := z_sxx A) (r_lE (by omega) (by omega)) (r_lE (by omega) (by omega)) (by omega)
        simp (disch := (first | trivial | assumption | omega | (refine r_iE ?_ ?_ <;> omega) | (refine r_lE ?_ ?_ <;> omega) | fail)) only [↓q_gdT, ↓q_ltE, ↓if_pos, ↓if_neg, ↓q_bdE q1, ↓q_bdE q2, u15, u14, ↓q_bdE q3]
    · rw [← hI2]
      exact (w_T.z.up2 (Or.inl ⟨rfl, Or.inr (by omega)⟩)).up2 (Or.inl ⟨rfl, Or.inr (by omega)⟩)
  · rw [if_neg c] at q1 ⊢
    refine ⟨q_up I (x + 171) 0 0, ?_, w_T.z⟩
    simp (disch := (first | trivial | assumption | omega | (refine r_iE ?_ ?_ <;> omega) | (refine r_lE ?_ ?_ <;> omega) | fail)) only [↓q_gdT, ↓q_ltE, ↓if_pos, ↓if_neg, ↓q_bdE q1]
theorem h_driftComponent {x : Nat} {S : q_S} {R : q_HR} {I : q_HI} {A : q_A} {a : Int} (hS : w_Sh x S R) (hB : z_B A) (hD : w_D x I A) (ha : r_i a) : ∃ I', f_X10_driftComponent S R I (x + 171) a = some (o_driftComponent A a, I') ∧ w_T x I I' := by
  have h1 := hB.1
  have q1 := m_isSensor hS hB hD.z ha
  unfold f_X10_driftComponent o_driftComponent
  simp only [k_171 hS, q_ltE, r_171_17 hS, k_177 hS, n_177 hS]
  by_cases c : 0 ≤ a ∧ a < A 0 1
  · rw [if_pos c] at q1 ⊢
    obtain ⟨k, rfl⟩ : ∃ k : Nat, a = (k : Int) := ⟨a.toNat, by omega⟩
    obtain ⟨J, q2, T2, L2⟩ := m_lays0 hS hB hD.z
    have e := L2.2.2.1 k (by omega)
    unfold z_mk at e
    rw [if_pos (z_ta (by omega))] at e
    refine ⟨J, ?_, w_T.z.tr T2⟩
    simp only [Int.toNat_natCast]
    simp (disch := (first | trivial | assumption | omega | (refine r_iE ?_ ?_ <;> omega) | (refine r_lE ?_ ?_ <;> omega) | fail)) only [↓q_gdT, ↓q_ltE, ↓if_pos, ↓if_neg, ↓q_bdE q1, ↓q_bdE q2, e]
  · rw [if_neg c] at q1 ⊢
    refine ⟨q_up I (x + 171) 0 0, ?_, w_T.z⟩
    simp (disch := (first | trivial | assumption | omega | (refine r_iE ?_ ?_ <;> omega) | (refine r_lE ?_ ?_ <;> omega) | fail)) only [↓q_gdT, ↓q_ltE, ↓if_pos, ↓if_neg, ↓q_bdE q1]
theorem z_lft {x : Nat} {I : q_HI} {A : q_A} (h : w_lf x I A z_t 87) {p s : Nat} (hp : z_u A p) (h87 : p < 87) (hs : s < 5) : I (x + 176) (5 * p + s) = z_fe A p s := by
  rw [h p h87 hp s hs, if_pos (z_ta hs)]
theorem h_driftPosition {x : Nat} {S : q_S} {R : q_HR} {I : q_HI} {A : q_A} (hS : w_Sh x S R) (hB : z_B A) (hD : w_D x I A) : ∃ I', f_X10_driftPosition S R I (x + 171) = some (o_driftPosition A, I') ∧ w_T x I I' := by
  have h1 := hB.1
  have h7 := hB.2.2.2.2.2.2.1
  unfold f_X10_driftPosition o_driftPosition
  simp only [k_171 hS, q_ltE, hD.z.f7]
  by_cases c7 : A 0 7 = 0
  · rw [if_pos c7]
    refine ⟨q_up I (x + 171) 0 0, ?_, w_T.z⟩
    simp (disch := (first | trivial | assumption | omega | (refine r_iE ?_ ?_ <;> omega) | (refine r_lE ?_ ?_ <;> omega) | fail)) only [↓q_gdT, ↓q_ltE, ↓if_pos, ↓if_neg]
  rw [if_neg c7]
  obtain ⟨J, q2, T2, L2⟩ := m_lays0 hS hB hD.z
  obtain ⟨LD, Lf, Ld, L18, L19⟩ := L2
  refine ⟨J, ?_, w_T.z.tr T2⟩
  by_cases cg : z_gm A = 0
  · rw [if_pos cg] at L19 ⊢
    simp (disch := (first | trivial | assumption | omega | (refine r_iE ?_ ?_ <;> omega) | (refine r_lE ?_ ?_ <;> omega) | fail)) only [↓q_gdT, ↓q_ltE, ↓if_pos, ↓if_neg, ↓q_bdE q2, L19]
  · rw [if_neg cg] at L19 ⊢
    have hr := z_gmR hB cg
    have hr10 := hB.r10
    have b1 := (z_dqB hB).1
    have b2 := (z_dqB hB).2 cg
    have b3 := z_dnB hB
    have q3 := e_down (a := 1000 * z_dn A) (b := z_dq A) (r_lE (by omega) (by omega)) (r_lE (by omega) (by omega)) (by omega)
    have eN : (((A 0 1).toNat : Nat) : Int) = A 0 1 := by omega
    have loop : f_X10_driftPosition_L36 S R J (x + 171) (fun w26 w27 w28 => q_bd (f_X10_down (1000 * w26) w27) fun r29 => some (r29 + 1000000, J)) 100 0 0 0 = some (1000 * z_dn A / z_dq A + 1000000, J) := by
      refine z_loop (fun n i => f_X10_driftPosition_L36 S R J (x + 171) (fun w26 w27 w28 => q_bd (f_X10_down (1000 * w26) w27) fun r29 => some (r29 + 1000000, J)) n (z_sm (fun s => (z_fe A 0 s - z_fe A 13 s) * z_dc A s) i) (z_sm (fun s => z_dc A s * z_dc A s) i) ((i : Nat) : Int)) (A 0 1).toNat _ (fun n i hi => ?_) (fun n => ?_) 100 (by omega)
      · have f0 := z_fB A 0 i
        have f13 := z_fB A 13 i
        have d0 := z_dcB hB (show i < 5 by omega)
        have dd := z_mulB (M := 1000) (N := 1000) d0 d0
        have e1 : J (x + 176) i = z_fe A 0 i := by
          have := z_lft Lf (p := 0) (s := i) (Or.inl ⟨rfl, by omega⟩) (by omega) (by omega)
          rwa [show 5 * 0 + i = i by omega] at this
        have e2 : J (x + 176) (65 + i) = z_fe A 13 i := by
          have := z_lft Lf (p := 13) (s := i) (Or.inr (Or.inl ⟨by omega, by omega⟩)) (by omega) (by omega)
          rwa [show 5 * 13 + i = 65 + i by omega] at this
        have e3 : J (x + 177) i = z_dc A i := by
          have := Ld i (by omega)
          unfold z_mk at this
          rwa [if_pos (z_ta (by omega))] at this
        have e4 : (65 + (i : Int)).toNat = 65 + i := by omega
        show f_X10_driftPosition_L36 _ _ _ _ _ (n + 1) _ _ _ = _
        rw [f_X10_driftPosition_L36]
        simp only [k_171 hS, LD.f1, r_171_16 hS, k_176 hS, n_176 hS, r_171_17 hS, k_177 hS, n_177 hS, Int.toNat_natCast, e4, e1, e2, e3]
        simp (disch := (first | trivial | assumption | omega | (refine r_iE ?_ ?_ <;> omega) | (refine r_lE ?_ ?_ <;> omega) | fail)) only [↓q_gdT, ↓q_ltE, ↓if_pos, ↓if_neg]
        rfl
      · show f_X10_driftPosition_L36 _ _ _ _ _ (n + 1) _ _ _ = _
        rw [f_X10_driftPosition_L36]
        have s1 : z_sm (fun s => (z_fe A 0 s - z_fe A 13 s) * z_dc A s) (A 0 1).toNat = z_dn A := z_smT (by omega) (fun k h1 h2 => by rw [z_dc0 hB h2 h1, Int.mul_zero])
        have s2 : z_sm (fun s => z_dc A s * z_dc A s) (A 0 1).toNat = z_dq A := z_smT (by omega) (fun k h1 h2 => by rw [z_dc0 hB h2 h1, Int.mul_zero])
        simp only [k_171 hS, LD.f1, s1, s2, eN]
        simp (disch := (first | trivial | assumption | omega | (refine r_iE ?_ ?_ <;> omega) | (refine r_lE ?_ ?_ <;> omega) | fail)) only [↓q_gdT, ↓q_ltE, ↓if_pos, ↓if_neg, ↓q_bdE q3]
    simp (disch := (first | trivial | assumption | omega | (refine r_iE ?_ ?_ <;> omega) | (refine r_lE ?_ ?_ <;> omega) | fail)) only [↓q_gdT, ↓q_ltE, ↓if_pos, ↓if_neg, ↓q_bdE q2, L19]
    exact loop
theorem h_predictedReference {x : Nat} {S : q_S} {R : q_HR} {I : q_HI} {A : q_A} {a v : Int} (hS : w_Sh x S R) (hB : z_B A) (hD : w_D x I A) (ha : r_i a) (hv : r_i v) : ∃ I', f_X10_predictedReference S R I (x + 171) a v = some (o_predictedReference A a v, I') ∧ w_T x I I' := by
  have h1 := hB.1
  have hr := hB.r10
  have hv1 := hv.1
  have hv2 := hv.2
  have q1 := m_isSensor hS hB hD.z ha
  have q2 := e_isIn (a := v) (b := 0) (c := 999) (r_lE (by omega) (by omega)) (r_lE (by omega) (by omega)) (r_lE (by omega) (by omega))
  unfold f_X10_predictedReference o_predictedReference
  simp only [k_171 hS, q_ltE, hD.z.f3]
  by_cases c : 0 ≤ a ∧ a < A 0 1
  · rw [if_pos c] at q1 ⊢
    by_cases cv : 0 ≤ v ∧ v ≤ 999
    · rw [if_pos cv] at q2 ⊢
      by_cases c2 : 2 ≤ A 0 3
      · rw [if_pos c2]
        obtain ⟨k, rfl⟩ : ∃ k : Nat, a = (k : Int) := ⟨a.toNat, by omega⟩
        have hk5 : k < 5 := by omega
        obtain ⟨J, q3, T2, L2⟩ := m_lays0 hS hB hD.z
        obtain ⟨LD, Lf, Ld, L18, L19⟩ := L2
        obtain ⟨p1, p2, p3, p4⟩ := z_pdB hB k cv
        have p4 := p4 c2
        have q4 := e_down (a := z_stt A * z_sf A k + z_tr A k * (A 0 3 * v - z_st A)) (b := A 0 3 * z_stt A) (r_lE (by omega) (by omega)) (r_lE (by omega) (by omega)) p4
        have q4' : f_X10_down ((A 0 3 * z_sm (fun k => A 3 k * A 3 k) (z_nr A) - z_sm (fun k => A 3 k) (z_nr A) * z_sm (fun k => A 3 k) (z_nr A)) * z_sm (fun j => z_fe A (13 + j) k) (z_nr A) + (A 0 3 * z_sm (fun j => A 3 j * z_fe A (13 + j) k) (z_nr A) - z_sm (fun k => A 3 k) (z_nr A) * z_sm (fun j => z_fe A (13 + j) k) (z_nr A)) * (A 0 3 * v - z_sm (fun k => A 3 k) (z_nr A))) (A 0 3 * (A 0 3 * z_sm (fun k => A 3 k * A 3 k) (z_nr A) - z_sm (fun k => A 3 k) (z_nr A) * z_sm (fun k => A 3 k) (z_nr A))) = some (z_pd A k v) := q4
        refine ⟨J, ?_, w_T.z.tr T2⟩
        rw [Int.toNat_natCast]
        simp (disch := (first | trivial | assumption | omega | (refine r_iE ?_ ?_ <;> omega) | (refine r_lE ?_ ?_ <;> omega) | fail)) only [↓q_gdT, ↓q_ltE, ↓if_pos, ↓if_neg, ↓q_bdE q1, ↓q_bdE q2, ↓q_bdE q3]
        refine z_loop (fun n i => f_X10_predictedReference_L60 S R J (x + 171) (k : Int) v (fun w41 w42 w43 w44 w45 => q_gd (r_i (J (x + 171) 3)) (f_X10_down ((J (x + 171) 3 * w44 - w41 * w41) * w42 + (J (x + 171) 3 * w43 - w41 * w42) * (J (x + 171) 3 * v - w41)) (J (x + 171) 3 * (J (x + 171) 3 * w44 - w41 * w41)) |> fun o => q_bd o fun r51 => some (r51 + 10000000, J))) n (z_sm (fun j => A 3 j) i) (z_sm (fun j => z_fe A (13 + j) k) i) (z_sm (fun j => A 3 j * z_fe A (13 + j) k) i) (z_sm (fun j => A 3 j * A 3 j) i) ((i : Nat) : Int)) (z_nr A) _ (fun n i hi => ?_) (fun n => ?_) 100 (by omega)
        · have b1 := hB.time i hi
          have b2 := z_fB A (13 + i) k
          have e5 : (5 * (13 + (i : Int)) + (k : Int)).toNat = 5 * (13 + i) + k := by omega
          have e6 := z_lft Lf (p := 13 + i) (s := k) (Or.inr (Or.inl ⟨by omega, by omega⟩)) (by omega) hk5
          show f_X10_predictedReference_L60 _ _ _ _ _ _ _ (n + 1) _ _ _ _ _ = _
          rw [f_X10_predictedReference_L60]
          simp only [k_171 hS, LD.f3, r_171_12 hS, k_174 hS, n_174 hS, r_171_16 hS, k_176 hS, n_176 hS, LD.d3, Int.toNat_natCast, e5, e6]
          simp (disch := (first | trivial | assumption | omega | (refine r_iE ?_ ?_ <;> omega) | (refine r_lE ?_ ?_ <;> omega) | fail)) only [↓q_gdT, ↓q_ltE, ↓if_pos, ↓if_neg]
          rfl
        · show f_X10_predictedReference_L60 _ _ _ _ _ _ _ (n + 1) _ _ _ _ _ = _
          rw [f_X10_predictedReference_L60]
          simp only [k_171 hS, LD.f3]
          simp (disch := (first | trivial | assumption | omega | (refine r_iE ?_ ?_ <;> omega) | (refine r_lE ?_ ?_ <;> omega) | fail)) only [↓q_gdT, ↓q_ltE, ↓if_pos, ↓if_neg, ↓q_bdE q4']
      · rw [if_neg c2]
        refine ⟨q_up I (x + 171) 0 0, ?_, w_T.z⟩
        simp (disch := (first | trivial | assumption | omega | (refine r_iE ?_ ?_ <;> omega) | (refine r_lE ?_ ?_ <;> omega) | fail)) only [↓q_gdT, ↓q_ltE, ↓if_pos, ↓if_neg, ↓q_bdE q1, ↓q_bdE q2]
    · rw [if_neg cv] at q2 ⊢
      refine ⟨q_up I (x + 171) 0 0, ?_, w_T.z⟩
      simp (disch := (first | trivial | assumption | omega | (refine r_iE ?_ ?_ <;> omega) | (refine r_lE ?_ ?_ <;> omega) | fail)) only [↓q_gdT, ↓q_ltE, ↓if_pos, ↓if_neg, ↓q_bdE q1, ↓q_bdE q2]
  · rw [if_neg c] at q1 ⊢
    refine ⟨q_up I (x + 171) 0 0, ?_, w_T.z⟩
    simp (disch := (first | trivial | assumption | omega | (refine r_iE ?_ ?_ <;> omega) | (refine r_lE ?_ ?_ <;> omega) | fail)) only [↓q_gdT, ↓q_ltE, ↓if_pos, ↓if_neg, ↓q_bdE q1]
