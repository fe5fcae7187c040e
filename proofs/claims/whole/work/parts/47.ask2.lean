/-! THE CLASS: what is asked of it, second half -/
def z_n1 (A : q_A) (t : Nat → Bool) (skip : Int) : Int × Int := z_nst (fun c => if (c : Int) = skip then -1 else z_dp A t 0 c) (z_nk A)
theorem z_n1B {A : q_A} (hB : z_B A) (t : Nat → Bool) (skip : Int) : (-1 ≤ (z_n1 A t skip).1 ∧ (z_n1 A t skip).1 < z_nk A) ∧ (0 ≤ (z_n1 A t skip).2 ∧ (z_n1 A t skip).2 ≤ 320000000) ∧ ((z_n1 A t skip).1 ≠ -1 → 0 ≤ z_dp A t 0 (z_n1 A t skip).1.toNat ∧ (z_n1 A t skip).2 = z_dp A t 0 (z_n1 A t skip).1.toNat) := by
  have hd : ∀ c, c < z_nk A → -1 ≤ (if (c : Int) = skip then -1 else z_dp A t 0 c) ∧ (if (c : Int) = skip then -1 else z_dp A t 0 c) ≤ 320000000 := fun c hc => by
    have := z_dpB hB t 0 hc
    split <;> omega
  obtain ⟨h1, h2, h3⟩ := z_nstB (d := fun c => if (c : Int) = skip then -1 else z_dp A t 0 c) (n := z_nk A) hd
  refine ⟨h1, h2, fun h => ?_⟩
  obtain ⟨h4, h5⟩ := h3 h
  have h6 : ¬ (((z_n1 A t skip).1.toNat : Int) = skip) := fun q => h5 (if_pos q)
  have h7 := z_dpB hB t 0 (show (z_n1 A t skip).1.toNat < z_nk A by unfold z_n1 at *; omega)
  have e : (if ((z_n1 A t skip).1.toNat : Int) = skip then -1 else z_dp A t 0 (z_n1 A t skip).1.toNat) = z_dp A t 0 (z_n1 A t skip).1.toNat := if_neg h6
  have h4' : (z_n1 A t skip).2 = (if ((z_n1 A t skip).1.toNat : Int) = skip then -1 else z_dp A t 0 (z_n1 A t skip).1.toNat) := h4
  have h5' : (if ((z_n1 A t skip).1.toNat : Int) = skip then -1 else z_dp A t 0 (z_n1 A t skip).1.toNat) ≠ -1 := h5
  rw [e] at h4' h5'
  omega
theorem e_near {x : Nat} {S : q_S} {R : q_HR} {I : q_HI} {A : q_A} {t : Nat → Bool} {skip : Int} (hS : w_Sh x S R) (hB : z_B A) (hC : w_C x S R I A) (hp : w_pr x I A t) (h7 : A 0 7 = 1) (hk : r_i skip) : f_X9_nearestTo S R I x (x + 50) skip = some (z_n1 A t skip).1 :=
  e_nearestTo (f := z_fe A 0) hS hB hC.1.2.2.2.1 hp.2.2.2.2.1 (hp.gs hB) (k_50 hS) (n_50 hS) (fun s hs => ⟨hp.1 h7 s hs, z_fB A 0 s⟩) hk
def o_distance (A : q_A) (a : Int) : Int := if 0 ≤ a ∧ a < A 0 4 then (if A 0 7 = 0 then -5 else z_dp A z_t 0 a.toNat) else -2
theorem g_distance {x : Nat} {S : q_S} {R : q_HR} {I : q_HI} {A : q_A} {a : Int} (hS : w_Sh x S R) (hB : z_B A) (hC : w_C x S R I A) (ha : r_i a) : ∃ I', f_X9_distance S R I x a = some (o_distance A a, I') ∧ w_Q x I I' := by
  have h1 := hB.nk
  have h7 := hB.2.2.2.2.2.2.1
  have e9 := hC.1.2.2.1
  have q1 := e_hasClass hS hB hC ha
  unfold f_X9_distance o_distance
  simp only [k_0 hS, e9, r_0_7 hS, k_50 hS]
  by_cases c : 0 ≤ a ∧ a < A 0 4
  · rw [if_pos c] at q1 ⊢
    by_cases c7 : A 0 7 = 0
    · rw [if_pos c7]
      refine ⟨I, ?_, w_Q.rf⟩
      simp (disch := (first | trivial | assumption | omega | (refine r_iE ?_ ?_ <;> omega) | (refine r_lE ?_ ?_ <;> omega) | fail)) only [↓q_gdT, ↓q_ltE, ↓if_pos, ↓if_neg, ↓q_bdE q1]
    · rw [if_neg c7]
      obtain ⟨k, rfl⟩ : ∃ k : Nat, a = (k : Int) := ⟨a.toNat, by omega⟩
      obtain ⟨I2, q2, Q2, p2⟩ := e_prepare hS hB hC
      have q3 := e_gapH hS hB p2 (by omega) (show k < z_nk A by omega)
      refine ⟨I2, ?_, Q2⟩
      rw [Int.toNat_natCast]
      simp (disch := (first | trivial | assumption | omega | (refine r_iE ?_ ?_ <;> omega) | (refine r_lE ?_ ?_ <;> omega) | fail)) only [↓q_gdT, ↓q_ltE, ↓if_pos, ↓if_neg, ↓q_bdE q1, ↓q_bdE q2, ↓q_bdE q3]
  · rw [if_neg c] at q1 ⊢
    refine ⟨I, ?_, w_Q.rf⟩
    simp (disch := (first | trivial | assumption | omega | (refine r_iE ?_ ?_ <;> omega) | (refine r_lE ?_ ?_ <;> omega) | fail)) only [↓q_gdT, ↓q_ltE, ↓if_pos, ↓if_neg, ↓q_bdE q1]
def o_nearestClass (A : q_A) : Int := if A 0 7 = 0 then -5 else (z_n1 A z_t (-1)).1
theorem g_nearestClass {x : Nat} {S : q_S} {R : q_HR} {I : q_HI} {A : q_A} (hS : w_Sh x S R) (hB : z_B A) (hC : w_C x S R I A) : ∃ I', f_X9_nearestClass S R I x = some (o_nearestClass A, I') ∧ w_Q x I I' := by
  have h7 := hB.2.2.2.2.2.2.1
  have e9 := hC.1.2.2.1
  unfold f_X9_nearestClass o_nearestClass
  simp only [k_0 hS, e9, r_0_7 hS, k_50 hS]
  by_cases c7 : A 0 7 = 0
  · rw [if_pos c7]
    refine ⟨I, ?_, w_Q.rf⟩
    simp (disch := (first | trivial | assumption | omega | (refine r_iE ?_ ?_ <;> omega) | (refine r_lE ?_ ?_ <;> omega) | fail)) only [↓q_gdT, ↓q_ltE, ↓if_pos, ↓if_neg]
  · rw [if_neg c7]
    obtain ⟨I2, q2, Q2, p2⟩ := e_prepare hS hB hC
    have q3 := e_near (skip := -1) hS hB (hC.q Q2) p2 (by omega) (r_iE (by omega) (by omega))
    refine ⟨I2, ?_, Q2⟩
    simp (disch := (first | trivial | assumption | omega | (refine r_iE ?_ ?_ <;> omega) | (refine r_lE ?_ ?_ <;> omega) | fail)) only [↓q_gdT, ↓q_ltE, ↓if_pos, ↓if_neg, ↓q_bdE q2, ↓q_bdE q3]
def o_runnerUp (A : q_A) : Int := if A 0 7 = 0 then -5 else (z_n1 A z_t (z_n1 A z_t (-1)).1).1
theorem g_runnerUp {x : Nat} {S : q_S} {R : q_HR} {I : q_HI} {A : q_A} (hS : w_Sh x S R) (hB : z_B A) (hC : w_C x S R I A) : ∃ I', f_X9_runnerUp S R I x = some (o_runnerUp A, I') ∧ w_Q x I I' := by
  have hk := hB.nk
  have h7 := hB.2.2.2.2.2.2.1
  have e9 := hC.1.2.2.1
  unfold f_X9_runnerUp o_runnerUp
  simp only [k_0 hS, e9, r_0_7 hS, k_50 hS]
  by_cases c7 : A 0 7 = 0
  · rw [if_pos c7]
    refine ⟨I, ?_, w_Q.rf⟩
    simp (disch := (first | trivial | assumption | omega | (refine r_iE ?_ ?_ <;> omega) | (refine r_lE ?_ ?_ <;> omega) | fail)) only [↓q_gdT, ↓q_ltE, ↓if_pos, ↓if_neg]
  · rw [if_neg c7]
    obtain ⟨I2, q2, Q2, p2⟩ := e_prepare hS hB hC
    have q3 := e_near (skip := -1) hS hB (hC.q Q2) p2 (by omega) (r_iE (by omega) (by omega))
    have b := z_n1B hB (z_bit 31) (-1)
    have q4 := e_near (skip := (z_n1 A (z_bit 31) (-1)).1) hS hB (hC.q Q2) p2 (by omega) (r_iE (by omega) (by omega))
    refine ⟨I2, ?_, Q2⟩
    simp (disch := (first | trivial | assumption | omega | (refine r_iE ?_ ?_ <;> omega) | (refine r_lE ?_ ?_ <;> omega) | fail)) only [↓q_gdT, ↓q_ltE, ↓if_pos, ↓if_neg, ↓q_bdE q2, ↓q_bdE q3, ↓q_bdE q4]
def o_radius (A : q_A) (a : Int) : Int := if 0 ≤ a ∧ a < A 0 4 then z_reach A z_t a.toNat else -2
theorem g_radius {x : Nat} {S : q_S} {R : q_HR} {I : q_HI} {A : q_A} {a : Int} (hS : w_Sh x S R) (hB : z_B A) (hC : w_C x S R I A) (ha : r_i a) : ∃ I', f_X9_radius S R I x a = some (o_radius A a, I') ∧ w_Q x I I' := by
  have h1 := hB.nk
  have q1 := e_hasClass hS hB hC ha
  unfold f_X9_radius o_radius
  simp only [k_0 hS]
  by_cases c : 0 ≤ a ∧ a < A 0 4
  · rw [if_pos c] at q1 ⊢
    obtain ⟨k, rfl⟩ : ∃ k : Nat, a = (k : Int) := ⟨a.toNat, by omega⟩
    obtain ⟨I2, q2, Q2, p2⟩ := e_prepare hS hB hC
    have q3 := e_reachOf hS hB (hC.q Q2) p2 (show k < z_nk A by omega)
    refine ⟨I2, ?_, Q2⟩
    rw [Int.toNat_natCast]
    simp (disch := (first | trivial | assumption | omega | (refine r_iE ?_ ?_ <;> omega) | (refine r_lE ?_ ?_ <;> omega) | fail)) only [↓q_gdT, ↓q_ltE, ↓if_pos, ↓if_neg, ↓q_bdE q1, ↓q_bdE q2, ↓q_bdE q3]
  · rw [if_neg c] at q1 ⊢
    refine ⟨I, ?_, w_Q.rf⟩
    simp (disch := (first | trivial | assumption | omega | (refine r_iE ?_ ?_ <;> omega) | (refine r_lE ?_ ?_ <;> omega) | fail)) only [↓q_gdT, ↓q_ltE, ↓if_pos, ↓if_neg, ↓q_bdE q1]
def o_outlier (A : q_A) (a : Int) : Int := if 0 ≤ a ∧ a < A 0 4 then (z_fs A z_t a.toNat).1 else -2
theorem g_outlier {x : Nat} {S : q_S} {R : q_HR} {I : q_HI} {A : q_A} {a : Int} (hS : w_Sh x S R) (hB : z_B A) (hC : w_C x S R I A) (ha : r_i a) : ∃ I', f_X9_outlier S R I x a = some (o_outlier A a, I') ∧ w_Q x I I' := by
  have h1 := hB.nk
  have q1 := e_hasClass hS hB hC ha
  unfold f_X9_outlier o_outlier
  simp only [k_0 hS]
  by_cases c : 0 ≤ a ∧ a < A 0 4
  · rw [if_pos c] at q1 ⊢
    obtain ⟨k, rfl⟩ : ∃ k : Nat, a = (k : Int) := ⟨a.toNat, by omega⟩
    obtain ⟨I2, q2, Q2, p2⟩ := e_prepare hS hB hC
    have q3 := e_farthestSample hS hB (hC.q Q2) p2 (show k < z_nk A by omega)
    refine ⟨I2, ?_, Q2⟩
    rw [Int.toNat_natCast]
    simp (disch := (first | trivial | assumption | omega | (refine r_iE ?_ ?_ <;> omega) | (refine r_lE ?_ ?_ <;> omega) | fail)) only [↓q_gdT, ↓q_ltE, ↓if_pos, ↓if_neg, ↓q_bdE q1, ↓q_bdE q2, ↓q_bdE q3]
  · rw [if_neg c] at q1 ⊢
    refine ⟨I, ?_, w_Q.rf⟩
    simp (disch := (first | trivial | assumption | omega | (refine r_iE ?_ ?_ <;> omega) | (refine r_lE ?_ ?_ <;> omega) | fail)) only [↓q_gdT, ↓q_ltE, ↓if_pos, ↓if_neg, ↓q_bdE q1]
def o_sensorScore (A : q_A) (a : Int) : Int := if 0 ≤ a ∧ a < A 0 1 then z_score A a.toNat else -2
theorem g_sensorScore {x : Nat} {S : q_S} {R : q_HR} {I : q_HI} {A : q_A} {a : Int} (hS : w_Sh x S R) (hB : z_B A) (hC : w_C x S R I A) (ha : r_i a) : ∃ I', f_X9_sensorScore S R I x a = some (o_sensorScore A a, I') ∧ w_Q x I I' := by
  have h1 := hB.1
  have q1 := e_hasSensor hS hB hC ha
  unfold f_X9_sensorScore o_sensorScore
  simp only [k_0 hS]
  by_cases c : 0 ≤ a ∧ a < A 0 1
  · rw [if_pos c] at q1 ⊢
    obtain ⟨k, rfl⟩ : ∃ k : Nat, a = (k : Int) := ⟨a.toNat, by omega⟩
    obtain ⟨I2, q2, Q2, p2⟩ := e_prepare hS hB hC
    have q3 := e_scoreOf hS hB (hC.q Q2) p2 (show k < 5 by omega)
    refine ⟨I2, ?_, Q2⟩
    rw [Int.toNat_natCast]
    simp (disch := (first | trivial | assumption | omega | (refine r_iE ?_ ?_ <;> omega) | (refine r_lE ?_ ?_ <;> omega) | fail)) only [↓q_gdT, ↓q_ltE, ↓if_pos, ↓if_neg, ↓q_bdE q1, ↓q_bdE q2, ↓q_bdE q3]
  · rw [if_neg c] at q1 ⊢
    refine ⟨I, ?_, w_Q.rf⟩
    simp (disch := (first | trivial | assumption | omega | (refine r_iE ?_ ?_ <;> omega) | (refine r_lE ?_ ?_ <;> omega) | fail)) only [↓q_gdT, ↓q_ltE, ↓if_pos, ↓if_neg, ↓q_bdE q1]
def o_classify (A : q_A) : Int := if A 0 7 = 0 then -5 else if (z_n1 A z_t (-1)).1 = -1 then -1 else if z_reach A z_t (z_n1 A z_t (-1)).1.toNat < (z_n1 A z_t (-1)).2 then -6 else (z_n1 A z_t (-1)).1
theorem g_classify {x : Nat} {S : q_S} {R : q_HR} {I : q_HI} {A : q_A} (hS : w_Sh x S R) (hB : z_B A) (hC : w_C x S R I A) : ∃ I', f_X9_classify S R I x = some (o_classify A, I') ∧ w_Q x I I' := by
  have hk := hB.nk
  have h7 := hB.2.2.2.2.2.2.1
  have e9 := hC.1.2.2.1
  unfold f_X9_classify o_classify
  simp only [k_0 hS, e9, r_0_7 hS, k_50 hS]
  by_cases c7 : A 0 7 = 0
  · rw [if_pos c7]
    refine ⟨I, ?_, w_Q.rf⟩
    simp (disch := (first | trivial | assumption | omega | (refine r_iE ?_ ?_ <;> omega) | (refine r_lE ?_ ?_ <;> omega) | fail)) only [↓q_gdT, ↓q_ltE, ↓if_pos, ↓if_neg]
  · rw [if_neg c7]
    obtain ⟨I2, q2, Q2, p2⟩ := e_prepare hS hB hC
    have q3 := e_near (skip := -1) hS hB (hC.q Q2) p2 (by omega) (r_iE (by omega) (by omega))
    obtain ⟨b1, b2, b3⟩ := z_n1B hB (z_bit 31) (-1)
    generalize z_n1 A (z_bit 31) (-1) = z at *
    obtain ⟨n, d⟩ := z
    dsimp only at *
    refine ⟨I2, ?_, Q2⟩
    by_cases c1 : n = -1
    · rw [if_pos c1]
      simp (disch := (first | trivial | assumption | omega | (refine r_iE ?_ ?_ <;> omega) | (refine r_lE ?_ ?_ <;> omega) | fail)) only [↓q_gdT, ↓q_ltE, ↓if_pos, ↓if_neg, ↓q_bdE q2, ↓q_bdE q3]
    · rw [if_neg c1]
      obtain ⟨b4, b5⟩ := b3 c1
      obtain ⟨k, rfl⟩ : ∃ k : Nat, n = (k : Int) := ⟨n.toNat, by omega⟩
      rw [Int.toNat_natCast] at b4 b5 ⊢
      have q4 := e_gapH hS hB p2 (by omega) (show k < z_nk A by omega)
      have q5 := e_reachOf hS hB (hC.q Q2) p2 (show k < z_nk A by omega)
      have b6 := z_reachB hB (z_bit 31) (show k < z_nk A by omega)
      rw [← b5] at q4
      by_cases c2 : z_reach A (z_bit 31) k < d
      · rw [if_pos c2]
        simp (disch := (first | trivial | assumption | omega | (refine r_iE ?_ ?_ <;> omega) | (refine r_lE ?_ ?_ <;> omega) | fail)) only [↓q_gdT, ↓q_ltE, ↓if_pos, ↓if_neg, ↓q_bdE q2, ↓q_bdE q3, ↓q_bdE q4, ↓q_bdE q5]
      · rw [if_neg c2]
        simp (disch := (first | trivial | assumption | omega | (refine r_iE ?_ ?_ <;> omega) | (refine r_lE ?_ ?_ <;> omega) | fail)) only [↓q_gdT, ↓q_ltE, ↓if_pos, ↓if_neg, ↓q_bdE q2, ↓q_bdE q3, ↓q_bdE q4, ↓q_bdE q5]
def o_classDistance (A : q_A) (a b : Int) : Int := if 0 ≤ a ∧ a < A 0 4 then (if 0 ≤ b ∧ b < A 0 4 then z_cc A z_t a.toNat b.toNat else -2) else -2
theorem g_classDistance {x : Nat} {S : q_S} {R : q_HR} {I : q_HI} {A : q_A} {a b : Int} (hS : w_Sh x S R) (hB : z_B A) (hC : w_C x S R I A) (ha : r_i a) (hb : r_i b) : ∃ I', f_X9_classDistance S R I x a b = some (o_classDistance A a b, I') ∧ w_Q x I I' := by
  have h1 := hB.nk
  have q1 := e_hasClass hS hB hC ha
  have q1' := e_hasClass hS hB hC hb
  unfold f_X9_classDistance o_classDistance
  simp only [k_0 hS]
  by_cases c : 0 ≤ a ∧ a < A 0 4
  · rw [if_pos c] at q1 ⊢
    by_cases c' : 0 ≤ b ∧ b < A 0 4
    · rw [if_pos c'] at q1' ⊢
      obtain ⟨k, rfl⟩ : ∃ k : Nat, a = (k : Int) := ⟨a.toNat, by omega⟩
      obtain ⟨l, rfl⟩ : ∃ l : Nat, b = (l : Int) := ⟨b.toNat, by omega⟩
      obtain ⟨I2, q2, Q2, p2⟩ := e_prepare hS hB hC
      have q3 := (e_gapOfClasses hS hB p2 (show k < z_nk A by omega) (show l < z_nk A by omega)).1
      refine ⟨I2, ?_, Q2⟩
      rw [Int.toNat_natCast, Int.toNat_natCast]
      simp (disch := (first | trivial | assumption | omega | (refine r_iE ?_ ?_ <;> omega) | (refine r_lE ?_ ?_ <;> omega) | fail)) only [↓q_gdT, ↓q_ltE, ↓if_pos, ↓if_neg, ↓q_bdE q1, ↓q_bdE q1', ↓q_bdE q2, ↓q_bdE q3]
    · rw [if_neg c'] at q1' ⊢
      refine ⟨I, ?_, w_Q.rf⟩
      simp (disch := (first | trivial | assumption | omega | (refine r_iE ?_ ?_ <;> omega) | (refine r_lE ?_ ?_ <;> omega) | fail)) only [↓q_gdT, ↓q_ltE, ↓if_pos, ↓if_neg, ↓q_bdE q1, ↓q_bdE q1']
  · rw [if_neg c] at q1 ⊢
    refine ⟨I, ?_, w_Q.rf⟩
    simp (disch := (first | trivial | assumption | omega | (refine r_iE ?_ ?_ <;> omega) | (refine r_lE ?_ ?_ <;> omega) | fail)) only [↓q_gdT, ↓q_ltE, ↓if_pos, ↓if_neg, ↓q_bdE q1]
/-! joining -/
def z_jb (A : q_A) (t : Nat → Bool) (n : Nat) : Int := z_bp (z_hs (z_cc A t) (z_H0 A) n) (z_cc A t)
theorem e_cluster {x : Nat} {S : q_S} {R : q_HR} {I : q_HI} {A : q_A} {a : Int} (hS : w_Sh x S R) (hB : z_B A) (hC : w_C x S R I A) (ha : r_i a) (h0 : 0 ≤ a) : ∃ I2 I', f_X9_prepare S R I x = some I2 ∧ f_X9_runClustering S R I2 x a = some (if z_jb A z_t (z_upto a) = -1 then 0 else 1, I') ∧ w_Q x I I' ∧ (z_jb A z_t (z_upto a) ≠ -1 → w_lk x I' (z_jb A z_t (z_upto a))) := by
  obtain ⟨I2, q2, Q2, p2⟩ := e_prepare hS hB hC
  obtain ⟨I3, q3, f3, l3⟩ := e_runClustering hS hB (hC.q Q2).1.2.2.2.1 p2 ha h0
  exact ⟨I2, I3, q2, q3, Q2.tr (fun b j h => by rw [f3 b (fun q => h (by unfold w_sc; omega))]), l3⟩
def o_joined (A : q_A) (a : Int) : Int := if 0 ≤ a then (if z_jb A z_t (z_upto a) = -1 then -1 else z_jb A z_t (z_upto a) % 100) else -3
def o_joinDist (A : q_A) (a : Int) : Int := if 0 ≤ a then (if z_jb A z_t (z_upto a) = -1 then -1 else z_jb A z_t (z_upto a) / 100) else -3
theorem g_joinedGroups {x : Nat} {S : q_S} {R : q_HR} {I : q_HI} {A : q_A} {a : Int} (hS : w_Sh x S R) (hB : z_B A) (hC : w_C x S R I A) (ha : r_i a) : ∃ I', f_X9_joinedGroups S R I x a = some (o_joined A a, I') ∧ w_Q x I I' := by
  unfold f_X9_joinedGroups o_joined
  simp only [k_0 hS, r_0_5 hS, k_37 hS]
  by_cases c : 0 ≤ a
  · rw [if_pos (show 0 ≤ a from c)]
    obtain ⟨I2, I3, q2, q3, Q3, l3⟩ := e_cluster hS hB hC ha c
    refine ⟨I3, ?_, Q3⟩
    by_cases c1 : z_jb A z_t (z_upto a) = -1
    · rw [if_pos c1] at q3 ⊢
      simp (disch := (first | trivial | assumption | omega | (refine r_iE ?_ ?_ <;> omega) | (refine r_lE ?_ ?_ <;> omega) | fail)) only [↓q_gdT, ↓q_ltE, ↓if_pos, ↓if_neg, ↓q_bdE q2, ↓q_bd2E q3]
    · rw [if_neg c1] at q3 ⊢
      rcases l3 c1 with l | ⟨p1, p2, p3, p4, p5⟩
      · exact absurd l.1 c1
      have e : z_jb A z_t (z_upto a) % 100 = 10 * I3 (x + 37) 2 + I3 (x + 37) 3 := by omega
      have q4 : f_X4_pairCode S R I3 (x + 37) = some (10 * I3 (x + 37) 2 + I3 (x + 37) 3) := by
        unfold f_X4_pairCode
        rw [q_gdT (k_37 hS)]
      rw [e]
      simp (disch := (first | trivial | assumption | omega | (refine r_iE ?_ ?_ <;> omega) | (refine r_lE ?_ ?_ <;> omega) | fail)) only [↓q_gdT, ↓q_ltE, ↓if_pos, ↓if_neg, ↓q_bdE q2, ↓q_bd2E q3, ↓q_bdE q4]
  · rw [if_neg (show ¬ 0 ≤ a from c)]
    refine ⟨I, ?_, w_Q.rf⟩
    simp (disch := (first | trivial | assumption | omega | (refine r_iE ?_ ?_ <;> omega) | (refine r_lE ?_ ?_ <;> omega) | fail)) only [↓q_gdT, ↓q_ltE, ↓if_pos, ↓if_neg]
theorem g_joinDistance {x : Nat} {S : q_S} {R : q_HR} {I : q_HI} {A : q_A} {a : Int} (hS : w_Sh x S R) (hB : z_B A) (hC : w_C x S R I A) (ha : r_i a) : ∃ I', f_X9_joinDistance S R I x a = some (o_joinDist A a, I') ∧ w_Q x I I' := by
  unfold f_X9_joinDistance o_joinDist
  simp only [k_0 hS, r_0_5 hS, k_37 hS]
  by_cases c : 0 ≤ a
  · rw [if_pos (show 0 ≤ a from c)]
    obtain ⟨I2, I3, q2, q3, Q3, l3⟩ := e_cluster hS hB hC ha c
    refine ⟨I3, ?_, Q3⟩
    by_cases c1 : z_jb A z_t (z_upto a) = -1
    · rw [if_pos c1] at q3 ⊢
      simp (disch := (first | trivial | assumption | omega | (refine r_iE ?_ ?_ <;> omega) | (refine r_lE ?_ ?_ <;> omega) | fail)) only [↓q_gdT, ↓q_ltE, ↓if_pos, ↓if_neg, ↓q_bdE q2, ↓q_bd2E q3]
    · rw [if_neg c1] at q3 ⊢
      rcases l3 c1 with l | ⟨p1, p2, p3, p4, p5⟩
      · exact absurd l.1 c1
      have e : z_jb A z_t (z_upto a) / 100 = I3 (x + 37) 4 := by omega
      rw [e]
      simp (disch := (first | trivial | assumption | omega | (refine r_iE ?_ ?_ <;> omega) | (refine r_lE ?_ ?_ <;> omega) | fail)) only [↓q_gdT, ↓q_ltE, ↓if_pos, ↓if_neg, ↓q_bdE q2, ↓q_bd2E q3]
  · rw [if_neg (show ¬ 0 ≤ a from c)]
    refine ⟨I, ?_, w_Q.rf⟩
    simp (disch := (first | trivial | assumption | omega | (refine r_iE ?_ ?_ <;> omega) | (refine r_lE ?_ ?_ <;> omega) | fail)) only [↓q_gdT, ↓q_ltE, ↓if_pos, ↓if_neg]
theorem g_closestClasses {x : Nat} {S : q_S} {R : q_HR} {I : q_HI} {A : q_A} (hS : w_Sh x S R) (hB : z_B A) (hC : w_C x S R I A) : ∃ I', f_X9_closestClasses S R I x = some (o_joined A 0, I') ∧ w_Q x I I' := by
  unfold f_X9_closestClasses o_joined
  simp only [k_0 hS, r_0_5 hS, k_37 hS]
  rw [if_pos (show (0 : Int) ≤ 0 by omega)]
  obtain ⟨I2, I3, q2, q3, Q3, l3⟩ := e_cluster (a := 0) hS hB hC (r_iE (by omega) (by omega)) (by omega)
  refine ⟨I3, ?_, Q3⟩
  by_cases c1 : z_jb A z_t (z_upto 0) = -1
  · rw [if_pos c1] at q3 ⊢
    simp (disch := (first | trivial | assumption | omega | (refine r_iE ?_ ?_ <;> omega) | (refine r_lE ?_ ?_ <;> omega) | fail)) only [↓q_gdT, ↓q_ltE, ↓if_pos, ↓if_neg, ↓q_bdE q2, ↓q_bd2E q3]
  · rw [if_neg c1] at q3 ⊢
    rcases l3 c1 with l | ⟨p1, p2, p3, p4, p5⟩
    · exact absurd l.1 c1
    have e : z_jb A z_t (z_upto 0) % 100 = 10 * I3 (x + 37) 2 + I3 (x + 37) 3 := by omega
    have q4 : f_X4_pairCode S R I3 (x + 37) = some (10 * I3 (x + 37) 2 + I3 (x + 37) 3) := by
      unfold f_X4_pairCode
      rw [q_gdT (k_37 hS)]
    rw [e]
    simp (disch := (first | trivial | assumption | omega | (refine r_iE ?_ ?_ <;> omega) | (refine r_lE ?_ ?_ <;> omega) | fail)) only [↓q_gdT, ↓q_ltE, ↓if_pos, ↓if_neg, ↓q_bdE q2, ↓q_bd2E q3, ↓q_bdE q4]
/-! ranking -/
theorem e_ranked {x : Nat} {S : q_S} {R : q_HR} {I : q_HI} {A : q_A} (hS : w_Sh x S R) (hB : z_B A) (hC : w_C x S R I A) (h7 : A 0 7 = 1) : ∃ I2 I', f_X9_prepare S R I x = some I2 ∧ f_X9_rankSamples S R I2 x = some I' ∧ w_Q x I I' ∧ w_rk x I' (z_rk A z_t) ∧ z_ZB (z_rk A z_t) 64 := by
  obtain ⟨I2, q2, Q2, p2⟩ := e_prepare hS hB hC
  obtain ⟨I3, q3, f3, r3⟩ := e_rankSamples hS hB (hC.q Q2) p2 h7
  have hk := hB.nk
  have zb := z_r2B hB z_t (Nat.le_refl (z_nk A))
  exact ⟨I2, I3, q2, q3, Q2.tr (fun b j h => by rw [f3 b (fun q => h (by unfold w_sc; omega)) (fun q => h (by unfold w_sc; omega)) (fun q => h (by unfold w_sc; omega))]), r3, Nat.le_trans zb.1 (by omega), zb.2⟩
def o_nearestSample (A : q_A) (a : Int) : Int := if 0 ≤ a then (if A 0 7 = 0 then -5 else if ((z_rk A z_t).1 : Int) ≤ a then -1 else (z_rk A z_t).2.1 a.toNat) else -3
theorem g_nearestSample {x : Nat} {S : q_S} {R : q_HR} {I : q_HI} {A : q_A} {a : Int} (hS : w_Sh x S R) (hB : z_B A) (hC : w_C x S R I A) (ha : r_i a) : ∃ I', f_X9_nearestSample S R I x a = some (o_nearestSample A a, I') ∧ w_Q x I I' := by
  have h7 := hB.2.2.2.2.2.2.1
  have e9 := hC.1.2.2.1
  unfold f_X9_nearestSample o_nearestSample
  simp only [k_0 hS, e9, r_0_4 hS, k_33 hS, r_33_0 hS, k_34 hS, n_34 hS]
  by_cases c : 0 ≤ a
  · rw [if_pos (show 0 ≤ a from c)]
    by_cases c7 : A 0 7 = 0
    · rw [if_pos c7]
      refine ⟨I, ?_, w_Q.rf⟩
      simp (disch := (first | trivial | assumption | omega | (refine r_iE ?_ ?_ <;> omega) | (refine r_lE ?_ ?_ <;> omega) | fail)) only [↓q_gdT, ↓q_ltE, ↓if_pos, ↓if_neg]
    · rw [if_neg c7]
      obtain ⟨I2, I3, q2, q3, Q3, r3, zb⟩ := e_ranked hS hB hC (by omega)
      have zb1 := zb.1
      have e3 := r3.1
      refine ⟨I3, ?_, Q3⟩
      by_cases c1 : ((z_rk A z_t).1 : Int) ≤ a
      · rw [if_pos c1]
        simp (disch := (first | trivial | assumption | omega | (refine r_iE ?_ ?_ <;> omega) | (refine r_lE ?_ ?_ <;> omega) | fail)) only [↓q_gdT, ↓q_ltE, ↓if_pos, ↓if_neg, ↓q_bdE q2, ↓q_bdE q3, e3]
      · rw [if_neg c1]
        obtain ⟨k, rfl⟩ : ∃ k : Nat, a = (k : Int) := ⟨a.toNat, by omega⟩
        have e4 := r3.2.1 k (by omega)
        rw [Int.toNat_natCast]
        simp (disch := (first | trivial | assumption | omega | (refine r_iE ?_ ?_ <;> omega) | (refine r_lE ?_ ?_ <;> omega) | fail)) only [↓q_gdT, ↓q_ltE, ↓if_pos, ↓if_neg, ↓q_bdE q2, ↓q_bdE q3, e3, e4]
  · rw [if_neg (show ¬ 0 ≤ a from c)]
    refine ⟨I, ?_, w_Q.rf⟩
    simp (disch := (first | trivial | assumption | omega | (refine r_iE ?_ ?_ <;> omega) | (refine r_lE ?_ ?_ <;> omega) | fail)) only [↓q_gdT, ↓q_ltE, ↓if_pos, ↓if_neg]
def o_vote (A : q_A) (a : Int) : Int := if 1 ≤ a ∧ a ≤ 64 then (if A 0 7 = 0 then -5 else (z_wi (z_rk A z_t).2.1 (min a.toNat (z_rk A z_t).1) (min a.toNat (z_rk A z_t).1)).1) else -3
theorem g_vote {x : Nat} {S : q_S} {R : q_HR} {I : q_HI} {A : q_A} {a : Int} (hS : w_Sh x S R) (hB : z_B A) (hC : w_C x S R I A) (ha : r_i a) : ∃ I', f_X9_vote S R I x a = some (o_vote A a, I') ∧ w_Q x I I' := by
  have h7 := hB.2.2.2.2.2.2.1
  have e9 := hC.1.2.2.1
  have q1 := e_isWithin (a := a) (b := 1) (c := 64) ha (r_iE (by omega) (by omega)) (r_iE (by omega) (by omega))
  unfold f_X9_vote o_vote
  simp only [k_0 hS, e9, r_0_4 hS, k_33 hS]
  by_cases c : 1 ≤ a ∧ a ≤ 64
  · rw [if_pos c] at q1 ⊢
    by_cases c7 : A 0 7 = 0
    · rw [if_pos c7]
      refine ⟨I, ?_, w_Q.rf⟩
      simp (disch := (first | trivial | assumption | omega | (refine r_iE ?_ ?_ <;> omega) | (refine r_lE ?_ ?_ <;> omega) | fail)) only [↓q_gdT, ↓q_ltE, ↓if_pos, ↓if_neg, ↓q_bdE q1]
    · rw [if_neg c7]
      obtain ⟨I2, I3, q2, q3, Q3, r3, zb⟩ := e_ranked hS hB hC (by omega)
      obtain ⟨k, rfl⟩ : ∃ k : Nat, a = (k : Int) := ⟨a.toNat, by omega⟩
      obtain ⟨I4, q4, f4⟩ := e_winnerOf (a := k) hS zb r3 (by omega)
      refine ⟨I4, ?_, Q3.tr (fun b j h => by rw [f4 b (fun q => h (by unfold w_sc; omega))])⟩
      rw [Int.toNat_natCast]
      simp (disch := (first | trivial | assumption | omega | (refine r_iE ?_ ?_ <;> omega) | (refine r_lE ?_ ?_ <;> omega) | fail)) only [↓q_gdT, ↓q_ltE, ↓if_pos, ↓if_neg, ↓q_bdE q1, ↓q_bdE q2, ↓q_bdE q3, ↓q_bd2E q4]
  · rw [if_neg c] at q1 ⊢
    refine ⟨I, ?_, w_Q.rf⟩
    simp (disch := (first | trivial | assumption | omega | (refine r_iE ?_ ?_ <;> omega) | (refine r_lE ?_ ?_ <;> omega) | fail)) only [↓q_gdT, ↓q_ltE, ↓if_pos, ↓if_neg, ↓q_bdE q1]
