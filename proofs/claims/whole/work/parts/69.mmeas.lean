/-! THE REFERENCE: measuring, starting anew -/
theorem m_meas0 {x : Nat} {S : q_S} {R : q_HR} {I : q_HI} {A : q_A} {h a b c d e v7 : Int} {K : Int → Int → Option (Int × q_HI)} (n : Nat) (hS : w_Sh x S R) (hB : z_B A) (hD : w_D x I A) (hv : r_i a) (h7 : v7 = 0 ∨ v7 = 1) : f_X10_measure_L19 S R I (x + 171) h a b c d e K (n + 1) v7 0 = f_X10_measure_L19 S R I (x + 171) h a b c d e K n (if v7 = 1 ∧ z_k1 A 0 a then 1 else 0) 1 := by
  have hv1 := hv.1
  have hv2 := hv.2
  have h1 := hB.1
  rw [f_X10_measure_L19]
  simp only [k_171 hS]
  rcases h7 with rfl | rfl
  · have ef : (if (0 : Int) = 1 ∧ z_k1 A 0 a then (1 : Int) else 0) = 0 := if_neg (fun q => by cases q.1)
    rw [ef]
    simp (disch := (first | trivial | assumption | omega | (refine r_iE ?_ ?_ <;> omega) | (refine r_lE ?_ ?_ <;> omega) | fail)) only [↓q_gdT, ↓q_ltE, ↓if_pos, ↓if_neg]
    rfl
  · have q0 := m_isSensor (a := 0) hS hB hD (r_iE (by omega) (by omega))
    by_cases cs : (0 : Int) ≤ 0 ∧ 0 < A 0 1
    · rw [if_pos cs] at q0
      have q1 := e_isIn (a := a) (b := 0) (c := 9999) (r_lE (by omega) (by omega)) (r_lE (by omega) (by omega)) (r_lE (by omega) (by omega))
      by_cases cv : 0 ≤ a ∧ a ≤ 9999
      · rw [if_pos cv] at q1
        have ef : (if (1 : Int) = 1 ∧ z_k1 A 0 a then (1 : Int) else 0) = 1 := if_pos ⟨rfl, by unfold z_k1; rw [if_pos cs]; exact cv⟩
        rw [ef]
        simp (disch := (first | trivial | assumption | omega | (refine r_iE ?_ ?_ <;> omega) | (refine r_lE ?_ ?_ <;> omega) | fail)) only [↓q_gdT, ↓q_ltE, ↓if_pos, ↓if_neg, ↓q_bdE q0, ↓q_bdE q1]
        rfl
      · rw [if_neg cv] at q1
        have ef : (if (1 : Int) = 1 ∧ z_k1 A 0 a then (1 : Int) else 0) = 0 := if_neg (fun q => by
          have q2 := q.2
          unfold z_k1 at q2
          rw [if_pos cs] at q2
          exact cv q2)
        rw [ef]
        simp (disch := (first | trivial | assumption | omega | (refine r_iE ?_ ?_ <;> omega) | (refine r_lE ?_ ?_ <;> omega) | fail)) only [↓q_gdT, ↓q_ltE, ↓if_pos, ↓if_neg, ↓q_bdE q0, ↓q_bdE q1]
        rfl
    · exfalso
      omega
theorem m_meas1 {x : Nat} {S : q_S} {R : q_HR} {I : q_HI} {A : q_A} {h a b c d e v7 : Int} {K : Int → Int → Option (Int × q_HI)} (n : Nat) (hS : w_Sh x S R) (hB : z_B A) (hD : w_D x I A) (hv : r_i b) (h7 : v7 = 0 ∨ v7 = 1) : f_X10_measure_L19 S R I (x + 171) h a b c d e K (n + 1) v7 1 = f_X10_measure_L19 S R I (x + 171) h a b c d e K n (if v7 = 1 ∧ z_k1 A 1 b then 1 else 0) 2 := by
  have hv1 := hv.1
  have hv2 := hv.2
  have h1 := hB.1
  rw [f_X10_measure_L19]
  simp only [k_171 hS]
  rcases h7 with rfl | rfl
  · have ef : (if (0 : Int) = 1 ∧ z_k1 A 1 b then (1 : Int) else 0) = 0 := if_neg (fun q => by cases q.1)
    rw [ef]
    simp (disch := (first | trivial | assumption | omega | (refine r_iE ?_ ?_ <;> omega) | (refine r_lE ?_ ?_ <;> omega) | fail)) only [↓q_gdT, ↓q_ltE, ↓if_pos, ↓if_neg]
    rfl
  · have q0 := m_isSensor (a := 1) hS hB hD (r_iE (by omega) (by omega))
    by_cases cs : (0 : Int) ≤ 1 ∧ 1 < A 0 1
    · rw [if_pos cs] at q0
      have q1 := e_isIn (a := b) (b := 0) (c := 9999) (r_lE (by omega) (by omega)) (r_lE (by omega) (by omega)) (r_lE (by omega) (by omega))
      by_cases cv : 0 ≤ b ∧ b ≤ 9999
      · rw [if_pos cv] at q1
        have ef : (if (1 : Int) = 1 ∧ z_k1 A 1 b then (1 : Int) else 0) = 1 := if_pos ⟨rfl, by unfold z_k1; rw [if_pos cs]; exact cv⟩
        rw [ef]
        simp (disch := (first | trivial | assumption | omega | (refine r_iE ?_ ?_ <;> omega) | (refine r_lE ?_ ?_ <;> omega) | fail)) only [↓q_gdT, ↓q_ltE, ↓if_pos, ↓if_neg, ↓q_bdE q0, ↓q_bdE q1]
        rfl
      · rw [if_neg cv] at q1
        have ef : (if (1 : Int) = 1 ∧ z_k1 A 1 b then (1 : Int) else 0) = 0 := if_neg (fun q => by
          have q2 := q.2
          unfold z_k1 at q2
          rw [if_pos cs] at q2
          exact cv q2)
        rw [ef]
        simp (disch := (first | trivial | assumption | omega | (refine r_iE ?_ ?_ <;> omega) | (refine r_lE ?_ ?_ <;> omega) | fail)) only [↓q_gdT, ↓q_ltE, ↓if_pos, ↓if_neg, ↓q_bdE q0, ↓q_bdE q1]
        rfl
    · exfalso
      omega
theorem m_meas2 {x : Nat} {S : q_S} {R : q_HR} {I : q_HI} {A : q_A} {h a b c d e v7 : Int} {K : Int → Int → Option (Int × q_HI)} (n : Nat) (hS : w_Sh x S R) (hB : z_B A) (hD : w_D x I A) (hv : r_i c) (h7 : v7 = 0 ∨ v7 = 1) : f_X10_measure_L19 S R I (x + 171) h a b c d e K (n + 1) v7 2 = f_X10_measure_L19 S R I (x + 171) h a b c d e K n (if v7 = 1 ∧ z_k1 A 2 c then 1 else 0) 3 := by
  have hv1 := hv.1
  have hv2 := hv.2
  have h1 := hB.1
  rw [f_X10_measure_L19]
  simp only [k_171 hS]
  rcases h7 with rfl | rfl
  · have ef : (if (0 : Int) = 1 ∧ z_k1 A 2 c then (1 : Int) else 0) = 0 := if_neg (fun q => by cases q.1)
    rw [ef]
    simp (disch := (first | trivial | assumption | omega | (refine r_iE ?_ ?_ <;> omega) | (refine r_lE ?_ ?_ <;> omega) | fail)) only [↓q_gdT, ↓q_ltE, ↓if_pos, ↓if_neg]
    rfl
  · have q0 := m_isSensor (a := 2) hS hB hD (r_iE (by omega) (by omega))
    by_cases cs : (0 : Int) ≤ 2 ∧ 2 < A 0 1
    · rw [if_pos cs] at q0
      have q1 := e_isIn (a := c) (b := 0) (c := 9999) (r_lE (by omega) (by omega)) (r_lE (by omega) (by omega)) (r_lE (by omega) (by omega))
      by_cases cv : 0 ≤ c ∧ c ≤ 9999
      · rw [if_pos cv] at q1
        have ef : (if (1 : Int) = 1 ∧ z_k1 A 2 c then (1 : Int) else 0) = 1 := if_pos ⟨rfl, by unfold z_k1; rw [if_pos cs]; exact cv⟩
        rw [ef]
        simp (disch := (first | trivial | assumption | omega | (refine r_iE ?_ ?_ <;> omega) | (refine r_lE ?_ ?_ <;> omega) | fail)) only [↓q_gdT, ↓q_ltE, ↓if_pos, ↓if_neg, ↓q_bdE q0, ↓q_bdE q1]
        rfl
      · rw [if_neg cv] at q1
        have ef : (if (1 : Int) = 1 ∧ z_k1 A 2 c then (1 : Int) else 0) = 0 := if_neg (fun q => by
          have q2 := q.2
          unfold z_k1 at q2
          rw [if_pos cs] at q2
          exact cv q2)
        rw [ef]
        simp (disch := (first | trivial | assumption | omega | (refine r_iE ?_ ?_ <;> omega) | (refine r_lE ?_ ?_ <;> omega) | fail)) only [↓q_gdT, ↓q_ltE, ↓if_pos, ↓if_neg, ↓q_bdE q0, ↓q_bdE q1]
        rfl
    · rw [if_neg cs] at q0
      have q1 := e_isIn (a := c) (b := 0) (c := 0) (r_lE (by omega) (by omega)) (r_lE (by omega) (by omega)) (r_lE (by omega) (by omega))
      by_cases cv : 0 ≤ c ∧ c ≤ 0
      · rw [if_pos cv] at q1
        have ef : (if (1 : Int) = 1 ∧ z_k1 A 2 c then (1 : Int) else 0) = 1 := if_pos ⟨rfl, by unfold z_k1; rw [if_neg cs]; exact cv⟩
        rw [ef]
        simp (disch := (first | trivial | assumption | omega | (refine r_iE ?_ ?_ <;> omega) | (refine r_lE ?_ ?_ <;> omega) | fail)) only [↓q_gdT, ↓q_ltE, ↓if_pos, ↓if_neg, ↓q_bdE q0, ↓q_bdE q1]
        rfl
      · rw [if_neg cv] at q1
        have ef : (if (1 : Int) = 1 ∧ z_k1 A 2 c then (1 : Int) else 0) = 0 := if_neg (fun q => by
          have q2 := q.2
          unfold z_k1 at q2
          rw [if_neg cs] at q2
          exact cv q2)
        rw [ef]
        simp (disch := (first | trivial | assumption | omega | (refine r_iE ?_ ?_ <;> omega) | (refine r_lE ?_ ?_ <;> omega) | fail)) only [↓q_gdT, ↓q_ltE, ↓if_pos, ↓if_neg, ↓q_bdE q0, ↓q_bdE q1]
        rfl
theorem m_meas3 {x : Nat} {S : q_S} {R : q_HR} {I : q_HI} {A : q_A} {h a b c d e v7 : Int} {K : Int → Int → Option (Int × q_HI)} (n : Nat) (hS : w_Sh x S R) (hB : z_B A) (hD : w_D x I A) (hv : r_i d) (h7 : v7 = 0 ∨ v7 = 1) : f_X10_measure_L19 S R I (x + 171) h a b c d e K (n + 1) v7 3 = f_X10_measure_L19 S R I (x + 171) h a b c d e K n (if v7 = 1 ∧ z_k1 A 3 d then 1 else 0) 4 := by
  have hv1 := hv.1
  have hv2 := hv.2
  have h1 := hB.1
  rw [f_X10_measure_L19]
  simp only [k_171 hS]
  rcases h7 with rfl | rfl
  · have ef : (if (0 : Int) = 1 ∧ z_k1 A 3 d then (1 : Int) else 0) = 0 := if_neg (fun q => by cases q.1)
    rw [ef]
    simp (disch := (first | trivial | assumption | omega | (refine r_iE ?_ ?_ <;> omega) | (refine r_lE ?_ ?_ <;> omega) | fail)) only [↓q_gdT, ↓q_ltE, ↓if_pos, ↓if_neg]
    rfl
  · have q0 := m_isSensor (a := 3) hS hB hD (r_iE (by omega) (by omega))
    by_cases cs : (0 : Int) ≤ 3 ∧ 3 < A 0 1
    · rw [if_pos cs] at q0
      have q1 := e_isIn (a := d) (b := 0) (c := 9999) (r_lE (by omega) (by omega)) (r_lE (by omega) (by omega)) (r_lE (by omega) (by omega))
      by_cases cv : 0 ≤ d ∧ d ≤ 9999
      · rw [if_pos cv] at q1
        have ef : (if (1 : Int) = 1 ∧ z_k1 A 3 d then (1 : Int) else 0) = 1 := if_pos ⟨rfl, by unfold z_k1; rw [if_pos cs]; exact cv⟩
        rw [ef]
        simp (disch := (first | trivial | assumption | omega | (refine r_iE ?_ ?_ <;> omega) | (refine r_lE ?_ ?_ <;> omega) | fail)) only [↓q_gdT, ↓q_ltE, ↓if_pos, ↓if_neg, ↓q_bdE q0, ↓q_bdE q1]
        rfl
      · rw [if_neg cv] at q1
        have ef : (if (1 : Int) = 1 ∧ z_k1 A 3 d then (1 : Int) else 0) = 0 := if_neg (fun q => by
          have q2 := q.2
          unfold z_k1 at q2
          rw [if_pos cs] at q2
          exact cv q2)
        rw [ef]
        simp (disch := (first | trivial | assumption | omega | (refine r_iE ?_ ?_ <;> omega) | (refine r_lE ?_ ?_ <;> omega) | fail)) only [↓q_gdT, ↓q_ltE, ↓if_pos, ↓if_neg, ↓q_bdE q0, ↓q_bdE q1]
        rfl
    · rw [if_neg cs] at q0
      have q1 := e_isIn (a := d) (b := 0) (c := 0) (r_lE (by omega) (by omega)) (r_lE (by omega) (by omega)) (r_lE (by omega) (by omega))
      by_cases cv : 0 ≤ d ∧ d ≤ 0
      · rw [if_pos cv] at q1
        have ef : (if (1 : Int) = 1 ∧ z_k1 A 3 d then (1 : Int) else 0) = 1 := if_pos ⟨rfl, by unfold z_k1; rw [if_neg cs]; exact cv⟩
        rw [ef]
        simp (disch := (first | trivial | assumption | omega | (refine r_iE ?_ ?_ <;> omega) | (refine r_lE ?_ ?_ <;> omega) | fail)) only [↓q_gdT, ↓q_ltE, ↓if_pos, ↓if_neg, ↓q_bdE q0, ↓q_bdE q1]
        rfl
      · rw [if_neg cv] at q1
        have ef : (if (1 : Int) = 1 ∧ z_k1 A 3 d then (1 : Int) else 0) = 0 := if_neg (fun q => by
          have q2 := q.2
          unfold z_k1 at q2
          rw [if_neg cs] at q2
          exact cv q2)
        rw [ef]
        simp (disch := (first | trivial | assumption | omega | (refine r_iE ?_ ?_ <;> omega) | (refine r_lE ?_ ?_ <;> omega) | fail)) only [↓q_gdT, ↓q_ltE, ↓if_pos, ↓if_neg, ↓q_bdE q0, ↓q_bdE q1]
        rfl
theorem m_meas4 {x : Nat} {S : q_S} {R : q_HR} {I : q_HI} {A : q_A} {h a b c d e v7 : Int} {K : Int → Int → Option (Int × q_HI)} (n : Nat) (hS : w_Sh x S R) (hB : z_B A) (hD : w_D x I A) (hv : r_i e) (h7 : v7 = 0 ∨ v7 = 1) : f_X10_measure_L19 S R I (x + 171) h a b c d e K (n + 1) v7 4 = f_X10_measure_L19 S R I (x + 171) h a b c d e K n (if v7 = 1 ∧ z_k1 A 4 e then 1 else 0) 5 := by
  have hv1 := hv.1
  have hv2 := hv.2
  have h1 := hB.1
  rw [f_X10_measure_L19]
  simp only [k_171 hS]
  rcases h7 with rfl | rfl
  · have ef : (if (0 : Int) = 1 ∧ z_k1 A 4 e then (1 : Int) else 0) = 0 := if_neg (fun q => by cases q.1)
    rw [ef]
    simp (disch := (first | trivial | assumption | omega | (refine r_iE ?_ ?_ <;> omega) | (refine r_lE ?_ ?_ <;> omega) | fail)) only [↓q_gdT, ↓q_ltE, ↓if_pos, ↓if_neg]
    rfl
  · have q0 := m_isSensor (a := 4) hS hB hD (r_iE (by omega) (by omega))
    by_cases cs : (0 : Int) ≤ 4 ∧ 4 < A 0 1
    · rw [if_pos cs] at q0
      have q1 := e_isIn (a := e) (b := 0) (c := 9999) (r_lE (by omega) (by omega)) (r_lE (by omega) (by omega)) (r_lE (by omega) (by omega))
      by_cases cv : 0 ≤ e ∧ e ≤ 9999
      · rw [if_pos cv] at q1
        have ef : (if (1 : Int) = 1 ∧ z_k1 A 4 e then (1 : Int) else 0) = 1 := if_pos ⟨rfl, by unfold z_k1; rw [if_pos cs]; exact cv⟩
        rw [ef]
        simp (disch := (first | trivial | assumption | omega | (refine r_iE ?_ ?_ <;> omega) | (refine r_lE ?_ ?_ <;> omega) | fail)) only [↓q_gdT, ↓q_ltE, ↓if_pos, ↓if_neg, ↓q_bdE q0, ↓q_bdE q1]
        rfl
      · rw [if_neg cv] at q1
        have ef : (if (1 : Int) = 1 ∧ z_k1 A 4 e then (1 : Int) else 0) = 0 := if_neg (fun q => by
          have q2 := q.2
          unfold z_k1 at q2
          rw [if_pos cs] at q2
          exact cv q2)
        rw [ef]
        simp (disch := (first | trivial | assumption | omega | (refine r_iE ?_ ?_ <;> omega) | (refine r_lE ?_ ?_ <;> omega) | fail)) only [↓q_gdT, ↓q_ltE, ↓if_pos, ↓if_neg, ↓q_bdE q0, ↓q_bdE q1]
        rfl
    · rw [if_neg cs] at q0
      have q1 := e_isIn (a := e) (b := 0) (c := 0) (r_lE (by omega) (by omega)) (r_lE (by omega) (by omega)) (r_lE (by omega) (by omega))
      by_cases cv : 0 ≤ e ∧ e ≤ 0
      · rw [if_pos cv] at q1
        have ef : (if (1 : Int) = 1 ∧ z_k1 A 4 e then (1 : Int) else 0) = 1 := if_pos ⟨rfl, by unfold z_k1; rw [if_neg cs]; exact cv⟩
        rw [ef]
        simp (disch := (first | trivial | assumption | omega | (refine r_iE ?_ ?_ <;> omega) | (refine r_lE ?_ ?_ <;> omega) | fail)) only [↓q_gdT, ↓q_ltE, ↓if_pos, ↓if_neg, ↓q_bdE q0, ↓q_bdE q1]
        rfl
      · rw [if_neg cv] at q1
        have ef : (if (1 : Int) = 1 ∧ z_k1 A 4 e then (1 : Int) else 0) = 0 := if_neg (fun q => by
          have q2 := q.2
          unfold z_k1 at q2
          rw [if_neg cs] at q2
          exact cv q2)
        rw [ef]
        simp (disch := (first | trivial | assumption | omega | (refine r_iE ?_ ?_ <;> omega) | (refine r_lE ?_ ?_ <;> omega) | fail)) only [↓q_gdT, ↓q_ltE, ↓if_pos, ↓if_neg, ↓q_bdE q0, ↓q_bdE q1]
        rfl
theorem z_fl01 (P : Prop) [hd : Decidable P] : (if P then (1 : Int) else 0) = 0 ∨ (if P then (1 : Int) else 0) = 1 := by
  by_cases h : P
  · rw [if_pos h]; exact Or.inr rfl
  · rw [if_neg h]; exact Or.inl rfl
theorem z_flE (P Q : Prop) [hd : Decidable P] [hq : Decidable Q] [hr : Decidable ((if P then (1 : Int) else 0) = 1 ∧ Q)] : (if (if P then (1 : Int) else 0) = 1 ∧ Q then (1 : Int) else 0) = if P ∧ Q then 1 else 0 := by
  by_cases h : P
  · by_cases h2 : Q
    · rw [if_pos ⟨if_pos h, h2⟩, if_pos ⟨h, h2⟩]
    · rw [if_neg (fun q => h2 q.2), if_neg (fun q => h2 q.2)]
  · have : (if P then (1 : Int) else 0) = 0 := if_neg h
    rw [if_neg (fun q => by rw [this] at q; cases q.1), if_neg (fun q => h q.1)]
theorem h_measure {x : Nat} {S : q_S} {R : q_HR} {I : q_HI} {A : q_A} {h a b c d e : Int} (hS : w_Sh x S R) (hB : z_B A) (hD : w_D x I A) (hh : r_i h) (ha : r_i a) (hb : r_i b) (hc : r_i c) (hd : r_i d) (he : r_i e) : ∃ I', f_X10_measure S R I (x + 171) h a b c d e = some ((o_measure A h a b c d e).1, I') ∧ w_D x I' (o_measure A h a b c d e).2 ∧ w_mc x I I' := by
  have hh1 := hh.1
  have hh2 := hh.2
  have q0 := e_isIn (a := h) (b := 0) (c := 100) (r_lE (by omega) (by omega)) (r_lE (by omega) (by omega)) (r_lE (by omega) (by omega))
  unfold f_X10_measure o_measure
  simp only [k_171 hS, q_ltE, r_171_11 hS, k_173 hS, n_173 hS]
  rw [q_gdT trivial, q_gdT hh, q_bdE q0]
  rw [show (100 : Nat) = 99 + 1 from rfl, m_meas0 99 hS hB hD.z ha (z_fl01 _), z_flE]
  rw [show (99 : Nat) = 98 + 1 from rfl, m_meas1 98 hS hB hD.z hb (z_fl01 _), z_flE]
  rw [show (98 : Nat) = 97 + 1 from rfl, m_meas2 97 hS hB hD.z hc (z_fl01 _), z_flE]
  rw [show (97 : Nat) = 96 + 1 from rfl, m_meas3 96 hS hB hD.z hd (z_fl01 _), z_flE]
  rw [show (96 : Nat) = 95 + 1 from rfl, m_meas4 95 hS hB hD.z he (z_fl01 _), z_flE]
  rw [show (95 : Nat) = 94 + 1 from rfl, f_X10_measure_L19]
  by_cases cm : z_km A h a b c d e
  · rw [if_pos cm]
    obtain ⟨m0, m1, m2, m3, m4, m5⟩ := cm
    rw [if_pos (show ((((((0 ≤ h ∧ h ≤ 100) ∧ z_k1 A 0 a) ∧ z_k1 A 1 b) ∧ z_k1 A 2 c) ∧ z_k1 A 3 d) ∧ z_k1 A 4 e) from ⟨⟨⟨⟨⟨m0, m1⟩, m2⟩, m3⟩, m4⟩, m5⟩)]
    have t0 : Int.toNat 0 = 0 := rfl
    have t1 : Int.toNat 1 = 1 := rfl
    have t2 : Int.toNat 2 = 2 := rfl
    have t3 : Int.toNat 3 = 3 := rfl
    have t4 : Int.toNat 4 = 4 := rfl
    have t5 : Int.toNat 5 = 5 := rfl
    have D0 := hD.z.up0 (j := 7) (v := 1)
    have D1 : w_D x (q_up (q_up (q_up I (x + 171) 0 0) (x + 171) 7 1) (x + 173) 0 h) _ := D0.up (d := 2) (j := 0) (v := h) (by omega)
    have D2 : w_D x (q_up (q_up (q_up (q_up I (x + 171) 0 0) (x + 171) 7 1) (x + 173) 0 h) (x + 173) 1 a) _ := D1.up (d := 2) (j := 1) (v := a) (by omega)
    have D3 : w_D x (q_up (q_up (q_up (q_up (q_up I (x + 171) 0 0) (x + 171) 7 1) (x + 173) 0 h) (x + 173) 1 a) (x + 173) 2 b) _ := D2.up (d := 2) (j := 2) (v := b) (by omega)
    have D4 : w_D x (q_up (q_up (q_up (q_up (q_up (q_up I (x + 171) 0 0) (x + 171) 7 1) (x + 173) 0 h) (x + 173) 1 a) (x + 173) 2 b) (x + 173) 3 c) _ := D3.up (d := 2) (j := 3) (v := c) (by omega)
    have D5 : w_D x (q_up (q_up (q_up (q_up (q_up (q_up (q_up I (x + 171) 0 0) (x + 171) 7 1) (x + 173) 0 h) (x + 173) 1 a) (x + 173) 2 b) (x + 173) 3 c) (x + 173) 4 d) _ := D4.up (d := 2) (j := 4) (v := d) (by omega)
    have D6 : w_D x (q_up (q_up (q_up (q_up (q_up (q_up (q_up (q_up I (x + 171) 0 0) (x + 171) 7 1) (x + 173) 0 h) (x + 173) 1 a) (x + 173) 2 b) (x + 173) 3 c) (x + 173) 4 d) (x + 173) 5 e) _ := D5.up (d := 2) (j := 5) (v := e) (by omega)
    refine ⟨_, ?_, D6, ((((((w_T.z.mc.up (by omega)).up (by omega)).up (by omega)).up (by omega)).up (by omega)).up (by omega)).up (by omega)⟩
    simp only [t0, t1, t2, t3, t4, t5]
    simp (disch := (first | trivial | assumption | omega | (refine r_iE ?_ ?_ <;> omega) | (refine r_lE ?_ ?_ <;> omega) | fail)) only [↓q_gdT, ↓q_ltE, ↓if_pos, ↓if_neg]
  · rw [if_neg cm, if_neg (show ¬ ((((((0 ≤ h ∧ h ≤ 100) ∧ z_k1 A 0 a) ∧ z_k1 A 1 b) ∧ z_k1 A 2 c) ∧ z_k1 A 3 d) ∧ z_k1 A 4 e) from fun q => cm ⟨q.1.1.1.1.1, q.1.1.1.1.2, q.1.1.1.2, q.1.1.2, q.1.2, q.2⟩)]
    refine ⟨q_up I (x + 171) 0 0, ?_, hD.z, w_T.z.mc⟩
    simp (disch := (first | trivial | assumption | omega | (refine r_iE ?_ ?_ <;> omega) | (refine r_lE ?_ ?_ <;> omega) | fail)) only [↓q_gdT, ↓q_ltE, ↓if_pos, ↓if_neg]
theorem m_starts {x : Nat} {S : q_S} {R : q_HR} {I : q_HI} {A : q_A} {v : Int} (hS : w_Sh x S R) (hD : ∀ d, 1 ≤ d → d < 5 → ∀ j, I (x + 171 + d) j = A d j) : ∃ J, f_X10_starts S R I (x + 171) v = some J ∧ w_D x J (z_re A v) ∧ w_mc x I J := by
  generalize hJ : q_up (q_up (q_up (q_up (q_up (q_up (q_up (q_up (q_up I (x + 171) 1 v) (x + 171) 2 0) (x + 171) 3 0) (x + 171) 4 0) (x + 171) 5 50) (x + 171) 6 0) (x + 171) 7 0) (x + 171) 8 1) (x + 171) 9 1 = J
  have fJ : ∀ a, a ≠ x + 171 → J a = I a := fun a ha => by
    rw [← hJ, q_up_ne _ _ _ ha, q_up_ne _ _ _ ha, q_up_ne _ _ _ ha, q_up_ne _ _ _ ha, q_up_ne _ _ _ ha, q_up_ne _ _ _ ha, q_up_ne _ _ _ ha, q_up_ne _ _ _ ha, q_up_ne _ _ _ ha]
  refine ⟨z_row J (x + 172) (fun _ => 1000) 5, ?_, ⟨fun j h1 h2 => ?_, fun d h1 h2 j => ?_⟩, fun a ha => ?_⟩
  · unfold f_X10_starts
    simp only [k_171 hS, q_ltE, hJ]
    rw [q_gdT trivial]
    have key := z_loop (fun n i => f_X10_starts_L48 S R (x + 171) (fun w27 I28 => some I28) n ((i : Nat) : Int) (z_row J (x + 172) (fun _ => 1000) i)) 5 (some (z_row J (x + 172) (fun _ => 1000) 5)) (fun n i hi => ?_) (fun n => ?_) 100 (by decide)
    · rw [z_row_0] at key
      exact key
    · show f_X10_starts_L48 _ _ _ _ (n + 1) _ _ = _
      rw [f_X10_starts_L48]
      simp only [k_171 hS, r_171_10 hS, k_172 hS, n_172 hS]
      simp (disch := (first | trivial | assumption | omega | (refine r_iE ?_ ?_ <;> omega) | (refine r_lE ?_ ?_ <;> omega) | fail)) only [↓q_gdT, ↓q_ltE, ↓if_pos, ↓if_neg]
      rw [Int.toNat_natCast, z_row_up (f := fun _ => 1000)]
      rfl
    · show f_X10_starts_L48 _ _ _ _ (n + 1) _ _ = _
      rw [f_X10_starts_L48]
      simp (disch := (first | trivial | assumption | omega | (refine r_iE ?_ ?_ <;> omega) | (refine r_lE ?_ ?_ <;> omega) | fail)) only [↓q_gdT, ↓q_ltE, ↓if_pos, ↓if_neg]
  · rw [z_row_ne _ _ (by omega), ← hJ]
    have : j = 1 ∨ j = 2 ∨ j = 3 ∨ j = 4 ∨ j = 5 ∨ j = 6 ∨ j = 7 ∨ j = 8 ∨ j = 9 := by omega
    rcases this with e | e | e | e | e | e | e | e | e <;> subst e <;> simp [q_up, z_re]
  · unfold z_row z_re
    rw [if_neg (show ¬ d = 0 by omega)]
    by_cases c : d = 1 ∧ j < 5
    · rw [if_pos (by omega), if_pos c]
    · rw [if_neg (by omega), if_neg c, fJ _ (by omega)]
      exact hD d h1 h2 j
  · rw [z_row_ne _ _ (by omega), fJ _ (by omega)]
theorem h_reset {x : Nat} {S : q_S} {R : q_HR} {I : q_HI} {A : q_A} {v : Int} (hS : w_Sh x S R) (hD : w_D x I A) (hv : r_i v) : ∃ I', f_X10_reset S R I (x + 171) v = some ((o_reset A v).1, I') ∧ w_D x I' (o_reset A v).2 ∧ w_mc x I I' := by
  have hv1 := hv.1
  have hv2 := hv.2
  have q1 := e_isIn (a := v) (b := 2) (c := 5) (r_lE (by omega) (by omega)) (r_lE (by omega) (by omega)) (r_lE (by omega) (by omega))
  unfold f_X10_reset o_reset
  simp only [k_171 hS, q_ltE]
  by_cases c : 2 ≤ v ∧ v ≤ 5
  · rw [if_pos c] at q1 ⊢
    obtain ⟨J, q2, D2, F2⟩ := m_starts (v := v) hS hD.z.2
    refine ⟨J, ?_, D2, w_T.z.mc.tr F2⟩
    simp (disch := (first | trivial | assumption | omega | (refine r_iE ?_ ?_ <;> omega) | (refine r_lE ?_ ?_ <;> omega) | fail)) only [↓q_gdT, ↓q_ltE, ↓if_pos, ↓if_neg, ↓q_bdE q1, ↓q_bdE q2]
  · rw [if_neg c] at q1 ⊢
    refine ⟨q_up I (x + 171) 0 0, ?_, hD.z, w_T.z.mc⟩
    simp (disch := (first | trivial | assumption | omega | (refine r_iE ?_ ?_ <;> omega) | (refine r_lE ?_ ?_ <;> omega) | fail)) only [↓q_gdT, ↓q_ltE, ↓if_pos, ↓if_neg, ↓q_bdE q1]
