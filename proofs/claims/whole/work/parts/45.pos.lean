/-! THE CLASS: positions, predictions -/
def z_dq (A : q_A) : Int := z_sm (fun s => z_dc A s * z_dc A s) 5
def z_dn (A : q_A) : Int := z_sm (fun s => (z_fe A 0 s - z_fe A 13 s) * z_dc A s) 5
theorem z_gmA (A : q_A) : ∀ n : Nat, z_gx A n = 0 ∨ ∃ s, s < n ∧ z_gx A n = q_ab (z_tr A s)
  | 0 => Or.inl rfl
  | n + 1 => by
    have e : z_gx A (n + 1) = q_mx (z_gx A n) (q_ab (z_tr A n)) := rfl
    rw [e]
    rcases (z_mxB (l := z_gx A n) (v := q_ab (z_tr A n))).2.2 with h | h
    · exact Or.inr ⟨n, by omega, h⟩
    · rw [h]
      rcases z_gmA A n with q | ⟨s, q1, q2⟩
      · exact Or.inl q
      · exact Or.inr ⟨s, by omega, q2⟩
theorem z_dqB {A : q_A} (hB : z_B A) : (0 ≤ z_dq A ∧ z_dq A ≤ 5000000) ∧ (z_gm A ≠ 0 → 1000000 ≤ z_dq A) := by
  have nn : ∀ s, s < 5 → 0 ≤ z_dc A s * z_dc A s ∧ z_dc A s * z_dc A s ≤ 1000000 := fun s hs => by
    have h1 := z_dcB hB hs
    have h2 := z_mulB (M := 1000) (N := 1000) h1 h1
    have h3 := z_sq (z_dc A s)
    omega
  have h1 := z_smB (lo := 0) (hi := 1000000) (f := fun s => z_dc A s * z_dc A s) (n := 5) nn
  refine ⟨by unfold z_dq; omega, fun hg => ?_⟩
  rcases z_gmA A 5 with q | ⟨s, hs, q⟩
  · exact absurd q hg
  have hg' : z_gx A 5 ≠ 0 := hg
  have e1 : z_dc A s = 1000 ∨ z_dc A s = -1000 := by
    unfold z_dc
    rw [if_neg hg]
    unfold z_gm
    rw [q] at hg' ⊢
    unfold q_ab at hg' ⊢
    split
    · next h =>
      rw [if_pos h] at hg'
      refine Or.inl ?_
      rw [Int.mul_comm, Int.mul_tdiv_cancel _ hg']
    · next h =>
      rw [if_neg h] at hg'
      refine Or.inr ?_
      rw [show z_tr A s * 1000 = -(1000 * -z_tr A s) by omega, Int.neg_tdiv, Int.mul_tdiv_cancel _ hg']
  have e2 : z_dc A s * z_dc A s = 1000000 := by rcases e1 with e | e <;> rw [e] <;> rfl
  have h2 : z_sm (fun k => if k = s then 0 else z_dc A k * z_dc A k) 5 = z_dq A - (if s < 5 then z_dc A s * z_dc A s else 0) := z_smSkip (fun k => z_dc A k * z_dc A k) s 5
  rw [if_pos hs, e2] at h2
  have h3 := z_smNN (f := fun k => if k = s then 0 else z_dc A k * z_dc A k) (n := 5) (fun k hk => by
    have := nn k hk
    split <;> omega)
  omega
theorem z_dnB {A : q_A} (hB : z_B A) : -40000000 ≤ z_dn A ∧ z_dn A ≤ 40000000 := by
  have := z_smB (lo := -8000000) (hi := 8000000) (f := fun s => (z_fe A 0 s - z_fe A 13 s) * z_dc A s) (n := 5) (fun s hs => by
    have h1 := z_dcB hB hs
    have h2 := z_fB A 0 s
    have h3 := z_fB A 13 s
    have h4 := z_mulB (M := 8000) (N := 1000) (a := z_fe A 0 s - z_fe A 13 s) (b := z_dc A s) (by omega) (by omega)
    omega)
  unfold z_dn
  omega
theorem z_gmR {A : q_A} (hB : z_B A) (hg : z_gm A ≠ 0) : 0 < z_nr A := by
  rcases Nat.eq_zero_or_pos (z_nr A) with h | h
  · exfalso
    apply hg
    have hn := hB.2.2.1
    have e0 : A 0 3 = 0 := by unfold z_nr at h; omega
    have e1 : ∀ s, z_tr A s = 0 := fun s => by
      unfold z_tr
      rw [h, e0]
      simp [z_sm]
    rcases z_gmA A 5 with q | ⟨s, _, q⟩
    · exact q
    · show z_gx A 5 = 0
      rw [q, e1 s]
      rfl
  · exact h
theorem e_positionOf {x : Nat} {S : q_S} {R : q_HR} {I : q_HI} {A : q_A} (hS : w_Sh x S R) (hB : z_B A) (hw : w_rw x I A (z_nr A)) (h28 : ∀ s, s < 5 → I (x + 28) s = z_dc A s) (h50 : ∀ s, s < 5 → I (x + 50) s = z_fe A 0 s) (hg : z_gm A ≠ 0) : f_X1_positionOf S R I (x + 9) (x + 50) = some (1000 * z_dn A / z_dq A) := by
  have hr := z_gmR hB hg
  have d1 := z_dqB hB
  have d2 := z_dnB hB
  have d3 := d1.2 hg
  unfold f_X1_positionOf
  have key := z_loop (fun n i => f_X1_positionOf_L8 S R I (x + 9) (x + 50) (fun w21 w22 w23 => q_bd (f_X9_quotient (1000 * w21) w22) fun r24 => some r24) n (z_sm (fun s => (z_fe A 0 s - z_fe A 13 s) * z_dc A s) i) (z_sm (fun s => z_dc A s * z_dc A s) i) ((i : Nat) : Int)) 5 (some (1000 * z_dn A / z_dq A)) (fun n i hi => ?_) (fun n => ?_) 100 (by omega)
  · exact key
  · show f_X1_positionOf_L8 _ _ _ _ _ _ (n + 1) _ _ _ = _
    rw [f_X1_positionOf_L8]
    obtain ⟨kr, nr⟩ := k_row17 hS (show 0 < 10 by omega)
    have e17 : I (x + 17 + 0) i = z_fe A 13 i := hw 0 hr i hi
    have e16 : R (x + 16) 0 = x + 17 + 0 := r_16 hS (show 0 < 10 by omega)
    have b1 := z_fB A 13 i
    have b2 := z_fB A 0 i
    have b3 := z_dcB hB hi
    simp only [k_9 hS, r_9_5 hS, k_28 hS, n_28 hS, Int.toNat_natCast, h28 i hi, k_50 hS, n_50 hS, h50 i hi, r_9_3 hS, k_16 hS, n_16 hS, Int.toNat_zero, e16, kr, nr, e17]
    simp (disch := (first | trivial | assumption | omega | (refine r_iE ?_ ?_ <;> omega) | (refine r_lE ?_ ?_ <;> omega) | fail)) only [↓q_gdT, ↓q_ltE, ↓if_pos, ↓if_neg]
    rfl
  · show f_X1_positionOf_L8 _ _ _ _ _ _ (n + 1) _ _ _ = _
    rw [f_X1_positionOf_L8]
    have q1 := e_quot (a := 1000 * z_dn A) (b := z_dq A) (r_lE (by omega) (by omega)) (r_lE (by omega) (by omega)) (by omega)
    have e1 : z_sm (fun s => (z_fe A 0 s - z_fe A 13 s) * z_dc A s) 5 = z_dn A := rfl
    have e2 : z_sm (fun s => z_dc A s * z_dc A s) 5 = z_dq A := rfl
    rw [e1, e2]
    simp (disch := (first | trivial | assumption | omega | (refine r_iE ?_ ?_ <;> omega) | (refine r_lE ?_ ?_ <;> omega) | fail)) only [↓q_gdT, ↓q_ltE, ↓if_pos, ↓if_neg, ↓q_bdE q1]
/-! predictions -/
def z_st (A : q_A) : Int := z_sm (fun k => A 3 k) (z_nr A)
def z_stt (A : q_A) : Int := A 0 3 * z_sm (fun k => A 3 k * A 3 k) (z_nr A) - z_st A * z_st A
def z_sf (A : q_A) (s : Nat) : Int := z_sm (fun k => z_fe A (13 + k) s) (z_nr A)
def z_pd (A : q_A) (s : Nat) (v : Int) : Int := (z_stt A * z_sf A s + z_tr A s * (A 0 3 * v - z_st A)) / (A 0 3 * z_stt A)
theorem z_sttB {A : q_A} (hB : z_B A) : (0 ≤ z_st A ∧ z_st A ≤ 9990) ∧ (0 ≤ z_stt A ∧ z_stt A ≤ 99800100) ∧ (2 ≤ A 0 3 → 0 < z_stt A) := by
  have hn := hB.2.2.1
  have en : (z_nr A : Int) = A 0 3 := by unfold z_nr; omega
  have h1 := z_smB (lo := 0) (hi := 999) (f := fun k => A 3 k) (n := z_nr A) hB.time
  have h2 := z_smB (lo := 0) (hi := 998001) (f := fun k => A 3 k * A 3 k) (n := z_nr A) (fun k hk => by
    have := hB.time k hk
    exact z_mul0 (M := 999) (N := 999) this this)
  have h3 := z_cauchy (fun k => A 3 k) (z_nr A)
  rw [en] at h1 h2 h3
  have h3' : 0 ≤ z_stt A := h3
  have h4 := z_sq (z_st A)
  have h5 := z_mul0 (M := 10) (N := 9980010) (a := A 0 3) (b := z_sm (fun k => A 3 k * A 3 k) (z_nr A)) (by omega) (by omega)
  refine ⟨by unfold z_st; omega, ⟨h3', by unfold z_stt; omega⟩, fun h => ?_⟩
  obtain ⟨m, hm⟩ : ∃ m, z_nr A = m + 1 := ⟨z_nr A - 1, by omega⟩
  have := z_cauchyS (fun k => A 3 k) m (by omega) (by
    have := hB.2.2.2.2.2.2.2.2.2.2.2.2.1 0 m (by omega) (by omega)
    show A 3 0 ≠ A 3 m
    omega)
  unfold z_stt z_st
  rw [hm]
  rw [show ((m + 1 : Nat) : Int) = A 0 3 by omega] at this
  exact this
theorem z_pdB {A : q_A} (hB : z_B A) (s : Nat) {v : Int} (hv : 0 ≤ v ∧ v ≤ 999) : (-40000 ≤ z_sf A s ∧ z_sf A s ≤ 40000) ∧ (-12000000000000 ≤ z_stt A * z_sf A s + z_tr A s * (A 0 3 * v - z_st A) ∧ z_stt A * z_sf A s + z_tr A s * (A 0 3 * v - z_st A) ≤ 12000000000000) ∧ (0 ≤ A 0 3 * z_stt A ∧ A 0 3 * z_stt A ≤ 998001000) ∧ (2 ≤ A 0 3 → 0 < A 0 3 * z_stt A) := by
  have hn := hB.2.2.1
  have en : (z_nr A : Int) = A 0 3 := by unfold z_nr; omega
  obtain ⟨h1, h2, h3⟩ := z_sttB hB
  have h4 := z_trB hB s
  have h5 := z_smB (lo := -4000) (hi := 4000) (f := fun k => z_fe A (13 + k) s) (n := z_nr A) (fun k _ => z_fB A _ s)
  have h5' : -40000 ≤ z_sf A s ∧ z_sf A s ≤ 40000 := by unfold z_sf; omega
  have h6 := z_mul0 (M := 10) (N := 999) (a := A 0 3) (b := v) hn hv
  have h7 := z_mulB (M := 800000000) (N := 9990) (a := z_tr A s) (b := A 0 3 * v - z_st A) (by omega) (by omega)
  have h8 := z_mulB (M := 99800100) (N := 40000) (a := z_stt A) (b := z_sf A s) (by omega) (by omega)
  have h9 := z_mul0 (M := 10) (N := 99800100) (a := A 0 3) (b := z_stt A) hn h2
  exact ⟨h5', by omega, by omega, fun q => Int.mul_pos (by omega) (h3 q)⟩
theorem e_predict {x : Nat} {S : q_S} {R : q_HR} {I : q_HI} {A : q_A} {s : Nat} {v : Int} (hS : w_Sh x S R) (hB : z_B A) (h10 : I (x + 10) 2 = A 0 3) (h14 : ∀ k, k < z_nr A → I (x + 14) k = A 3 k) (hw : w_rw x I A (z_nr A)) (hs : s < 5) (hv : 0 ≤ v ∧ v ≤ 999) (h2 : 2 ≤ A 0 3) : ∃ I', f_X1_predict S R I (x + 9) (s : Int) v = some (z_pd A s v, I') ∧ ∀ a, a ≠ x + 15 → I' a = I a := by
  have q1 := e_sumUp (s := s) hS hB h10 h14 hw hs
  generalize hJ : z_row I (x + 15) (z_5 (A 0 3) (z_sm (fun k => A 3 k) (z_nr A)) (z_sm (fun k => z_fe A (13 + k) s) (z_nr A)) (z_sm (fun k => A 3 k * A 3 k) (z_nr A)) (z_sm (fun k => A 3 k * z_fe A (13 + k) s) (z_nr A))) 5 = J at q1
  have fJ : ∀ a, a ≠ x + 15 → J a = I a := fun a ha => by rw [← hJ]; exact z_row_ne _ _ ha
  have j0 : J (x + 15) 0 = A 0 3 := by rw [← hJ]; exact z_row_at _ (by omega)
  have j1 : J (x + 15) 1 = z_st A := by rw [← hJ]; exact z_row_at _ (by omega)
  have j2 : J (x + 15) 2 = z_sf A s := by rw [← hJ]; exact z_row_at _ (by omega)
  have j3 : J (x + 15) 3 = z_sm (fun k => A 3 k * A 3 k) (z_nr A) := by rw [← hJ]; exact z_row_at _ (by omega)
  have j4 : J (x + 15) 4 = z_sm (fun k => A 3 k * z_fe A (13 + k) s) (z_nr A) := by rw [← hJ]; exact z_row_at _ (by omega)
  have q2 := e_square (R := R) (I := J) (ln := x + 15) (k_15 hS)
  have q3 := e_cross (R := R) (I := J) (ln := x + 15) (k_15 hS)
  rw [j0, j1, j3] at q2
  rw [j0, j1, j2, j4] at q3
  have q2' : f_X3_square S R J (x + 15) = some (z_stt A) := q2
  have q3' : f_X3_cross S R J (x + 15) = some (z_tr A s) := q3
  obtain ⟨b1, b2, b3, b4⟩ := z_pdB hB s hv
  have b5 := b4 h2
  have q4 := e_quot (a := z_stt A * z_sf A s + z_tr A s * (A 0 3 * v - z_st A)) (b := A 0 3 * z_stt A) (r_lE (by omega) (by omega)) (r_lE (by omega) (by omega)) b5
  refine ⟨J, ?_, fJ⟩
  unfold f_X1_predict
  simp only [k_9 hS, r_9_2 hS, k_15 hS]
  simp (disch := (first | trivial | assumption | omega | (refine r_iE ?_ ?_ <;> omega) | (refine r_lE ?_ ?_ <;> omega) | fail)) only [↓q_gdT, ↓q_ltE, ↓if_pos, ↓if_neg, ↓q_bdE q1, ↓q_bdE q2', ↓q_bdE q3', j0, j1, j2, ↓q_bdE q4]
  rfl
