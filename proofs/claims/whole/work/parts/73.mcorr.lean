/-! THE REFERENCE: counts of correct tests, sets of sensors -/
theorem m_correctOnes {x : Nat} {S : q_S} {R : q_HR} {I : q_HI} {A : q_A} {t : Nat → Bool} (hS : w_Sh x S R) (hB : z_B A) (hL : w_L x I A t) : ∃ J, f_X10_correctOnes S R I (x + 171) = some (z_corr A t, J) ∧ ∀ a, a ≠ x + 179 → J a = I a := by
  have hk := hB.nk
  unfold f_X10_correctOnes
  have key := z_loopR (fun n (u : Nat × q_HI) => f_X10_correctOnes_L4 S R (x + 171) (fun w24 w25 I26 => some (w24, I26)) n (z_sm (fun c => z_cnt A t c (c : Int) (z_ns A c)) u.1) ((u.1 : Nat) : Int) u.2) (fun i u => u.1 = i ∧ ∀ a, a ≠ x + 179 → u.2 a = I a) (z_nk A) (fun u => some (z_corr A t, u.2)) ?_ ?_ 100 0 (0, I) (by omega) (by omega) ⟨rfl, fun _ _ => rfl⟩
  · obtain ⟨⟨i, J⟩, ⟨_, f⟩, e⟩ := key
    exact ⟨J, e, f⟩
  · rintro n c ⟨c', J⟩ hc ⟨rfl, hJ⟩
    dsimp only at hJ hc ⊢
    have hn := hB.ns hc
    have hLJ := hL.u (w_U.of hJ)
    have key2 := z_loopR (fun m (u : Nat × q_HI) => f_X10_correctOnes_L14 S R (x + 171) (c' : Int) (fun w21 w22 I23 => f_X10_correctOnes_L4 S R (x + 171) (fun w24 w25 I26 => some (w24, I26)) n w21 ((c' : Int) + 1) I23) m (z_sm (fun c => z_cnt A t c (c : Int) (z_ns A c)) c' + z_cnt A t c' (c' : Int) u.1) ((u.1 : Nat) : Int) u.2) (fun i u => u.1 = i ∧ ∀ a, a ≠ x + 179 → u.2 a = I a) (z_ns A c') (fun u => f_X10_correctOnes_L4 S R (x + 171) (fun w24 w25 I26 => some (w24, I26)) n (z_sm (fun c => z_cnt A t c (c : Int) (z_ns A c)) (c' + 1)) ((c' : Int) + 1) u.2) ?_ ?_ 100 0 (0, J) (by omega) (by omega) ⟨rfl, hJ⟩
    · obtain ⟨⟨i, J3⟩, ⟨_, f3⟩, e⟩ := key2
      refine ⟨(c' + 1, J3), ⟨rfl, f3⟩, ?_⟩
      rw [f_X10_correctOnes_L4]
      simp only [k_171 hS, hLJ.1.f4]
      simp (disch := (first | trivial | assumption | omega | (refine r_iE ?_ ?_ <;> omega) | (refine r_lE ?_ ?_ <;> omega) | fail)) only [↓q_gdT, ↓q_ltE, ↓if_pos, ↓if_neg]
      have e0 : z_sm (fun c => z_cnt A t c (c : Int) (z_ns A c)) c' + z_cnt A t c' (c' : Int) 0 = z_sm (fun c => z_cnt A t c (c : Int) (z_ns A c)) c' := by
        show _ + 0 = _
        omega
      dsimp only at e
      rw [e0] at e
      exact e
    · rintro m i ⟨i', J4⟩ hi ⟨rfl, hJ4⟩
      dsimp only at hJ4 hi ⊢
      have hL4 := hL.u (w_U.of hJ4)
      obtain ⟨J5, q5, f5⟩ := m_tested (k := i') hS hB hL4 hc hi
      have tb := z_testB hB t hc hi
      have es : z_cnt A t c' (c' : Int) (i' + 1) = z_cnt A t c' (c' : Int) i' + (if z_test A t c' i' = (c' : Int) then 1 else 0) := rfl
      refine ⟨(i' + 1, J5), ⟨rfl, fun a ha => (f5 a ha).trans (hJ4 a ha)⟩, ?_⟩
      rw [f_X10_correctOnes_L14]
      simp only [k_171 hS, r_171_13 hS, k_175 hS, n_175 hS, hL4.1.d4, Int.toNat_natCast, es, ← Int.add_assoc]
      by_cases e : z_test A t c' i' = (c' : Int)
      · simp only [if_pos e]
        simp (disch := (first | trivial | assumption | omega | (refine r_iE ?_ ?_ <;> omega) | (refine r_lE ?_ ?_ <;> omega) | fail)) only [↓q_gdT, ↓q_ltE, ↓if_pos, ↓if_neg, ↓q_bd2E q5]
        rfl
      · simp only [if_neg e]
        simp (disch := (first | trivial | assumption | omega | (refine r_iE ?_ ?_ <;> omega) | (refine r_lE ?_ ?_ <;> omega) | fail)) only [↓q_gdT, ↓q_ltE, ↓if_pos, ↓if_neg, ↓q_bd2E q5]
        rfl
    · rintro m ⟨i, J4⟩ ⟨e, hJ4⟩
      dsimp only at e hJ4 ⊢
      subst e
      have hL4 := hL.u (w_U.of hJ4)
      rw [f_X10_correctOnes_L14]
      simp only [k_171 hS, r_171_13 hS, k_175 hS, n_175 hS, hL4.1.d4, Int.toNat_natCast]
      simp (disch := (first | trivial | assumption | omega | (refine r_iE ?_ ?_ <;> omega) | (refine r_lE ?_ ?_ <;> omega) | fail)) only [↓q_gdT, ↓q_ltE, ↓if_pos, ↓if_neg]
      rfl
  · rintro n ⟨i, J⟩ ⟨e, hJ⟩
    dsimp only at e hJ ⊢
    subst e
    have hLJ := hL.u (w_U.of hJ)
    rw [f_X10_correctOnes_L4]
    simp only [k_171 hS, hLJ.1.f4]
    simp (disch := (first | trivial | assumption | omega | (refine r_iE ?_ ?_ <;> omega) | (refine r_lE ?_ ?_ <;> omega) | fail)) only [↓q_gdT, ↓q_ltE, ↓if_pos, ↓if_neg]
    rfl
theorem h_correctCount {x : Nat} {S : q_S} {R : q_HR} {I : q_HI} {A : q_A} (hS : w_Sh x S R) (hB : z_B A) (hD : w_D x I A) : ∃ I', f_X10_correctCount S R I (x + 171) = some (z_corr A z_t, I') ∧ w_T x I I' := by
  obtain ⟨J, q3, T2, L2⟩ := m_lays0 hS hB hD.z
  obtain ⟨J3, q4, f3⟩ := m_correctOnes hS hB L2
  refine ⟨J3, ?_, (w_T.z.tr T2).tr (w_U.of f3).t⟩
  unfold f_X10_correctCount
  simp only [k_171 hS, q_ltE]
  simp (disch := (first | trivial | assumption | omega | (refine r_iE ?_ ?_ <;> omega) | (refine r_lE ?_ ?_ <;> omega) | fail)) only [↓q_gdT, ↓q_ltE, ↓if_pos, ↓if_neg, ↓q_bdE q3, ↓q_bd2E q4]
/-- one sensor missing -/
theorem z_m1s : ∀ (a s : Fin 5), (q_and (q_shr (q_shl 1 (a.val : Int)) (s.val : Int)) 1 = 0 ↔ z_bit (z_alb (a.val : Int)) s.val = true) := by decide
theorem m_lays1s {x : Nat} {S : q_S} {R : q_HR} {I : q_HI} {A : q_A} {k : Nat} (hS : w_Sh x S R) (hB : z_B A) (hD : w_D x I A) (hk : k < 5) : ∃ J, f_X10_lays S R I (x + 171) (q_shl 1 (k : Int)) = some J ∧ w_T x I J ∧ w_L x J A (z_bit (z_alb (k : Int))) :=
  m_lays hS hB hD (fun s hs => z_m1s ⟨k, hk⟩ ⟨s, by have := hB.1; omega⟩)
theorem h_correctWithout {x : Nat} {S : q_S} {R : q_HR} {I : q_HI} {A : q_A} {a : Int} (hS : w_Sh x S R) (hB : z_B A) (hD : w_D x I A) (ha : r_i a) : ∃ I', f_X10_correctWithout S R I (x + 171) a = some (o_correctWithout A a, I') ∧ w_T x I I' := by
  have h1 := hB.1
  have q1 := m_isSensor hS hB hD.z ha
  unfold f_X10_correctWithout o_correctWithout
  simp only [k_171 hS, q_ltE]
  by_cases c : 0 ≤ a ∧ a < A 0 1
  · rw [if_pos c] at q1 ⊢
    obtain ⟨k, rfl⟩ : ∃ k : Nat, a = (k : Int) := ⟨a.toNat, by omega⟩
    obtain ⟨J, q3, T2, L2⟩ := m_lays1s (k := k) hS hB hD.z (by omega)
    obtain ⟨J3, q4, f3⟩ := m_correctOnes hS hB L2
    refine ⟨J3, ?_, (w_T.z.tr T2).tr (w_U.of f3).t⟩
    simp (disch := (first | trivial | assumption | omega | (refine r_iE ?_ ?_ <;> omega) | (refine r_lE ?_ ?_ <;> omega) | fail)) only [↓q_gdT, ↓q_ltE, ↓if_pos, ↓if_neg, ↓q_bdE q1, ↓q_bdE q3, ↓q_bd2E q4]
  · rw [if_neg c] at q1 ⊢
    refine ⟨q_up I (x + 171) 0 0, ?_, w_T.z⟩
    simp (disch := (first | trivial | assumption | omega | (refine r_iE ?_ ?_ <;> omega) | (refine r_lE ?_ ?_ <;> omega) | fail)) only [↓q_gdT, ↓q_ltE, ↓if_pos, ↓if_neg, ↓q_bdE q1]
theorem h_leastUseful {x : Nat} {S : q_S} {R : q_HR} {I : q_HI} {A : q_A} (hS : w_Sh x S R) (hB : z_B A) (hD : w_D x I A) : ∃ I', f_X10_leastUsefulSensor S R I (x + 171) = some (o_leastUseful A, I') ∧ w_T x I I' := by
  have h1 := hB.1
  unfold f_X10_leastUsefulSensor o_leastUseful
  simp only [k_171 hS, q_ltE]
  have key := z_loopR (fun n (u : Nat × q_HI) => f_X10_leastUsefulSensor_L11 S R (x + 171) (fun w16 w17 w18 I19 => some (w16, I19)) n (if u.1 = 0 then 0 else (z_lu A u.1).1) (z_lu A u.1).2 ((u.1 : Nat) : Int) u.2) (fun i u => u.1 = i ∧ w_T x I u.2) (A 0 1).toNat (fun u => some ((z_lu A (A 0 1).toNat).1, u.2)) ?_ ?_ 100 0 (0, q_up I (x + 171) 0 0) (by omega) (by omega) ⟨rfl, w_T.z⟩
  · obtain ⟨⟨i, J⟩, ⟨_, f⟩, e⟩ := key
    refine ⟨J, ?_, f⟩
    simp (disch := (first | trivial | assumption | omega | (refine r_iE ?_ ?_ <;> omega) | (refine r_lE ?_ ?_ <;> omega) | fail)) only [↓q_gdT, ↓q_ltE, ↓if_pos, ↓if_neg]
    exact e
  · rintro n i ⟨i', J⟩ hi ⟨rfl, hJ⟩
    dsimp only at hJ hi ⊢
    have hDJ := hD.t hJ
    obtain ⟨J2, q2, T2, L2⟩ := m_lays1s (k := i') hS hB hDJ (by omega)
    obtain ⟨J3, q3, f3⟩ := m_correctOnes hS hB L2
    have b1 := z_luB hB i'
    have b2 := z_corrB hB (z_bit (z_alb (i' : Int)))
    have es : z_lu A (i' + 1) = if z_corr A (z_bit (z_alb (i' : Int))) ≤ (z_lu A i').2 then z_lu A i' else ((i' : Int), z_corr A (z_bit (z_alb (i' : Int)))) := rfl
    refine ⟨(i' + 1, J3), ⟨rfl, (hJ.tr T2).tr (w_U.of f3).t⟩, ?_⟩
    rw [f_X10_leastUsefulSensor_L11]
    simp only [k_171 hS, hDJ.f1]
    rw [if_neg (show ¬ i' + 1 = 0 by omega), es]
    by_cases e : z_corr A (z_bit (z_alb (i' : Int))) ≤ (z_lu A i').2
    · have e0 : i' ≠ 0 := fun q => by
        subst q
        have : (z_lu A 0).2 = -1 := rfl
        omega
      rw [if_pos e]
      simp only [if_neg e0]
      simp (disch := (first | trivial | assumption | omega | (refine r_iE ?_ ?_ <;> omega) | (refine r_lE ?_ ?_ <;> omega) | fail)) only [↓q_gdT, ↓q_ltE, ↓if_pos, ↓if_neg, ↓q_bdE q2, ↓q_bd2E q3]
      rfl
    · rw [if_neg e]
      simp (disch := (first | trivial | assumption | omega | (refine r_iE ?_ ?_ <;> omega) | (refine r_lE ?_ ?_ <;> omega) | fail)) only [↓q_gdT, ↓q_ltE, ↓if_pos, ↓if_neg, ↓q_bdE q2, ↓q_bd2E q3]
      rfl
  · rintro n ⟨i, J⟩ ⟨e, hJ⟩
    dsimp only at e hJ ⊢
    subst e
    have hDJ := hD.t hJ
    rw [f_X10_leastUsefulSensor_L11]
    simp only [k_171 hS, hDJ.f1]
    rw [if_neg (show ¬ (A 0 1).toNat = 0 by omega)]
    simp (disch := (first | trivial | assumption | omega | (refine r_iE ?_ ?_ <;> omega) | (refine r_lE ?_ ?_ <;> omega) | fail)) only [↓q_gdT, ↓q_ltE, ↓if_pos, ↓if_neg]
/-- sets of sensors -/
theorem z_mBs : ∀ (n : Fin 6) (v : Fin 32) (s : Fin 5), s.val < n.val → (q_and (q_shr (q_and (q_shl 1 (n.val : Int) - 1) (q_xor (v.val : Int) (-1))) (s.val : Int)) 1 = 0 ↔ z_bit (v.val : Int) s.val = true) := by decide +kernel
theorem m_correctBy {x : Nat} {S : q_S} {R : q_HR} {I : q_HI} {A : q_A} {v : Nat} (hS : w_Sh x S R) (hB : z_B A) (hD : w_D x I A) (hv : v < 32) : ∃ J, f_X10_correctBy S R I (x + 171) (v : Int) = some (z_corr A (z_bit (v : Int)), J) ∧ w_T x I J := by
  have h1 := hB.1
  have eN : (((A 0 1).toNat : Nat) : Int) = A 0 1 := by omega
  obtain ⟨J, q3, T2, L2⟩ := m_lays (m := q_and (q_shl 1 (A 0 1) - 1) (q_xor (v : Int) (-1))) (t := z_bit (v : Int)) hS hB hD (fun s hs => by
    have := z_mBs ⟨(A 0 1).toNat, by omega⟩ ⟨v, hv⟩ ⟨s, by omega⟩ (by show s < (A 0 1).toNat; omega)
    dsimp only at this
    rw [eN] at this
    exact this)
  obtain ⟨J3, q4, f3⟩ := m_correctOnes hS hB L2
  refine ⟨J3, ?_, T2.tr (w_U.of f3).t⟩
  unfold f_X10_correctBy
  simp only [k_171 hS, hD.f1]
  simp (disch := (first | trivial | assumption | omega | (refine r_iE ?_ ?_ <;> omega) | (refine r_lE ?_ ?_ <;> omega) | fail)) only [↓q_gdT, ↓q_ltE, ↓if_pos, ↓if_neg, ↓q_bdE q3, ↓q_bd2E q4]
theorem h_correctWith {x : Nat} {S : q_S} {R : q_HR} {I : q_HI} {A : q_A} {a : Int} (hS : w_Sh x S R) (hB : z_B A) (hD : w_D x I A) (ha : r_i a) : ∃ I', f_X10_correctWith S R I (x + 171) a = some (o_correctWith A a, I') ∧ w_T x I I' := by
  have h1 := hB.1
  have sb := z_shlB h1
  have ha1 := ha.1
  have ha2 := ha.2
  have q0 := e_isIn (a := a) (b := 1) (c := q_shl 1 (A 0 1) - 1) (r_lE (by omega) (by omega)) (r_lE (by omega) (by omega)) (r_lE (by omega) (by omega))
  have q1 : f_X10_isSet S R (q_up I (x + 171) 0 0) (x + 171) a = some (if 1 ≤ a ∧ a ≤ q_shl 1 (A 0 1) - 1 then 1 else 0) := by
    unfold f_X10_isSet
    simp only [k_171 hS, hD.z.f1]
    by_cases c : 1 ≤ a ∧ a ≤ q_shl 1 (A 0 1) - 1
    · rw [if_pos c] at q0 ⊢
      simp (disch := (first | trivial | assumption | omega | (refine r_iE ?_ ?_ <;> omega) | (refine r_lE ?_ ?_ <;> omega) | fail)) only [↓q_gdT, ↓q_ltE, ↓if_pos, ↓if_neg, ↓q_bdE q0]
    · rw [if_neg c] at q0 ⊢
      simp (disch := (first | trivial | assumption | omega | (refine r_iE ?_ ?_ <;> omega) | (refine r_lE ?_ ?_ <;> omega) | fail)) only [↓q_gdT, ↓q_ltE, ↓if_pos, ↓if_neg, ↓q_bdE q0]
  unfold f_X10_correctWith o_correctWith
  simp only [k_171 hS, q_ltE]
  by_cases c : 1 ≤ a ∧ a ≤ q_shl 1 (A 0 1) - 1
  · rw [if_pos c] at q1 ⊢
    obtain ⟨k, rfl⟩ : ∃ k : Nat, a = (k : Int) := ⟨a.toNat, by omega⟩
    obtain ⟨J, q3, T2⟩ := m_correctBy (v := k) hS hB hD.z (by omega)
    refine ⟨J, ?_, w_T.z.tr T2⟩
    simp (disch := (first | trivial | assumption | omega | (refine r_iE ?_ ?_ <;> omega) | (refine r_lE ?_ ?_ <;> omega) | fail)) only [↓q_gdT, ↓q_ltE, ↓if_pos, ↓if_neg, ↓q_bdE q1, ↓q_bd2E q3]
  · rw [if_neg c] at q1 ⊢
    refine ⟨q_up I (x + 171) 0 0, ?_, w_T.z⟩
    simp (disch := (first | trivial | assumption | omega | (refine r_iE ?_ ?_ <;> omega) | (refine r_lE ?_ ?_ <;> omega) | fail)) only [↓q_gdT, ↓q_ltE, ↓if_pos, ↓if_neg, ↓q_bdE q1]
theorem z_b01 : ∀ (v : Fin 32) (s : Fin 5), q_and (q_shr (v.val : Int) (s.val : Int)) 1 = if z_bit (v.val : Int) s.val = true then 1 else 0 := by decide +kernel
theorem m_sizeOf {v : Nat} (hv : v < 32) : f_X10_sizeOf (v : Int) = some (z_bc (v : Int)) := by
  unfold f_X10_sizeOf
  refine z_loop (fun n i => f_X10_sizeOf_L4 (v : Int) (fun w5 w6 => some w5) n (z_sm (fun s => if z_bit (v : Int) s = true then 1 else 0) i) ((i : Nat) : Int)) 5 _ (fun n i hi => ?_) (fun n => ?_) 100 (by decide)
  · have e := z_b01 ⟨v, hv⟩ ⟨i, hi⟩
    dsimp only at e
    show f_X10_sizeOf_L4 _ _ (n + 1) _ _ = _
    rw [f_X10_sizeOf_L4]
    simp only [e]
    simp (disch := (first | trivial | assumption | omega | (refine r_iE ?_ ?_ <;> omega) | (refine r_lE ?_ ?_ <;> omega) | fail)) only [↓q_gdT, ↓q_ltE, ↓if_pos, ↓if_neg]
    rfl
  · show f_X10_sizeOf_L4 _ _ (n + 1) _ _ = _
    rw [f_X10_sizeOf_L4]
    simp (disch := (first | trivial | assumption | omega | (refine r_iE ?_ ?_ <;> omega) | (refine r_lE ?_ ?_ <;> omega) | fail)) only [↓q_gdT, ↓q_ltE, ↓if_pos, ↓if_neg]
    rfl
theorem h_bestSubset {x : Nat} {S : q_S} {R : q_HR} {I : q_HI} {A : q_A} {a : Int} (hS : w_Sh x S R) (hB : z_B A) (hD : w_D x I A) (ha : r_i a) : ∃ I', f_X10_bestSubset S R I (x + 171) a = some (o_bestSubset A a, I') ∧ w_T x I I' := by
  have h1 := hB.1
  have sb := z_shlB h1
  have ha1 := ha.1
  have ha2 := ha.2
  have q0 := e_isIn (a := a) (b := 1) (c := A 0 1) (r_lE (by omega) (by omega)) (r_lE (by omega) (by omega)) (r_lE (by omega) (by omega))
  unfold f_X10_bestSubset o_bestSubset
  simp only [k_171 hS, q_ltE, hD.z.f1]
  by_cases c : 1 ≤ a ∧ a ≤ A 0 1
  · rw [if_pos c] at q0 ⊢
    have key := z_loopR (fun n (u : Nat × q_HI) => f_X10_bestSubset_L29 S R (x + 171) a (fun w27 w28 w29 I30 => some (w27, I30)) n (z_bs A a u.1).1 (z_bs A a u.1).2 ((u.1 : Int) + 1) u.2) (fun i u => u.1 = i ∧ w_T x I u.2) (q_shl 1 (A 0 1) - 1).toNat (fun u => some ((z_bs A a (q_shl 1 (A 0 1) - 1).toNat).1, u.2)) ?_ ?_ 100 0 (0, q_up I (x + 171) 0 0) (by omega) (by omega) ⟨rfl, w_T.z⟩
    · obtain ⟨⟨i, J⟩, ⟨_, f⟩, e⟩ := key
      refine ⟨J, ?_, f⟩
      simp (disch := (first | trivial | assumption | omega | (refine r_iE ?_ ?_ <;> omega) | (refine r_lE ?_ ?_ <;> omega) | fail)) only [↓q_gdT, ↓q_ltE, ↓if_pos, ↓if_neg, ↓q_bdE q0]
      exact e
    · rintro n i ⟨i', J⟩ hi ⟨rfl, hJ⟩
      dsimp only at hJ hi ⊢
      have hDJ := hD.t hJ
      have b1 := z_bsB hB a i'
      have b2 := z_corrB hB (z_bit ((i' : Int) + 1))
      have b3 := z_bcB ((i' : Int) + 1)
      have es : z_bs A a (i' + 1) = if z_bc ((i' : Int) + 1) = a then (if z_corr A (z_bit ((i' : Int) + 1)) ≤ (z_bs A a i').2 then z_bs A a i' else ((i' : Int) + 1, z_corr A (z_bit ((i' : Int) + 1)))) else z_bs A a i' := rfl
      have q4 := m_sizeOf (v := i' + 1) (by omega)
      have ei : (((i' + 1 : Nat)) : Int) = (i' : Int) + 1 := by omega
      rw [ei] at q4
      by_cases cs : z_bc ((i' : Int) + 1) = a
      · rw [if_pos cs] at es
        obtain ⟨J3, q3, T3⟩ := m_correctBy (v := i' + 1) hS hB hDJ (by omega)
        rw [ei] at q3
        refine ⟨(i' + 1, J3), ⟨rfl, hJ.tr T3⟩, ?_⟩
        rw [f_X10_bestSubset_L29]
        simp only [k_171 hS, hDJ.f1, ei]
        by_cases e : z_corr A (z_bit ((i' : Int) + 1)) ≤ (z_bs A a i').2
        · rw [if_pos e] at es
          rw [es]
          simp (disch := (first | trivial | assumption | omega | (refine r_iE ?_ ?_ <;> omega) | (refine r_lE ?_ ?_ <;> omega) | fail)) only [↓q_gdT, ↓q_ltE, ↓if_pos, ↓if_neg, ↓q_bdE q4, ↓q_bd2E q3]
        · rw [if_neg e] at es
          rw [es]
          simp (disch := (first | trivial | assumption | omega | (refine r_iE ?_ ?_ <;> omega) | (refine r_lE ?_ ?_ <;> omega) | fail)) only [↓q_gdT, ↓q_ltE, ↓if_pos, ↓if_neg, ↓q_bdE q4, ↓q_bd2E q3]
      · rw [if_neg cs] at es
        refine ⟨(i' + 1, J), ⟨rfl, hJ⟩, ?_⟩
        rw [f_X10_bestSubset_L29]
        simp only [k_171 hS, hDJ.f1, ei]
        rw [es]
        simp (disch := (first | trivial | assumption | omega | (refine r_iE ?_ ?_ <;> omega) | (refine r_lE ?_ ?_ <;> omega) | fail)) only [↓q_gdT, ↓q_ltE, ↓if_pos, ↓if_neg, ↓q_bdE q4]
    · rintro n ⟨i, J⟩ ⟨e, hJ⟩
      dsimp only at e hJ ⊢
      subst e
      have hDJ := hD.t hJ
      rw [f_X10_bestSubset_L29]
      simp only [k_171 hS, hDJ.f1]
      simp (disch := (first | trivial | assumption | omega | (refine r_iE ?_ ?_ <;> omega) | (refine r_lE ?_ ?_ <;> omega) | fail)) only [↓q_gdT, ↓q_ltE, ↓if_pos, ↓if_neg]
  · rw [if_neg c] at q0 ⊢
    refine ⟨q_up I (x + 171) 0 0, ?_, w_T.z⟩
    simp (disch := (first | trivial | assumption | omega | (refine r_iE ?_ ?_ <;> omega) | (refine r_lE ?_ ?_ <;> omega) | fail)) only [↓q_gdT, ↓q_ltE, ↓if_pos, ↓if_neg, ↓q_bdE q0]
theorem h_suspect {x : Nat} {S : q_S} {R : q_HR} {I : q_HI} {A : q_A} (hS : w_Sh x S R) (hB : z_B A) (hD : w_D x I A) : ∃ I', f_X10_suspectSensor S R I (x + 171) = some (o_suspect A, I') ∧ w_T x I I' := by
  have h1 := hB.1
  have h7 := hB.2.2.2.2.2.2.1
  have hk := hB.nk
  unfold f_X10_suspectSensor o_suspect
  simp only [k_171 hS, q_ltE, hD.z.f7]
  by_cases c7 : A 0 7 = 0
  · simp only [if_pos c7]
    refine ⟨q_up I (x + 171) 0 0, ?_, w_T.z⟩
    simp (disch := (first | trivial | assumption | omega | (refine r_iE ?_ ?_ <;> omega) | (refine r_lE ?_ ?_ <;> omega) | fail)) only [↓q_gdT, ↓q_ltE, ↓if_pos, ↓if_neg]
  simp only [if_neg c7]
  by_cases cn : (z_n1 A z_t (-1)).1 = -1
  · rw [if_pos cn]
    obtain ⟨J2, q2, T2, L2⟩ := m_lays1s (k := 0) hS hB hD.z (by omega)
    obtain ⟨J3, q3, f3⟩ := m_near (ex := -1) hS hB L2 (by omega) (r_iE (by omega) (by omega))
    have en : (z_n1 A (z_bit (z_alb ((0 : Nat) : Int))) (-1)).1 = -1 := (z_n1N hB _).mpr ((z_n1N hB z_t).mp cn)
    rw [en] at q3
    rw [show ((0 : Nat) : Int) = 0 from rfl] at q2
    refine ⟨J3, ?_, (w_T.z.tr T2).tr (w_U.of f3).t⟩
    rw [show (100 : Nat) = 99 + 1 from rfl, f_X10_suspectSensor_L22]
    simp only [k_171 hS, hD.z.f1]
    simp (disch := (first | trivial | assumption | omega | (refine r_iE ?_ ?_ <;> omega) | (refine r_lE ?_ ?_ <;> omega) | fail)) only [↓q_gdT, ↓q_ltE, ↓if_pos, ↓if_neg, ↓q_bdE q2, ↓q_bd2E q3]
  · rw [if_neg cn]
    have key := z_loopR (fun n (u : Nat × q_HI) => f_X10_suspectSensor_L22 S R (x + 171) (fun w25 w26 w27 I28 => some (w25, I28)) n (z_su A u.1).1 (z_su A u.1).2 ((u.1 : Nat) : Int) u.2) (fun i u => u.1 = i ∧ w_T x I u.2) (A 0 1).toNat (fun u => some ((z_su A (A 0 1).toNat).1, u.2)) ?_ ?_ 100 0 (0, q_up I (x + 171) 0 0) (by omega) (by omega) ⟨rfl, w_T.z⟩
    · obtain ⟨⟨i, J⟩, ⟨_, f⟩, e⟩ := key
      refine ⟨J, ?_, f⟩
      simp (disch := (first | trivial | assumption | omega | (refine r_iE ?_ ?_ <;> omega) | (refine r_lE ?_ ?_ <;> omega) | fail)) only [↓q_gdT, ↓q_ltE, ↓if_pos, ↓if_neg]
      exact e
    · rintro n i ⟨i', J⟩ hi ⟨rfl, hJ⟩
      dsimp only at hJ hi ⊢
      have hDJ := hD.t hJ
      obtain ⟨J2, q2, T2, L2⟩ := m_lays1s (k := i') hS hB hDJ (by omega)
      obtain ⟨J3, q3, f3⟩ := m_near (ex := -1) hS hB L2 (by omega) (r_iE (by omega) (by omega))
      have b1 := z_suB hB i'
      have es : z_su A (i' + 1) = if (z_su A i').1 ≠ -1 ∧ (z_su A i').2 ≤ (z_n1 A (z_bit (z_alb (i' : Int))) (-1)).2 then z_su A i' else ((i' : Int), (z_n1 A (z_bit (z_alb (i' : Int))) (-1)).2) := rfl
      generalize z_bit (z_alb (i' : Int)) = t at *
      obtain ⟨n1, n2, n3⟩ := z_n1B hB t (-1)
      have cn' : (z_n1 A t (-1)).1 ≠ -1 := fun q => cn ((z_n1N hB z_t).mpr ((z_n1N hB t).mp q))
      obtain ⟨n4, n5⟩ := n3 cn'
      obtain ⟨c, hc⟩ : ∃ c : Nat, (z_n1 A t (-1)).1 = (c : Int) := ⟨(z_n1 A t (-1)).1.toNat, by omega⟩
      rw [hc] at q3 n1
      rw [hc, Int.toNat_natCast] at n4 n5
      have L3 := L2.u (w_U.of f3)
      obtain ⟨J4, q4, f4⟩ := m_farFrom (p := 0) (c := c) hS hB L3 (Or.inl ⟨rfl, by omega⟩) (by omega) (by omega)
      rw [show ((0 : Nat) : Int) = 0 from rfl, ← n5] at q4
      refine ⟨(i' + 1, J4), ⟨rfl, ((hJ.tr T2).tr (w_U.of f3).t).tr (w_U.of f4).t⟩, ?_⟩
      rw [f_X10_suspectSensor_L22]
      simp only [k_171 hS, hDJ.f1]
      by_cases e1 : (z_su A i').1 ≠ -1 ∧ (z_su A i').2 ≤ (z_n1 A t (-1)).2
      · rw [if_pos e1] at es
        rw [es]
        simp (disch := (first | trivial | assumption | omega | (refine r_iE ?_ ?_ <;> omega) | (refine r_lE ?_ ?_ <;> omega) | fail)) only [↓q_gdT, ↓q_ltE, ↓if_pos, ↓if_neg, ↓q_bdE q2, ↓q_bd2E q3, ↓q_bd2E q4]
        rfl
      · rw [if_neg e1] at es
        rw [es]
        by_cases e2 : (z_su A i').1 = -1
        · simp (disch := (first | trivial | assumption | omega | (refine r_iE ?_ ?_ <;> omega) | (refine r_lE ?_ ?_ <;> omega) | fail)) only [↓q_gdT, ↓q_ltE, ↓if_pos, ↓if_neg, ↓q_bdE q2, ↓q_bd2E q3, ↓q_bd2E q4]
          rfl
        · simp (disch := (first | trivial | assumption | omega | (refine r_iE ?_ ?_ <;> omega) | (refine r_lE ?_ ?_ <;> omega) | fail)) only [↓q_gdT, ↓q_ltE, ↓if_pos, ↓if_neg, ↓q_bdE q2, ↓q_bd2E q3, ↓q_bd2E q4]
          rfl
    · rintro n ⟨i, J⟩ ⟨e, hJ⟩
      dsimp only at e hJ ⊢
      subst e
      have hDJ := hD.t hJ
      rw [f_X10_suspectSensor_L22]
      simp only [k_171 hS, hDJ.f1]
      simp (disch := (first | trivial | assumption | omega | (refine r_iE ?_ ?_ <;> omega) | (refine r_lE ?_ ?_ <;> omega) | fail)) only [↓q_gdT, ↓q_ltE, ↓if_pos, ↓if_neg]
