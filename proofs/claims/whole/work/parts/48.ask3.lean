/-! THE CLASS: tests and sets of sensors -/
theorem z_shlB {n : Int} (h : 2 ≤ n ∧ n ≤ 5) : (n = 2 ∧ q_shl 1 n = 4) ∨ (n = 3 ∧ q_shl 1 n = 8) ∨ (n = 4 ∧ q_shl 1 n = 16) ∨ (n = 5 ∧ q_shl 1 n = 32) := by
  have : n = 2 ∨ n = 3 ∨ n = 4 ∨ n = 5 := by omega
  rcases this with e | e | e | e <;> subst e
  · exact Or.inl ⟨rfl, by decide⟩
  · exact Or.inr (Or.inl ⟨rfl, by decide⟩)
  · exact Or.inr (Or.inr (Or.inl ⟨rfl, by decide⟩))
  · exact Or.inr (Or.inr (Or.inr ⟨rfl, by decide⟩))
def z_bc (v : Int) : Int := z_sm (fun s => if z_bit v s = true then 1 else 0) 5
theorem e_bitCount : ∀ v : Fin 32, f_J6_bitCount_0f7a4 (v.val : Int) = some (z_bc (v.val : Int)) := by decide
theorem z_bcB (v : Int) : 0 ≤ z_bc v ∧ z_bc v ≤ 5 := by
  have := z_smB (lo := 0) (hi := 1) (f := fun s => if z_bit v s = true then 1 else 0) (n := 5) (fun s _ => by split <;> omega)
  unfold z_bc
  omega
def z_alb (a : Int) : Int := q_and 31 (q_xor (q_shl 1 a) (-1))
theorem z_cntB (A : q_A) (t : Nat → Bool) (c : Nat) (r : Int) (n : Nat) : 0 ≤ z_cnt A t c r n ∧ z_cnt A t c r n ≤ n := by
  have := z_smB (lo := 0) (hi := 1) (f := fun k => if z_test A t c k = r then 1 else 0) (n := n) (fun s _ => by split <;> omega)
  unfold z_cnt
  omega
theorem z_corrB {A : q_A} (hB : z_B A) (t : Nat → Bool) : 0 ≤ z_corr A t ∧ z_corr A t ≤ 64 := by
  have hk := hB.nk
  have := z_smB (lo := 0) (hi := 8) (f := fun c => z_cnt A t c (c : Int) (z_ns A c)) (n := z_nk A) (fun c hc => by
    have h1 := hB.ns hc
    have h2 := z_cntB A t c (c : Int) (z_ns A c)
    show 0 ≤ z_cnt A t c (c : Int) (z_ns A c) ∧ z_cnt A t c (c : Int) (z_ns A c) ≤ 8
    omega)
  unfold z_corr
  omega
def o_leaveOneOut (A : q_A) (a b : Int) : Int := if z_hv A a b then z_test A z_t a.toNat b.toNat else -2
theorem g_leaveOneOut {x : Nat} {S : q_S} {R : q_HR} {I : q_HI} {A : q_A} {a b : Int} (hS : w_Sh x S R) (hB : z_B A) (hC : w_C x S R I A) (ha : r_i a) (hb : r_i b) : ∃ I', f_X9_leaveOneOut S R I x a b = some (o_leaveOneOut A a b, I') ∧ w_Q x I I' := by
  have hk := hB.nk
  obtain ⟨r, q1, hr⟩ := e_hasSample hS hB hC ha hb
  unfold f_X9_leaveOneOut o_leaveOneOut
  simp only [k_0 hS]
  rcases hr with ⟨r0, hv⟩ | ⟨r1, hv⟩
  · rw [if_neg hv]
    subst r0
    refine ⟨I, ?_, w_Q.rf⟩
    simp (disch := (first | trivial | assumption | omega | (refine r_iE ?_ ?_ <;> omega) | (refine r_lE ?_ ?_ <;> omega) | fail)) only [↓q_gdT, ↓q_ltE, ↓if_pos, ↓if_neg, ↓q_bdE q1]
  · rw [if_pos hv]
    subst r1
    obtain ⟨v1, v2⟩ := hv
    obtain ⟨k, rfl⟩ : ∃ k : Nat, a = (k : Int) := ⟨a.toNat, by omega⟩
    obtain ⟨l, rfl⟩ : ∃ l : Nat, b = (l : Int) := ⟨b.toNat, by omega⟩
    rw [Int.toNat_natCast] at v2
    have hn := hB.ns (show k < z_nk A by omega)
    obtain ⟨I2, q2, Q2, p2⟩ := e_prepare hS hB hC
    have q3 := e_resultOfTest hS hB (hC.q Q2).1.2.2.2.1 p2.2.2.2.2.1 p2.2.2.2.2.2 (show k < z_nk A by omega) (show l < z_ns A k by omega)
    refine ⟨I2, ?_, Q2⟩
    rw [Int.toNat_natCast, Int.toNat_natCast]
    simp (disch := (first | trivial | assumption | omega | (refine r_iE ?_ ?_ <;> omega) | (refine r_lE ?_ ?_ <;> omega) | fail)) only [↓q_gdT, ↓q_ltE, ↓if_pos, ↓if_neg, ↓q_bdE q1, ↓q_bdE q2, ↓q_bd2E q3]
def o_confusion (A : q_A) (a b : Int) : Int := if 0 ≤ a ∧ a < A 0 4 then (if 0 ≤ b ∧ b < A 0 4 then z_cnt A z_t a.toNat b (z_ns A a.toNat) else -2) else -2
theorem g_confusion {x : Nat} {S : q_S} {R : q_HR} {I : q_HI} {A : q_A} {a b : Int} (hS : w_Sh x S R) (hB : z_B A) (hC : w_C x S R I A) (ha : r_i a) (hb : r_i b) : ∃ I', f_X9_confusion S R I x a b = some (o_confusion A a b, I') ∧ w_Q x I I' := by
  have h1 := hB.nk
  have q1 := e_hasClass hS hB hC ha
  have q1' := e_hasClass hS hB hC hb
  unfold f_X9_confusion o_confusion
  simp only [k_0 hS]
  by_cases c : 0 ≤ a ∧ a < A 0 4
  · rw [if_pos c] at q1 ⊢
    by_cases c' : 0 ≤ b ∧ b < A 0 4
    · rw [if_pos c'] at q1' ⊢
      obtain ⟨k, rfl⟩ : ∃ k : Nat, a = (k : Int) := ⟨a.toNat, by omega⟩
      obtain ⟨I2, q2, Q2, p2⟩ := e_prepare hS hB hC
      have hC2 := hC.q Q2
      have q3 := e_countResults (res := b) hS hB hC2.1.2.2.2.1 p2.2.2.2.2.1 p2.2.2.2.2.2 (hC2.sa hB (show k < z_nk A by omega)).1 (show k < z_nk A by omega) hb
      refine ⟨I2, ?_, Q2⟩
      rw [Int.toNat_natCast]
      simp (disch := (first | trivial | assumption | omega | (refine r_iE ?_ ?_ <;> omega) | (refine r_lE ?_ ?_ <;> omega) | fail)) only [↓q_gdT, ↓q_ltE, ↓if_pos, ↓if_neg, ↓q_bdE q1, ↓q_bdE q1', ↓q_bdE q2, ↓q_bd2E q3]
    · rw [if_neg c'] at q1' ⊢
      refine ⟨I, ?_, w_Q.rf⟩
      simp (disch := (first | trivial | assumption | omega | (refine r_iE ?_ ?_ <;> omega) | (refine r_lE ?_ ?_ <;> omega) | fail)) only [↓q_gdT, ↓q_ltE, ↓if_pos, ↓if_neg, ↓q_bdE q1, ↓q_bdE q1']
  · rw [if_neg c] at q1 ⊢
    refine ⟨I, ?_, w_Q.rf⟩
    simp (disch := (first | trivial | assumption | omega | (refine r_iE ?_ ?_ <;> omega) | (refine r_lE ?_ ?_ <;> omega) | fail)) only [↓q_gdT, ↓q_ltE, ↓if_pos, ↓if_neg, ↓q_bdE q1]
theorem g_correctCount {x : Nat} {S : q_S} {R : q_HR} {I : q_HI} {A : q_A} (hS : w_Sh x S R) (hB : z_B A) (hC : w_C x S R I A) : ∃ I', f_X9_correctCount S R I x = some (z_corr A z_t, I') ∧ w_Q x I I' := by
  obtain ⟨I2, q2, Q2, p2⟩ := e_prepare hS hB hC
  obtain ⟨I3, q3, Q3, p3⟩ := e_countCorrect (set := 31) hS hB (hC.q Q2) p2
  refine ⟨I3, ?_, Q2.tr Q3⟩
  unfold f_X9_correctCount
  simp only [k_0 hS]
  simp (disch := (first | trivial | assumption | omega | (refine r_iE ?_ ?_ <;> omega) | (refine r_lE ?_ ?_ <;> omega) | fail)) only [↓q_gdT, ↓q_ltE, ↓if_pos, ↓if_neg, ↓q_bdE q2, ↓q_bd2E q3]
theorem e_allBut (a : Int) : f_X9_allBut a = some (z_alb a) := rfl
def o_correctWithout (A : q_A) (a : Int) : Int := if 0 ≤ a ∧ a < A 0 1 then z_corr A (z_bit (z_alb a)) else -2
theorem g_correctWithout {x : Nat} {S : q_S} {R : q_HR} {I : q_HI} {A : q_A} {a : Int} (hS : w_Sh x S R) (hB : z_B A) (hC : w_C x S R I A) (ha : r_i a) : ∃ I', f_X9_correctWithout S R I x a = some (o_correctWithout A a, I') ∧ w_Q x I I' := by
  have q1 := e_hasSensor hS hB hC ha
  unfold f_X9_correctWithout o_correctWithout
  simp only [k_0 hS]
  by_cases c : 0 ≤ a ∧ a < A 0 1
  · rw [if_pos c] at q1 ⊢
    obtain ⟨I2, q2, Q2, p2⟩ := e_prepare hS hB hC
    obtain ⟨I3, q3, Q3, p3⟩ := e_countCorrect (set := z_alb a) hS hB (hC.q Q2) p2
    have q4 := e_allBut a
    refine ⟨I3, ?_, Q2.tr Q3⟩
    simp (disch := (first | trivial | assumption | omega | (refine r_iE ?_ ?_ <;> omega) | (refine r_lE ?_ ?_ <;> omega) | fail)) only [↓q_gdT, ↓q_ltE, ↓if_pos, ↓if_neg, ↓q_bdE q1, ↓q_bdE q2, ↓q_bdE q4, ↓q_bd2E q3]
  · rw [if_neg c] at q1 ⊢
    refine ⟨I, ?_, w_Q.rf⟩
    simp (disch := (first | trivial | assumption | omega | (refine r_iE ?_ ?_ <;> omega) | (refine r_lE ?_ ?_ <;> omega) | fail)) only [↓q_gdT, ↓q_ltE, ↓if_pos, ↓if_neg, ↓q_bdE q1]
def o_correctWith (A : q_A) (a : Int) : Int := if 1 ≤ a ∧ a ≤ q_shl 1 (A 0 1) - 1 then z_corr A (z_bit a) else -3
theorem g_correctWith {x : Nat} {S : q_S} {R : q_HR} {I : q_HI} {A : q_A} {a : Int} (hS : w_Sh x S R) (hB : z_B A) (hC : w_C x S R I A) (ha : r_i a) : ∃ I', f_X9_correctWith S R I x a = some (o_correctWith A a, I') ∧ w_Q x I I' := by
  have hp := z_shlB hB.1
  have e6 := hC.1.1
  have q1 := e_isWithin (a := a) (b := 1) (c := q_shl 1 (A 0 1) - 1) ha (r_iE (by omega) (by omega)) (r_iE (by omega) (by omega))
  unfold f_X9_correctWith o_correctWith
  simp only [k_0 hS, r_0_0 hS, k_1 hS, e6]
  by_cases c : 1 ≤ a ∧ a ≤ q_shl 1 (A 0 1) - 1
  · rw [if_pos c] at q1 ⊢
    obtain ⟨I2, q2, Q2, p2⟩ := e_prepare hS hB hC
    obtain ⟨I3, q3, Q3, p3⟩ := e_countCorrect (set := a) hS hB (hC.q Q2) p2
    refine ⟨I3, ?_, Q2.tr Q3⟩
    simp (disch := (first | trivial | assumption | omega | (refine r_iE ?_ ?_ <;> omega) | (refine r_lE ?_ ?_ <;> omega) | fail)) only [↓q_gdT, ↓q_ltE, ↓if_pos, ↓if_neg, ↓q_bdE q1, ↓q_bdE q2, ↓q_bd2E q3]
  · rw [if_neg c] at q1 ⊢
    refine ⟨I, ?_, w_Q.rf⟩
    simp (disch := (first | trivial | assumption | omega | (refine r_iE ?_ ?_ <;> omega) | (refine r_lE ?_ ?_ <;> omega) | fail)) only [↓q_gdT, ↓q_ltE, ↓if_pos, ↓if_neg, ↓q_bdE q1]
/-- the best set of a size -/
def z_bs (A : q_A) (k : Int) : Nat → Int × Int
  | 0 => (-1, -1)
  | i + 1 => if z_bc ((i : Int) + 1) = k then (if z_corr A (z_bit ((i : Int) + 1)) ≤ (z_bs A k i).2 then z_bs A k i else ((i : Int) + 1, z_corr A (z_bit ((i : Int) + 1)))) else z_bs A k i
theorem z_bsB {A : q_A} (hB : z_B A) (k : Int) : ∀ i, -1 ≤ (z_bs A k i).2 ∧ (z_bs A k i).2 ≤ 64
  | 0 => by simp [z_bs]
  | i + 1 => by
    have h1 := z_bsB hB k i
    have h2 := z_corrB hB (z_bit ((i : Int) + 1))
    unfold z_bs
    split
    · split
      · exact h1
      · show -1 ≤ z_corr A (z_bit ((i : Int) + 1)) ∧ _
        omega
    · exact h1
def o_bestSubset (A : q_A) (a : Int) : Int := if 1 ≤ a ∧ a ≤ A 0 1 then (z_bs A a (q_shl 1 (A 0 1) - 1).toNat).1 else -3
theorem g_bestSubset {x : Nat} {S : q_S} {R : q_HR} {I : q_HI} {A : q_A} {a : Int} (hS : w_Sh x S R) (hB : z_B A) (hC : w_C x S R I A) (ha : r_i a) : ∃ I', f_X9_bestSubset S R I x a = some (o_bestSubset A a, I') ∧ w_Q x I I' := by
  have h1 := hB.1
  have hp := z_shlB hB.1
  have e6 := hC.1.1
  have q1 := e_isWithin (a := a) (b := 1) (c := A 0 1) ha (r_iE (by omega) (by omega)) (r_iE (by omega) (by omega))
  unfold f_X9_bestSubset o_bestSubset
  simp only [k_0 hS, r_0_0 hS, k_1 hS, e6]
  by_cases c : 1 ≤ a ∧ a ≤ A 0 1
  · rw [if_pos c] at q1 ⊢
    obtain ⟨I2, q2, Q2, p2⟩ := e_prepare hS hB hC
    have hC2 := hC.q Q2
    simp (disch := (first | trivial | assumption | omega | (refine r_iE ?_ ?_ <;> omega) | (refine r_lE ?_ ?_ <;> omega) | fail)) only [↓q_gdT, ↓q_ltE, ↓if_pos, ↓if_neg, ↓q_bdE q1, ↓q_bdE q2]
    have key := z_loopR (σ := Int × Int × Int × q_HI) (fun n s => f_X9_bestSubset_L29 S R x a (fun w25 w26 w27 I28 => some (w25, I28)) n s.1 s.2.1 s.2.2.1 s.2.2.2) (fun i s => s.1 = (z_bs A a i).1 ∧ s.2.1 = (z_bs A a i).2 ∧ s.2.2.1 = (i : Int) + 1 ∧ w_Q x I2 s.2.2.2 ∧ ∃ t, w_pr x s.2.2.2 A t) (q_shl 1 (A 0 1) - 1).toNat (fun s => some (s.1, s.2.2.2)) (fun n i s hi hP => ?_) (fun n s hP => ?_) 100 0 (-1, -1, 1, I2) (by omega) (by omega) ⟨rfl, rfl, rfl, w_Q.rf, _, p2⟩
    · obtain ⟨s', ⟨g1, g2, g3, g4, g5⟩, g6⟩ := key
      refine ⟨s'.2.2.2, ?_, Q2.tr g4⟩
      rw [← g1]
      exact g6
    · obtain ⟨v2, v3, v4, J⟩ := s
      obtain ⟨g1, g2, g3, g4, t, g5⟩ := hP
      dsimp only at g1 g2 g3 g4 g5
      subst g1 g2 g3
      show ∃ s' : Int × Int × Int × q_HI, _ ∧ f_X9_bestSubset_L29 _ _ _ _ _ (n + 1) _ _ _ _ = _
      rw [f_X9_bestSubset_L29]
      have hCJ := hC2.q g4
      have e6' := hCJ.1.1
      have q3 : f_J6_bitCount_0f7a4 ((i : Int) + 1) = some (z_bc ((i : Int) + 1)) := e_bitCount ⟨i + 1, by omega⟩
      have b1 := z_bcB ((i : Int) + 1)
      have b2 := z_bsB hB a i
      have b3 := z_corrB hB (z_bit ((i : Int) + 1))
      have es : z_bs A a (i + 1) = if z_bc ((i : Int) + 1) = a then (if z_corr A (z_bit ((i : Int) + 1)) ≤ (z_bs A a i).2 then z_bs A a i else ((i : Int) + 1, z_corr A (z_bit ((i : Int) + 1)))) else z_bs A a i := rfl
      simp only [k_0 hS, r_0_0 hS, k_1 hS, e6']
      by_cases c1 : z_bc ((i : Int) + 1) = a
      · rw [if_pos c1] at es
        obtain ⟨J2, q4, Q4, p4⟩ := e_countCorrect (set := (i : Int) + 1) hS hB hCJ g5
        by_cases c2 : z_corr A (z_bit ((i : Int) + 1)) ≤ (z_bs A a i).2
        · rw [if_pos c2] at es
          refine ⟨((z_bs A a i).1, (z_bs A a i).2, ((i : Int) + 1) + 1, J2), ⟨by rw [es], by rw [es], by dsimp only; omega, g4.tr Q4, _, p4⟩, ?_⟩
          simp (disch := (first | trivial | assumption | omega | (refine r_iE ?_ ?_ <;> omega) | (refine r_lE ?_ ?_ <;> omega) | fail)) only [↓q_gdT, ↓q_ltE, ↓if_pos, ↓if_neg, ↓q_bdE q3, ↓q_bd2E q4]
        · rw [if_neg c2] at es
          refine ⟨((i : Int) + 1, z_corr A (z_bit ((i : Int) + 1)), ((i : Int) + 1) + 1, J2), ⟨by rw [es], by rw [es], by dsimp only; omega, g4.tr Q4, _, p4⟩, ?_⟩
          simp (disch := (first | trivial | assumption | omega | (refine r_iE ?_ ?_ <;> omega) | (refine r_lE ?_ ?_ <;> omega) | fail)) only [↓q_gdT, ↓q_ltE, ↓if_pos, ↓if_neg, ↓q_bdE q3, ↓q_bd2E q4]
      · rw [if_neg c1] at es
        refine ⟨((z_bs A a i).1, (z_bs A a i).2, ((i : Int) + 1) + 1, J), ⟨by rw [es], by rw [es], by dsimp only; omega, g4, _, g5⟩, ?_⟩
        simp (disch := (first | trivial | assumption | omega | (refine r_iE ?_ ?_ <;> omega) | (refine r_lE ?_ ?_ <;> omega) | fail)) only [↓q_gdT, ↓q_ltE, ↓if_pos, ↓if_neg, ↓q_bdE q3]
    · obtain ⟨v2, v3, v4, J⟩ := s
      obtain ⟨g1, g2, g3, g4, t, g5⟩ := hP
      dsimp only at g1 g2 g3 g4 g5
      subst g3
      show f_X9_bestSubset_L29 _ _ _ _ _ (n + 1) _ _ _ _ = _
      rw [f_X9_bestSubset_L29]
      have e6' := (hC2.q g4).1.1
      simp only [k_0 hS, r_0_0 hS, k_1 hS, e6']
      simp (disch := (first | trivial | assumption | omega | (refine r_iE ?_ ?_ <;> omega) | (refine r_lE ?_ ?_ <;> omega) | fail)) only [↓q_gdT, ↓q_ltE, ↓if_pos, ↓if_neg]
  · rw [if_neg c] at q1 ⊢
    refine ⟨I, ?_, w_Q.rf⟩
    simp (disch := (first | trivial | assumption | omega | (refine r_iE ?_ ?_ <;> omega) | (refine r_lE ?_ ?_ <;> omega) | fail)) only [↓q_gdT, ↓q_ltE, ↓if_pos, ↓if_neg, ↓q_bdE q1]
/-- the sensor whose loss costs least -/
def z_lu (A : q_A) : Nat → Int × Int
  | 0 => (-1, -1)
  | i + 1 => if z_corr A (z_bit (z_alb (i : Int))) ≤ (z_lu A i).2 then z_lu A i else ((i : Int), z_corr A (z_bit (z_alb (i : Int))))
theorem z_luB {A : q_A} (hB : z_B A) : ∀ i, -1 ≤ (z_lu A i).2 ∧ (z_lu A i).2 ≤ 64
  | 0 => by simp [z_lu]
  | i + 1 => by
    have h1 := z_luB hB i
    have h2 := z_corrB hB (z_bit (z_alb (i : Int)))
    unfold z_lu
    split
    · exact h1
    · show -1 ≤ z_corr A (z_bit (z_alb (i : Int))) ∧ _
      omega
def o_leastUseful (A : q_A) : Int := (z_lu A (A 0 1).toNat).1
theorem g_leastUseful {x : Nat} {S : q_S} {R : q_HR} {I : q_HI} {A : q_A} (hS : w_Sh x S R) (hB : z_B A) (hC : w_C x S R I A) : ∃ I', f_X9_leastUsefulSensor S R I x = some (o_leastUseful A, I') ∧ w_Q x I I' := by
  have h1 := hB.1
  obtain ⟨I2, q2, Q2, p2⟩ := e_prepare hS hB hC
  have hC2 := hC.q Q2
  unfold f_X9_leastUsefulSensor o_leastUseful
  simp only [k_0 hS]
  simp (disch := (first | trivial | assumption | omega | (refine r_iE ?_ ?_ <;> omega) | (refine r_lE ?_ ?_ <;> omega) | fail)) only [↓q_gdT, ↓q_ltE, ↓if_pos, ↓if_neg, ↓q_bdE q2]
  have key := z_loopR (σ := Int × Int × Int × q_HI) (fun n s => f_X9_leastUsefulSensor_L10 S R x (fun w17 w18 w19 I20 => some (w17, I20)) n s.1 s.2.1 s.2.2.1 s.2.2.2) (fun i s => s.1 = (z_lu A i).1 ∧ s.2.1 = (z_lu A i).2 ∧ s.2.2.1 = (i : Int) ∧ w_Q x I2 s.2.2.2 ∧ ∃ t, w_pr x s.2.2.2 A t) (A 0 1).toNat (fun s => some (s.1, s.2.2.2)) (fun n i s hi hP => ?_) (fun n s hP => ?_) 100 0 (-1, -1, 0, I2) (by omega) (by omega) ⟨rfl, rfl, rfl, w_Q.rf, _, p2⟩
  · obtain ⟨s', ⟨g1, g2, g3, g4, g5⟩, g6⟩ := key
    refine ⟨s'.2.2.2, ?_, Q2.tr g4⟩
    rw [← g1]
    exact g6
  · obtain ⟨v2, v3, v4, J⟩ := s
    obtain ⟨g1, g2, g3, g4, t, g5⟩ := hP
    dsimp only at g1 g2 g3 g4 g5
    subst g1 g2 g3
    show ∃ s' : Int × Int × Int × q_HI, _ ∧ f_X9_leastUsefulSensor_L10 _ _ _ _ (n + 1) _ _ _ _ = _
    rw [f_X9_leastUsefulSensor_L10]
    have hCJ := hC2.q g4
    have e6' := hCJ.1.1
    have b2 := z_luB hB i
    have b3 := z_corrB hB (z_bit (z_alb (i : Int)))
    have es : z_lu A (i + 1) = if z_corr A (z_bit (z_alb (i : Int))) ≤ (z_lu A i).2 then z_lu A i else ((i : Int), z_corr A (z_bit (z_alb (i : Int)))) := rfl
    simp only [k_0 hS, r_0_0 hS, k_1 hS, e6']
    have q3 := e_allBut (i : Int)
    obtain ⟨J2, q4, Q4, p4⟩ := e_countCorrect (set := z_alb (i : Int)) hS hB hCJ g5
    by_cases c2 : z_corr A (z_bit (z_alb (i : Int))) ≤ (z_lu A i).2
    · rw [if_pos c2] at es
      refine ⟨((z_lu A i).1, (z_lu A i).2, (i : Int) + 1, J2), ⟨by rw [es], by rw [es], by dsimp only; omega, g4.tr Q4, _, p4⟩, ?_⟩
      simp (disch := (first | trivial | assumption | omega | (refine r_iE ?_ ?_ <;> omega) | (refine r_lE ?_ ?_ <;> omega) | fail)) only [↓q_gdT, ↓q_ltE, ↓if_pos, ↓if_neg, ↓q_bdE q3, ↓q_bd2E q4]
    · rw [if_neg c2] at es
      refine ⟨((i : Int), z_corr A (z_bit (z_alb (i : Int))), (i : Int) + 1, J2), ⟨by rw [es], by rw [es], by dsimp only; omega, g4.tr Q4, _, p4⟩, ?_⟩
      simp (disch := (first | trivial | assumption | omega | (refine r_iE ?_ ?_ <;> omega) | (refine r_lE ?_ ?_ <;> omega) | fail)) only [↓q_gdT, ↓q_ltE, ↓if_pos, ↓if_neg, ↓q_bdE q3, ↓q_bd2E q4]
  · obtain ⟨v2, v3, v4, J⟩ := s
    obtain ⟨g1, g2, g3, g4, t, g5⟩ := hP
    dsimp only at g1 g2 g3 g4 g5
    subst g3
    show f_X9_leastUsefulSensor_L10 _ _ _ _ (n + 1) _ _ _ _ = _
    rw [f_X9_leastUsefulSensor_L10]
    have e6' := (hC2.q g4).1.1
    simp only [k_0 hS, r_0_0 hS, k_1 hS, e6']
    simp (disch := (first | trivial | assumption | omega | (refine r_iE ?_ ?_ <;> omega) | (refine r_lE ?_ ?_ <;> omega) | fail)) only [↓q_gdT, ↓q_ltE, ↓if_pos, ↓if_neg]
