/-! THE CLASS: the suspect sensor -/
theorem e_aimP {x : Nat} {S : q_S} {R : q_HR} {I : q_HI} {A : q_A} {t : Nat → Bool} (set : Int) (hS : w_Sh x S R) (hB : z_B A) (hC : w_C x S R I A) (hp : w_pr x I A t) : ∃ I', f_X6_aim S R I (x + 29) (x + 9) set = some I' ∧ w_Q x I I' ∧ w_pr x I' A (z_bit set) := by
  obtain ⟨I', q1, f1, m1⟩ := e_aim (set := set) hS hB hC.1.2.2.2.2.2.2.1 hp.2.1
  have Q1 : w_Q x I I' := fun a j h => by
    rw [f1 a (fun q => h (by unfold w_sc; omega)) (fun q => h (by unfold w_sc; omega)) (fun q => h (by unfold w_sc; omega))]
  refine ⟨I', q1, Q1, ?_⟩
  have hn := hB.2.2.1
  have en : (z_nr A : Int) = A 0 3 := by unfold z_nr; omega
  obtain ⟨p1, p2, p3, p4, p5, p6⟩ := hp
  refine ⟨fun h7 s hs => by rw [f1 _ (by omega) (by omega) (by omega)]; exact p1 h7 s hs, fun s hs => by rw [f1 _ (by omega) (by omega) (by omega)]; exact p2 s hs, by rw [f1 _ (by omega) (by omega) (by omega)]; exact p3, p4.fr (fun k hk => f1 _ (by omega) (by omega) (by omega)), m1, fun c hc => ?_⟩
  obtain ⟨g1, g2, g3⟩ := p6 c hc
  have hn8 := hB.ns hc
  exact ⟨fun k hk s hs => by rw [f1 _ (by omega) (by omega) (by omega)]; exact g1 k hk s hs, fun s hs => by rw [f1 _ (by omega) (by omega) (by omega)]; exact g2 s hs, by rw [f1 _ (by omega) (by omega) (by omega)]; exact g3⟩
theorem z_nstN {d : Nat → Int} : ∀ {n : Nat}, (z_nst d n).1 = -1 ↔ ∀ c, c < n → d c = -1
  | 0 => ⟨fun _ c hc => absurd hc (by omega), fun _ => rfl⟩
  | n + 1 => by
    have ih := z_nstN (d := d) (n := n)
    unfold z_nst
    constructor
    · intro h c hc
      split at h
      · next hq =>
        by_cases e : c = n
        · subst e
          rcases hq with q | q
          · exact q
          · exact absurd h q.1
        · exact ih.1 h c (by omega)
      · exact absurd h (by show ¬ ((n : Int) = -1); omega)
    · intro h
      rw [if_pos (Or.inl (h n (by omega)))]
      exact ih.2 (fun c hc => h c (by omega))
theorem z_n1N {A : q_A} (hB : z_B A) (t : Nat → Bool) : (z_n1 A t (-1)).1 = -1 ↔ ∀ c, c < z_nk A → A 4 c ≤ 0 := by
  refine z_nstN.trans ⟨fun h c hc => ?_, fun h c hc => ?_⟩
  · have := h c hc
    rw [if_neg (by omega)] at this
    exact (z_dpB hB t 0 hc).2.2.1 this
  · show (if (c : Int) = -1 then -1 else z_dp A t 0 c) = -1
    rw [if_neg (by omega)]
    exact (z_dpB hB t 0 hc).2.2.2 (h c hc)
def z_su (A : q_A) : Nat → Int × Int
  | 0 => (-1, 0)
  | i + 1 => if (z_su A i).1 ≠ -1 ∧ (z_su A i).2 ≤ (z_n1 A (z_bit (z_alb (i : Int))) (-1)).2 then z_su A i else ((i : Int), (z_n1 A (z_bit (z_alb (i : Int))) (-1)).2)
theorem z_suB {A : q_A} (hB : z_B A) : ∀ i, (-1 ≤ (z_su A i).1 ∧ (z_su A i).1 < i) ∧ 0 ≤ (z_su A i).2 ∧ (z_su A i).2 ≤ 320000000
  | 0 => by simp [z_su]
  | i + 1 => by
    have h1 := z_suB hB i
    have h2 := z_n1B hB (z_bit (z_alb (i : Int))) (-1)
    unfold z_su
    split
    · exact ⟨by omega, h1.2⟩
    · exact ⟨by show -1 ≤ (i : Int) ∧ (i : Int) < ((i + 1 : Nat) : Int); omega, h2.2.1⟩
def o_suspect (A : q_A) : Int := if A 0 7 = 0 then -5 else if (z_n1 A z_t (-1)).1 = -1 then -1 else (z_su A (A 0 1).toNat).1
theorem g_suspect {x : Nat} {S : q_S} {R : q_HR} {I : q_HI} {A : q_A} (hS : w_Sh x S R) (hB : z_B A) (hC : w_C x S R I A) : ∃ I', f_X9_suspectSensor S R I x = some (o_suspect A, I') ∧ w_Q x I I' := by
  have h1 := hB.1
  have hk := hB.nk
  have h7 := hB.2.2.2.2.2.2.1
  have e9 := hC.1.2.2.1
  unfold f_X9_suspectSensor o_suspect
  simp only [k_0 hS, e9]
  by_cases c7 : A 0 7 = 0
  · rw [if_pos c7]
    refine ⟨I, ?_, w_Q.rf⟩
    simp (disch := (first | trivial | assumption | omega | (refine r_iE ?_ ?_ <;> omega) | (refine r_lE ?_ ?_ <;> omega) | fail)) only [↓q_gdT, ↓q_ltE, ↓if_pos, ↓if_neg]
  rw [if_neg c7]
  have c7' : A 0 7 = 1 := by omega
  obtain ⟨I2, q2, Q2, p2⟩ := e_prepare hS hB hC
  have hC2 := hC.q Q2
  simp (disch := (first | trivial | assumption | omega | (refine r_iE ?_ ?_ <;> omega) | (refine r_lE ?_ ?_ <;> omega) | fail)) only [↓q_gdT, ↓q_ltE, ↓if_pos, ↓if_neg, ↓q_bdE q2]
  by_cases cn : (z_n1 A z_t (-1)).1 = -1
  · rw [if_pos cn]
    have cn' := (z_n1N hB z_t).1 cn
    have cn2 := (z_n1N hB (z_bit (z_alb 0))).2 cn'
    obtain ⟨J2, q4, Q4, p4⟩ := e_aimP (z_alb 0) hS hB hC2 p2
    have q5 := e_near (skip := -1) hS hB (hC2.q Q4) p4 c7' (r_iE (by omega) (by omega))
    rw [cn2] at q5
    have q3 := e_allBut 0
    have e6 := hC2.1.1
    refine ⟨J2, ?_, Q2.tr Q4⟩
    rw [f_X9_suspectSensor_L20]
    simp only [k_0 hS, r_0_0 hS, k_1 hS, e6, r_0_2 hS, k_29 hS, r_0_1 hS, k_9 hS, r_0_7 hS, k_50 hS]
    simp (disch := (first | trivial | assumption | omega | (refine r_iE ?_ ?_ <;> omega) | (refine r_lE ?_ ?_ <;> omega) | fail)) only [↓q_gdT, ↓q_ltE, ↓if_pos, ↓if_neg, ↓q_bdE q3, ↓q_bdE q4, ↓q_bdE q5]
  · rw [if_neg cn]
    have key := z_loopR (σ := Int × Int × Int × q_HI) (fun n s => f_X9_suspectSensor_L20 S R x (fun w29 w30 w31 I32 => some (w29, I32)) n s.1 s.2.1 s.2.2.1 s.2.2.2) (fun i s => s.1 = (z_su A i).1 ∧ s.2.1 = (z_su A i).2 ∧ s.2.2.1 = (i : Int) ∧ w_Q x I2 s.2.2.2 ∧ ∃ t, w_pr x s.2.2.2 A t) (A 0 1).toNat (fun s => some (s.1, s.2.2.2)) (fun n i s hi hP => ?_) (fun n s hP => ?_) 100 0 (-1, 0, 0, I2) (by omega) (by omega) ⟨rfl, rfl, rfl, w_Q.rf, _, p2⟩
    · obtain ⟨s', ⟨g1, g2, g3, g4, g5⟩, g6⟩ := key
      refine ⟨s'.2.2.2, ?_, Q2.tr g4⟩
      rw [← g1]
      exact g6
    · obtain ⟨v2, v3, v4, J⟩ := s
      obtain ⟨g1, g2, g3, g4, t, g5⟩ := hP
      dsimp only at g1 g2 g3 g4 g5
      subst g1 g2 g3
      show ∃ s' : Int × Int × Int × q_HI, _ ∧ f_X9_suspectSensor_L20 _ _ _ _ (n + 1) _ _ _ _ = _
      rw [f_X9_suspectSensor_L20]
      have hCJ := hC2.q g4
      have e6' := hCJ.1.1
      have q3 := e_allBut (i : Int)
      obtain ⟨J2, q4, Q4, p4⟩ := e_aimP (z_alb (i : Int)) hS hB hCJ g5
      have hC4 := hCJ.q Q4
      have q5 := e_near (skip := -1) hS hB hC4 p4 c7' (r_iE (by omega) (by omega))
      obtain ⟨n1, n2, n3⟩ := z_n1B hB (z_bit (z_alb (i : Int))) (-1)
      have nn : (z_n1 A (z_bit (z_alb (i : Int))) (-1)).1 ≠ -1 := fun q => cn ((z_n1N hB z_t).2 ((z_n1N hB _).1 q))
      obtain ⟨n4, n5⟩ := n3 nn
      have b2 := z_suB hB i
      have es : z_su A (i + 1) = if (z_su A i).1 ≠ -1 ∧ (z_su A i).2 ≤ (z_n1 A (z_bit (z_alb (i : Int))) (-1)).2 then z_su A i else ((i : Int), (z_n1 A (z_bit (z_alb (i : Int))) (-1)).2) := rfl
      generalize z_n1 A (z_bit (z_alb (i : Int))) (-1) = z at *
      obtain ⟨m, d⟩ := z
      dsimp only at *
      obtain ⟨k, rfl⟩ : ∃ k : Nat, m = (k : Int) := ⟨m.toNat, by omega⟩
      rw [Int.toNat_natCast] at n4 n5
      have q6 := e_gapH hS hB p4 c7' (show k < z_nk A by omega)
      rw [← n5] at q6
      simp only [k_0 hS, r_0_0 hS, k_1 hS, e6', r_0_2 hS, k_29 hS, r_0_1 hS, k_9 hS, r_0_7 hS, k_50 hS]
      by_cases c1 : (z_su A i).1 = -1
      · rw [if_neg (by omega)] at es
        refine ⟨((i : Int), d, (i : Int) + 1, J2), ⟨by rw [es], by rw [es], by dsimp only; omega, g4.tr Q4, _, p4⟩, ?_⟩
        simp (disch := (first | trivial | assumption | omega | (refine r_iE ?_ ?_ <;> omega) | (refine r_lE ?_ ?_ <;> omega) | fail)) only [↓q_gdT, ↓q_ltE, ↓if_pos, ↓if_neg, ↓q_bdE q3, ↓q_bdE q4, ↓q_bdE q5, ↓q_bdE q6]
      · by_cases c2 : (z_su A i).2 ≤ d
        · rw [if_pos ⟨c1, c2⟩] at es
          refine ⟨((z_su A i).1, (z_su A i).2, (i : Int) + 1, J2), ⟨by rw [es], by rw [es], by dsimp only; omega, g4.tr Q4, _, p4⟩, ?_⟩
          simp (disch := (first | trivial | assumption | omega | (refine r_iE ?_ ?_ <;> omega) | (refine r_lE ?_ ?_ <;> omega) | fail)) only [↓q_gdT, ↓q_ltE, ↓if_pos, ↓if_neg, ↓q_bdE q3, ↓q_bdE q4, ↓q_bdE q5, ↓q_bdE q6]
        · rw [if_neg (by omega)] at es
          refine ⟨((i : Int), d, (i : Int) + 1, J2), ⟨by rw [es], by rw [es], by dsimp only; omega, g4.tr Q4, _, p4⟩, ?_⟩
          simp (disch := (first | trivial | assumption | omega | (refine r_iE ?_ ?_ <;> omega) | (refine r_lE ?_ ?_ <;> omega) | fail)) only [↓q_gdT, ↓q_ltE, ↓if_pos, ↓if_neg, ↓q_bdE q3, ↓q_bdE q4, ↓q_bdE q5, ↓q_bdE q6]
    · obtain ⟨v2, v3, v4, J⟩ := s
      obtain ⟨g1, g2, g3, g4, t, g5⟩ := hP
      dsimp only at g1 g2 g3 g4 g5
      subst g3
      show f_X9_suspectSensor_L20 _ _ _ _ (n + 1) _ _ _ _ = _
      rw [f_X9_suspectSensor_L20]
      have e6' := (hC2.q g4).1.1
      simp only [k_0 hS, r_0_0 hS, k_1 hS, e6']
      simp (disch := (first | trivial | assumption | omega | (refine r_iE ?_ ?_ <;> omega) | (refine r_lE ?_ ?_ <;> omega) | fail)) only [↓q_gdT, ↓q_ltE, ↓if_pos, ↓if_neg]
