/-! THE REFERENCE: radii, classes, tests -/
theorem m_radiusOf {x : Nat} {S : q_S} {R : q_HR} {I : q_HI} {A : q_A} {t : Nat → Bool} {c : Nat} (hS : w_Sh x S R) (hB : z_B A) (hL : w_L x I A t) (hc : c < z_nk A) (h0 : A 4 c ≠ 0) : ∃ J, f_X10_radiusOf S R I (x + 171) (c : Int) = some (z_reach A t c, J) ∧ ∀ a, a ≠ x + 179 → J a = I a := by
  have hk := hB.nk
  have hn := hB.ns hc
  have h5 := hB.2.2.2.2.1
  have h6 := hB.2.2.2.2.2.1
  obtain ⟨b1, b2, b3, b4⟩ := z_fsB hB t hc
  obtain ⟨b5, b6, b7⟩ := b3 (by omega)
  obtain ⟨J, q1, f1⟩ := m_farthest hS hB hL hc h0
  obtain ⟨k, hkk⟩ : ∃ k : Nat, (z_fs A t c).1 = (k : Int) := ⟨(z_fs A t c).1.toNat, by omega⟩
  rw [hkk, Int.toNat_natCast] at b6
  rw [hkk] at q1 b1
  have hL1 := hL.u (w_U.of f1)
  obtain ⟨J2, q2, f2⟩ := m_farFrom (p := 23 + 8 * c + k) (c := c) hS hB hL1 (Or.inr (Or.inr ⟨c, k, hc, by omega, rfl⟩)) (by omega) hc
  rw [← b6, show ((23 + 8 * c + k : Nat) : Int) = 23 + 8 * (c : Int) + (k : Int) by omega] at q2
  have hL2 := hL1.u (w_U.of f2)
  have p2 := m_placeOf (c : Int) (k : Int)
  have mb := z_mul0 (M := 500) (N := 320000000) (a := 100 + A 0 5) (b := (z_fs A t c).2) (by omega) (by omega)
  have ed : Int.tdiv ((100 + A 0 5) * (z_fs A t c).2) 100 = (100 + A 0 5) * (z_fs A t c).2 / 100 := Int.tdiv_eq_ediv_of_nonneg (by omega)
  refine ⟨J2, ?_, fun a ha => (f2 a ha).trans (f1 a ha)⟩
  unfold f_X10_radiusOf z_reach
  rw [if_neg (show ¬ z_ns A c = 0 by omega)]
  simp only [k_171 hS, hL.1.f5]
  simp (disch := (first | trivial | assumption | omega | (refine r_iE ?_ ?_ <;> omega) | (refine r_lE ?_ ?_ <;> omega) | fail)) only [↓q_gdT, ↓q_ltE, ↓if_pos, ↓if_neg, ↓q_bd2E q1, ↓q_bdE p2, ↓q_bd2E q2, hL2.1.f6, ed]
theorem h_radius {x : Nat} {S : q_S} {R : q_HR} {I : q_HI} {A : q_A} {a : Int} (hS : w_Sh x S R) (hB : z_B A) (hD : w_D x I A) (ha : r_i a) : ∃ I', f_X10_radius S R I (x + 171) a = some (o_radius A a, I') ∧ w_T x I I' := by
  have hk := hB.nk
  have q1 := m_isClass hS hB hD.z ha
  unfold f_X10_radius o_radius
  simp only [k_171 hS, q_ltE, r_171_13 hS, k_175 hS, n_175 hS, hD.z.d4]
  by_cases c : 0 ≤ a ∧ a < A 0 4
  · rw [if_pos c] at q1 ⊢
    obtain ⟨k, rfl⟩ : ∃ k : Nat, a = (k : Int) := ⟨a.toNat, by omega⟩
    have hkk : k < z_nk A := by omega
    have hn := hB.ns hkk
    simp only [Int.toNat_natCast]
    by_cases c0 : A 4 k = 0
    · refine ⟨q_up I (x + 171) 0 0, ?_, w_T.z⟩
      unfold z_reach
      rw [if_pos (show z_ns A k = 0 by omega)]
      simp (disch := (first | trivial | assumption | omega | (refine r_iE ?_ ?_ <;> omega) | (refine r_lE ?_ ?_ <;> omega) | fail)) only [↓q_gdT, ↓q_ltE, ↓if_pos, ↓if_neg, ↓q_bdE q1]
    · obtain ⟨J, q2, T2, L2⟩ := m_lays0 hS hB hD.z
      obtain ⟨J3, q3, f3⟩ := m_radiusOf hS hB L2 hkk c0
      refine ⟨J3, ?_, (w_T.z.tr T2).tr (w_U.of f3).t⟩
      simp (disch := (first | trivial | assumption | omega | (refine r_iE ?_ ?_ <;> omega) | (refine r_lE ?_ ?_ <;> omega) | fail)) only [↓q_gdT, ↓q_ltE, ↓if_pos, ↓if_neg, ↓q_bdE q1, ↓q_bdE q2, ↓q_bd2E q3]
  · rw [if_neg c] at q1 ⊢
    refine ⟨q_up I (x + 171) 0 0, ?_, w_T.z⟩
    simp (disch := (first | trivial | assumption | omega | (refine r_iE ?_ ?_ <;> omega) | (refine r_lE ?_ ?_ <;> omega) | fail)) only [↓q_gdT, ↓q_ltE, ↓if_pos, ↓if_neg, ↓q_bdE q1]
theorem h_outlier {x : Nat} {S : q_S} {R : q_HR} {I : q_HI} {A : q_A} {a : Int} (hS : w_Sh x S R) (hB : z_B A) (hD : w_D x I A) (ha : r_i a) : ∃ I', f_X10_outlier S R I (x + 171) a = some (o_outlier A a, I') ∧ w_T x I I' := by
  have hk := hB.nk
  have q1 := m_isClass hS hB hD.z ha
  unfold f_X10_outlier o_outlier
  simp only [k_171 hS, q_ltE, r_171_13 hS, k_175 hS, n_175 hS, hD.z.d4]
  by_cases c : 0 ≤ a ∧ a < A 0 4
  · rw [if_pos c] at q1 ⊢
    obtain ⟨k, rfl⟩ : ∃ k : Nat, a = (k : Int) := ⟨a.toNat, by omega⟩
    have hkk : k < z_nk A := by omega
    have hn := hB.ns hkk
    simp only [Int.toNat_natCast]
    by_cases c0 : A 4 k = 0
    · refine ⟨q_up I (x + 171) 0 0, ?_, w_T.z⟩
      rw [(z_fsB hB z_t hkk).2.2.2 (by omega)]
      simp (disch := (first | trivial | assumption | omega | (refine r_iE ?_ ?_ <;> omega) | (refine r_lE ?_ ?_ <;> omega) | fail)) only [↓q_gdT, ↓q_ltE, ↓if_pos, ↓if_neg, ↓q_bdE q1]
    · obtain ⟨J, q2, T2, L2⟩ := m_lays0 hS hB hD.z
      obtain ⟨J3, q3, f3⟩ := m_farthest hS hB L2 hkk c0
      refine ⟨J3, ?_, (w_T.z.tr T2).tr (w_U.of f3).t⟩
      simp (disch := (first | trivial | assumption | omega | (refine r_iE ?_ ?_ <;> omega) | (refine r_lE ?_ ?_ <;> omega) | fail)) only [↓q_gdT, ↓q_ltE, ↓if_pos, ↓if_neg, ↓q_bdE q1, ↓q_bdE q2, ↓q_bd2E q3]
  · rw [if_neg c] at q1 ⊢
    refine ⟨q_up I (x + 171) 0 0, ?_, w_T.z⟩
    simp (disch := (first | trivial | assumption | omega | (refine r_iE ?_ ?_ <;> omega) | (refine r_lE ?_ ?_ <;> omega) | fail)) only [↓q_gdT, ↓q_ltE, ↓if_pos, ↓if_neg, ↓q_bdE q1]
theorem h_classify {x : Nat} {S : q_S} {R : q_HR} {I : q_HI} {A : q_A} (hS : w_Sh x S R) (hB : z_B A) (hD : w_D x I A) : ∃ I', f_X10_classify S R I (x + 171) = some (o_classify A, I') ∧ w_T x I I' := by
  have h7 := hB.2.2.2.2.2.2.1
  have hk := hB.nk
  unfold f_X10_classify o_classify
  simp only [k_171 hS, q_ltE, hD.z.f7]
  by_cases c7 : A 0 7 = 0
  · simp only [if_pos c7]
    refine ⟨q_up I (x + 171) 0 0, ?_, w_T.z⟩
    simp (disch := (first | trivial | assumption | omega | (refine r_iE ?_ ?_ <;> omega) | (refine r_lE ?_ ?_ <;> omega) | fail)) only [↓q_gdT, ↓q_ltE, ↓if_pos, ↓if_neg]
  · simp only [if_neg c7]
    obtain ⟨n1, n2, n3⟩ := z_n1B hB z_t (-1)
    obtain ⟨J, q2, T2, L2⟩ := m_lays0 hS hB hD.z
    obtain ⟨J3, q3, f3⟩ := m_near (ex := -1) hS hB L2 (by omega) (r_iE (by omega) (by omega))
    by_cases c1 : (z_n1 A z_t (-1)).1 = -1
    · refine ⟨J3, ?_, (w_T.z.tr T2).tr (w_U.of f3).t⟩
      rw [if_pos c1]
      simp (disch := (first | trivial | assumption | omega | (refine r_iE ?_ ?_ <;> omega) | (refine r_lE ?_ ?_ <;> omega) | fail)) only [↓q_gdT, ↓q_ltE, ↓if_pos, ↓if_neg, ↓q_bdE q2, ↓q_bd2E q3]
    · rw [if_neg c1]
      obtain ⟨n4, n5⟩ := n3 c1
      obtain ⟨c, hc⟩ : ∃ c : Nat, (z_n1 A z_t (-1)).1 = (c : Int) := ⟨(z_n1 A z_t (-1)).1.toNat, by omega⟩
      rw [hc] at q3 n1
      rw [hc, Int.toNat_natCast] at n4 n5
      rw [hc, Int.toNat_natCast, n5]
      have hck : c < z_nk A := by omega
      have dp := z_dpB hB z_t 0 hck
      have rb := z_reachB hB z_t hck
      have L3 := L2.u (w_U.of f3)
      obtain ⟨J4, q4, f4⟩ := m_farFrom (p := 0) (c := c) hS hB L3 (Or.inl ⟨rfl, by omega⟩) (by omega) hck
      rw [show ((0 : Nat) : Int) = 0 from rfl] at q4
      have L4 := L3.u (w_U.of f4)
      obtain ⟨J5, q5, f5⟩ := m_radiusOf hS hB L4 hck (fun q => by have := dp.2.2.mpr (by omega); omega)
      refine ⟨J5, ?_, (((w_T.z.tr T2).tr (w_U.of f3).t).tr (w_U.of f4).t).tr (w_U.of f5).t⟩
      by_cases g : z_reach A z_t c < z_dp A z_t 0 c
      · rw [if_pos g]
        simp (disch := (first | trivial | assumption | omega | (refine r_iE ?_ ?_ <;> omega) | (refine r_lE ?_ ?_ <;> omega) | fail)) only [↓q_gdT, ↓q_ltE, ↓if_pos, ↓if_neg, ↓q_bdE q2, ↓q_bd2E q3, ↓q_bd2E q4, ↓q_bd2E q5]
      · rw [if_neg g]
        simp (disch := (first | trivial | assumption | omega | (refine r_iE ?_ ?_ <;> omega) | (refine r_lE ?_ ?_ <;> omega) | fail)) only [↓q_gdT, ↓q_ltE, ↓if_pos, ↓if_neg, ↓q_bdE q2, ↓q_bd2E q3, ↓q_bd2E q4, ↓q_bd2E q5]
/-- distances of classes -/
theorem m_between {x : Nat} {S : q_S} {R : q_HR} {I : q_HI} {A : q_A} {t : Nat → Bool} {c d : Nat} (hS : w_Sh x S R) (hB : z_B A) (hL : w_L x I A t) (hc : c < z_nk A) (hd : d < z_nk A) (hc0 : A 4 c ≠ 0) (hd0 : A 4 d ≠ 0) : ∃ J, f_X10_between S R I (x + 171) (c : Int) (d : Int) = some (z_cc A t c d, J) ∧ ∀ a, a ≠ x + 179 → J a = I a := by
  have hk := hB.nk
  have hn := hB.ns hc
  have hm := hB.ns hd
  have h1 := hB.1
  have eN : (((A 0 1).toNat : Nat) : Int) = A 0 1 := by omega
  generalize hv : (fun s => A 4 d * z_cs A c s - A 4 c * z_cs A d s) = v
  have nm := z_mul0 (M := 8) (N := 8) (a := A 4 c) (b := A 4 d) (by omega) (by omega)
  have np : 0 < A 4 c * A 4 d := Int.mul_pos (by omega) (by omega)
  refine ⟨z_row I (x + 179) (z_mk t v) (A 0 1).toNat, ?_, fun a ha => z_row_ne _ _ ha⟩
  have q2 := m_far (I := z_row I (x + 179) (z_mk t v) (A 0 1).toNat) (v := v) (n := A 4 c * A 4 d) hS hB (hL.u (w_U.of fun a ha => z_row_ne _ _ ha)) (fun s hs => z_row_at _ (by omega)) (fun s hs h => by rw [← hv]; dsimp only; rw [z_cs0 hB hc hs h, z_cs0 hB hd hs h]; simp) (by omega) (fun s hs => by
    have f1 := z_csB hB hc s
    have f2 := z_csB hB hd s
    have f3 := z_mulB (M := A 4 d) (N := 4000 * A 4 c) (a := A 4 d) (b := z_cs A c s) (by omega) f1
    have f4 := z_mulB (M := A 4 c) (N := 4000 * A 4 d) (a := A 4 c) (b := z_cs A d s) (by omega) f2
    have e1 : A 4 d * (4000 * A 4 c) = 4000 * (A 4 c * A 4 d) := by rw [Int.mul_left_comm, Int.mul_comm (A 4 d)]
    have e2 : A 4 c * (4000 * A 4 d) = 4000 * (A 4 c * A 4 d) := by rw [Int.mul_left_comm]
    rw [e1] at f3
    rw [e2] at f4
    rw [← hv]
    dsimp only
    omega)
  have ez : z_cc A t c d = z_di A t v (A 4 c * A 4 d) := by
    unfold z_cc
    rw [if_neg (by omega), hv]
  have q1 : f_X10_between_L20 S R (x + 171) (c : Int) (d : Int) (A 4 c) (A 4 d) (fun w25 I26 => q_bd (f_X10_far S R I26 (x + 171) (A 4 c * A 4 d)) fun r27 => some (r27, I26)) 100 0 I = some (z_cc A t c d, z_row I (x + 179) (z_mk t v) (A 0 1).toNat) := by
    have key := z_loop (fun N i => f_X10_between_L20 S R (x + 171) (c : Int) (d : Int) (A 4 c) (A 4 d) (fun w25 I26 => q_bd (f_X10_far S R I26 (x + 171) (A 4 c * A 4 d)) fun r27 => some (r27, I26)) N ((i : Nat) : Int) (z_row I (x + 179) (z_mk t v) i)) (A 0 1).toNat (some (z_cc A t c d, z_row I (x + 179) (z_mk t v) (A 0 1).toNat)) (fun N i hi => ?_) (fun N => ?_) 100 (by omega)
    · rw [z_row_0] at key
      exact key
    · have hLi := hL.u (J := z_row I (x + 179) (z_mk t v) i) (w_U.of fun a ha => z_row_ne _ _ ha)
      have p1 := m_sumOf (s := i) (but := -1) hS hB hLi hc (by omega) (r_iE (by omega) (by omega))
      have p2 := m_sumOf (s := i) (but := -1) hS hB hLi hd (by omega) (r_iE (by omega) (by omega))
      rw [z_soN] at p1 p2
      have em : A 4 d * z_mk t (z_cs A c) i - A 4 c * z_mk t (z_cs A d) i = z_mk t v i := by
        rw [← hv]
        unfold z_mk
        cases t i
        · simp
        · simp
      show f_X10_between_L20 _ _ _ _ _ _ _ _ (N + 1) _ _ = _
      rw [f_X10_between_L20]
      simp only [k_171 hS, hLi.1.f1, r_171_21 hS, k_179 hS, n_179 hS, Int.toNat_natCast]
      simp (disch := (first | trivial | assumption | omega | (refine r_iE ?_ ?_ <;> omega) | (refine r_lE ?_ ?_ <;> omega) | fail)) only [↓q_gdT, ↓q_ltE, ↓if_pos, ↓if_neg, ↓q_bdE p1, ↓q_bdE p2, em, z_row_up]
      rfl
    · have hLi := hL.u (J := z_row I (x + 179) (z_mk t v) (A 0 1).toNat) (w_U.of fun a ha => z_row_ne _ _ ha)
      show f_X10_between_L20 _ _ _ _ _ _ _ _ (N + 1) _ _ = _
      rw [f_X10_between_L20]
      simp only [k_171 hS, hLi.1.f1, eN]
      simp (disch := (first | trivial | assumption | omega | (refine r_iE ?_ ?_ <;> omega) | (refine r_lE ?_ ?_ <;> omega) | fail)) only [↓q_gdT, ↓q_ltE, ↓if_pos, ↓if_neg, ↓q_bdE q2, ez]
  unfold f_X10_between
  simp only [k_171 hS, r_171_13 hS, k_175 hS, n_175 hS, hL.1.d4, Int.toNat_natCast]
  simp (disch := (first | trivial | assumption | omega | (refine r_iE ?_ ?_ <;> omega) | (refine r_lE ?_ ?_ <;> omega) | fail)) only [↓q_gdT, ↓q_ltE, ↓if_pos, ↓if_neg]
  exact q1
theorem h_classDistance {x : Nat} {S : q_S} {R : q_HR} {I : q_HI} {A : q_A} {a b : Int} (hS : w_Sh x S R) (hB : z_B A) (hD : w_D x I A) (ha : r_i a) (hb : r_i b) : ∃ I', f_X10_classDistance S R I (x + 171) a b = some (o_classDistance A a b, I') ∧ w_T x I I' := by
  have hk := hB.nk
  have q1 := m_isClass hS hB hD.z ha
  have q2 := m_isClass hS hB hD.z hb
  unfold f_X10_classDistance o_classDistance
  simp only [k_171 hS, q_ltE, r_171_13 hS, k_175 hS, n_175 hS, hD.z.d4]
  by_cases c1 : 0 ≤ a ∧ a < A 0 4
  · rw [if_pos c1] at q1 ⊢
    by_cases c2 : 0 ≤ b ∧ b < A 0 4
    · rw [if_pos c2] at q2 ⊢
      obtain ⟨c, rfl⟩ : ∃ k : Nat, a = (k : Int) := ⟨a.toNat, by omega⟩
      obtain ⟨d, rfl⟩ : ∃ k : Nat, b = (k : Int) := ⟨b.toNat, by omega⟩
      simp only [Int.toNat_natCast]
      have hc : c < z_nk A := by omega
      have hd : d < z_nk A := by omega
      have hn := hB.ns hc
      have hm := hB.ns hd
      by_cases e1 : A 4 c = 0
      · refine ⟨q_up I (x + 171) 0 0, ?_, w_T.z⟩
        unfold z_cc
        rw [if_pos (show A 4 c ≤ 0 ∨ A 4 d ≤ 0 by omega)]
        simp (disch := (first | trivial | assumption | omega | (refine r_iE ?_ ?_ <;> omega) | (refine r_lE ?_ ?_ <;> omega) | fail)) only [↓q_gdT, ↓q_ltE, ↓if_pos, ↓if_neg, ↓q_bdE q1, ↓q_bdE q2]
      by_cases e2 : A 4 d = 0
      · refine ⟨q_up I (x + 171) 0 0, ?_, w_T.z⟩
        unfold z_cc
        rw [if_pos (show A 4 c ≤ 0 ∨ A 4 d ≤ 0 by omega)]
        simp (disch := (first | trivial | assumption | omega | (refine r_iE ?_ ?_ <;> omega) | (refine r_lE ?_ ?_ <;> omega) | fail)) only [↓q_gdT, ↓q_ltE, ↓if_pos, ↓if_neg, ↓q_bdE q1, ↓q_bdE q2]
      obtain ⟨J, q3, T2, L2⟩ := m_lays0 hS hB hD.z
      obtain ⟨J3, q4, f3⟩ := m_between hS hB L2 hc hd e1 e2
      refine ⟨J3, ?_, (w_T.z.tr T2).tr (w_U.of f3).t⟩
      simp (disch := (first | trivial | assumption | omega | (refine r_iE ?_ ?_ <;> omega) | (refine r_lE ?_ ?_ <;> omega) | fail)) only [↓q_gdT, ↓q_ltE, ↓if_pos, ↓if_neg, ↓q_bdE q1, ↓q_bdE q2, ↓q_bdE q3, ↓q_bd2E q4]
    · rw [if_neg c2] at q2 ⊢
      refine ⟨q_up I (x + 171) 0 0, ?_, w_T.z⟩
      simp (disch := (first | trivial | assumption | omega | (refine r_iE ?_ ?_ <;> omega) | (refine r_lE ?_ ?_ <;> omega) | fail)) only [↓q_gdT, ↓q_ltE, ↓if_pos, ↓if_neg, ↓q_bdE q1, ↓q_bdE q2]
  · rw [if_neg c1] at q1 ⊢
    refine ⟨q_up I (x + 171) 0 0, ?_, w_T.z⟩
    simp (disch := (first | trivial | assumption | omega | (refine r_iE ?_ ?_ <;> omega) | (refine r_lE ?_ ?_ <;> omega) | fail)) only [↓q_gdT, ↓q_ltE, ↓if_pos, ↓if_neg, ↓q_bdE q1]
theorem h_leaveOneOut {x : Nat} {S : q_S} {R : q_HR} {I : q_HI} {A : q_A} {a b : Int} (hS : w_Sh x S R) (hB : z_B A) (hD : w_D x I A) (ha : r_i a) (hb : r_i b) : ∃ I', f_X10_leaveOneOut S R I (x + 171) a b = some (o_leaveOneOut A a b, I') ∧ w_T x I I' := by
  have hk := hB.nk
  obtain ⟨r, q0, hr⟩ := m_isSample hS hB hD.z ha hb
  unfold f_X10_leaveOneOut o_leaveOneOut
  simp only [k_171 hS, q_ltE]
  rcases hr with ⟨rfl, hv⟩ | ⟨rfl, hv⟩
  · rw [if_neg hv]
    refine ⟨q_up I (x + 171) 0 0, ?_, w_T.z⟩
    simp (disch := (first | trivial | assumption | omega | (refine r_iE ?_ ?_ <;> omega) | (refine r_lE ?_ ?_ <;> omega) | fail)) only [↓q_gdT, ↓q_ltE, ↓if_pos, ↓if_neg, ↓q_bdE q0]
  rw [if_pos hv]
  obtain ⟨v1, v2⟩ := hv
  obtain ⟨c, rfl⟩ : ∃ c : Nat, a = (c : Int) := ⟨a.toNat, by omega⟩
  obtain ⟨k, rfl⟩ : ∃ k : Nat, b = (k : Int) := ⟨b.toNat, by omega⟩
  rw [Int.toNat_natCast] at v2
  simp only [Int.toNat_natCast]
  have hc : c < z_nk A := by omega
  have hn := hB.ns hc
  obtain ⟨J, q3, T2, L2⟩ := m_lays0 hS hB hD.z
  obtain ⟨J3, q4, f3⟩ := m_tested (k := k) hS hB L2 hc (by omega)
  refine ⟨J3, ?_, (w_T.z.tr T2).tr (w_U.of f3).t⟩
  simp (disch := (first | trivial | assumption | omega | (refine r_iE ?_ ?_ <;> omega) | (refine r_lE ?_ ?_ <;> omega) | fail)) only [↓q_gdT, ↓q_ltE, ↓if_pos, ↓if_neg, ↓q_bdE q0, ↓q_bdE q3, ↓q_bd2E q4]
theorem h_confusion {x : Nat} {S : q_S} {R : q_HR} {I : q_HI} {A : q_A} {a b : Int} (hS : w_Sh x S R) (hB : z_B A) (hD : w_D x I A) (ha : r_i a) (hb : r_i b) : ∃ I', f_X10_confusion S R I (x + 171) a b = some (o_confusion A a b, I') ∧ w_T x I I' := by
  have hk := hB.nk
  have q1 := m_isClass hS hB hD.z ha
  have q2 := m_isClass hS hB hD.z hb
  unfold f_X10_confusion o_confusion
  simp only [k_171 hS, q_ltE]
  by_cases c1 : 0 ≤ a ∧ a < A 0 4
  · rw [if_pos c1] at q1 ⊢
    by_cases c2 : 0 ≤ b ∧ b < A 0 4
    · rw [if_pos c2] at q2 ⊢
      obtain ⟨c, rfl⟩ : ∃ k : Nat, a = (k : Int) := ⟨a.toNat, by omega⟩
      simp only [Int.toNat_natCast]
      have hc : c < z_nk A := by omega
      have hn := hB.ns hc
      obtain ⟨J, q3, T2, L2⟩ := m_lays0 hS hB hD.z
      have key := z_loopR (fun n (u : Nat × q_HI) => f_X10_confusion_L34 S R (x + 171) (c : Int) b (fun w30 w31 I32 => some (w30, I32)) n (z_cnt A z_t c b u.1) ((u.1 : Nat) : Int) u.2) (fun i u => u.1 = i ∧ ∀ a, a ≠ x + 179 → u.2 a = J a) (z_ns A c) (fun u => some (z_cnt A z_t c b (z_ns A c), u.2)) ?_ ?_ 100 0 (0, J) (by omega) (by omega) ⟨rfl, fun _ _ => rfl⟩
      · obtain ⟨⟨i, J3⟩, ⟨_, f3⟩, e⟩ := key
        refine ⟨J3, ?_, (w_T.z.tr T2).tr (w_U.of f3).t⟩
        simp (disch := (first | trivial | assumption | omega | (refine r_iE ?_ ?_ <;> omega) | (refine r_lE ?_ ?_ <;> omega) | fail)) only [↓q_gdT, ↓q_ltE, ↓if_pos, ↓if_neg, ↓q_bdE q1, ↓q_bdE q2, ↓q_bdE q3]
        exact e
      · rintro n i ⟨i', J4⟩ hi ⟨rfl, hJ⟩
        dsimp only at hJ hi ⊢
        have hLJ := L2.u (w_U.of hJ)
        obtain ⟨J5, q5, f5⟩ := m_tested (k := i') hS hB hLJ hc hi
        have tb := z_testB hB z_t hc hi
        have es : z_cnt A z_t c b (i' + 1) = z_cnt A z_t c b i' + (if z_test A z_t c i' = b then 1 else 0) := rfl
        refine ⟨(i' + 1, J5), ⟨rfl, fun a ha => (f5 a ha).trans (hJ a ha)⟩, ?_⟩
        rw [f_X10_confusion_L34]
        simp only [k_171 hS, r_171_13 hS, k_175 hS, n_175 hS, hLJ.1.d4, Int.toNat_natCast, es]
        by_cases e : z_test A z_t c i' = b
        · simp only [if_pos e]
          simp (disch := (first | trivial | assumption | omega | (refine r_iE ?_ ?_ <;> omega) | (refine r_lE ?_ ?_ <;> omega) | fail)) only [↓q_gdT, ↓q_ltE, ↓if_pos, ↓if_neg, ↓q_bd2E q5]
          rfl
        · simp only [if_neg e]
          simp (disch := (first | trivial | assumption | omega | (refine r_iE ?_ ?_ <;> omega) | (refine r_lE ?_ ?_ <;> omega) | fail)) only [↓q_gdT, ↓q_ltE, ↓if_pos, ↓if_neg, ↓q_bd2E q5]
          rfl
      · rintro n ⟨i, J4⟩ ⟨e, hJ⟩
        dsimp only at e hJ ⊢
        subst e
        have hLJ := L2.u (w_U.of hJ)
        rw [f_X10_confusion_L34]
        simp only [k_171 hS, r_171_13 hS, k_175 hS, n_175 hS, hLJ.1.d4, Int.toNat_natCast]
        simp (disch := (first | trivial | assumption | omega | (refine r_iE ?_ ?_ <;> omega) | (refine r_lE ?_ ?_ <;> omega) | fail)) only [↓q_gdT, ↓q_ltE, ↓if_pos, ↓if_neg]
    · rw [if_neg c2] at q2 ⊢
      refine ⟨q_up I (x + 171) 0 0, ?_, w_T.z⟩
      simp (disch := (first | trivial | assumption | omega | (refine r_iE ?_ ?_ <;> omega) | (refine r_lE ?_ ?_ <;> omega) | fail)) only [↓q_gdT, ↓q_ltE, ↓if_pos, ↓if_neg, ↓q_bdE q1, ↓q_bdE q2]
  · rw [if_neg c1] at q1 ⊢
    refine ⟨q_up I (x + 171) 0 0, ?_, w_T.z⟩
    simp (disch := (first | trivial | assumption | omega | (refine r_iE ?_ ?_ <;> omega) | (refine r_lE ?_ ?_ <;> omega) | fail)) only [↓q_gdT, ↓q_ltE, ↓if_pos, ↓if_neg, ↓q_bdE q1]
