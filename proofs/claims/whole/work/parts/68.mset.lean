/-! THE REFERENCE: what changes it -/
theorem w_D.up {x : Nat} {I : q_HI} {A : q_A} {d j : Nat} {v : Int} (h : w_D x I A) (hd : d < 5) : w_D x (q_up I (x + 171 + d) j v) (q_up A d j v) := by
  refine ⟨fun i h1 h2 => ?_, fun e h1 h2 i => ?_⟩
  · unfold q_up
    by_cases c : d = 0 ∧ i = j
    · rw [if_pos ⟨by omega, c.2⟩, if_pos ⟨by omega, c.2⟩]
    · rw [if_neg (by omega), if_neg (by omega)]; exact h.1 i h1 h2
  · unfold q_up
    by_cases c : d = e ∧ i = j
    · rw [if_pos ⟨by omega, c.2⟩, if_pos ⟨by omega, c.2⟩]
    · rw [if_neg (by omega), if_neg (by omega)]; exact h.2 e h1 h2 i
theorem w_D.up0 {x : Nat} {I : q_HI} {A : q_A} {j : Nat} {v : Int} (h : w_D x I A) : w_D x (q_up I (x + 171) j v) (q_up A 0 j v) := h.up (d := 0) (by omega)
theorem z_cpq {A : q_A} {p q d j : Nat} {v : Int} (hd : d ≠ 2) : z_cp (q_up A d j v) p q = q_up (z_cp A p q) d j v := by
  funext e i
  unfold z_cp q_up
  dsimp only
  by_cases c : e = 2 ∧ 6 * q ≤ i ∧ i < 6 * q + 6
  · rw [if_pos c, if_neg (by omega), if_neg (by omega), if_pos c]
  · rw [if_neg c]
    by_cases c2 : e = d ∧ i = j
    · rw [if_pos c2, if_pos c2]
    · rw [if_neg c2, if_neg c2, if_neg c]
def z_ci (x : Nat) (I : q_HI) (p q i : Nat) : q_HI := fun a j => if a = x + 173 ∧ 6 * q ≤ j ∧ j < 6 * q + i then I a (6 * p + (j - 6 * q)) else I a j
theorem z_ci_at {x : Nat} {I : q_HI} {p q i : Nat} (h : p ≠ q) (hi : i < 6) : z_ci x I p q i (x + 173) (6 * p + i) = I (x + 173) (6 * p + i) := by
  unfold z_ci
  rw [if_neg (by omega)]
theorem z_ci_up {x : Nat} {I : q_HI} {p q i : Nat} : q_up (z_ci x I p q i) (x + 173) (6 * q + i) (I (x + 173) (6 * p + i)) = z_ci x I p q (i + 1) := by
  funext a j
  unfold q_up z_ci
  by_cases c : a = x + 173 ∧ j = 6 * q + i
  · rw [if_pos c, if_pos (by omega), c.1, c.2, show 6 * p + (6 * q + i - 6 * q) = 6 * p + i by omega]
  · rw [if_neg c]
    by_cases c2 : a = x + 173 ∧ 6 * q ≤ j ∧ j < 6 * q + i
    · rw [if_pos c2, if_pos (by omega)]
    · rw [if_neg c2, if_neg (by omega)]
theorem m_copies {x : Nat} {S : q_S} {R : q_HR} {I : q_HI} {A : q_A} {p q : Nat} (hS : w_Sh x S R) (hD : w_D x I A) (hp : p < 87) (hq : q < 87) (hpq : p ≠ q) : ∃ J, f_X10_copies S R I (x + 171) (p : Int) (q : Int) = some J ∧ w_D x J (z_cp A p q) ∧ w_mc x I J := by
  refine ⟨z_ci x I p q 6, ?_, ⟨fun j h1 h2 => ?_, fun d h1 h2 j => ?_⟩, fun a ha => ?_⟩
  · unfold f_X10_copies
    have key := z_loop (fun n i => f_X10_copies_L2 S R (x + 171) (p : Int) (q : Int) (fun w9 I10 => some I10) n ((i : Nat) : Int) (z_ci x I p q i)) 6 (some (z_ci x I p q 6)) (fun n i hi => ?_) (fun n => ?_) 100 (by decide)
    · have e0 : z_ci x I p q 0 = I := by
        funext a j
        unfold z_ci
        rw [if_neg (by omega)]
      rw [e0] at key
      exact key
    · have e1 : (6 * (p : Int) + (i : Int)).toNat = 6 * p + i := by omega
      have e2 : (6 * (q : Int) + (i : Int)).toNat = 6 * q + i := by omega
      show f_X10_copies_L2 _ _ _ _ _ _ (n + 1) _ _ = _
      rw [f_X10_copies_L2]
      simp only [k_171 hS, r_171_11 hS, k_173 hS, n_173 hS, e1, e2, z_ci_at hpq hi, z_ci_up]
      simp (disch := (first | trivial | assumption | omega | (refine r_iE ?_ ?_ <;> omega) | (refine r_lE ?_ ?_ <;> omega) | fail)) only [↓q_gdT, ↓q_ltE, ↓if_pos, ↓if_neg]
      rfl
    · show f_X10_copies_L2 _ _ _ _ _ _ (n + 1) _ _ = _
      rw [f_X10_copies_L2]
      simp (disch := (first | trivial | assumption | omega | (refine r_iE ?_ ?_ <;> omega) | (refine r_lE ?_ ?_ <;> omega) | fail)) only [↓q_gdT, ↓q_ltE, ↓if_pos, ↓if_neg]
  · unfold z_ci
    rw [if_neg (by omega), z_cp_d (by omega)]
    exact hD.1 j h1 h2
  · unfold z_ci z_cp
    by_cases c : d = 2 ∧ 6 * q ≤ j ∧ j < 6 * q + 6
    · rw [if_pos ⟨by omega, c.2⟩, if_pos c, c.1]
      exact hD.2 2 (by omega) (by omega) _
    · rw [if_neg (by omega), if_neg c]
      exact hD.2 d h1 h2 j
  · funext j
    unfold z_ci
    rw [if_neg (by omega)]
theorem h_setMargin {x : Nat} {S : q_S} {R : q_HR} {I : q_HI} {A : q_A} {v : Int} (hS : w_Sh x S R) (hD : w_D x I A) (hv : r_i v) : ∃ I', f_X10_setMargin S R I (x + 171) v = some ((o_setMargin A v).1, I') ∧ w_D x I' (o_setMargin A v).2 ∧ w_mc x I I' := by
  have hv1 := hv.1
  have hv2 := hv.2
  have q1 := e_isIn (a := v) (b := 0) (c := 400) (r_lE (by omega) (by omega)) (r_lE (by omega) (by omega)) (r_lE (by omega) (by omega))
  unfold f_X10_setMargin o_setMargin
  simp only [k_171 hS, q_ltE, hD.z.f5]
  by_cases c : 0 ≤ v ∧ v ≤ 400
  · rw [if_pos c] at q1 ⊢
    refine ⟨q_up (q_up I (x + 171) 0 0) (x + 171) 5 v, ?_, hD.z.up0, w_T.z.mc.up (by omega)⟩
    simp (disch := (first | trivial | assumption | omega | (refine r_iE ?_ ?_ <;> omega) | (refine r_lE ?_ ?_ <;> omega) | fail)) only [↓q_gdT, ↓q_ltE, ↓if_pos, ↓if_neg, ↓q_bdE q1]
  · rw [if_neg c] at q1 ⊢
    refine ⟨q_up I (x + 171) 0 0, ?_, hD.z, w_T.z.mc⟩
    simp (disch := (first | trivial | assumption | omega | (refine r_iE ?_ ?_ <;> omega) | (refine r_lE ?_ ?_ <;> omega) | fail)) only [↓q_gdT, ↓q_ltE, ↓if_pos, ↓if_neg, ↓q_bdE q1]
theorem h_setSlack {x : Nat} {S : q_S} {R : q_HR} {I : q_HI} {A : q_A} {v : Int} (hS : w_Sh x S R) (hD : w_D x I A) (hv : r_i v) : ∃ I', f_X10_setSlack S R I (x + 171) v = some ((o_setSlack A v).1, I') ∧ w_D x I' (o_setSlack A v).2 ∧ w_mc x I I' := by
  have hv1 := hv.1
  have hv2 := hv.2
  have q1 := e_isIn (a := v) (b := 0) (c := 1000000) (r_lE (by omega) (by omega)) (r_lE (by omega) (by omega)) (r_lE (by omega) (by omega))
  unfold f_X10_setSlack o_setSlack
  simp only [k_171 hS, q_ltE, hD.z.f6]
  by_cases c : 0 ≤ v ∧ v ≤ 1000000
  · rw [if_pos c] at q1 ⊢
    refine ⟨q_up (q_up I (x + 171) 0 0) (x + 171) 6 v, ?_, hD.z.up0, w_T.z.mc.up (by omega)⟩
    simp (disch := (first | trivial | assumption | omega | (refine r_iE ?_ ?_ <;> omega) | (refine r_lE ?_ ?_ <;> omega) | fail)) only [↓q_gdT, ↓q_ltE, ↓if_pos, ↓if_neg, ↓q_bdE q1]
  · rw [if_neg c] at q1 ⊢
    refine ⟨q_up I (x + 171) 0 0, ?_, hD.z, w_T.z.mc⟩
    simp (disch := (first | trivial | assumption | omega | (refine r_iE ?_ ?_ <;> omega) | (refine r_lE ?_ ?_ <;> omega) | fail)) only [↓q_gdT, ↓q_ltE, ↓if_pos, ↓if_neg, ↓q_bdE q1]
theorem h_useHumidity {x : Nat} {S : q_S} {R : q_HR} {I : q_HI} {A : q_A} {v : Int} (hS : w_Sh x S R) (hB : z_B A) (hD : w_D x I A) (hv : v = 0 ∨ v = 1) : ∃ I', f_X10_useHumidity S R I (x + 171) v = some (A 0 8, I') ∧ w_D x I' (q_up A 0 8 v) ∧ w_mc x I I' := by
  have h8 := hB.2.2.2.2.2.2.2.1
  refine ⟨q_up (q_up I (x + 171) 0 0) (x + 171) 8 v, ?_, hD.z.up0, w_T.z.mc.up (by omega)⟩
  unfold f_X10_useHumidity
  simp only [k_171 hS, q_ltE, hD.z.f8]
  by_cases c : A 0 8 = 0
  · rw [c]
    simp (disch := (first | trivial | assumption | omega | (refine r_iE ?_ ?_ <;> omega) | (refine r_lE ?_ ?_ <;> omega) | fail)) only [↓q_gdT, ↓q_ltE, ↓if_pos, ↓if_neg]
  · have c1 : A 0 8 = 1 := by omega
    rw [c1]
    simp (disch := (first | trivial | assumption | omega | (refine r_iE ?_ ?_ <;> omega) | (refine r_lE ?_ ?_ <;> omega) | fail)) only [↓q_gdT, ↓q_ltE, ↓if_pos, ↓if_neg]
theorem h_useDrift {x : Nat} {S : q_S} {R : q_HR} {I : q_HI} {A : q_A} {v : Int} (hS : w_Sh x S R) (hB : z_B A) (hD : w_D x I A) (hv : v = 0 ∨ v = 1) : ∃ I', f_X10_useDrift S R I (x + 171) v = some (A 0 9, I') ∧ w_D x I' (q_up A 0 9 v) ∧ w_mc x I I' := by
  have h8 := hB.2.2.2.2.2.2.2.2.1
  refine ⟨q_up (q_up I (x + 171) 0 0) (x + 171) 9 v, ?_, hD.z.up0, w_T.z.mc.up (by omega)⟩
  unfold f_X10_useDrift
  simp only [k_171 hS, q_ltE, hD.z.f9]
  by_cases c : A 0 9 = 0
  · rw [c]
    simp (disch := (first | trivial | assumption | omega | (refine r_iE ?_ ?_ <;> omega) | (refine r_lE ?_ ?_ <;> omega) | fail)) only [↓q_gdT, ↓q_ltE, ↓if_pos, ↓if_neg]
  · have c1 : A 0 9 = 1 := by omega
    rw [c1]
    simp (disch := (first | trivial | assumption | omega | (refine r_iE ?_ ?_ <;> omega) | (refine r_lE ?_ ?_ <;> omega) | fail)) only [↓q_gdT, ↓q_ltE, ↓if_pos, ↓if_neg]
theorem h_removeCalibration {x : Nat} {S : q_S} {R : q_HR} {I : q_HI} {A : q_A} (hS : w_Sh x S R) (hB : z_B A) (hD : w_D x I A) : ∃ I', f_X10_removeCalibration S R I (x + 171) = some ((o_removeCalibration A).1, I') ∧ w_D x I' (o_removeCalibration A).2 ∧ w_mc x I I' := by
  have h8 := hB.c12
  unfold f_X10_removeCalibration o_removeCalibration
  simp only [k_171 hS, q_ltE, hD.z.f2]
  by_cases c : A 0 2 = 0
  · simp only [if_pos c]
    refine ⟨q_up I (x + 171) 0 0, ?_, hD.z, w_T.z.mc⟩
    simp (disch := (first | trivial | assumption | omega | (refine r_iE ?_ ?_ <;> omega) | (refine r_lE ?_ ?_ <;> omega) | fail)) only [↓q_gdT, ↓q_ltE, ↓if_pos, ↓if_neg]
  · simp only [if_neg c]
    refine ⟨q_up (q_up I (x + 171) 0 0) (x + 171) 2 (A 0 2 - 1), ?_, hD.z.up0, w_T.z.mc.up (by omega)⟩
    simp (disch := (first | trivial | assumption | omega | (refine r_iE ?_ ?_ <;> omega) | (refine r_lE ?_ ?_ <;> omega) | fail)) only [↓q_gdT, ↓q_ltE, ↓if_pos, ↓if_neg, q_up_at]
theorem h_removeReference {x : Nat} {S : q_S} {R : q_HR} {I : q_HI} {A : q_A} (hS : w_Sh x S R) (hB : z_B A) (hD : w_D x I A) : ∃ I', f_X10_removeReference S R I (x + 171) = some ((o_removeReference A).1, I') ∧ w_D x I' (o_removeReference A).2 ∧ w_mc x I I' := by
  have h8 := hB.r10
  unfold f_X10_removeReference o_removeReference
  simp only [k_171 hS, q_ltE, hD.z.f3]
  by_cases c : A 0 3 = 0
  · simp only [if_pos c]
    refine ⟨q_up I (x + 171) 0 0, ?_, hD.z, w_T.z.mc⟩
    simp (disch := (first | trivial | assumption | omega | (refine r_iE ?_ ?_ <;> omega) | (refine r_lE ?_ ?_ <;> omega) | fail)) only [↓q_gdT, ↓q_ltE, ↓if_pos, ↓if_neg]
  · simp only [if_neg c]
    refine ⟨q_up (q_up I (x + 171) 0 0) (x + 171) 3 (A 0 3 - 1), ?_, hD.z.up0, w_T.z.mc.up (by omega)⟩
    simp (disch := (first | trivial | assumption | omega | (refine r_iE ?_ ?_ <;> omega) | (refine r_lE ?_ ?_ <;> omega) | fail)) only [↓q_gdT, ↓q_ltE, ↓if_pos, ↓if_neg, q_up_at]
theorem h_addClass {x : Nat} {S : q_S} {R : q_HR} {I : q_HI} {A : q_A} (hS : w_Sh x S R) (hB : z_B A) (hD : w_D x I A) : ∃ I', f_X10_addClass S R I (x + 171) = some ((o_addClass A).1, I') ∧ w_D x I' (o_addClass A).2 ∧ w_mc x I I' := by
  have h8 := hB.nk
  have en : (A 0 4).toNat = z_nk A := rfl
  unfold f_X10_addClass o_addClass
  simp only [k_171 hS, q_ltE, hD.z.f4, r_171_13 hS, k_175 hS, n_175 hS, en]
  by_cases c : A 0 4 < 8
  · simp only [if_pos c]
    have D1 : w_D x (q_up (q_up I (x + 171) 0 0) (x + 175) (z_nk A) 0) (q_up A 4 (z_nk A) 0) := hD.z.up (d := 4) (by omega)
    have u1 : q_up (q_up I (x + 171) 0 0) (x + 175) (z_nk A) 0 (x + 171) 4 = A 0 4 := D1.f4
    refine ⟨q_up (q_up (q_up I (x + 171) 0 0) (x + 175) (z_nk A) 0) (x + 171) 4 (A 0 4 + 1), ?_, D1.up0, (w_T.z.mc.up (by omega)).up (by omega)⟩
    simp (disch := (first | trivial | assumption | omega | (refine r_iE ?_ ?_ <;> omega) | (refine r_lE ?_ ?_ <;> omega) | fail)) only [↓q_gdT, ↓q_ltE, ↓if_pos, ↓if_neg, u1, q_up_at]
    rw [show A 0 4 + 1 - 1 = A 0 4 by omega]
  · simp only [if_neg c]
    refine ⟨q_up I (x + 171) 0 0, ?_, hD.z, w_T.z.mc⟩
    simp (disch := (first | trivial | assumption | omega | (refine r_iE ?_ ?_ <;> omega) | (refine r_lE ?_ ?_ <;> omega) | fail)) only [↓q_gdT, ↓q_ltE, ↓if_pos, ↓if_neg]
theorem h_setBaseline {x : Nat} {S : q_S} {R : q_HR} {I : q_HI} {A : q_A} {a v : Int} (hS : w_Sh x S R) (hB : z_B A) (hD : w_D x I A) (ha : r_i a) (hv : r_i v) : ∃ I', f_X10_setBaseline S R I (x + 171) a v = some ((o_setBaseline A a v).1, I') ∧ w_D x I' (o_setBaseline A a v).2 ∧ w_mc x I I' := by
  have h1 := hB.1
  have hv1 := hv.1
  have hv2 := hv.2
  have q0 := m_isSensor hS hB hD.z ha
  have q1 := e_isIn (a := v) (b := 100) (c := 9999) (r_lE (by omega) (by omega)) (r_lE (by omega) (by omega)) (r_lE (by omega) (by omega))
  unfold f_X10_setBaseline o_setBaseline
  simp only [k_171 hS, q_ltE, r_171_10 hS, k_172 hS, n_172 hS, hD.z.d1]
  by_cases c0 : 0 ≤ a ∧ a < A 0 1
  · rw [if_pos c0] at q0 ⊢
    by_cases c : 100 ≤ v ∧ v ≤ 9999
    · rw [if_pos c] at q1 ⊢
      refine ⟨q_up (q_up I (x + 171) 0 0) (x + 172) a.toNat v, ?_, hD.z.up (d := 1) (by omega), w_T.z.mc.up (by omega)⟩
      simp (disch := (first | trivial | assumption | omega | (refine r_iE ?_ ?_ <;> omega) | (refine r_lE ?_ ?_ <;> omega) | fail)) only [↓q_gdT, ↓q_ltE, ↓if_pos, ↓if_neg, ↓q_bdE q0, ↓q_bdE q1]
    · rw [if_neg c] at q1 ⊢
      refine ⟨q_up I (x + 171) 0 0, ?_, hD.z, w_T.z.mc⟩
      simp (disch := (first | trivial | assumption | omega | (refine r_iE ?_ ?_ <;> omega) | (refine r_lE ?_ ?_ <;> omega) | fail)) only [↓q_gdT, ↓q_ltE, ↓if_pos, ↓if_neg, ↓q_bdE q0, ↓q_bdE q1]
  · rw [if_neg c0] at q0 ⊢
    refine ⟨q_up I (x + 171) 0 0, ?_, hD.z, w_T.z.mc⟩
    simp (disch := (first | trivial | assumption | omega | (refine r_iE ?_ ?_ <;> omega) | (refine r_lE ?_ ?_ <;> omega) | fail)) only [↓q_gdT, ↓q_ltE, ↓if_pos, ↓if_neg, ↓q_bdE q0]
theorem h_addCalibration {x : Nat} {S : q_S} {R : q_HR} {I : q_HI} {A : q_A} (hS : w_Sh x S R) (hB : z_B A) (hD : w_D x I A) : ∃ I', f_X10_addCalibration S R I (x + 171) = some ((o_addCalibration A).1, I') ∧ w_D x I' (o_addCalibration A).2 ∧ w_mc x I I' := by
  have h8 := hB.c12
  have h7 := hB.2.2.2.2.2.2.1
  unfold f_X10_addCalibration o_addCalibration
  simp only [k_171 hS, q_ltE, hD.z.f7, hD.z.f2]
  by_cases c7 : A 0 7 = 0
  · simp only [if_pos c7]
    refine ⟨q_up I (x + 171) 0 0, ?_, hD.z, w_T.z.mc⟩
    simp (disch := (first | trivial | assumption | omega | (refine r_iE ?_ ?_ <;> omega) | (refine r_lE ?_ ?_ <;> omega) | fail)) only [↓q_gdT, ↓q_ltE, ↓if_pos, ↓if_neg]
  simp only [if_neg c7]
  by_cases c : A 0 2 < 12
  · simp only [if_pos c]
    obtain ⟨J, q1, D1, F1⟩ := m_copies (p := 0) (q := 1 + z_nc A) hS hD.z (by omega) (by omega) (by omega)
    rw [show ((0 : Nat) : Int) = 0 from rfl, show ((1 + z_nc A : Nat) : Int) = 1 + A 0 2 by omega] at q1
    have u1 : J (x + 171) 2 = A 0 2 := by rw [D1.f2, z_cp_d (by omega)]
    refine ⟨q_up J (x + 171) 2 (A 0 2 + 1), ?_, D1.up0, (w_T.z.mc.tr F1).up (by omega)⟩
    simp (disch := (first | trivial | assumption | omega | (refine r_iE ?_ ?_ <;> omega) | (refine r_lE ?_ ?_ <;> omega) | fail)) only [↓q_gdT, ↓q_ltE, ↓if_pos, ↓if_neg, ↓q_bdE q1, u1, q_up_at]
  · simp only [if_neg c]
    refine ⟨q_up I (x + 171) 0 0, ?_, hD.z, w_T.z.mc⟩
    simp (disch := (first | trivial | assumption | omega | (refine r_iE ?_ ?_ <;> omega) | (refine r_lE ?_ ?_ <;> omega) | fail)) only [↓q_gdT, ↓q_ltE, ↓if_pos, ↓if_neg]
theorem h_addReference {x : Nat} {S : q_S} {R : q_HR} {I : q_HI} {A : q_A} {v : Int} (hS : w_Sh x S R) (hB : z_B A) (hD : w_D x I A) (hv : r_i v) : ∃ I', f_X10_addReference S R I (x + 171) v = some ((o_addReference A v).1, I') ∧ w_D x I' (o_addReference A v).2 ∧ w_mc x I I' := by
  have h8 := hB.r10
  have h7 := hB.2.2.2.2.2.2.1
  have hv1 := hv.1
  have hv2 := hv.2
  have q0 := e_isIn (a := v) (b := 0) (c := 999) (r_lE (by omega) (by omega)) (r_lE (by omega) (by omega)) (r_lE (by omega) (by omega))
  have en : (A 0 3).toNat = z_nr A := rfl
  have e1 : (A 0 3 - 1).toNat = z_nr A - 1 := by omega
  unfold f_X10_addReference o_addReference
  simp only [k_171 hS, q_ltE, hD.z.f7, hD.z.f3, r_171_12 hS, k_174 hS, n_174 hS, hD.z.d3, e1]
  have stay : ∃ I', some ((-3 : Int), q_up I (x + 171) 0 0) = some ((-3 : Int), I') ∧ w_D x I' A ∧ w_mc x I I' := ⟨q_up I (x + 171) 0 0, rfl, hD.z, w_T.z.mc⟩
  by_cases c7 : A 0 7 = 0
  · simp only [if_pos c7]
    refine ⟨q_up I (x + 171) 0 0, ?_, hD.z, w_T.z.mc⟩
    simp (disch := (first | trivial | assumption | omega | (refine r_iE ?_ ?_ <;> omega) | (refine r_lE ?_ ?_ <;> omega) | fail)) only [↓q_gdT, ↓q_ltE, ↓if_pos, ↓if_neg]
  simp only [if_neg c7]
  by_cases cv : 0 ≤ v ∧ v ≤ 999
  · rw [if_pos cv] at q0 ⊢
    by_cases c : A 0 3 < 10
    · obtain ⟨J, q1, D1, F1⟩ := m_copies (p := 0) (q := 13 + z_nr A) hS hD.z (by omega) (by omega) (by omega)
      rw [show ((0 : Nat) : Int) = 0 from rfl, show ((13 + z_nr A : Nat) : Int) = 13 + A 0 3 by omega] at q1
      have u1 : J (x + 171) 3 = A 0 3 := by rw [D1.f3, z_cp_d (by omega)]
      have D2 : w_D x (q_up J (x + 174) (z_nr A) v) (q_up (z_cp A 0 (13 + z_nr A)) 3 (z_nr A) v) := D1.up (d := 3) (by omega)
      have u2 : q_up J (x + 174) (z_nr A) v (x + 171) 3 = A 0 3 := by rw [q_up_ne _ _ _ (by omega)]; exact u1
      have goal1 : ∃ I', some (A 0 3 + 1, q_up (q_up J (x + 174) (z_nr A) v) (x + 171) 3 (A 0 3 + 1)) = some (A 0 3 + 1, I') ∧ w_D x I' (q_up (q_up (z_cp A 0 (13 + z_nr A)) 3 (z_nr A) v) 0 3 (A 0 3 + 1)) ∧ w_mc x I I' := ⟨_, rfl, D2.up0, ((w_T.z.mc.tr F1).up (by omega)).up (by omega)⟩
      by_cases cl : z_late A < v
      · rw [if_pos cl, if_pos c]
        unfold z_late at cl
        by_cases c0 : A 0 3 = 0
        · simp (disch := (first | trivial | assumption | omega | (refine r_iE ?_ ?_ <;> omega) | (refine r_lE ?_ ?_ <;> omega) | fail)) only [↓q_gdT, ↓q_ltE, ↓if_pos, ↓if_neg, ↓q_bdE q0, ↓q_bdE q1, u1, en, u2, q_up_at]
          exact goal1
        · rw [if_neg c0] at cl
          have bt := hB.time (z_nr A - 1) (by omega)
          simp (disch := (first | trivial | assumption | omega | (refine r_iE ?_ ?_ <;> omega) | (refine r_lE ?_ ?_ <;> omega) | fail)) only [↓q_gdT, ↓q_ltE, ↓if_pos, ↓if_neg, ↓q_bdE q0, ↓q_bdE q1, u1, en, u2, q_up_at]
          exact goal1
      · rw [if_neg cl]
        unfold z_late at cl
        by_cases c0 : A 0 3 = 0
        · rw [if_pos c0] at cl
          omega
        · rw [if_neg c0] at cl
          have bt := hB.time (z_nr A - 1) (by omega)
          simp (disch := (first | trivial | assumption | omega | (refine r_iE ?_ ?_ <;> omega) | (refine r_lE ?_ ?_ <;> omega) | fail)) only [↓q_gdT, ↓q_ltE, ↓if_pos, ↓if_neg, ↓q_bdE q0]
          exact stay
    · by_cases cl : z_late A < v
      · rw [if_pos cl, if_neg c]
        unfold z_late at cl
        rw [if_neg (by omega)] at cl
        have bt := hB.time (z_nr A - 1) (by omega)
        refine ⟨q_up I (x + 171) 0 0, ?_, hD.z, w_T.z.mc⟩
        simp (disch := (first | trivial | assumption | omega | (refine r_iE ?_ ?_ <;> omega) | (refine r_lE ?_ ?_ <;> omega) | fail)) only [↓q_gdT, ↓q_ltE, ↓if_pos, ↓if_neg, ↓q_bdE q0]
      · rw [if_neg cl]
        unfold z_late at cl
        rw [if_neg (by omega)] at cl
        have bt := hB.time (z_nr A - 1) (by omega)
        simp (disch := (first | trivial | assumption | omega | (refine r_iE ?_ ?_ <;> omega) | (refine r_lE ?_ ?_ <;> omega) | fail)) only [↓q_gdT, ↓q_ltE, ↓if_pos, ↓if_neg, ↓q_bdE q0]
        exact stay
  · rw [if_neg cv] at q0 ⊢
    simp (disch := (first | trivial | assumption | omega | (refine r_iE ?_ ?_ <;> omega) | (refine r_lE ?_ ?_ <;> omega) | fail)) only [↓q_gdT, ↓q_ltE, ↓if_pos, ↓if_neg, ↓q_bdE q0]
    exact stay
theorem h_addSample {x : Nat} {S : q_S} {R : q_HR} {I : q_HI} {A : q_A} {a : Int} (hS : w_Sh x S R) (hB : z_B A) (hD : w_D x I A) (ha : r_i a) : ∃ I', f_X10_addSample S R I (x + 171) a = some ((o_addSample A a).1, I') ∧ w_D x I' (o_addSample A a).2 ∧ w_mc x I I' := by
  have hk := hB.nk
  have h7 := hB.2.2.2.2.2.2.1
  have q0 := m_isClass hS hB hD.z ha
  unfold f_X10_addSample o_addSample
  simp only [k_171 hS, q_ltE, hD.z.f7, r_171_13 hS, k_175 hS, n_175 hS, hD.z.d4]
  by_cases c0 : 0 ≤ a ∧ a < A 0 4
  · rw [if_pos c0] at q0 ⊢
    by_cases c7 : A 0 7 = 0
    · simp only [if_pos c7]
      refine ⟨q_up I (x + 171) 0 0, ?_, hD.z, w_T.z.mc⟩
      simp (disch := (first | trivial | assumption | omega | (refine r_iE ?_ ?_ <;> omega) | (refine r_lE ?_ ?_ <;> omega) | fail)) only [↓q_gdT, ↓q_ltE, ↓if_pos, ↓if_neg, ↓q_bdE q0]
    simp only [if_neg c7]
    obtain ⟨k, rfl⟩ : ∃ k : Nat, a = (k : Int) := ⟨a.toNat, by omega⟩
    rw [Int.toNat_natCast]
    have hkk : k < z_nk A := by omega
    have hn := hB.ns hkk
    by_cases c : A 4 k < 8
    · simp only [if_pos c]
      obtain ⟨J, q1, D1, F1⟩ := m_copies (p := 0) (q := 23 + 8 * k + z_ns A k) hS hD.z (by omega) (by omega) (by omega)
      rw [show ((0 : Nat) : Int) = 0 from rfl, show ((23 + 8 * k + z_ns A k : Nat) : Int) = 23 + 8 * (k : Int) + A 4 k by omega] at q1
      have q2 := m_placeOf (k : Int) (A 4 k)
      have u1 : J (x + 175) k = A 4 k := by rw [D1.d4, z_cp_d (by omega)]
      refine ⟨q_up J (x + 175) k (A 4 k + 1), ?_, D1.up (d := 4) (by omega), (w_T.z.mc.tr F1).up (by omega)⟩
      simp (disch := (first | trivial | assumption | omega | (refine r_iE ?_ ?_ <;> omega) | (refine r_lE ?_ ?_ <;> omega) | fail)) only [↓q_gdT, ↓q_ltE, ↓if_pos, ↓if_neg, ↓q_bdE q0, ↓q_bdE q1, ↓q_bdE q2, u1, q_up_at]
      rw [show A 4 k + 1 - 1 = A 4 k by omega]
    · simp only [if_neg c]
      refine ⟨q_up I (x + 171) 0 0, ?_, hD.z, w_T.z.mc⟩
      simp (disch := (first | trivial | assumption | omega | (refine r_iE ?_ ?_ <;> omega) | (refine r_lE ?_ ?_ <;> omega) | fail)) only [↓q_gdT, ↓q_ltE, ↓if_pos, ↓if_neg, ↓q_bdE q0]
  · rw [if_neg c0] at q0 ⊢
    refine ⟨q_up I (x + 171) 0 0, ?_, hD.z, w_T.z.mc⟩
    simp (disch := (first | trivial | assumption | omega | (refine r_iE ?_ ?_ <;> omega) | (refine r_lE ?_ ?_ <;> omega) | fail)) only [↓q_gdT, ↓q_ltE, ↓if_pos, ↓if_neg, ↓q_bdE q0]
theorem h_recall {x : Nat} {S : q_S} {R : q_HR} {I : q_HI} {A : q_A} {a b : Int} (hS : w_Sh x S R) (hB : z_B A) (hD : w_D x I A) (ha : r_i a) (hb : r_i b) : ∃ I', f_X10_recall S R I (x + 171) a b = some ((o_recall A a b).1, I') ∧ w_D x I' (o_recall A a b).2 ∧ w_mc x I I' := by
  have hk := hB.nk
  obtain ⟨r, q0, hr⟩ := m_isSample hS hB hD.z ha hb
  unfold f_X10_recall o_recall
  simp only [k_171 hS, q_ltE, r_171_11 hS, k_173 hS, n_173 hS]
  rcases hr with ⟨rfl, hv⟩ | ⟨rfl, hv⟩
  · rw [if_neg hv]
    refine ⟨q_up I (x + 171) 0 0, ?_, hD.z, w_T.z.mc⟩
    simp (disch := (first | trivial | assumption | omega | (refine r_iE ?_ ?_ <;> omega) | (refine r_lE ?_ ?_ <;> omega) | fail)) only [↓q_gdT, ↓q_ltE, ↓if_pos, ↓if_neg, ↓q_bdE q0]
  rw [if_pos hv]
  obtain ⟨v1, v2⟩ := hv
  obtain ⟨c, rfl⟩ : ∃ c : Nat, a = (c : Int) := ⟨a.toNat, by omega⟩
  obtain ⟨k, rfl⟩ : ∃ k : Nat, b = (k : Int) := ⟨b.toNat, by omega⟩
  rw [Int.toNat_natCast] at v2
  simp only [Int.toNat_natCast]
  have hn := hB.ns (show c < z_nk A by omega)
  obtain ⟨J, q1, D1, F1⟩ := m_copies (p := 23 + 8 * c + k) (q := 0) hS (hD.z.up0 (j := 7) (v := 1)) (by omega) (by omega) (by omega)
  rw [show ((0 : Nat) : Int) = 0 from rfl, show ((23 + 8 * c + k : Nat) : Int) = 23 + 8 * (c : Int) + (k : Int) by omega] at q1
  have q2 := m_placeOf (c : Int) (k : Int)
  rw [z_cpq (by omega)] at D1
  have t0 : Int.toNat 0 = 0 := rfl
  have u1 : J (x + 173) 0 = z_hu A (23 + 8 * c + k) := by
    rw [D1.d2]
    show z_cp A (23 + 8 * c + k) 0 2 0 = _
    have := z_cp_hu A (23 + 8 * c + k) 0 0
    rw [if_pos rfl] at this
    exact this
  refine ⟨J, ?_, D1, (w_T.z.mc.up (by omega)).tr F1⟩
  simp (disch := (first | trivial | assumption | omega | (refine r_iE ?_ ?_ <;> omega) | (refine r_lE ?_ ?_ <;> omega) | fail)) only [↓q_gdT, ↓q_ltE, ↓if_pos, ↓if_neg, ↓q_bdE q0, ↓q_bdE q1, ↓q_bdE q2, t0, u1]
theorem h_removeSample {x : Nat} {S : q_S} {R : q_HR} {I : q_HI} {A : q_A} {a b : Int} (hS : w_Sh x S R) (hB : z_B A) (hD : w_D x I A) (ha : r_i a) (hb : r_i b) : ∃ I', f_X10_removeSample S R I (x + 171) a b = some ((o_removeSample A a b).1, I') ∧ w_D x I' (o_removeSample A a b).2 ∧ w_mc x I I' := by
  have hk := hB.nk
  obtain ⟨r, q0, hr⟩ := m_isSample hS hB hD.z ha hb
  unfold f_X10_removeSample o_removeSample
  simp only [k_171 hS, q_ltE, r_171_13 hS, k_175 hS, n_175 hS, hD.z.d4]
  rcases hr with ⟨rfl, hv⟩ | ⟨rfl, hv⟩
  · rw [if_neg hv]
    refine ⟨q_up I (x + 171) 0 0, ?_, hD.z, w_T.z.mc⟩
    simp (disch := (first | trivial | assumption | omega | (refine r_iE ?_ ?_ <;> omega) | (refine r_lE ?_ ?_ <;> omega) | fail)) only [↓q_gdT, ↓q_ltE, ↓if_pos, ↓if_neg, ↓q_bdE q0]
  rw [if_pos hv]
  obtain ⟨v1, v2⟩ := hv
  obtain ⟨c, rfl⟩ : ∃ c : Nat, a = (c : Int) := ⟨a.toNat, by omega⟩
  obtain ⟨k, rfl⟩ : ∃ k : Nat, b = (k : Int) := ⟨b.toNat, by omega⟩
  rw [Int.toNat_natCast] at v2
  simp only [Int.toNat_natCast]
  have hc : c < z_nk A := by omega
  have hn := hB.ns hc
  have D0 : w_D x (q_up (q_up I (x + 171) 0 0) (x + 175) c (A 4 c - 1)) (q_up A 4 c (A 4 c - 1)) := hD.z.up (d := 4) (by omega)
  have F0 : w_mc x I (q_up (q_up I (x + 171) 0 0) (x + 175) c (A 4 c - 1)) := w_T.z.mc.up (by omega)
  have key := z_loopR (fun n (u : Nat × q_HI) => f_X10_removeSample_L29 S R (x + 171) (c : Int) (fun w24 I25 => some (I25 (x + 175) c, I25)) n ((u.1 : Nat) : Int) u.2) (fun i u => u.1 = k + i ∧ w_D x u.2 (q_up (z_rm A (23 + 8 * c + k) i) 4 c (A 4 c - 1)) ∧ w_mc x I u.2) (z_ns A c - 1 - k) (fun u => some (A 4 c - 1, u.2)) ?_ ?_ 100 0 (k, q_up (q_up I (x + 171) 0 0) (x + 175) c (A 4 c - 1)) (by omega) (by omega) ⟨rfl, D0, F0⟩
  · obtain ⟨⟨i, J⟩, ⟨_, h2, h3⟩, e⟩ := key
    refine ⟨J, ?_, h2, h3⟩
    simp (disch := (first | trivial | assumption | omega | (refine r_iE ?_ ?_ <;> omega) | (refine r_lE ?_ ?_ <;> omega) | fail)) only [↓q_gdT, ↓q_ltE, ↓if_pos, ↓if_neg, ↓q_bdE q0]
    exact e
  · rintro n i ⟨i', J⟩ hi ⟨e, hDJ, hF⟩
    dsimp only at e hDJ hF ⊢
    subst e
    have u1 : J (x + 175) c = A 4 c - 1 := by
      rw [hDJ.d4]
      unfold q_up
      rw [if_pos ⟨rfl, rfl⟩]
    obtain ⟨J2, q2, D2, F2⟩ := m_copies (p := 23 + 8 * c + k + i + 1) (q := 23 + 8 * c + k + i) hS hDJ (by omega) (by omega) (by omega)
    rw [z_cpq (by omega)] at D2
    rw [show ((23 + 8 * c + k + i + 1 : Nat) : Int) = 23 + 8 * (c : Int) + (((k + i : Nat) : Int) + 1) by omega, show ((23 + 8 * c + k + i : Nat) : Int) = 23 + 8 * (c : Int) + ((k + i : Nat) : Int) by omega] at q2
    have q3 := m_placeOf (c : Int) (((k + i : Nat) : Int) + 1)
    have q4 := m_placeOf (c : Int) ((k + i : Nat) : Int)
    refine ⟨(k + i + 1, J2), ⟨rfl, D2, hF.tr F2⟩, ?_⟩
    rw [f_X10_removeSample_L29]
    simp only [k_171 hS, r_171_13 hS, k_175 hS, n_175 hS, Int.toNat_natCast, u1]
    simp (disch := (first | trivial | assumption | omega | (refine r_iE ?_ ?_ <;> omega) | (refine r_lE ?_ ?_ <;> omega) | fail)) only [↓q_gdT, ↓q_ltE, ↓if_pos, ↓if_neg, ↓q_bdE q2, ↓q_bdE q3, ↓q_bdE q4]
    rfl
  · rintro n ⟨i, J⟩ ⟨e, hDJ, hF⟩
    dsimp only at e hDJ hF ⊢
    subst e
    have u1 : J (x + 175) c = A 4 c - 1 := by
      rw [hDJ.d4]
      unfold q_up
      rw [if_pos ⟨rfl, rfl⟩]
    rw [f_X10_removeSample_L29]
    simp only [k_171 hS, r_171_13 hS, k_175 hS, n_175 hS, Int.toNat_natCast, u1]
    simp (disch := (first | trivial | assumption | omega | (refine r_iE ?_ ?_ <;> omega) | (refine r_lE ?_ ?_ <;> omega) | fail)) only [↓q_gdT, ↓q_ltE, ↓if_pos, ↓if_neg]
