/-! THE CLASS: calibrations -/
def w_ho (x a j : Nat) : Prop := a = x + 4 ∨ a = x + 11 ∨ (a = x ∧ j = 8) ∨ ∃ c, c < 8 ∧ a = x + 51 + 15 * c + 2
theorem w_Sh.fr {x : Nat} {S : q_S} {R R' : q_HR} (h : w_Sh x S R) (hf : ∀ a j, ¬ w_ho x a j → R' a j = R a j) : w_Sh x S R' := by
  obtain ⟨h1, h2, h3, h4, h5, h6, h7, h8⟩ := h
  have L1 : ∀ q ∈ w_rA, (q.1 < 51 ∨ q.1 = 171) ∧ q.1 ≠ 4 ∧ q.1 ≠ 11 ∧ ¬ (q.1 = 0 ∧ q.2.1 = 8) := by decide
  have L2 : ∀ q ∈ w_rG, q.1 < 15 ∧ q.1 ≠ 2 := by decide
  refine ⟨h1, fun q hq => ?_, fun i hi q hq => ?_, fun j' hj => ?_, fun j' hj => ?_, fun j' hj => ?_, fun i hi j' hj => ?_, h8⟩
  · have := L1 q hq
    rw [hf _ _ (by rintro (e | e | e | ⟨c, e1, e2⟩) <;> omega)]
    exact h2 q hq
  · have := L2 q hq
    rw [hf _ _ (by rintro (e | e | e | ⟨c, e1, e2⟩) <;> omega)]
    exact h3 i hi q hq
  · rw [hf _ _ (by rintro (e | e | e | ⟨c, e1, e2⟩) <;> omega)]; exact h4 j' hj
  · rw [hf _ _ (by rintro (e | e | e | ⟨c, e1, e2⟩) <;> omega)]; exact h5 j' hj
  · rw [hf _ _ (by rintro (e | e | e | ⟨c, e1, e2⟩) <;> omega)]; exact h6 j' hj
  · rw [hf _ _ (by rintro (e | e | e | ⟨c, e1, e2⟩) <;> omega)]; exact h7 i hi j' hj
def w_C0 (x : Nat) (S : q_S) (R : q_HR) (I : q_HI) (A : q_A) : Prop :=
  (I (x + 1) 6 = A 0 1 ∧ I (x + 1) 5 = A 0 8 ∧ I x 9 = A 0 7 ∧ I x 10 = A 0 4 ∧ I x 11 = A 0 5 ∧ I x 12 = A 0 6 ∧ I (x + 9) 7 = A 0 9 ∧ I (x + 3) 2 = A 0 2 ∧ I (x + 10) 2 = A 0 3) ∧
  (∀ s, s < 5 → I (x + 2) s = A 1 s) ∧ (∀ c, c < 8 → I (x + 51 + 15 * c + 1) 2 = if c < z_nk A then A 4 c else 0) ∧
  (∀ k, k < z_nc A → w_P x S R I A (R (x + 4) k) (1 + k)) ∧ (∀ k, k < z_nr A → w_P x S R I A (R (x + 11) k) (13 + k) ∧ I (x + 14) k = A 3 k) ∧ (∀ c k, c < z_nk A → k < z_ns A c → w_P x S R I A (R (x + 51 + 15 * c + 2) k) (23 + 8 * c + k)) ∧
  (if A 0 7 = 1 then w_P x S R I A (R x 8) 0 else R x 8 = x + 48) ∧ (I (x + 48) 0 = 0 ∧ ∀ s, s < 5 → I (x + 49) s = 0)
theorem e_refit {x : Nat} {S : q_S} {R : q_HR} {I : q_HI} {A : q_A} (hS : w_Sh x S R) (hB : z_B A) (h : w_C0 x S R I A) : ∃ I', f_X0_fit S R I (x + 1) = some I' ∧ w_C x S R I' A ∧ w_Ff x I I' := by
  obtain ⟨⟨s1, s2, s3, s4, s5, s6, s7, s8, s9⟩, bl, n, ca, re, sa, cu, bl1, bl2⟩ := h
  obtain ⟨I', q, f, g1, g2⟩ := e_fit hS hB ⟨s8, bl, ca⟩
  have fm : ∀ a, w_fr x a → I' a = I a := fun a ha => by
    unfold w_fr at ha
    exact f.row (by omega) (by omega) (by omega)
  refine ⟨I', q, ⟨⟨?_, ?_, ?_, ?_, ?_, ?_, ?_, ?_, ?_⟩, fun s hs => ?_, fun c hc => ?_, fun k hk => (ca k hk).fr fm, fun k hk => ⟨(re k hk).1.fr fm, ?_⟩, fun c k hc hk => (sa c k hc hk).fr fm, ?_, ⟨?_, fun s hs => ?_⟩, g1, g2⟩, f⟩
  · rw [f _ _ (by omega) (by omega) (by omega)]; exact s1
  · rw [f _ _ (by omega) (by omega) (by omega)]; exact s2
  · rw [f _ _ (by omega) (by omega) (by omega)]; exact s3
  · rw [f _ _ (by omega) (by omega) (by omega)]; exact s4
  · rw [f _ _ (by omega) (by omega) (by omega)]; exact s5
  · rw [f _ _ (by omega) (by omega) (by omega)]; exact s6
  · rw [f _ _ (by omega) (by omega) (by omega)]; exact s7
  · rw [f _ _ (by omega) (by omega) (by omega)]; exact s8
  · rw [f _ _ (by omega) (by omega) (by omega)]; exact s9
  · rw [f _ _ (by omega) (by omega) (by omega)]; exact bl s hs
  · rw [f _ _ (by omega) (by omega) (by omega)]; exact n c hc
  · rw [f _ _ (by omega) (by omega) (by omega)]; exact (re k hk).2
  · split
    · next h7 => rw [if_pos h7] at cu; exact cu.fr fm
    · next h7 => rw [if_neg h7] at cu; exact cu
  · rw [f _ _ (by omega) (by omega) (by omega)]; exact bl1
  · rw [f _ _ (by omega) (by omega) (by omega)]; exact bl2 s hs
theorem w_Ff.ch {x : Nat} {I I' : q_HI} (h : w_Ff x I I') : w_ch x I I' := fun a ha => h.row (by omega) (by omega) (by omega)
theorem w_ch.tr {x : Nat} {I I' I'' : q_HI} (h1 : w_ch x I I') (h2 : w_ch x I' I'') : w_ch x I I'' := fun a ha => (h2 a ha).trans (h1 a ha)
/-- the references that calls leave -/
def w_cr (x : Nat) (R R' : q_HR) : Prop := ∀ a j, ¬ w_ho x a j → R' a j = R a j
theorem g_addCalibration {x : Nat} {S : q_S} {R : q_HR} {I : q_HI} {A : q_A} (hS : w_Sh x S R) (hB : z_B A) (hC : w_C x S R I A) : z_B (o_addCalibration A).2 ∧ ∃ R' I', f_X9_addCalibration S R I x = some ((o_addCalibration A).1, R', I') ∧ w_C x S R' I' (o_addCalibration A).2 ∧ w_ch x I I' ∧ w_cr x R R' := by
  have h2 := hB.2.1
  have h7 := hB.2.2.2.2.2.2.1
  have en : (z_nc A : Int) = A 0 2 := by unfold z_nc; omega
  have e9 := hC.1.2.2.1
  have e3 := hC.1.2.2.2.2.2.2.2.1
  have q1 := e_isFull (I := I) (n := z_nc A) (k_3 hS) (r_3_0 hS) (k_4 hS) (by rw [e3, en]) (by omega) (by rw [n_4 hS]; omega)
  rw [n_4 hS, en] at q1
  unfold f_X9_addCalibration o_addCalibration
  simp only [k_0 hS, e9, r_0_0 hS, k_1 hS, r_1_1 hS, k_3 hS]
  by_cases c7 : A 0 7 = 0
  · rw [if_pos c7]
    refine ⟨hB, R, I, ?_, hC, fun _ _ => rfl, fun _ _ _ => rfl⟩
    simp (disch := (first | trivial | assumption | omega | (refine r_iE ?_ ?_ <;> omega) | (refine r_lE ?_ ?_ <;> omega) | fail)) only [↓q_gdT, ↓q_ltE, ↓if_pos, ↓if_neg]
  rw [if_neg c7]
  by_cases c2 : A 0 2 < 12
  · rw [if_pos (show A 0 2 < ((12 : Nat) : Int) by omega)] at q1
    rw [if_pos c2]
    dsimp only
    obtain ⟨hB', ec⟩ := hB.addC (by omega) c2
    have cu := hC.2.2.2.2.2.2.1
    rw [if_pos (show A 0 7 = 1 by omega)] at cu
    have k6 := cu.1
    have q2 := e_append (I := I) (n := z_nc A) (m := R x 8) (k_3 hS) (r_3_0 hS) (k_4 hS) (by rw [e3, en]) (by rw [n_4 hS]; omega) (by rw [n_4 hS]; omega) k6
    rw [en] at q2
    have hS' : w_Sh x S (q_up R (x + 4) (z_nc A) (R x 8)) := hS.up (Or.inl rfl)
    have fI : ∀ a, w_fr x a → q_up I (x + 3) 2 (A 0 2 + 1) a = I a := fun a ha => q_up_ne _ _ _ (by unfold w_fr at ha; omega)
    have fR : ∀ a, w_fr x a → q_up R (x + 4) (z_nc A) (R x 8) a = R a := fun a ha => q_up_ne _ _ _ (by unfold w_fr at ha; omega)
    have hu : ∀ r, r ≠ 1 + z_nc A → z_hu (q_up (z_cp A 0 (1 + z_nc A)) 0 2 (A 0 2 + 1)) r = z_hu A r := fun r hr => by
      have := z_cp_hu A 0 (1 + z_nc A) r
      rw [if_neg hr] at this
      exact this
    have rd : ∀ r, r ≠ 1 + z_nc A → ∀ s, s < 5 → z_rd (q_up (z_cp A 0 (1 + z_nc A)) 0 2 (A 0 2 + 1)) r s = z_rd A r s := fun r hr s hs => by
      have := z_cp_rd A 0 (1 + z_nc A) r s hs
      rw [if_neg hr] at this
      exact this
    have h0 : w_C0 x S (q_up R (x + 4) (z_nc A) (R x 8)) (q_up I (x + 3) 2 (A 0 2 + 1)) (q_up (z_cp A 0 (1 + z_nc A)) 0 2 (A 0 2 + 1)) := by
      obtain ⟨⟨s1, s2, s3, s4, s5, s6, s7, s8, s9⟩, bl, n, ca, re, sa, _, ⟨bl1, bl2⟩, f1, f2⟩ := hC
      refine ⟨⟨?_, ?_, ?_, ?_, ?_, ?_, ?_, ?_, ?_⟩, fun s hs => ?_, fun c hc => ?_, fun k hk => ?_, fun k hk => ⟨?_, ?_⟩, fun c k hc hk => ?_, ?_, ⟨?_, fun s hs => ?_⟩⟩
      · rw [q_up_ne _ _ _ (by omega)]; exact s1
      · rw [q_up_ne _ _ _ (by omega)]; exact s2
      · rw [q_up_ne _ _ _ (by omega)]; exact s3
      · rw [q_up_ne _ _ _ (by omega)]; exact s4
      · rw [q_up_ne _ _ _ (by omega)]; exact s5
      · rw [q_up_ne _ _ _ (by omega)]; exact s6
      · rw [q_up_ne _ _ _ (by omega)]; exact s7
      · show q_up I (x + 3) 2 (A 0 2 + 1) (x + 3) 2 = A 0 2 + 1
        unfold q_up; rw [if_pos ⟨rfl, rfl⟩]
      · rw [q_up_ne _ _ _ (by omega)]; exact s9
      · rw [q_up_ne _ _ _ (by omega)]; exact bl s hs
      · rw [q_up_ne _ _ _ (by omega)]; exact n c hc
      · rw [ec] at hk
        by_cases e : k = z_nc A
        · subst e
          have er : q_up R (x + 4) (z_nc A) (R x 8) (x + 4) (z_nc A) = R x 8 := by unfold q_up; rw [if_pos ⟨rfl, rfl⟩]
          rw [er]
          refine cu.tr fI fR ?_ (fun s hs => ?_)
          · have := z_cp_hu A 0 (1 + z_nc A) (1 + z_nc A)
            rw [if_pos rfl] at this
            exact this
          · have := z_cp_rd A 0 (1 + z_nc A) (1 + z_nc A) s hs
            rw [if_pos rfl] at this
            exact this
        · have er : q_up R (x + 4) (z_nc A) (R x 8) (x + 4) k = R (x + 4) k := by unfold q_up; rw [if_neg (fun q => e q.2)]
          rw [er]
          exact (ca k (by omega)).tr fI fR (hu _ (by omega)) (rd _ (by omega))
      · rw [q_up_ne _ _ _ (by omega)]
        exact (re k hk).1.tr fI fR (hu _ (by omega)) (rd _ (by omega))
      · rw [q_up_ne _ _ _ (by omega)]; exact (re k hk).2
      · rw [q_up_ne _ _ _ (by omega)]
        exact (sa c k hc hk).tr fI fR (hu _ (by omega)) (rd _ (by omega))
      · show if A 0 7 = 1 then _ else _
        rw [if_pos (by omega), q_up_ne _ _ _ (by omega)]
        exact cu.tr fI fR (hu _ (by omega)) (rd _ (by omega))
      · rw [q_up_ne _ _ _ (by omega)]; exact bl1
      · rw [q_up_ne _ _ _ (by omega)]; exact bl2 s hs
    obtain ⟨I2, q3, C3, F3⟩ := e_refit hS' hB' h0
    have e32 : I2 (x + 3) 2 = A 0 2 + 1 := C3.1.2.2.2.2.2.2.2.1
    have q4 : f_X0_addToFit S R I (x + 1) (R x 8) = some (A 0 2 + 1, q_up R (x + 4) (z_nc A) (R x 8), I2) := by
      unfold f_X0_addToFit
      simp only [k_1 hS, r_1_1 hS, k_3 hS]
      simp (disch := (first | trivial | assumption | omega | (refine r_iE ?_ ?_ <;> omega) | (refine r_lE ?_ ?_ <;> omega) | fail)) only [↓q_gdT, ↓q_ltE, ↓if_pos, ↓if_neg, ↓q_bd2E q2, ↓q_bdE q3, r_1_1 hS', k_3 hS, e32]
    refine ⟨hB', q_up R (x + 4) (z_nc A) (R x 8), I2, ?_, C3, ?_, fun a j h => q_up_ne _ _ _ (fun e => h (Or.inl e)) ▸ rfl⟩
    · simp (disch := (first | trivial | assumption | omega | (refine r_iE ?_ ?_ <;> omega) | (refine r_lE ?_ ?_ <;> omega) | fail)) only [↓q_gdT, ↓q_ltE, ↓if_pos, ↓if_neg, ↓q_bdE q1, k6, ↓q_bd3E q4]
    · exact w_ch.tr (I' := q_up I (x + 3) 2 (A 0 2 + 1)) (fun a ha => q_up_ne _ _ _ (by omega)) F3.ch
  · rw [if_neg (show ¬ A 0 2 < ((12 : Nat) : Int) by omega)] at q1
    rw [if_neg c2]
    refine ⟨hB, R, I, ?_, hC, fun _ _ => rfl, fun _ _ _ => rfl⟩
    simp (disch := (first | trivial | assumption | omega | (refine r_iE ?_ ?_ <;> omega) | (refine r_lE ?_ ?_ <;> omega) | fail)) only [↓q_gdT, ↓q_ltE, ↓if_pos, ↓if_neg, ↓q_bdE q1]
