/-! THE CLASS: calibrations removed, baselines -/
def o_removeCalibration (A : q_A) : Int × q_A := if A 0 2 = 0 then (-2, A) else (A 0 2 - 1, q_up A 0 2 (A 0 2 - 1))
theorem g_removeCalibration {x : Nat} {S : q_S} {R : q_HR} {I : q_HI} {A : q_A} (hS : w_Sh x S R) (hB : z_B A) (hC : w_C x S R I A) : z_B (o_removeCalibration A).2 ∧ ∃ R' I', f_X9_removeCalibration S R I x = some ((o_removeCalibration A).1, R', I') ∧ w_C x S R' I' (o_removeCalibration A).2 ∧ w_ch x I I' ∧ w_cr x R R' := by
  have h2 := hB.2.1
  have en : (z_nc A : Int) = A 0 2 := by unfold z_nc; omega
  have e3 := hC.1.2.2.2.2.2.2.2.1
  unfold f_X9_removeCalibration o_removeCalibration
  simp only [k_0 hS, r_0_0 hS, k_1 hS, r_1_1 hS, k_3 hS, e3]
  by_cases c2 : A 0 2 = 0
  · rw [if_pos c2]
    refine ⟨hB, R, I, ?_, hC, fun _ _ => rfl, fun _ _ _ => rfl⟩
    simp (disch := (first | trivial | assumption | omega | (refine r_iE ?_ ?_ <;> omega) | (refine r_lE ?_ ?_ <;> omega) | fail)) only [↓q_gdT, ↓q_ltE, ↓if_pos, ↓if_neg]
  rw [if_neg c2]
  dsimp only
  have ec : z_nc (q_up A 0 2 (A 0 2 - 1)) = z_nc A - 1 := by
    show (A 0 2 - 1).toNat = _
    unfold z_nc
    omega
  have hB' : z_B (q_up A 0 2 (A 0 2 - 1)) := ⟨hB.1, by show 0 ≤ A 0 2 - 1 ∧ A 0 2 - 1 ≤ 12; omega, hB.2.2.1, hB.2.2.2.1, hB.2.2.2.2.1, hB.2.2.2.2.2.1, hB.2.2.2.2.2.2.1, hB.2.2.2.2.2.2.2.1, hB.2.2.2.2.2.2.2.2.1, hB.2.2.2.2.2.2.2.2.2.1, fun p hp => hB.data p (by
    rcases hp with q | q | q | q
    · exact Or.inl q
    · rw [ec] at q; exact Or.inr (Or.inl (by omega))
    · exact Or.inr (Or.inr (Or.inl q))
    · exact Or.inr (Or.inr (Or.inr q))), hB.time, hB.2.2.2.2.2.2.2.2.2.2.2.2.1, hB.2.2.2.2.2.2.2.2.2.2.2.2.2⟩
  obtain ⟨R1, q1, f1, g1⟩ := e_removeAt (I := I) (sa := x + 3) (hd := x + 4) (n := z_nc A) (k := z_nc A - 1) (k_3 hS) (r_3_0 hS) (by omega) (k_4 hS) (by rw [e3, en]) (by rw [n_4 hS]; omega) (by rw [n_4 hS]; omega) (by omega) (fun j hj => (hC.2.2.2.1 j hj).1)
  have ev : ((z_nc A - 1 : Nat) : Int) = A 0 2 - 1 := by omega
  rw [ev, en] at q1
  have cr : w_cr x R R1 := fun a j h => by rw [f1 a (fun e => h (Or.inl e))]
  have hS' := hS.fr cr
  have fI : ∀ a, w_fr x a → q_up I (x + 3) 2 (A 0 2 - 1) a = I a := fun a ha => q_up_ne _ _ _ (by unfold w_fr at ha; omega)
  have fR : ∀ a, w_fr x a → R1 a = R a := fun a ha => f1 a (by unfold w_fr at ha; omega)
  have h0 : w_C0 x S R1 (q_up I (x + 3) 2 (A 0 2 - 1)) (q_up A 0 2 (A 0 2 - 1)) := by
    obtain ⟨⟨s1, s2, s3, s4, s5, s6, s7, s8, s9⟩, bl, n, ca, re, sa, cu, ⟨bl1, bl2⟩, _, _⟩ := hC
    refine ⟨⟨?_, ?_, ?_, ?_, ?_, ?_, ?_, ?_, ?_⟩, fun s hs => ?_, fun c hc => ?_, fun k hk => ?_, fun k hk => ⟨?_, ?_⟩, fun c k hc hk => ?_, ?_, ⟨?_, fun s hs => ?_⟩⟩
    · rw [q_up_ne _ _ _ (by omega)]; exact s1
    · rw [q_up_ne _ _ _ (by omega)]; exact s2
    · rw [q_up_ne _ _ _ (by omega)]; exact s3
    · rw [q_up_ne _ _ _ (by omega)]; exact s4
    · rw [q_up_ne _ _ _ (by omega)]; exact s5
    · rw [q_up_ne _ _ _ (by omega)]; exact s6
    · rw [q_up_ne _ _ _ (by omega)]; exact s7
    · show q_up I (x + 3) 2 (A 0 2 - 1) (x + 3) 2 = A 0 2 - 1
      unfold q_up; rw [if_pos ⟨rfl, rfl⟩]
    · rw [q_up_ne _ _ _ (by omega)]; exact s9
    · rw [q_up_ne _ _ _ (by omega)]; exact bl s hs
    · rw [q_up_ne _ _ _ (by omega)]; exact n c hc
    · rw [ec] at hk
      rw [g1 k (by omega), if_neg (by omega)]
      exact (ca k (by omega)).tr fI fR rfl (fun _ _ => rfl)
    · rw [f1 _ (by omega)]
      exact (re k hk).1.tr fI fR rfl (fun _ _ => rfl)
    · rw [q_up_ne _ _ _ (by omega)]; exact (re k hk).2
    · rw [f1 _ (by omega)]
      exact (sa c k hc hk).tr fI fR rfl (fun _ _ => rfl)
    · show if A 0 7 = 1 then _ else _
      rw [f1 x (by omega)]
      split
      · next h7 => rw [if_pos h7] at cu; exact cu.tr fI fR rfl (fun _ _ => rfl)
      · next h7 => rw [if_neg h7] at cu; exact cu
    · rw [q_up_ne _ _ _ (by omega)]; exact bl1
    · rw [q_up_ne _ _ _ (by omega)]; exact bl2 s hs
  obtain ⟨I2, q3, C3, F3⟩ := e_refit hS' hB' h0
  have e32 : I2 (x + 3) 2 = A 0 2 - 1 := C3.1.2.2.2.2.2.2.2.1
  have q4 : f_X0_removeFromFit S R I (x + 1) = some (A 0 2 - 1, R1, I2) := by
    unfold f_X0_removeFromFit
    simp only [k_1 hS, r_1_1 hS, k_3 hS, e3]
    simp (disch := (first | trivial | assumption | omega | (refine r_iE ?_ ?_ <;> omega) | (refine r_lE ?_ ?_ <;> omega) | fail)) only [↓q_gdT, ↓q_ltE, ↓if_pos, ↓if_neg, ↓q_bd2E q1, ↓q_bdE q3, r_1_1 hS', k_3 hS, e32]
  refine ⟨hB', R1, I2, ?_, C3, ?_, cr⟩
  · simp (disch := (first | trivial | assumption | omega | (refine r_iE ?_ ?_ <;> omega) | (refine r_lE ?_ ?_ <;> omega) | fail)) only [↓q_gdT, ↓q_ltE, ↓if_pos, ↓if_neg, ↓q_bd3E q4]
  · exact w_ch.tr (I' := q_up I (x + 3) 2 (A 0 2 - 1)) (fun a ha => q_up_ne _ _ _ (by omega)) F3.ch
def o_setBaseline (A : q_A) (a v : Int) : Int × q_A := if 0 ≤ a ∧ a < A 0 1 then (if 100 ≤ v ∧ v ≤ 9999 then (A 1 a.toNat, q_up A 1 a.toNat v) else (-3, A)) else (-2, A)
theorem g_setBaseline {x : Nat} {S : q_S} {R : q_HR} {I : q_HI} {A : q_A} {a v : Int} (hS : w_Sh x S R) (hB : z_B A) (hC : w_C x S R I A) (ha : r_i a) (hv : r_i v) : z_B (o_setBaseline A a v).2 ∧ ∃ I', f_X9_setBaseline S R I x a v = some ((o_setBaseline A a v).1, I') ∧ w_C x S R I' (o_setBaseline A a v).2 ∧ w_ch x I I' := by
  have h1 := hB.1
  have q1 := e_hasSensor hS hB hC ha
  have q2 := e_isWithin (a := v) (b := 100) (c := 9999) hv (r_iE (by omega) (by omega)) (r_iE (by omega) (by omega))
  unfold f_X9_setBaseline o_setBaseline
  simp only [k_0 hS, r_0_0 hS, k_1 hS]
  by_cases c : 0 ≤ a ∧ a < A 0 1
  · rw [if_pos c] at q1 ⊢
    by_cases cv : 100 ≤ v ∧ v ≤ 9999
    · rw [if_pos cv] at q2 ⊢
      obtain ⟨k, rfl⟩ : ∃ k : Nat, a = (k : Int) := ⟨a.toNat, by omega⟩
      rw [Int.toNat_natCast]
      dsimp only
      have hk5 : k < 5 := by omega
      have hB' : z_B (q_up A 1 k v) := by
        refine ⟨hB.1, hB.2.1, hB.2.2.1, hB.2.2.2.1, hB.2.2.2.2.1, hB.2.2.2.2.2.1, hB.2.2.2.2.2.2.1, hB.2.2.2.2.2.2.2.1, hB.2.2.2.2.2.2.2.2.1, fun s hs => ?_, hB.data, hB.time, hB.2.2.2.2.2.2.2.2.2.2.2.2.1, hB.2.2.2.2.2.2.2.2.2.2.2.2.2⟩
        unfold q_up
        by_cases e : s = k
        · rw [if_pos ⟨rfl, e⟩]; exact cv
        · rw [if_neg (fun q => e q.2)]; exact hB.base s hs
      have fI : ∀ b, w_fr x b → q_up I (x + 2) k v b = I b := fun b hb => q_up_ne _ _ _ (by unfold w_fr at hb; omega)
      have h0 : w_C0 x S R (q_up I (x + 2) k v) (q_up A 1 k v) := by
        obtain ⟨⟨s1, s2, s3, s4, s5, s6, s7, s8, s9⟩, bl, n, ca, re, sa, cu, ⟨bl1, bl2⟩, _, _⟩ := hC
        refine ⟨⟨?_, ?_, ?_, ?_, ?_, ?_, ?_, ?_, ?_⟩, fun s hs => ?_, fun c hc => ?_, fun k hk => (ca k hk).tr fI (fun _ _ => rfl) rfl (fun _ _ => rfl), fun k hk => ⟨(re k hk).1.tr fI (fun _ _ => rfl) rfl (fun _ _ => rfl), ?_⟩, fun c k hc hk => (sa c k hc hk).tr fI (fun _ _ => rfl) rfl (fun _ _ => rfl), ?_, ⟨?_, fun s hs => ?_⟩⟩
        · rw [q_up_ne _ _ _ (by omega)]; exact s1
        · rw [q_up_ne _ _ _ (by omega)]; exact s2
        · rw [q_up_ne _ _ _ (by omega)]; exact s3
        · rw [q_up_ne _ _ _ (by omega)]; exact s4
        · rw [q_up_ne _ _ _ (by omega)]; exact s5
        · rw [q_up_ne _ _ _ (by omega)]; exact s6
        · rw [q_up_ne _ _ _ (by omega)]; exact s7
        · rw [q_up_ne _ _ _ (by omega)]; exact s8
        · rw [q_up_ne _ _ _ (by omega)]; exact s9
        · unfold q_up
          by_cases e : s = k
          · rw [if_pos ⟨rfl, e⟩, if_pos ⟨rfl, e⟩]
          · rw [if_neg (fun q => e q.2), if_neg (fun q => e q.2)]; exact bl s hs
        · rw [q_up_ne _ _ _ (by omega)]; exact n c hc
        · rw [q_up_ne _ _ _ (by omega)]; exact (re _ (by assumption)).2
        · show if A 0 7 = 1 then _ else _
          split
          · next h7 => rw [if_pos h7] at cu; exact cu.tr fI (fun _ _ => rfl) rfl (fun _ _ => rfl)
          · next h7 => rw [if_neg h7] at cu; exact cu
        · rw [q_up_ne _ _ _ (by omega)]; exact bl1
        · rw [q_up_ne _ _ _ (by omega)]; exact bl2 s hs
      obtain ⟨I2, q3, C3, F3⟩ := e_refit hS hB' h0
      have e2 := hC.2.1 k hk5
      have q4 : f_X0_changeBaseline S R I (x + 1) (k : Int) v = some (A 1 k, I2) := by
        unfold f_X0_changeBaseline
        simp only [k_1 hS, r_1_0 hS, k_2 hS, n_2 hS, Int.toNat_natCast, e2, q_ltE]
        simp (disch := (first | trivial | assumption | omega | (refine r_iE ?_ ?_ <;> omega) | (refine r_lE ?_ ?_ <;> omega) | fail)) only [↓q_gdT, ↓q_ltE, ↓if_pos, ↓if_neg, ↓q_bdE q3]
      refine ⟨hB', I2, ?_, C3, ?_⟩
      · simp (disch := (first | trivial | assumption | omega | (refine r_iE ?_ ?_ <;> omega) | (refine r_lE ?_ ?_ <;> omega) | fail)) only [↓q_gdT, ↓q_ltE, ↓if_pos, ↓if_neg, ↓q_bdE q1, ↓q_bdE q2, ↓q_bd2E q4]
      · exact w_ch.tr (I' := q_up I (x + 2) k v) (fun a ha => q_up_ne _ _ _ (by omega)) F3.ch
    · rw [if_neg cv] at q2 ⊢
      refine ⟨hB, I, ?_, hC, fun _ _ => rfl⟩
      simp (disch := (first | trivial | assumption | omega | (refine r_iE ?_ ?_ <;> omega) | (refine r_lE ?_ ?_ <;> omega) | fail)) only [↓q_gdT, ↓q_ltE, ↓if_pos, ↓if_neg, ↓q_bdE q1, ↓q_bdE q2]
  · rw [if_neg c] at q1 ⊢
    refine ⟨hB, I, ?_, hC, fun _ _ => rfl⟩
    simp (disch := (first | trivial | assumption | omega | (refine r_iE ?_ ?_ <;> omega) | (refine r_lE ?_ ?_ <;> omega) | fail)) only [↓q_gdT, ↓q_ltE, ↓if_pos, ↓if_neg, ↓q_bdE q1]
