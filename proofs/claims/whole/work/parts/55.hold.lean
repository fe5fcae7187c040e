/-! THE CLASS: references -/
theorem z_sxyE {A A' : q_A} {s : Nat} (e2 : A' 0 2 = A 0 2) (e1 : A' 1 s = A 1 s) (hu : ∀ k, k < z_nc A → z_hu A' (1 + k) = z_hu A (1 + k)) (rd : ∀ k, k < z_nc A → z_rd A' (1 + k) s = z_rd A (1 + k) s) : z_sxy A s = z_sxy A' s := by
  have en : z_nc A' = z_nc A := by unfold z_nc; rw [e2]
  have er : ∀ k, k < z_nc A → z_rat A (1 + k) s = z_rat A' (1 + k) s := fun k hk => by unfold z_rat z_ratv; rw [rd k hk, e1]
  unfold z_sxy
  rw [en, e2]
  rw [z_smE (f := fun k => z_hu A (1 + k) * z_rat A (1 + k) s) (g := fun k => z_hu A' (1 + k) * z_rat A' (1 + k) s) (fun k hk => by rw [hu k hk, er k hk])]
  rw [z_smE (f := fun k => z_hu A (1 + k)) (g := fun k => z_hu A' (1 + k)) (fun k hk => (hu k hk).symm)]
  rw [z_smE (f := fun k => z_rat A (1 + k) s) (g := fun k => z_rat A' (1 + k) s) er]
theorem z_sxxE {A A' : q_A} (e2 : A' 0 2 = A 0 2) (hu : ∀ k, k < z_nc A → z_hu A' (1 + k) = z_hu A (1 + k)) : z_sxx A = z_sxx A' := by
  have en : z_nc A' = z_nc A := by unfold z_nc; rw [e2]
  unfold z_sxx
  rw [en, e2]
  rw [z_smE (f := fun k => z_hu A (1 + k) * z_hu A (1 + k)) (g := fun k => z_hu A' (1 + k) * z_hu A' (1 + k)) (fun k hk => by rw [hu k hk])]
  rw [z_smE (f := fun k => z_hu A (1 + k)) (g := fun k => z_hu A' (1 + k)) (fun k hk => (hu k hk).symm)]
def z_late (A : q_A) : Int := if A 0 3 = 0 then -1 else A 3 (z_nr A - 1)
def o_addReference (A : q_A) (v : Int) : Int × q_A := if A 0 7 = 0 then (-5, A) else if 0 ≤ v ∧ v ≤ 999 then (if z_late A < v then (if A 0 3 < 10 then (A 0 3 + 1, q_up (q_up (z_cp A 0 (13 + z_nr A)) 3 (z_nr A) v) 0 3 (A 0 3 + 1)) else (-4, A)) else (-3, A)) else (-3, A)
theorem z_B.addR {A : q_A} {v : Int} (hB : z_B A) (h7 : A 0 7 = 1) (hv : 0 ≤ v ∧ v ≤ 999) (hl : z_late A < v) (h : A 0 3 < 10) : z_B (q_up (q_up (z_cp A 0 (13 + z_nr A)) 3 (z_nr A) v) 0 3 (A 0 3 + 1)) ∧ z_nr (q_up (q_up (z_cp A 0 (13 + z_nr A)) 3 (z_nr A) v) 0 3 (A 0 3 + 1)) = z_nr A + 1 ∧ ∀ k, q_up (q_up (z_cp A 0 (13 + z_nr A)) 3 (z_nr A) v) 0 3 (A 0 3 + 1) 3 k = if k = z_nr A then v else A 3 k := by
  have h3 := hB.2.2.1
  have en : (z_nr A : Int) = A 0 3 := by unfold z_nr; omega
  have ec : z_nr (q_up (q_up (z_cp A 0 (13 + z_nr A)) 3 (z_nr A) v) 0 3 (A 0 3 + 1)) = z_nr A + 1 := by
    show (A 0 3 + 1).toNat = _
    unfold z_nr
    omega
  have et : ∀ k, q_up (q_up (z_cp A 0 (13 + z_nr A)) 3 (z_nr A) v) 0 3 (A 0 3 + 1) 3 k = if k = z_nr A then v else A 3 k := fun k => by
    show q_up (z_cp A 0 (13 + z_nr A)) 3 (z_nr A) v 3 k = _
    unfold q_up
    by_cases e : k = z_nr A
    · rw [if_pos ⟨rfl, e⟩, if_pos e]
    · rw [if_neg (fun q => e q.2), if_neg e]; exact z_cp_d (by omega)
  have lt : ∀ k, k < z_nr A → A 3 k < v := fun k hk => by
    unfold z_late at hl
    rw [if_neg (by omega)] at hl
    by_cases e : k = z_nr A - 1
    · rw [e]; exact hl
    · have := hB.2.2.2.2.2.2.2.2.2.2.2.2.1 k (z_nr A - 1) (by omega) (by omega)
      omega
  refine ⟨⟨hB.1, hB.2.1, by show 0 ≤ A 0 3 + 1 ∧ A 0 3 + 1 ≤ 10; omega, hB.2.2.2.1, hB.2.2.2.2.1, hB.2.2.2.2.2.1, hB.2.2.2.2.2.2.1, hB.2.2.2.2.2.2.2.1, hB.2.2.2.2.2.2.2.2.1, hB.2.2.2.2.2.2.2.2.2.1, z_dataC (q := 13 + z_nr A) hB (Or.inl ⟨rfl, h7⟩) (fun j => rfl) rfl (fun p hp => ?_), fun k hk => ?_, fun k l hkl hl' => ?_, hB.2.2.2.2.2.2.2.2.2.2.2.2.2⟩, ec, et⟩
  · rcases hp with q | q | q | q
    · exact Or.inr (Or.inl q)
    · exact Or.inr (Or.inr (Or.inl q))
    · rw [ec] at q
      by_cases e : p = 13 + z_nr A
      · exact Or.inl e
      · exact Or.inr (Or.inr (Or.inr (Or.inl (by omega))))
    · exact Or.inr (Or.inr (Or.inr (Or.inr q)))
  · rw [ec] at hk
    rw [et k]
    by_cases e : k = z_nr A
    · rw [if_pos e]; exact hv
    · rw [if_neg e]; exact hB.time k (by omega)
  · rw [ec] at hl'
    rw [et k, et l, if_neg (by omega)]
    by_cases e : l = z_nr A
    · rw [if_pos e]; exact lt k (by omega)
    · rw [if_neg e]; exact hB.2.2.2.2.2.2.2.2.2.2.2.2.1 k l hkl (by omega)
theorem e_latest {x : Nat} {S : q_S} {R : q_HR} {I : q_HI} {A : q_A} (hS : w_Sh x S R) (hB : z_B A) (hC : w_C x S R I A) : f_X1_latestTime S R I (x + 9) = some (z_late A) ∧ -1 ≤ z_late A ∧ z_late A ≤ 999 := by
  have h3 := hB.2.2.1
  have en : (z_nr A : Int) = A 0 3 := by unfold z_nr; omega
  have e10 := hC.1.2.2.2.2.2.2.2.2
  unfold f_X1_latestTime z_late
  simp only [k_9 hS, r_9_0 hS, k_10 hS, e10, r_9_1 hS, k_14 hS, n_14 hS, q_ltE]
  by_cases c : A 0 3 = 0
  · rw [if_pos c]
    refine ⟨?_, by omega, by omega⟩
    simp (disch := (first | trivial | assumption | omega | (refine r_iE ?_ ?_ <;> omega) | (refine r_lE ?_ ?_ <;> omega) | fail)) only [↓q_gdT, ↓q_ltE, ↓if_pos, ↓if_neg]
  · rw [if_neg c]
    have t := hB.time (z_nr A - 1) (by omega)
    have e14 := (hC.2.2.2.2.1 (z_nr A - 1) (by omega)).2
    refine ⟨?_, by omega, by omega⟩
    have ev : (A 0 3 - 1).toNat = z_nr A - 1 := by omega
    simp (disch := (first | trivial | assumption | omega | (refine r_iE ?_ ?_ <;> omega) | (refine r_lE ?_ ?_ <;> omega) | fail)) only [↓q_gdT, ↓q_ltE, ↓if_pos, ↓if_neg, ev, e14]
theorem g_addReference {x : Nat} {S : q_S} {R : q_HR} {I : q_HI} {A : q_A} {v : Int} (hS : w_Sh x S R) (hB : z_B A) (hC : w_C x S R I A) (hv : r_i v) : z_B (o_addReference A v).2 ∧ ∃ R' I', f_X9_addReference S R I x v = some ((o_addReference A v).1, R', I') ∧ w_C x S R' I' (o_addReference A v).2 ∧ w_ch x I I' ∧ w_cr x R R' := by
  have h3 := hB.2.2.1
  have h7 := hB.2.2.2.2.2.2.1
  have en : (z_nr A : Int) = A 0 3 := by unfold z_nr; omega
  have e9 := hC.1.2.2.1
  have e10 := hC.1.2.2.2.2.2.2.2.2
  have q0 := e_isWithin (a := v) (b := 0) (c := 999) hv (r_iE (by omega) (by omega)) (r_iE (by omega) (by omega))
  obtain ⟨qt, lb1, lb2⟩ := e_latest hS hB hC
  have q1 := e_isFull (I := I) (n := z_nr A) (k_10 hS) (r_10_0 hS) (k_11 hS) (by rw [e10, en]) (by omega) (by rw [n_11 hS]; omega)
  rw [n_11 hS, en] at q1
  unfold f_X9_addReference o_addReference
  simp only [k_0 hS, e9, r_0_1 hS, k_9 hS, r_9_0 hS, k_10 hS]
  by_cases c7 : A 0 7 = 0
  · rw [if_pos c7]
    refine ⟨hB, R, I, ?_, hC, fun _ _ => rfl, fun _ _ _ => rfl⟩
    simp (disch := (first | trivial | assumption | omega | (refine r_iE ?_ ?_ <;> omega) | (refine r_lE ?_ ?_ <;> omega) | fail)) only [↓q_gdT, ↓q_ltE, ↓if_pos, ↓if_neg]
  rw [if_neg c7]
  by_cases cv : 0 ≤ v ∧ v ≤ 999
  · rw [if_pos cv] at q0 ⊢
    by_cases cl : z_late A < v
    · rw [if_pos cl]
      by_cases c2 : A 0 3 < 10
      · rw [if_pos (show A 0 3 < ((10 : Nat) : Int) by omega)] at q1
        rw [if_pos c2]
        dsimp only
        obtain ⟨hB', ec, et⟩ := hB.addR (by omega) cv cl c2
        have cu := hC.2.2.2.2.2.2.1
        rw [if_pos (show A 0 7 = 1 by omega)] at cu
        have k6 := cu.1
        have q2 := e_append (I := q_up I (x + 14) (z_nr A) v) (n := z_nr A) (m := R x 8) (k_10 hS) (r_10_0 hS) (k_11 hS) (by rw [q_up_ne _ _ _ (by omega), e10, en]) (by rw [n_11 hS]; omega) (by rw [n_11 hS]; omega) k6
        rw [en] at q2
        have hS' : w_Sh x S (q_up R (x + 11) (z_nr A) (R x 8)) := hS.up (Or.inr (Or.inl rfl))
        generalize hJ : q_up (q_up I (x + 14) (z_nr A) v) (x + 10) 2 (A 0 3 + 1) = J at q2
        have fJ : ∀ a, a ≠ x + 14 → a ≠ x + 10 → J a = I a := fun a h1 h2 => by rw [← hJ, q_up_ne _ _ _ h2, q_up_ne _ _ _ h1]
        have J10 : J (x + 10) 2 = A 0 3 + 1 := by rw [← hJ]; unfold q_up; rw [if_pos ⟨rfl, rfl⟩]
        have J14 : ∀ k, J (x + 14) k = if k = z_nr A then v else I (x + 14) k := fun k => by
          rw [← hJ, q_up_ne _ _ _ (by omega)]
          unfold q_up
          by_cases e : k = z_nr A
          · rw [if_pos ⟨rfl, e⟩, if_pos e]
          · rw [if_neg (fun q => e q.2), if_neg e]
        have fI : ∀ a, w_fr x a → J a = I a := fun a ha => fJ a (by unfold w_fr at ha; omega) (by unfold w_fr at ha; omega)
        have fR : ∀ a, w_fr x a → q_up R (x + 11) (z_nr A) (R x 8) a = R a := fun a ha => q_up_ne _ _ _ (by unfold w_fr at ha; omega)
        have hu : ∀ r, r ≠ 13 + z_nr A → z_hu (q_up (q_up (z_cp A 0 (13 + z_nr A)) 3 (z_nr A) v) 0 3 (A 0 3 + 1)) r = z_hu A r := fun r hr => by
          have := z_cp_hu A 0 (13 + z_nr A) r
          rw [if_neg hr] at this
          exact this
        have rd : ∀ r, r ≠ 13 + z_nr A → ∀ s, s < 5 → z_rd (q_up (q_up (z_cp A 0 (13 + z_nr A)) 3 (z_nr A) v) 0 3 (A 0 3 + 1)) r s = z_rd A r s := fun r hr s hs => by
          have := z_cp_rd A 0 (13 + z_nr A) r s hs
          rw [if_neg hr] at this
          exact this
        have C' : w_C x S (q_up R (x + 11) (z_nr A) (R x 8)) J (q_up (q_up (z_cp A 0 (13 + z_nr A)) 3 (z_nr A) v) 0 3 (A 0 3 + 1)) := by
          have h2 := hB.2.1
          have en2 : (z_nc A : Int) = A 0 2 := by unfold z_nc; omega
          obtain ⟨⟨s1, s2, s3, s4, s5, s6, s7, s8, s9⟩, bl, n, ca, re, sa, _, ⟨bl1, bl2⟩, f1, f2⟩ := hC
          refine ⟨⟨?_, ?_, ?_, ?_, ?_, ?_, ?_, ?_, ?_⟩, fun s hs => ?_, fun c hc => ?_, fun k hk => ?_, fun k hk => ⟨?_, ?_⟩, fun c k hc hk => ?_, ?_, ⟨?_, fun s hs => ?_⟩, fun s hs => ?_, ?_⟩
          · rw [fJ _ (by omega) (by omega)]; exact s1
          · rw [fJ _ (by omega) (by omega)]; exact s2
          · rw [fJ _ (by omega) (by omega)]; exact s3
          · rw [fJ _ (by omega) (by omega)]; exact s4
          · rw [fJ _ (by omega) (by omega)]; exact s5
          · rw [fJ _ (by omega) (by omega)]; exact s6
          · rw [fJ _ (by omega) (by omega)]; exact s7
          · rw [fJ _ (by omega) (by omega)]; exact s8
          · exact J10
          · rw [fJ _ (by omega) (by omega)]; exact bl s hs
          · rw [fJ _ (by omega) (by omega)]; exact n c hc
          · have hk' : k < z_nc A := hk
            rw [q_up_ne _ _ _ (by omega)]
            exact (ca k hk').tr fI fR (hu _ (by omega)) (rd _ (by omega))
          · rw [ec] at hk
            by_cases e : k = z_nr A
            · subst e
              have er : q_up R (x + 11) (z_nr A) (R x 8) (x + 11) (z_nr A) = R x 8 := by unfold q_up; rw [if_pos ⟨rfl, rfl⟩]
              rw [er]
              refine cu.tr fI fR ?_ (fun s hs => ?_)
              · have := z_cp_hu A 0 (13 + z_nr A) (13 + z_nr A)
                rw [if_pos rfl] at this
                exact this
              · have := z_cp_rd A 0 (13 + z_nr A) (13 + z_nr A) s hs
                rw [if_pos rfl] at this
                exact this
            · have er : q_up R (x + 11) (z_nr A) (R x 8) (x + 11) k = R (x + 11) k := by unfold q_up; rw [if_neg (fun q => e q.2)]
              rw [er]
              exact (re k (by omega)).1.tr fI fR (hu _ (by omega)) (rd _ (by omega))
          · rw [ec] at hk
            rw [et k, J14 k]
            by_cases e : k = z_nr A
            · rw [if_pos e, if_pos e]
            · rw [if_neg e, if_neg e]; exact (re k (by omega)).2
          · rw [q_up_ne _ _ _ (by omega)]
            exact (sa c k hc hk).tr fI fR (hu _ (by omega)) (rd _ (by omega))
          · show if A 0 7 = 1 then _ else _
            rw [if_pos (by omega), q_up_ne _ _ _ (by omega)]
            exact cu.tr fI fR (hu _ (by omega)) (rd _ (by omega))
          · rw [fJ _ (by omega) (by omega)]; exact bl1
          · rw [fJ _ (by omega) (by omega)]; exact bl2 s hs
          · rw [fJ _ (by omega) (by omega), f1 s hs]
            exact z_sxyE (by rfl) (by rfl) (fun k hk => hu _ (by omega)) (fun k hk => rd _ (by omega) s hs)
          · rw [fJ _ (by omega) (by omega), f2]
            exact z_sxxE (by rfl) (fun k hk => hu _ (by omega))
        have q4 : f_X1_append S R I (x + 9) (R x 8) v = some (A 0 3 + 1, q_up R (x + 11) (z_nr A) (R x 8), J) := by
          unfold f_X1_append
          have ev : (A 0 3).toNat = z_nr A := rfl
          simp only [k_9 hS, r_9_0 hS, k_10 hS, r_9_1 hS, k_14 hS, n_14 hS, e10, ev]
          simp (disch := (first | trivial | assumption | omega | (refine r_iE ?_ ?_ <;> omega) | (refine r_lE ?_ ?_ <;> omega) | fail)) only [↓q_gdT, ↓q_ltE, ↓if_pos, ↓if_neg, ↓q_bd2E q2, r_9_0 hS', k_10 hS, J10]
        refine ⟨hB', q_up R (x + 11) (z_nr A) (R x 8), J, ?_, C', ?_, fun a j h => q_up_ne _ _ _ (fun e => h (Or.inr (Or.inl e))) ▸ rfl⟩
        · simp (disch := (first | trivial | assumption | omega | (refine r_iE ?_ ?_ <;> omega) | (refine r_lE ?_ ?_ <;> omega) | fail)) only [↓q_gdT, ↓q_ltE, ↓if_pos, ↓if_neg, ↓q_bdE q0, ↓q_bdE qt, ↓q_bdE q1, k6, ↓q_bd3E q4]
        · exact fun a ha => fJ a (by omega) (by omega)
      · rw [if_neg (show ¬ A 0 3 < ((10 : Nat) : Int) by omega)] at q1
        rw [if_neg c2]
        refine ⟨hB, R, I, ?_, hC, fun _ _ => rfl, fun _ _ _ => rfl⟩
        simp (disch := (first | trivial | assumption | omega | (refine r_iE ?_ ?_ <;> omega) | (refine r_lE ?_ ?_ <;> omega) | fail)) only [↓q_gdT, ↓q_ltE, ↓if_pos, ↓if_neg, ↓q_bdE q0, ↓q_bdE qt, ↓q_bdE q1]
    · rw [if_neg cl]
      refine ⟨hB, R, I, ?_, hC, fun _ _ => rfl, fun _ _ _ => rfl⟩
      simp (disch := (first | trivial | assumption | omega | (refine r_iE ?_ ?_ <;> omega) | (refine r_lE ?_ ?_ <;> omega) | fail)) only [↓q_gdT, ↓q_ltE, ↓if_pos, ↓if_neg, ↓q_bdE q0, ↓q_bdE qt]
  · rw [if_neg cv] at q0 ⊢
    refine ⟨hB, R, I, ?_, hC, fun _ _ => rfl, fun _ _ _ => rfl⟩
    simp (disch := (first | trivial | assumption | omega | (refine r_iE ?_ ?_ <;> omega) | (refine r_lE ?_ ?_ <;> omega) | fail)) only [↓q_gdT, ↓q_ltE, ↓if_pos, ↓if_neg, ↓q_bdE q0]
