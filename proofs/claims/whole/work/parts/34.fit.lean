/-! THE CLASS: stores, sums, the fit -/
theorem e_at {S : q_S} {R : q_HR} {I : q_HI} {sa hd k : Nat} (h1 : S.1 sa = 9) (h2 : R sa 0 = hd) (h3 : S.1 hd = 16) (hc : (k : Int) < I sa 2) (hcr : I sa 2 ≤ 100) (hl : k < S.2.1 hd) (hm : S.1 (R hd k) = 6) : f_X8_at S R I sa (k : Int) = some (R hd k) := by
  unfold f_X8_at
  subst h2
  simp only [h1, h3, Int.toNat_natCast, hm]
  simp (disch := (first | trivial | assumption | omega | (refine r_iE ?_ ?_ <;> omega) | (refine r_lE ?_ ?_ <;> omega) | fail)) only [↓q_gdT, ↓q_ltE, ↓if_pos, ↓if_neg]
def z_5 (a b c d e : Int) : Nat → Int := fun j => match j with
  | 0 => a
  | 1 => b
  | 2 => c
  | 3 => d
  | _ => e
theorem e_clear3 {S : q_S} {R : q_HR} {I : q_HI} {ln : Nat} (h : S.1 ln = 4) : f_X3_clear S R I ln = some (z_row I ln (z_5 0 0 0 0 0) 5) := by
  unfold f_X3_clear
  rw [q_gdT h]
  simp only [q_ltE]
  congr 1
  funext a j
  simp only [q_up, z_row]
  by_cases ha : a = ln
  · subst ha
    match j with
    | 0 => simp [z_5]
    | 1 => simp [z_5]
    | 2 => simp [z_5]
    | 3 => simp [z_5]
    | 4 => simp [z_5]
    | j + 5 => simp [show ¬ j + 5 < 5 by omega]
  · simp [ha]
theorem e_add3 {S : q_S} {R : q_HR} {I : q_HI} {ln : Nat} {a b c d e u v : Int} (h : S.1 ln = 4) : f_X3_add S R (z_row I ln (z_5 a b c d e) 5) ln u v = some (z_row I ln (z_5 (a + 1) (b + u) (c + v) (d + u * u) (e + u * v)) 5) := by
  unfold f_X3_add
  rw [q_gdT h]
  simp only [q_ltE]
  congr 1
  funext q j
  simp only [q_up, z_row]
  by_cases ha : q = ln
  · subst ha
    match j with
    | 0 => simp [z_5]
    | 1 => simp [z_5]
    | 2 => simp [z_5]
    | 3 => simp [z_5]
    | 4 => simp [z_5]
    | j + 5 => simp [show ¬ j + 5 < 5 by omega]
  · simp [ha]
theorem e_cross {S : q_S} {R : q_HR} {I : q_HI} {ln : Nat} (h : S.1 ln = 4) : f_X3_cross S R I ln = some (I ln 0 * I ln 4 - I ln 1 * I ln 2) := by
  unfold f_X3_cross
  rw [q_gdT h]
theorem e_square {S : q_S} {R : q_HR} {I : q_HI} {ln : Nat} (h : S.1 ln = 4) : f_X3_square S R I ln = some (I ln 0 * I ln 3 - I ln 1 * I ln 1) := by
  unfold f_X3_square
  rw [q_gdT h]
theorem z_row5 {I : q_HI} {ln : Nat} {a b c d e : Int} : z_row I ln (z_5 a b c d e) 5 ln 0 = a ∧ z_row I ln (z_5 a b c d e) 5 ln 1 = b ∧ z_row I ln (z_5 a b c d e) 5 ln 2 = c ∧ z_row I ln (z_5 a b c d e) 5 ln 3 = d ∧ z_row I ln (z_5 a b c d e) 5 ln 4 = e := ⟨z_row_at _ (by decide), z_row_at _ (by decide), z_row_at _ (by decide), z_row_at _ (by decide), z_row_at _ (by decide)⟩
/-- what the fit rests on -/
def w_ca (x : Nat) (S : q_S) (R : q_HR) (I : q_HI) (A : q_A) : Prop := I (x + 3) 2 = A 0 2 ∧ (∀ s, s < 5 → I (x + 2) s = A 1 s) ∧ ∀ k, k < z_nc A → w_P x S R I A (R (x + 4) k) (1 + k)
def w_Ff (x : Nat) (I I' : q_HI) : Prop := ∀ a j, a ≠ x + 7 → a ≠ x + 8 → ¬ (a = x + 1 ∧ j = 4) → I' a j = I a j
theorem w_Ff.row {x : Nat} {I I' : q_HI} (h : w_Ff x I I') {a : Nat} (h1 : a ≠ x + 7) (h2 : a ≠ x + 8) (h3 : a ≠ x + 1) : I' a = I a := funext fun j => h a j h1 h2 (by omega)
theorem w_ca.fr {x : Nat} {S : q_S} {R : q_HR} {I I' : q_HI} {A : q_A} (h : w_ca x S R I A) (hf : w_Ff x I I') : w_ca x S R I' A := by
  obtain ⟨h1, h2, h3⟩ := h
  exact ⟨by rw [hf.row (by omega) (by omega) (by omega)]; exact h1, fun s hs => by rw [hf.row (by omega) (by omega) (by omega)]; exact h2 s hs, fun k hk => (h3 k hk).fr (fun a ha => hf.row (by unfold w_fr at ha; omega) (by unfold w_fr at ha; omega) (by unfold w_fr at ha; omega))⟩
theorem e_fit_in {x : Nat} {S : q_S} {R : q_HR} {I : q_HI} {A : q_A} {s : Nat} {K : Int → q_HI → Option q_HI} (hS : w_Sh x S R) (hB : z_B A) (hc : w_ca x S R I A) (hs : s < 5) :
    f_X0_fit_L16 S R (x + 1) (s : Int) K 100 0 (z_row I (x + 7) (z_5 0 0 0 0 0) 5) = K (A 0 2) (z_row I (x + 7) (z_5 (A 0 2) (z_sm (fun k => z_hu A (1 + k)) (z_nc A)) (z_sm (fun k => z_rat A (1 + k) s) (z_nc A)) (z_sm (fun k => z_hu A (1 + k) * z_hu A (1 + k)) (z_nc A)) (z_sm (fun k => z_hu A (1 + k) * z_rat A (1 + k) s) (z_nc A))) 5) := by
  have hn := hB.2.1
  have en : (z_nc A : Int) = A 0 2 := by unfold z_nc; omega
  have key := z_loop (fun n i => f_X0_fit_L16 S R (x + 1) (s : Int) K n ((i : Nat) : Int) (z_row I (x + 7) (z_5 (i : Int) (z_sm (fun k => z_hu A (1 + k)) i) (z_sm (fun k => z_rat A (1 + k) s) i) (z_sm (fun k => z_hu A (1 + k) * z_hu A (1 + k)) i) (z_sm (fun k => z_hu A (1 + k) * z_rat A (1 + k) s) i)) 5)) (z_nc A) (K (A 0 2) (z_row I (x + 7) (z_5 (A 0 2) (z_sm (fun k => z_hu A (1 + k)) (z_nc A)) (z_sm (fun k => z_rat A (1 + k) s) (z_nc A)) (z_sm (fun k => z_hu A (1 + k) * z_hu A (1 + k)) (z_nc A)) (z_sm (fun k => z_hu A (1 + k) * z_rat A (1 + k) s) (z_nc A))) 5)) (fun n i hi => ?_) (fun n => ?_) 100 (by omega)
  · exact key
  · show f_X0_fit_L16 _ _ _ _ _ (n + 1) _ _ = _
    rw [f_X0_fit_L16]
    obtain ⟨c1, c2, c3⟩ := hc
    have hP := c3 i hi
    have b := hB.data _ (z_vc hi)
    generalize hJ : z_row I (x + 7) (z_5 (i : Int) (z_sm (fun k => z_hu A (1 + k)) i) (z_sm (fun k => z_rat A (1 + k) s) i) (z_sm (fun k => z_hu A (1 + k) * z_hu A (1 + k)) i) (z_sm (fun k => z_hu A (1 + k) * z_rat A (1 + k) s) i)) 5 = J
    have fr : ∀ a, a ≠ x + 7 → J a = I a := fun a ha => by rw [← hJ]; exact z_row_ne _ _ ha
    have e3 : J (x + 3) 2 = A 0 2 := by rw [fr _ (by omega)]; exact c1
    have hP' : w_P x S R J A (R (x + 4) i) (1 + i) := hP.fr (fun a ha => fr a (by unfold w_fr at ha; omega))
    have q1 := e_at (S := S) (R := R) (I := J) (sa := x + 3) (hd := x + 4) (k := i) (k_3 hS) (r_3_0 hS) (k_4 hS) (by rw [e3]; omega) (by rw [e3]; omega) (by rw [n_4 hS]; omega) hP.1
    have q2 := e_ratioIn (I := J) (s := s) hS (fun t ht => by rw [fr _ (by omega)]; exact c2 t ht) hB.base hP' (fun t ht => (b.2 t ht).1) hs
    have b2 := hB.rat (z_vc hi) hs
    have hh : J (R (x + 4) i) 0 = z_hu A (1 + i) := hP'.2.2.2.2.2.1
    have q3 := e_add3 (S := S) (R := R) (I := I) (ln := x + 7) (a := (i : Int)) (b := z_sm (fun k => z_hu A (1 + k)) i) (c := z_sm (fun k => z_rat A (1 + k) s) i) (d := z_sm (fun k => z_hu A (1 + k) * z_hu A (1 + k)) i) (e := z_sm (fun k => z_hu A (1 + k) * z_rat A (1 + k) s) i) (u := z_hu A (1 + i)) (v := z_rat A (1 + i) s) (k_7 hS)
    rw [hJ] at q3
    simp only [k_1 hS, k_3 hS, r_1_1 hS, r_1_2 hS, k_7 hS, e3]
    have b3 := b.1
    have q2' : f_X0_ratioIn S R J (x + 1) (R (x + 4) i) (s : Int) = some (z_rat A (1 + i) s) := q2
    simp (disch := (first | trivial | assumption | omega | (refine r_iE ?_ ?_ <;> omega) | (refine r_lE ?_ ?_ <;> omega) | fail)) only [↓q_gdT, ↓q_ltE, ↓if_pos, ↓if_neg, ↓q_bdE q1, ↓q_bdE q2', ↓q_bdE q3, hP.1, hh]
    all_goals rfl
  · show f_X0_fit_L16 _ _ _ _ _ (n + 1) _ _ = _
    rw [f_X0_fit_L16]
    have e3 : z_row I (x + 7) (z_5 ((z_nc A : Nat) : Int) (z_sm (fun k => z_hu A (1 + k)) (z_nc A)) (z_sm (fun k => z_rat A (1 + k) s) (z_nc A)) (z_sm (fun k => z_hu A (1 + k) * z_hu A (1 + k)) (z_nc A)) (z_sm (fun k => z_hu A (1 + k) * z_rat A (1 + k) s) (z_nc A))) 5 (x + 3) 2 = A 0 2 := by rw [z_row_ne _ _ (by omega)]; exact hc.1
    simp only [k_1 hS, k_3 hS, r_1_1 hS, e3]
    simp (disch := (first | trivial | assumption | omega | (refine r_iE ?_ ?_ <;> omega) | (refine r_lE ?_ ?_ <;> omega) | fail)) only [↓q_gdT, ↓q_ltE, ↓if_pos, ↓if_neg]
    rw [en]
theorem e_fit {x : Nat} {S : q_S} {R : q_HR} {I : q_HI} {A : q_A} (hS : w_Sh x S R) (hB : z_B A) (hc : w_ca x S R I A) : ∃ I', f_X0_fit S R I (x + 1) = some I' ∧ w_Ff x I I' ∧ (∀ s, s < 5 → I' (x + 8) s = z_sxy A s) ∧ I' (x + 1) 4 = z_sxx A := by
  unfold f_X0_fit
  have key := z_loopR (σ := Int × q_HI) (fun n s => f_X0_fit_L2 S R (x + 1) (fun w34 I35 => some I35) n s.1 s.2) (fun i s => s.1 = (i : Int) ∧ w_Ff x I s.2 ∧ (∀ t, t < i → s.2 (x + 8) t = z_sxy A t) ∧ (0 < i → s.2 (x + 1) 4 = z_sxx A)) 5 (fun s => some s.2) (fun n i s hi hP => ?_) (fun n s hP => ?_) 100 0 (0, I) (by decide) (by decide) ⟨rfl, fun _ _ _ _ _ => rfl, fun t ht => absurd ht (by omega), fun h => absurd h (by omega)⟩
  · obtain ⟨s', h1, h2⟩ := key
    exact ⟨s'.2, h2, h1.2.1, h1.2.2.1, h1.2.2.2 (by decide)⟩
  · obtain ⟨v, J⟩ := s
    obtain ⟨rfl, hF, hP1, hP2⟩ := hP
    have q0 := e_clear3 (S := S) (R := R) (I := J) (k_7 hS)
    have q1 := e_fit_in (K := fun w22 I23 => q_gd (S.1 (R (x + 1) 3) = 13) (q_bd (f_X3_cross S R I23 (R (x + 1) 2)) fun r25 => q_gd ((0 : Int) ≤ (i : Int) ∧ (i : Int) < (S.2.1 (R (x + 1) 3) : Int)) (q_lt (q_up I23 (R (x + 1) 3) (Int.toNat (i : Int)) r25) fun I28 => q_bd (f_X3_square S R I28 (R (x + 1) 2)) fun r30 => q_lt (q_up I28 (x + 1) 4 r30) fun I32 => f_X0_fit_L2 S R (x + 1) (fun w34 I35 => some I35) n ((i : Int) + 1) I32))) hS hB (hc.fr hF) hi
    show ∃ s' : Int × q_HI, _ ∧ f_X0_fit_L2 _ _ _ _ (n + 1) _ _ = _
    rw [f_X0_fit_L2]
    simp only [k_1 hS, r_1_2 hS, k_7 hS] at q1 ⊢
    simp (disch := (first | trivial | assumption | omega | (refine r_iE ?_ ?_ <;> omega) | (refine r_lE ?_ ?_ <;> omega) | fail)) only [↓q_gdT, ↓q_ltE, ↓if_pos, ↓if_neg, ↓q_bdE q0, ↓q1]
    generalize hJ' : z_row J (x + 7) (z_5 (A 0 2) (z_sm (fun k => z_hu A (1 + k)) (z_nc A)) (z_sm (fun k => z_rat A (1 + k) i) (z_nc A)) (z_sm (fun k => z_hu A (1 + k) * z_hu A (1 + k)) (z_nc A)) (z_sm (fun k => z_hu A (1 + k) * z_rat A (1 + k) i) (z_nc A))) 5 = J'
    obtain ⟨v0, v1, v2, v3, v4⟩ := z_row5 (I := J) (ln := x + 7) (a := A 0 2) (b := z_sm (fun k => z_hu A (1 + k)) (z_nc A)) (c := z_sm (fun k => z_rat A (1 + k) i) (z_nc A)) (d := z_sm (fun k => z_hu A (1 + k) * z_hu A (1 + k)) (z_nc A)) (e := z_sm (fun k => z_hu A (1 + k) * z_rat A (1 + k) i) (z_nc A))
    rw [hJ'] at v0 v1 v2 v3 v4
    have frJ : ∀ a, a ≠ x + 7 → J' a = J a := fun a ha => by rw [← hJ']; exact z_row_ne _ _ ha
    have q2 := e_cross (S := S) (R := R) (I := J') (k_7 hS)
    have q3 := e_square (S := S) (R := R) (I := q_up J' (x + 8) i (z_sxy A i)) (k_7 hS)
    have e7 : ∀ t, q_up J' (x + 8) i (z_sxy A i) (x + 7) t = J' (x + 7) t := fun t => by rw [q_up_ne _ _ _ (by omega)]
    rw [v0, v1, v2, v4] at q2
    simp only [e7, v0, v1, v3] at q3
    have q2' : f_X3_cross S R J' (x + 7) = some (z_sxy A i) := q2
    have q3' : f_X3_square S R (q_up J' (x + 8) i (z_sxy A i)) (x + 7) = some (z_sxx A) := q3
    simp only [r_1_3 hS, k_8 hS, n_8 hS, Int.toNat_natCast]
    simp (disch := (first | trivial | assumption | omega | (refine r_iE ?_ ?_ <;> omega) | (refine r_lE ?_ ?_ <;> omega) | fail)) only [↓q_gdT, ↓q_ltE, ↓if_pos, ↓if_neg, ↓q_bdE q2', ↓q_bdE q3']
    refine ⟨(((i + 1 : Nat) : Int), q_up (q_up J' (x + 8) i (z_sxy A i)) (x + 1) 4 (z_sxx A)), ⟨rfl, fun a j h1 h2 h3 => ?_, fun t ht => ?_, fun _ => ?_⟩, rfl⟩
    · show q_up _ _ _ _ a j = _
      unfold q_up
      rw [if_neg h3, if_neg (by omega), frJ a h1]
      exact hF a j h1 h2 h3
    · show q_up _ _ _ _ (x + 8) t = _
      rw [q_up_ne _ _ _ (by omega)]
      unfold q_up
      by_cases e : t = i
      · rw [if_pos ⟨rfl, e⟩, e]
      · rw [if_neg (by omega), frJ _ (by omega)]
        exact hP1 t (by omega)
    · show q_up _ _ _ _ (x + 1) 4 = _
      unfold q_up
      rw [if_pos ⟨rfl, rfl⟩]
  · obtain ⟨v, J⟩ := s
    obtain ⟨rfl, hF, hP1, hP2⟩ := hP
    show f_X0_fit_L2 _ _ _ _ (n + 1) _ _ = _
    rw [f_X0_fit_L2]
    simp (disch := (first | trivial | assumption | omega | (refine r_iE ?_ ?_ <;> omega) | (refine r_lE ?_ ?_ <;> omega) | fail)) only [↓q_gdT, ↓q_ltE, ↓if_pos, ↓if_neg]
