/-! THE REFERENCE: drift -/
theorem m_drift1 {x : Nat} {S : q_S} {R : q_HR} {I : q_HI} {A : q_A} {s : Nat} {w : Int} {K : Int → Int → Int → Int → Option q_HI} (hS : w_Sh x S R) (hB : z_B A) (hD : w_D x I A) (hl : ∀ k, k < z_nr A → I (x + 176) (5 * (13 + k) + s) = z_fe A (13 + k) s) (hs : s < 5) : ∃ t f tf k : Int, f_X10_laysDrift_L21 S R I (x + 171) w (s : Int) K 100 0 0 0 0 = K t f tf k ∧ A 0 3 * tf - t * f = z_tr A s := by
  have h1 := hB.1
  have hr := hB.r10
  by_cases c : A 0 1 ≤ (s : Int)
  · refine ⟨0, 0, 0, 0, ?_, by rw [z_tr0 hB hs (by omega)]; simp⟩
    show f_X10_laysDrift_L21 _ _ _ _ _ _ _ (99 + 1) _ _ _ _ = _
    rw [f_X10_laysDrift_L21]
    simp only [k_171 hS, hD.f3, hD.f1]
    by_cases c0 : A 0 3 ≤ 0
    · simp (disch := (first | trivial | assumption | omega | (refine r_iE ?_ ?_ <;> omega) | (refine r_lE ?_ ?_ <;> omega) | fail)) only [↓q_gdT, ↓q_ltE, ↓if_pos, ↓if_neg]
    · simp (disch := (first | trivial | assumption | omega | (refine r_iE ?_ ?_ <;> omega) | (refine r_lE ?_ ?_ <;> omega) | fail)) only [↓q_gdT, ↓q_ltE, ↓if_pos, ↓if_neg]
  · refine ⟨z_sm (fun k => A 3 k) (z_nr A), z_sm (fun k => z_fe A (13 + k) s) (z_nr A), z_sm (fun k => A 3 k * z_fe A (13 + k) s) (z_nr A), ((z_nr A : Nat) : Int), ?_, rfl⟩
    refine z_loop (fun n i => f_X10_laysDrift_L21 S R I (x + 171) w (s : Int) K n (z_sm (fun k => A 3 k) i) (z_sm (fun k => z_fe A (13 + k) s) i) (z_sm (fun k => A 3 k * z_fe A (13 + k) s) i) ((i : Nat) : Int)) (z_nr A) _ (fun n i hi => ?_) (fun n => ?_) 100 (by omega)
    · have b1 := hB.time i hi
      have b2 := z_fB A (13 + i) s
      have e5 : (5 * (13 + (i : Int)) + (s : Int)).toNat = 5 * (13 + i) + s := by omega
      show f_X10_laysDrift_L21 _ _ _ _ _ _ _ (n + 1) _ _ _ _ = _
      rw [f_X10_laysDrift_L21]
      simp only [k_171 hS, hD.f3, hD.f1, r_171_12 hS, k_174 hS, n_174 hS, r_171_16 hS, k_176 hS, n_176 hS, hD.d3, Int.toNat_natCast, e5, hl i hi]
      simp (disch := (first | trivial | assumption | omega | (refine r_iE ?_ ?_ <;> omega) | (refine r_lE ?_ ?_ <;> omega) | fail)) only [↓q_gdT, ↓q_ltE, ↓if_pos, ↓if_neg]
      rfl
    · show f_X10_laysDrift_L21 _ _ _ _ _ _ _ (n + 1) _ _ _ _ = _
      rw [f_X10_laysDrift_L21]
      simp only [k_171 hS, hD.f3]
      simp (disch := (first | trivial | assumption | omega | (refine r_iE ?_ ?_ <;> omega) | (refine r_lE ?_ ?_ <;> omega) | fail)) only [↓q_gdT, ↓q_ltE, ↓if_pos, ↓if_neg]
theorem m_drift2 {x : Nat} {S : q_S} {R : q_HR} {I : q_HI} {A : q_A} {K : Int → Int → q_HI → Option q_HI} (hS : w_Sh x S R) (hB : z_B A) (hD : w_D x I A) (hl : ∀ k, k < z_nr A → ∀ s, s < 5 → I (x + 176) (5 * (13 + k) + s) = z_fe A (13 + k) s) : f_X10_laysDrift_L4 S R (x + 171) K 100 0 0 I = K (z_gm A) 5 (z_row I (x + 178) (z_tr A) 5) := by
  have hr := hB.r10
  have key := z_loop (fun n i => f_X10_laysDrift_L4 S R (x + 171) K n (z_gx A i) ((i : Nat) : Int) (z_row I (x + 178) (z_tr A) i)) 5 (K (z_gm A) 5 (z_row I (x + 178) (z_tr A) 5)) (fun n i hi => ?_) (fun n => ?_) 100 (by decide)
  · rw [z_row_0] at key
    exact key
  · have hT : w_T x I (z_row I (x + 178) (z_tr A) i) := fun a j h => by rw [z_row_ne _ _ (fun q => h (by unfold w_tm; omega))]
    have hDJ := hD.t hT
    have b1 := z_trB hB i
    have b2 := (z_gxB hB i).1
    have b3 := z_abB (z_tr A i)
    have eg : z_gx A (i + 1) = if q_ab (z_tr A i) ≤ z_gx A i then z_gx A i else q_ab (z_tr A i) := by
      show q_mx (z_gx A i) (q_ab (z_tr A i)) = _
      unfold q_mx
      split <;> split <;> omega
    have ea : q_ab (z_tr A i) = if 0 ≤ z_tr A i then z_tr A i else -z_tr A i := by
      unfold q_ab
      split <;> split <;> omega
    show f_X10_laysDrift_L4 _ _ _ _ (n + 1) _ _ _ = _
    rw [f_X10_laysDrift_L4]
    rw [q_gdT (r_iE (by omega) (by omega)), if_neg (by omega)]
    obtain ⟨t, f, tf, k, q1, q2⟩ := m_drift1 (I := z_row I (x + 178) (z_tr A) i) (w := z_gx A i) (K := fun w22 w23 w24 w25 => q_gd (S.1 (x + 171) = 11) (q_gd (S.1 (R (x + 171) 20) = 13) (q_gd (r_i (z_row I (x + 178) (z_tr A) i (x + 171) 3)) (q_gd ((0 : Int) ≤ ((i : Nat) : Int) ∧ ((i : Nat) : Int) < (S.2.1 (R (x + 171) 20) : Int)) (q_lt (q_up (z_row I (x + 178) (z_tr A) i) (R (x + 171) 20) (Int.toNat ((i : Nat) : Int)) (((z_row I (x + 178) (z_tr A) i (x + 171) 3) * w24) - (w22 * w23))) fun I30 => q_gd (r_l (I30 (R (x + 171) 20) (Int.toNat ((i : Nat) : Int)))) (if 0 ≤ I30 (R (x + 171) 20) (Int.toNat ((i : Nat) : Int)) then q_lt (I30 (R (x + 171) 20) (Int.toNat ((i : Nat) : Int))) fun x34 => q_gd (r_l x34) (q_gd (r_l (z_gx A i)) (if x34 ≤ z_gx A i then f_X10_laysDrift_L4 S R (x + 171) K n (z_gx A i) (((i : Nat) : Int) + 1) I30 else f_X10_laysDrift_L4 S R (x + 171) K n x34 (((i : Nat) : Int) + 1) I30)) else q_lt (-(I30 (R (x + 171) 20) (Int.toNat ((i : Nat) : Int)))) fun x39 => q_gd (r_l x39) (q_gd (r_l (z_gx A i)) (if x39 ≤ z_gx A i then f_X10_laysDrift_L4 S R (x + 171) K n (z_gx A i) (((i : Nat) : Int) + 1) I30 else f_X10_laysDrift_L4 S R (x + 171) K n x39 (((i : Nat) : Int) + 1) I30)))))))) hS hB hDJ (fun k hk => by rw [z_row_ne _ _ (by omega)]; exact hl k hk i hi) hi
    refine q1.trans ?_
    simp only [k_171 hS, r_171_20 hS, k_178 hS, n_178 hS, hDJ.f3, q2, Int.toNat_natCast, z_row_up, q_ltE, z_row_at (z_tr A) (Nat.lt_succ_self i)]
    have ei : (((i + 1 : Nat)) : Int) = (i : Int) + 1 := by omega
    rw [ei, eg, ea]
    by_cases g1 : 0 ≤ z_tr A i
    · rw [if_pos g1] at ea
      simp only [if_pos g1]
      by_cases g2 : z_tr A i ≤ z_gx A i
      · rw [if_pos g2]
        simp (disch := (first | trivial | assumption | omega | (refine r_iE ?_ ?_ <;> omega) | (refine r_lE ?_ ?_ <;> omega) | fail)) only [↓q_gdT, ↓q_ltE, ↓if_pos, ↓if_neg]
      · rw [if_neg g2]
        simp (disch := (first | trivial | assumption | omega | (refine r_iE ?_ ?_ <;> omega) | (refine r_lE ?_ ?_ <;> omega) | fail)) only [↓q_gdT, ↓q_ltE, ↓if_pos, ↓if_neg]
    · rw [if_neg g1] at ea
      simp only [if_neg g1]
      by_cases g2 : -z_tr A i ≤ z_gx A i
      · rw [if_pos g2]
        simp (disch := (first | trivial | assumption | omega | (refine r_iE ?_ ?_ <;> omega) | (refine r_lE ?_ ?_ <;> omega) | fail)) only [↓q_gdT, ↓q_ltE, ↓if_pos, ↓if_neg]
      · rw [if_neg g2]
        simp (disch := (first | trivial | assumption | omega | (refine r_iE ?_ ?_ <;> omega) | (refine r_lE ?_ ?_ <;> omega) | fail)) only [↓q_gdT, ↓q_ltE, ↓if_pos, ↓if_neg]
  · show f_X10_laysDrift_L4 _ _ _ _ (n + 1) _ _ _ = _
    rw [f_X10_laysDrift_L4]
    simp (disch := (first | trivial | assumption | omega | (refine r_iE ?_ ?_ <;> omega) | (refine r_lE ?_ ?_ <;> omega) | fail)) only [↓q_gdT, ↓q_ltE, ↓if_pos, ↓if_neg]
    rfl
theorem m_drift3 {x : Nat} {S : q_S} {R : q_HR} {I : q_HI} {A : q_A} (hS : w_Sh x S R) (hB : z_B A) (h19 : I (x + 171) 19 = if z_gm A = 0 then 0 else 1) (h178 : ∀ s, s < 5 → I (x + 178) s = z_tr A s) : f_X10_laysDrift_L192 S R (x + 171) (z_gm A) (fun _ I70 => some I70) 100 0 I = some (z_row I (x + 177) (z_dc A) 5) := by
  have hg := (z_gxB hB 5).1
  have key := z_loop (fun n i => f_X10_laysDrift_L192 S R (x + 171) (z_gm A) (fun _ I70 => some I70) n ((i : Nat) : Int) (z_row I (x + 177) (z_dc A) i)) 5 (some (z_row I (x + 177) (z_dc A) 5)) (fun n i hi => ?_) (fun n => ?_) 100 (by decide)
  · rw [z_row_0] at key
    exact key
  · have b1 := z_trB hB i
    have u1 : z_row I (x + 177) (z_dc A) i (x + 171) 19 = if z_gm A = 0 then 0 else 1 := by rw [z_row_ne _ _ (by omega)]; exact h19
    have u2 : z_row I (x + 177) (z_dc A) i (x + 178) i = z_tr A i := by rw [z_row_ne _ _ (by omega)]; exact h178 i hi
    show f_X10_laysDrift_L192 _ _ _ _ _ (n + 1) _ _ = _
    rw [f_X10_laysDrift_L192]
    simp only [k_171 hS, r_171_17 hS, k_177 hS, n_177 hS, r_171_20 hS, k_178 hS, n_178 hS, Int.toNat_natCast, u1, u2]
    rw [← z_row_up]
    unfold z_dc
    have hg' : 0 ≤ z_gm A ∧ z_gm A ≤ 800000000 := hg
    by_cases c : z_gm A = 0
    · simp only [if_pos c]
      simp (disch := (first | trivial | assumption | omega | (refine r_iE ?_ ?_ <;> omega) | (refine r_lE ?_ ?_ <;> omega) | fail)) only [↓q_gdT, ↓q_ltE, ↓if_pos, ↓if_neg]
      rfl
    · simp only [if_neg c]
      simp (disch := (first | trivial | assumption | omega | (refine r_iE ?_ ?_ <;> omega) | (refine r_lE ?_ ?_ <;> omega) | fail)) only [↓q_gdT, ↓q_ltE, ↓if_pos, ↓if_neg]
      rfl
  · show f_X10_laysDrift_L192 _ _ _ _ _ (n + 1) _ _ = _
    rw [f_X10_laysDrift_L192]
    simp (disch := (first | trivial | assumption | omega | (refine r_iE ?_ ?_ <;> omega) | (refine r_lE ?_ ?_ <;> omega) | fail)) only [↓q_gdT, ↓q_ltE, ↓if_pos, ↓if_neg]
theorem m_laysDrift {x : Nat} {S : q_S} {R : q_HR} {I : q_HI} {A : q_A} (hS : w_Sh x S R) (hB : z_B A) (hD : w_D x I A) (hl : ∀ k, k < z_nr A → ∀ s, s < 5 → I (x + 176) (5 * (13 + k) + s) = z_fe A (13 + k) s) : ∃ J, f_X10_laysDrift S R I (x + 171) = some J ∧ w_T x I J ∧ J (x + 176) = I (x + 176) ∧ (J (x + 171) 19 = if z_gm A = 0 then 0 else 1) ∧ ∀ s, s < 5 → J (x + 177) s = z_dc A s := by
  have hg : 0 ≤ z_gm A ∧ z_gm A ≤ 800000000 := (z_gxB hB 5).1
  generalize hv : (if z_gm A = 0 then (0 : Int) else 1) = v
  generalize hJ : q_up (z_row I (x + 178) (z_tr A) 5) (x + 171) 19 v = J
  have u1 : J (x + 171) 19 = v := by rw [← hJ, q_up_at]
  have q3 := m_drift3 (I := J) hS hB (by rw [u1, hv]) (fun s hs => by rw [← hJ, q_up_ne _ _ _ (by omega), z_row_at _ hs])
  refine ⟨z_row J (x + 177) (z_dc A) 5, ?_, fun a j h => ?_, ?_, ?_, fun s hs => z_row_at _ hs⟩
  · unfold f_X10_laysDrift
    rw [m_drift2 hS hB hD hl]
    by_cases c : z_gm A = 0
    · rw [if_pos c] at hv
      subst hv
      simp (disch := (first | trivial | assumption | omega | (refine r_iE ?_ ?_ <;> omega) | (refine r_lE ?_ ?_ <;> omega) | fail)) only [↓q_gdT, ↓q_ltE, ↓if_pos, ↓if_neg, k_171 hS]
      rw [hJ]
      exact q3
    · rw [if_neg c] at hv
      subst hv
      simp (disch := (first | trivial | assumption | omega | (refine r_iE ?_ ?_ <;> omega) | (refine r_lE ?_ ?_ <;> omega) | fail)) only [↓q_gdT, ↓q_ltE, ↓if_pos, ↓if_neg, k_171 hS]
      rw [hJ]
      exact q3
  · rw [z_row_ne _ _ (fun q => h (by unfold w_tm; omega)), ← hJ]
    unfold q_up
    rw [if_neg (fun q => h (by unfold w_tm; omega)), z_row_ne _ _ (fun q => h (by unfold w_tm; omega))]
  · rw [z_row_ne _ _ (by omega), ← hJ, q_up_ne _ _ _ (by omega), z_row_ne _ _ (by omega)]
  · rw [z_row_ne _ _ (by omega)]
    exact u1
/-- sensors left out -/
theorem m_zero {x : Nat} {S : q_S} {R : q_HR} {I : q_HI} {s : Nat} {w : Int} {K : Int → q_HI → Option q_HI} (hS : w_Sh x S R) (hs : s < 5) : ∃ J, f_X10_lays_L93 S R (x + 171) w (s : Int) K 100 0 I = K 87 J ∧ (∀ a, a ≠ x + 176 → J a = I a) ∧ ∀ p, p < 87 → ∀ s', s' < 5 → J (x + 176) (5 * p + s') = if s' = s then 0 else I (x + 176) (5 * p + s') := by
  have key := z_loopR (fun n (u : Nat × q_HI) => f_X10_lays_L93 S R (x + 171) w (s : Int) K n ((u.1 : Nat) : Int) u.2) (fun i u => u.1 = i ∧ (∀ a, a ≠ x + 176 → u.2 a = I a) ∧ ∀ p, p < 87 → ∀ s', s' < 5 → u.2 (x + 176) (5 * p + s') = if s' = s ∧ p < i then 0 else I (x + 176) (5 * p + s')) 87 (fun u => K 87 u.2) ?_ ?_ 100 0 (0, I) (by omega) (by omega) ⟨rfl, fun _ _ => rfl, fun p hp s' hs' => by rw [if_neg (by omega)]⟩
  · obtain ⟨⟨i, J⟩, ⟨_, h2, h3⟩, e⟩ := key
    refine ⟨J, e, h2, fun p hp s' hs' => ?_⟩
    rw [show J (x + 176) (5 * p + s') = _ from h3 p hp s' hs']
    by_cases c : s' = s
    · rw [if_pos ⟨c, hp⟩, if_pos c]
    · rw [if_neg (fun q => c q.1), if_neg c]
  · rintro n i ⟨i', J⟩ hi ⟨rfl, h1, h2⟩
    dsimp only at h1 h2 hi ⊢
    have e5 : (5 * (i' : Int) + (s : Int)).toNat = 5 * i' + s := by omega
    refine ⟨(i' + 1, q_up J (x + 176) (5 * i' + s) 0), ⟨rfl, fun a ha => by show q_up J _ _ _ a = _; rw [q_up_ne _ _ _ ha]; exact h1 a ha, fun p hp s' hs' => ?_⟩, ?_⟩
    · show q_up J (x + 176) (5 * i' + s) 0 (x + 176) (5 * p + s') = _
      by_cases c : s' = s ∧ p = i'
      · rw [c.1, c.2, q_up_at, if_pos ⟨rfl, by omega⟩]
      · rw [q_up_nj (by omega), h2 p hp s' hs']
        by_cases c2 : s' = s ∧ p < i'
        · rw [if_pos c2, if_pos (by omega)]
        · rw [if_neg c2, if_neg (by omega)]
    · rw [f_X10_lays_L93]
      simp only [k_171 hS, r_171_16 hS, k_176 hS, n_176 hS, e5]
      simp (disch := (first | trivial | assumption | omega | (refine r_iE ?_ ?_ <;> omega) | (refine r_lE ?_ ?_ <;> omega) | fail)) only [↓q_gdT, ↓q_ltE, ↓if_pos, ↓if_neg]
      rfl
  · rintro n ⟨i, J⟩ ⟨e, _⟩
    dsimp only at e ⊢
    subst e
    rw [f_X10_lays_L93]
    simp (disch := (first | trivial | assumption | omega | (refine r_iE ?_ ?_ <;> omega) | (refine r_lE ?_ ?_ <;> omega) | fail)) only [↓q_gdT, ↓q_ltE, ↓if_pos, ↓if_neg]
    rfl
