/-! THE CLASS: drift -/
def z_tr (A : q_A) (s : Nat) : Int := A 0 3 * z_sm (fun k => A 3 k * z_fe A (13 + k) s) (z_nr A) - z_sm (fun k => A 3 k) (z_nr A) * z_sm (fun k => z_fe A (13 + k) s) (z_nr A)
def z_gx (A : q_A) : Nat → Int
  | 0 => 0
  | n + 1 => q_mx (z_gx A n) (q_ab (z_tr A n))
def z_gm (A : q_A) : Int := z_gx A 5
def z_dc (A : q_A) (s : Nat) : Int := if z_gm A = 0 then 0 else Int.tdiv (z_tr A s * 1000) (z_gm A)
theorem z_B.time {A : q_A} (h : z_B A) : ∀ k, k < z_nr A → 0 ≤ A 3 k ∧ A 3 k ≤ 999 := h.2.2.2.2.2.2.2.2.2.2.2.1
theorem z_trB {A : q_A} (h : z_B A) (s : Nat) : -800000000 ≤ z_tr A s ∧ z_tr A s ≤ 800000000 := by
  have hn := h.2.2.1
  have en : (z_nr A : Int) = A 0 3 := by unfold z_nr; omega
  have ht := h.time
  have hf : ∀ k, k < z_nr A → -4000 ≤ z_fe A (13 + k) s ∧ z_fe A (13 + k) s ≤ 4000 := fun k _ => z_feB _ _ _ _
  have s1 : (z_nr A : Int) * 0 ≤ z_sm (fun k => A 3 k) (z_nr A) ∧ z_sm (fun k => A 3 k) (z_nr A) ≤ (z_nr A : Int) * 999 := z_smB ht
  have s2 := z_smB (lo := -4000) (hi := 4000) hf
  have s3 := z_smB (lo := -3996000) (hi := 3996000) (f := fun k => A 3 k * z_fe A (13 + k) s) (n := z_nr A) (fun k hk => by
    have h1 := ht k hk
    have := z_mulB (M := 999) (N := 4000) (a := A 3 k) (by omega) (hf k hk)
    omega)
  have m1 := z_mul0 (M := 10) (N := 999) (a := (z_nr A : Int)) (b := 999) (by omega) (by omega)
  have m2 := z_mul0 (M := 10) (N := 4000) (a := (z_nr A : Int)) (b := 4000) (by omega) (by omega)
  have m3 := z_mul0 (M := 10) (N := 3996000) (a := (z_nr A : Int)) (b := 3996000) (by omega) (by omega)
  rw [en] at s1 s2 s3 m1 m2 m3
  rw [Int.mul_neg] at s2 s3
  have t1 := z_mulB (M := 10) (N := 39960000) (a := A 0 3) (b := z_sm (fun k => A 3 k * z_fe A (13 + k) s) (z_nr A)) (by omega) (by omega)
  have t2 := z_mulB (M := 9990) (N := 40000) (a := z_sm (fun k => A 3 k) (z_nr A)) (b := z_sm (fun k => z_fe A (13 + k) s) (z_nr A)) (by omega) (by omega)
  unfold z_tr
  omega
theorem z_abB (v : Int) : 0 ≤ q_ab v ∧ v ≤ q_ab v ∧ -v ≤ q_ab v ∧ (q_ab v = v ∨ q_ab v = -v) := by unfold q_ab; split <;> omega
theorem z_gxB {A : q_A} (h : z_B A) : ∀ n : Nat, (0 ≤ z_gx A n ∧ z_gx A n ≤ 800000000) ∧ ∀ s, s < n → -z_gx A n ≤ z_tr A s ∧ z_tr A s ≤ z_gx A n
  | 0 => ⟨⟨Int.le_refl 0, by show (0 : Int) ≤ _; omega⟩, fun s hs => absurd hs (by omega)⟩
  | n + 1 => by
    obtain ⟨h1, h2⟩ := z_gxB h n
    have h3 := z_trB h n
    have h4 := z_abB (z_tr A n)
    have h5 := z_mxB (l := z_gx A n) (v := q_ab (z_tr A n))
    refine ⟨?_, fun s hs => ?_⟩
    · show 0 ≤ q_mx _ _ ∧ q_mx _ _ ≤ _
      omega
    · show -q_mx _ _ ≤ _ ∧ _ ≤ q_mx _ _
      by_cases e : s = n
      · subst e; omega
      · have := h2 s (by omega); omega
theorem z_dcB {A : q_A} (h : z_B A) {s : Nat} (hs : s < 5) : -1000 ≤ z_dc A s ∧ z_dc A s ≤ 1000 := by
  unfold z_dc
  obtain ⟨h1, h2⟩ := z_gxB h 5
  have h3 := h2 s hs
  split
  · omega
  · next hg =>
    unfold z_gm at hg ⊢
    have e : (Int.tdiv (z_tr A s * 1000) (z_gx A 5)).natAbs = (z_tr A s * 1000).natAbs / (z_gx A 5).natAbs := Int.natAbs_tdiv _ _
    have e2 : (z_tr A s * 1000).natAbs / (z_gx A 5).natAbs ≤ 1000 := by
      apply Nat.div_le_of_le_mul
      omega
    omega
/-- what drift rests on -/
def w_re (x : Nat) (S : q_S) (R : q_HR) (I : q_HI) (A : q_A) : Prop := I (x + 10) 2 = A 0 3 ∧ ∀ k, k < z_nr A → w_P x S R I A (R (x + 11) k) (13 + k) ∧ I (x + 14) k = A 3 k
def w_rw (x : Nat) (I : q_HI) (A : q_A) (n : Nat) : Prop := ∀ k, k < n → ∀ s, s < 5 → I (x + 17 + k) s = z_fe A (13 + k) s
theorem e_sumUp {x : Nat} {S : q_S} {R : q_HR} {I : q_HI} {A : q_A} {s : Nat} (hS : w_Sh x S R) (hB : z_B A) (h10 : I (x + 10) 2 = A 0 3) (h14 : ∀ k, k < z_nr A → I (x + 14) k = A 3 k) (hw : w_rw x I A (z_nr A)) (hs : s < 5) :
    f_X1_sumUp S R I (x + 9) (s : Int) = some (z_row I (x + 15) (z_5 (A 0 3) (z_sm (fun k => A 3 k) (z_nr A)) (z_sm (fun k => z_fe A (13 + k) s) (z_nr A)) (z_sm (fun k => A 3 k * A 3 k) (z_nr A)) (z_sm (fun k => A 3 k * z_fe A (13 + k) s) (z_nr A))) 5) := by
  have hn := hB.2.2.1
  have en : (z_nr A : Int) = A 0 3 := by unfold z_nr; omega
  unfold f_X1_sumUp
  have q0 := e_clear3 (S := S) (R := R) (I := I) (k_15 hS)
  simp only [k_9 hS, r_9_2 hS, k_15 hS]
  simp (disch := (first | trivial | assumption | omega | (refine r_iE ?_ ?_ <;> omega) | (refine r_lE ?_ ?_ <;> omega) | fail)) only [↓q_gdT, ↓q_ltE, ↓if_pos, ↓if_neg, ↓q_bdE q0]
  have key := z_loop (fun n i => f_X1_sumUp_L9 S R (x + 9) (s : Int) (fun w21 I22 => some I22) n ((i : Nat) : Int) (z_row I (x + 15) (z_5 (i : Int) (z_sm (fun k => A 3 k) i) (z_sm (fun k => z_fe A (13 + k) s) i) (z_sm (fun k => A 3 k * A 3 k) i) (z_sm (fun k => A 3 k * z_fe A (13 + k) s) i)) 5)) (z_nr A) (some (z_row I (x + 15) (z_5 (A 0 3) (z_sm (fun k => A 3 k) (z_nr A)) (z_sm (fun k => z_fe A (13 + k) s) (z_nr A)) (z_sm (fun k => A 3 k * A 3 k) (z_nr A)) (z_sm (fun k => A 3 k * z_fe A (13 + k) s) (z_nr A))) 5)) (fun n i hi => ?_) (fun n => ?_) 100 (by omega)
  · exact key
  · show f_X1_sumUp_L9 _ _ _ _ _ (n + 1) _ _ = _
    rw [f_X1_sumUp_L9]
    have q1 := e_add3 (S := S) (R := R) (I := I) (ln := x + 15) (a := (i : Int)) (b := z_sm (fun k => A 3 k) i) (c := z_sm (fun k => z_fe A (13 + k) s) i) (d := z_sm (fun k => A 3 k * A 3 k) i) (e := z_sm (fun k => A 3 k * z_fe A (13 + k) s) i) (u := A 3 i) (v := z_fe A (13 + i) s) (k_15 hS)
    generalize hJ : z_row I (x + 15) (z_5 (i : Int) (z_sm (fun k => A 3 k) i) (z_sm (fun k => z_fe A (13 + k) s) i) (z_sm (fun k => A 3 k * A 3 k) i) (z_sm (fun k => A 3 k * z_fe A (13 + k) s) i)) 5 = J at q1 ⊢
    have fr : ∀ a, a ≠ x + 15 → J a = I a := fun a ha => by rw [← hJ]; exact z_row_ne _ _ ha
    have b1 := hB.time i hi
    have b2 := z_feB A (z_hu A (13 + i)) (z_rd A (13 + i) s) s
    have b3 : -4000 ≤ z_fe A (13 + i) s ∧ z_fe A (13 + i) s ≤ 4000 := b2
    have e1 : J (x + 10) 2 = A 0 3 := by rw [fr _ (by omega)]; exact h10
    have e2 : J (x + 14) i = A 3 i := by rw [fr _ (by omega)]; exact h14 i hi
    have e3 : J (x + 17 + i) s = z_fe A (13 + i) s := by rw [fr _ (by omega)]; exact hw i hi s hs
    obtain ⟨kr, nr⟩ := k_row17 hS (j := i) (by omega)
    simp only [k_9 hS, r_9_0 hS, k_10 hS, r_9_2 hS, k_15 hS, r_9_1 hS, k_14 hS, n_14 hS, r_9_3 hS, k_16 hS, n_16 hS, Int.toNat_natCast, r_16 hS (show i < 10 by omega), kr, nr, e1, e2, e3]
    simp (disch := (first | trivial | assumption | omega | (refine r_iE ?_ ?_ <;> omega) | (refine r_lE ?_ ?_ <;> omega) | fail)) only [↓q_gdT, ↓q_ltE, ↓if_pos, ↓if_neg, ↓q_bdE q1]
    all_goals rfl
  · show f_X1_sumUp_L9 _ _ _ _ _ (n + 1) _ _ = _
    rw [f_X1_sumUp_L9]
    have e1 : z_row I (x + 15) (z_5 ((z_nr A : Nat) : Int) (z_sm (fun k => A 3 k) (z_nr A)) (z_sm (fun k => z_fe A (13 + k) s) (z_nr A)) (z_sm (fun k => A 3 k * A 3 k) (z_nr A)) (z_sm (fun k => A 3 k * z_fe A (13 + k) s) (z_nr A))) 5 (x + 10) 2 = A 0 3 := by rw [z_row_ne _ _ (by omega)]; exact h10
    simp only [k_9 hS, r_9_0 hS, k_10 hS, e1]
    simp (disch := (first | trivial | assumption | omega | (refine r_iE ?_ ?_ <;> omega) | (refine r_lE ?_ ?_ <;> omega) | fail)) only [↓q_gdT, ↓q_ltE, ↓if_pos, ↓if_neg]
    rw [en]
theorem w_rw.fr {x : Nat} {I I' : q_HI} {A : q_A} {n : Nat} (h : w_rw x I A n) (hf : ∀ k, k < n → I' (x + 17 + k) = I (x + 17 + k)) : w_rw x I' A n := fun k hk s hs => by rw [hf k hk]; exact h k hk s hs
theorem e_refresh1 {x : Nat} {S : q_S} {R : q_HR} {I : q_HI} {A : q_A} {K : Int → q_HI → Option q_HI} (hS : w_Sh x S R) (hB : z_B A) (hc : w_cv x I A) (hr : w_re x S R I A) : ∃ J, f_X1_refresh_L2 S R (x + 9) (x + 1) K 100 0 I = K (A 0 3) J ∧ (∀ a, ¬ (x + 17 ≤ a ∧ a ≤ x + 26) → J a = I a) ∧ w_rw x J A (z_nr A) := by
  have hn := hB.2.2.1
  have en : (z_nr A : Int) = A 0 3 := by unfold z_nr; omega
  have key := z_loopR (σ := Int × q_HI) (fun n s => f_X1_refresh_L2 S R (x + 9) (x + 1) K n s.1 s.2) (fun i s => s.1 = (i : Int) ∧ (∀ a, ¬ (x + 17 ≤ a ∧ a ≤ x + 26) → s.2 a = I a) ∧ w_rw x s.2 A i) (z_nr A) (fun s => K s.1 s.2) (fun n i s hi hP => ?_) (fun n s hP => ?_) 100 0 (0, I) (by omega) (by omega) ⟨rfl, fun _ _ => rfl, fun k hk => absurd hk (by omega)⟩
  · obtain ⟨s', ⟨h1, h2, h3⟩, h4⟩ := key
    refine ⟨s'.2, ?_, h2, h3⟩
    rw [h1, en] at h4
    exact h4
  · obtain ⟨v, J⟩ := s
    obtain ⟨rfl, hF, hw⟩ := hP
    dsimp only at hF hw
    show ∃ s' : Int × q_HI, _ ∧ f_X1_refresh_L2 _ _ _ _ _ (n + 1) _ _ = _
    rw [f_X1_refresh_L2]
    obtain ⟨h10, hr2⟩ := hr
    obtain ⟨hP, -⟩ := hr2 i hi
    have b := hB.data _ (z_vr hi)
    have e1 : J (x + 10) 2 = A 0 3 := by rw [hF _ (by omega)]; exact h10
    have hP' : w_P x S R J A (R (x + 11) i) (13 + i) := hP.fr (fun a ha => hF a (by unfold w_fr at ha; omega))
    have q1 := e_at (S := S) (R := R) (I := J) (sa := x + 10) (hd := x + 11) (k := i) (k_10 hS) (r_10_0 hS) (k_11 hS) (by rw [e1]; omega) (by rw [e1]; omega) (by rw [n_11 hS]; omega) hP.1
    obtain ⟨kr, nr⟩ := k_row17 hS (j := i) (by omega)
    have q2 := e_fill (I := J) (rw := x + 17 + i) hS (hc.fr (hF _ (by omega)) (hF _ (by omega)) (hF _ (by omega))) hB hP' b.1 (fun t ht => (b.2 t ht).1) kr nr (by omega)
    simp only [k_9 hS, r_9_0 hS, k_10 hS, r_9_3 hS, k_16 hS, n_16 hS, Int.toNat_natCast, r_16 hS (show i < 10 by omega), kr, k_1 hS, e1]
    simp (disch := (first | trivial | assumption | omega | (refine r_iE ?_ ?_ <;> omega) | (refine r_lE ?_ ?_ <;> omega) | fail)) only [↓q_gdT, ↓q_ltE, ↓if_pos, ↓if_neg, ↓q_bdE q1, ↓q_bdE q2]
    refine ⟨(((i + 1 : Nat) : Int), _), ⟨rfl, fun a ha => ?_, fun k hk t ht => ?_⟩, rfl⟩
    · show z_row _ _ _ _ a = _
      rw [z_row_ne _ _ (by omega)]
      exact hF a ha
    · show z_row _ _ _ _ (x + 17 + k) t = _
      by_cases e : k = i
      · subst e
        rw [z_row_at _ ht]
        rfl
      · rw [z_row_ne _ _ (by omega)]
        exact hw k (by omega) t ht
  · obtain ⟨v, J⟩ := s
    obtain ⟨rfl, hF, hw⟩ := hP
    dsimp only at hF
    show f_X1_refresh_L2 _ _ _ _ _ (n + 1) _ _ = _
    rw [f_X1_refresh_L2]
    have e1 : J (x + 10) 2 = A 0 3 := by rw [hF _ (by omega)]; exact hr.1
    simp only [k_9 hS, r_9_0 hS, k_10 hS, e1]
    simp (disch := (first | trivial | assumption | omega | (refine r_iE ?_ ?_ <;> omega) | (refine r_lE ?_ ?_ <;> omega) | fail)) only [↓q_gdT, ↓q_ltE, ↓if_pos, ↓if_neg]
theorem e_refresh2 {x : Nat} {S : q_S} {R : q_HR} {I : q_HI} {A : q_A} {K : Int → Int → q_HI → Option q_HI} (hS : w_Sh x S R) (hB : z_B A) (h10 : I (x + 10) 2 = A 0 3) (h14 : ∀ k, k < z_nr A → I (x + 14) k = A 3 k) (hw : w_rw x I A (z_nr A)) : ∃ J, f_X1_refresh_L42 S R (x + 9) K 100 0 0 I = K (z_gm A) 5 J ∧ (∀ a, a ≠ x + 15 → a ≠ x + 27 → J a = I a) ∧ ∀ s, s < 5 → J (x + 27) s = z_tr A s := by
  have hn := hB.2.2.1
  have en : (z_nr A : Int) = A 0 3 := by unfold z_nr; omega
  have key := z_loopR (σ := Int × Int × q_HI) (fun n s => f_X1_refresh_L42 S R (x + 9) K n s.1 s.2.1 s.2.2) (fun i s => s.1 = z_gx A i ∧ s.2.1 = (i : Int) ∧ (∀ a, a ≠ x + 15 → a ≠ x + 27 → s.2.2 a = I a) ∧ ∀ t, t < i → s.2.2 (x + 27) t = z_tr A t) 5 (fun s => K s.1 s.2.1 s.2.2) (fun n i s hi hP => ?_) (fun n s hP => ?_) 100 0 (0, 0, I) (by omega) (by omega) ⟨rfl, rfl, fun _ _ _ => rfl, fun k hk => absurd hk (by omega)⟩
  · obtain ⟨s', ⟨h1, h2, h3, h4⟩, h5⟩ := key
    refine ⟨s'.2.2, ?_, h3, h4⟩
    rw [h1, h2] at h5
    exact h5
  · obtain ⟨v, v4, J⟩ := s
    obtain ⟨rfl, rfl, hF, hT⟩ := hP
    dsimp only at hF hT
    show ∃ s' : Int × Int × q_HI, _ ∧ f_X1_refresh_L42 _ _ _ _ (n + 1) _ _ _ = _
    rw [f_X1_refresh_L42]
    have q1 := e_sumUp (I := J) (s := i) hS hB (by rw [hF _ (by omega) (by omega)]; exact h10) (fun k hk => by rw [hF _ (by omega) (by omega)]; exact h14 k hk) (hw.fr (fun k hk => hF _ (by omega) (by omega))) hi
    obtain ⟨v0, v1, v2, v3, v4⟩ := z_row5 (I := J) (ln := x + 15) (a := A 0 3) (b := z_sm (fun k => A 3 k) (z_nr A)) (c := z_sm (fun k => z_fe A (13 + k) i) (z_nr A)) (d := z_sm (fun k => A 3 k * A 3 k) (z_nr A)) (e := z_sm (fun k => A 3 k * z_fe A (13 + k) i) (z_nr A))
    generalize hJ : z_row J (x + 15) (z_5 (A 0 3) (z_sm (fun k => A 3 k) (z_nr A)) (z_sm (fun k => z_fe A (13 + k) i) (z_nr A)) (z_sm (fun k => A 3 k * A 3 k) (z_nr A)) (z_sm (fun k => A 3 k * z_fe A (13 + k) i) (z_nr A))) 5 = J' at q1 v0 v1 v2 v3 v4
    have frJ : ∀ a, a ≠ x + 15 → J' a = J a := fun a ha => by rw [← hJ]; exact z_row_ne _ _ ha
    have q2 := e_cross (S := S) (R := R) (I := J') (k_15 hS)
    rw [v0, v1, v2, v4] at q2
    have q2' : f_X3_cross S R J' (x + 15) = some (z_tr A i) := q2
    have hq : q_up J' (x + 27) i (z_tr A i) (x + 27) i = z_tr A i := by unfold q_up; rw [if_pos ⟨rfl, rfl⟩]
    obtain ⟨g1, g2⟩ := z_gxB hB i
    have g3 := z_trB hB i
    have g4 := z_abB (z_tr A i)
    simp only [k_9 hS, r_9_4 hS, k_27 hS, n_27 hS, r_9_2 hS, k_15 hS, Int.toNat_natCast]
    simp (disch := (first | trivial | assumption | omega | (refine r_iE ?_ ?_ <;> omega) | (refine r_lE ?_ ?_ <;> omega) | fail)) only [↓q_gdT, ↓q_ltE, ↓if_pos, ↓if_neg, ↓q_bdE q1, ↓q_bdE q2', hq]
    refine ⟨(q_mx (z_gx A i) (q_ab (z_tr A i)), ((i + 1 : Nat) : Int), _), ⟨rfl, rfl, fun a h1 h2 => ?_, fun t ht => ?_⟩, rfl⟩
    · show q_up _ _ _ _ a = _
      rw [q_up_ne _ _ _ h2, frJ a h1]
      exact hF a h1 h2
    · show q_up _ _ _ _ (x + 27) t = _
      unfold q_up
      by_cases e : t = i
      · rw [if_pos ⟨rfl, e⟩, e]
      · rw [if_neg (by omega), frJ _ (by omega)]
        exact hT t (by omega)
  · obtain ⟨v, v4, J⟩ := s
    obtain ⟨rfl, rfl, hF, hT⟩ := hP
    show f_X1_refresh_L42 _ _ _ _ (n + 1) _ _ _ = _
    rw [f_X1_refresh_L42]
    simp (disch := (first | trivial | assumption | omega | (refine r_iE ?_ ?_ <;> omega) | (refine r_lE ?_ ?_ <;> omega) | fail)) only [↓q_gdT, ↓q_ltE, ↓if_pos, ↓if_neg]
theorem e_refresh3 {x : Nat} {S : q_S} {R : q_HR} {I : q_HI} {A : q_A} (hS : w_Sh x S R) (hB : z_B A) (h27 : ∀ s, s < 5 → I (x + 27) s = z_tr A s) (h6 : I (x + 9) 6 = if z_gm A = 0 then 0 else 1) : f_X1_refresh_L107 S R (x + 9) (z_gm A) (fun w58 I59 => some I59) 100 0 I = some (z_row I (x + 28) (z_dc A) 5) := by
  have key := z_loop (fun n i => f_X1_refresh_L107 S R (x + 9) (z_gm A) (fun w58 I59 => some I59) n ((i : Nat) : Int) (z_row I (x + 28) (z_dc A) i)) 5 (some (z_row I (x + 28) (z_dc A) 5)) (fun n i hi => ?_) (fun n => ?_) 100 (by decide)
  · rw [z_row_0] at key
    exact key
  · show f_X1_refresh_L107 _ _ _ _ _ (n + 1) _ _ = _
    rw [f_X1_refresh_L107]
    have e6 : z_row I (x + 28) (z_dc A) i (x + 9) 6 = if z_gm A = 0 then 0 else 1 := by rw [z_row_ne _ _ (by omega)]; exact h6
    have e27 : z_row I (x + 28) (z_dc A) i (x + 27) i = z_tr A i := by rw [z_row_ne _ _ (by omega)]; exact h27 i hi
    have b1 := (z_gxB hB 5).1
    have b2 := z_trB hB i
    have b3 : z_gm A = z_gx A 5 := rfl
    simp only [k_9 hS, r_9_5 hS, k_28 hS, n_28 hS, r_9_4 hS, k_27 hS, n_27 hS, Int.toNat_natCast, e6, e27]
    have hd : z_dc A i = if z_gm A = 0 then 0 else Int.tdiv (z_tr A i * 1000) (z_gm A) := rfl
    have hu := z_row_up I (x + 28) (z_dc A) i
    by_cases hg : z_gm A = 0
    · simp only [if_pos hg] at hd ⊢
      simp (disch := (first | trivial | assumption | omega | (refine r_iE ?_ ?_ <;> omega) | (refine r_lE ?_ ?_ <;> omega) | fail)) only [↓q_gdT, ↓q_ltE, ↓if_pos, ↓if_neg]
      rw [← hd, hu]
      rfl
    · simp only [if_neg hg] at hd ⊢
      simp (disch := (first | trivial | assumption | omega | (refine r_iE ?_ ?_ <;> omega) | (refine r_lE ?_ ?_ <;> omega) | fail)) only [↓q_gdT, ↓q_ltE, ↓if_pos, ↓if_neg]
      rw [← hd, hu]
      rfl
  · show f_X1_refresh_L107 _ _ _ _ _ (n + 1) _ _ = _
    rw [f_X1_refresh_L107]
    simp (disch := (first | trivial | assumption | omega | (refine r_iE ?_ ?_ <;> omega) | (refine r_lE ?_ ?_ <;> omega) | fail)) only [↓q_gdT, ↓q_ltE, ↓if_pos, ↓if_neg]
theorem e_refresh {x : Nat} {S : q_S} {R : q_HR} {I : q_HI} {A : q_A} (hS : w_Sh x S R) (hB : z_B A) (hc : w_cv x I A) (hr : w_re x S R I A) : ∃ I', f_X1_refresh S R I (x + 9) (x + 1) = some I' ∧ (∀ a, ¬ (a = x + 9 ∨ a = x + 15 ∨ (x + 17 ≤ a ∧ a ≤ x + 28)) → I' a = I a) ∧ (∀ j, j ≠ 6 → I' (x + 9) j = I (x + 9) j) ∧
    (∀ s, s < 5 → I' (x + 28) s = z_dc A s) ∧ (I' (x + 9) 6 = if z_gm A = 0 then 0 else 1) ∧ w_rw x I' A (z_nr A) := by
  have hn := hB.2.2.1
  have en : (z_nr A : Int) = A 0 3 := by unfold z_nr; omega
  have b1 := (z_gxB hB 5).1
  have b3 : z_gm A = z_gx A 5 := rfl
  unfold f_X1_refresh
  obtain ⟨J, e1, f1, w1⟩ := e_refresh1 (K := fun w14 I15 => f_X1_refresh_L42 S R (x + 9) (fun w33 w34 I35 => q_gd (r_l w33) (if w33 = 0 then q_gd (S.1 (x + 9) = 2) (q_lt (q_up I35 (x + 9) 6 0) fun I39 => f_X1_refresh_L107 S R (x + 9) w33 (fun w58 I59 => some I59) 100 0 I39) else q_gd (S.1 (x + 9) = 2) (q_lt (q_up I35 (x + 9) 6 1) fun I61 => f_X1_refresh_L107 S R (x + 9) w33 (fun w63 I64 => some I64) 100 0 I61))) 100 0 0 I15) hS hB hc hr
  rw [e1]
  obtain ⟨J2, e2, f2, t2⟩ := e_refresh2 (I := J) (K := fun w33 w34 I35 => q_gd (r_l w33) (if w33 = 0 then q_gd (S.1 (x + 9) = 2) (q_lt (q_up I35 (x + 9) 6 0) fun I39 => f_X1_refresh_L107 S R (x + 9) w33 (fun w58 I59 => some I59) 100 0 I39) else q_gd (S.1 (x + 9) = 2) (q_lt (q_up I35 (x + 9) 6 1) fun I61 => f_X1_refresh_L107 S R (x + 9) w33 (fun w63 I64 => some I64) 100 0 I61))) hS hB (by rw [f1 _ (by omega)]; exact hr.1) (fun k hk => by rw [f1 _ (by omega)]; exact (hr.2 k hk).2) w1
  rw [e2]
  have fin : ∀ v : Int, (v = if z_gm A = 0 then 0 else 1) → f_X1_refresh_L107 S R (x + 9) (z_gm A) (fun w58 I59 => some I59) 100 0 (q_up J2 (x + 9) 6 v) = some (z_row (q_up J2 (x + 9) 6 v) (x + 28) (z_dc A) 5) := fun v hv => e_refresh3 hS hB (fun s hs => by rw [q_up_ne _ _ _ (by omega)]; exact t2 s hs) (by unfold q_up; rw [if_pos ⟨rfl, rfl⟩]; exact hv)
  have done : ∀ v : Int, (v = if z_gm A = 0 then 0 else 1) → (∀ a, ¬ (a = x + 9 ∨ a = x + 15 ∨ (x + 17 ≤ a ∧ a ≤ x + 28)) → z_row (q_up J2 (x + 9) 6 v) (x + 28) (z_dc A) 5 a = I a) ∧ (∀ j, j ≠ 6 → z_row (q_up J2 (x + 9) 6 v) (x + 28) (z_dc A) 5 (x + 9) j = I (x + 9) j) ∧
    (∀ s, s < 5 → z_row (q_up J2 (x + 9) 6 v) (x + 28) (z_dc A) 5 (x + 28) s = z_dc A s) ∧ (z_row (q_up J2 (x + 9) 6 v) (x + 28) (z_dc A) 5 (x + 9) 6 = if z_gm A = 0 then 0 else 1) ∧ w_rw x (z_row (q_up J2 (x + 9) 6 v) (x + 28) (z_dc A) 5) A (z_nr A) := by
    intro v hv
    refine ⟨fun a ha => ?_, fun j hj => ?_, fun s hs => z_row_at _ hs, ?_, w1.fr (fun k hk => ?_)⟩
    · rw [z_row_ne _ _ (by omega), q_up_ne _ _ _ (by omega), f2 _ (by omega) (by omega), f1 _ (by omega)]
    · rw [z_row_ne _ _ (by omega)]
      unfold q_up
      rw [if_neg (by omega), f2 _ (by omega) (by omega), f1 _ (by omega)]
    · rw [z_row_ne _ _ (by omega)]
      unfold q_up
      rw [if_pos ⟨rfl, rfl⟩]
      exact hv
    · rw [z_row_ne _ _ (by omega), q_up_ne _ _ _ (by omega), f2 _ (by omega) (by omega)]
  by_cases hg : z_gm A = 0
  · refine ⟨_, ?_, done 0 (by rw [if_pos hg])⟩
    simp only [k_9 hS]
    simp (disch := (first | trivial | assumption | omega | (refine r_iE ?_ ?_ <;> omega) | (refine r_lE ?_ ?_ <;> omega) | fail)) only [↓q_gdT, ↓q_ltE, ↓if_pos, ↓if_neg]
    exact fin 0 (by rw [if_pos hg])
  · refine ⟨_, ?_, done 1 (by rw [if_neg hg])⟩
    simp only [k_9 hS]
    simp (disch := (first | trivial | assumption | omega | (refine r_iE ?_ ?_ <;> omega) | (refine r_lE ?_ ?_ <;> omega) | fail)) only [↓q_gdT, ↓q_ltE, ↓if_pos, ↓if_neg]
    exact fin 1 (by rw [if_neg hg])
