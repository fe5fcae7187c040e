/-! THE CLASS: clustering -/
def z_H0 (A : q_A) (k : Nat) : Int := if k < z_nk A ∧ A 4 k ≠ 0 then (k : Int) else -1
theorem z_H0O (A : q_A) : z_ok (z_H0 A) := fun i hi => by
  unfold z_H0
  by_cases h : i < z_nk A ∧ A 4 i ≠ 0
  · rw [if_pos h]
    refine Or.inr ⟨by omega, ?_⟩
    rw [Int.toNat_natCast, if_pos h]
  · rw [if_neg h]
    exact Or.inl rfl
theorem z_ccB {A : q_A} (hB : z_B A) (t : Nat → Bool) {c d : Nat} (hc : c < z_nk A) (hd : d < z_nk A) : -1 ≤ z_cc A t c d ∧ z_cc A t c d ≤ 320000000 ∧ (A 4 c ≠ 0 → A 4 d ≠ 0 → 0 ≤ z_cc A t c d) := by
  obtain ⟨hn1, hn2⟩ := hB.ns hc
  obtain ⟨hm1, hm2⟩ := hB.ns hd
  unfold z_cc
  by_cases h : A 4 c ≤ 0 ∨ A 4 d ≤ 0
  · rw [if_pos h]
    exact ⟨by omega, by omega, fun _ _ => by omega⟩
  · rw [if_neg h]
    have := z_diB hB t (u := fun s => A 4 d * z_cs A c s - A 4 c * z_cs A d s) (n := A 4 c * A 4 d) (Int.mul_pos (by omega) (by omega)) (fun s hs => by
      have c3 := z_csB hB hc s
      have d3 := z_csB hB hd s
      have h3 := z_mulB (M := A 4 d) (N := 4000 * A 4 c) (a := A 4 d) (b := z_cs A c s) (by omega) (by omega)
      have h4 := z_mulB (M := A 4 c) (N := 4000 * A 4 d) (a := A 4 c) (b := z_cs A d s) (by omega) (by omega)
      have e1 : A 4 d * (4000 * A 4 c) = 4000 * (A 4 c * A 4 d) := by grind
      have e2 : A 4 c * (4000 * A 4 d) = 4000 * (A 4 c * A 4 d) := by grind
      show -(8000 * (A 4 c * A 4 d)) ≤ A 4 d * z_cs A c s - A 4 c * z_cs A d s ∧ A 4 d * z_cs A c s - A 4 c * z_cs A d s ≤ 8000 * (A 4 c * A 4 d)
      omega)
    exact ⟨by omega, by omega, fun _ _ => this.1⟩
theorem z_H0D {A : q_A} (hB : z_B A) (t : Nat → Bool) : z_dk (z_H0 A) (z_cc A t) := fun i j hi hj h1 h2 => by
  have e1 : i < z_nk A ∧ A 4 i ≠ 0 := by
    unfold z_H0 at h1
    split at h1
    · next h => exact h
    · exact absurd rfl h1
  have e2 : j < z_nk A ∧ A 4 j ≠ 0 := by
    unfold z_H0 at h2
    split at h2
    · next h => exact h
    · exact absurd rfl h2
  have := z_ccB hB t e1.1 e2.1
  exact ⟨this.2.2 e1.2 e2.2, this.2.1⟩
theorem w_me.fr {x : Nat} {I I' : q_HI} {A : q_A} {t : Nat → Bool} (h : w_me x I A t) (h1 : I' (x + 29) = I (x + 29)) (h2 : I' (x + 30) = I (x + 30)) (h3 : I' (x + 31) = I (x + 31)) : w_me x I' A t :=
  ⟨fun s hs => by rw [h2]; exact h.1 s hs, fun s hs => by rw [h3]; exact h.2.1 s hs, by rw [h1]; exact h.2.2⟩
theorem w_pr.fr {x : Nat} {I I' : q_HI} {A : q_A} {t : Nat → Bool} (h : w_pr x I A t) (hB : z_B A) (hf : ∀ a, ¬ (x + 33 ≤ a ∧ a ≤ x + 47) → I' a = I a) : w_pr x I' A t := by
  have hn := hB.2.2.1
  have en : (z_nr A : Int) = A 0 3 := by unfold z_nr; omega
  obtain ⟨p1, p2, p3, p4, p5, p6⟩ := h
  refine ⟨fun h7 s hs => by rw [hf _ (by omega)]; exact p1 h7 s hs, fun s hs => by rw [hf _ (by omega)]; exact p2 s hs, by rw [hf _ (by omega)]; exact p3, p4.fr (fun k hk => hf _ (by omega)), p5.fr (hf _ (by omega)) (hf _ (by omega)) (hf _ (by omega)), fun c hc => ?_⟩
  obtain ⟨g1, g2, g3⟩ := p6 c hc
  have hn8 := hB.ns hc
  exact ⟨fun k hk s hs => by rw [hf _ (by omega)]; exact g1 k hk s hs, fun s hs => by rw [hf _ (by omega)]; exact g2 s hs, by rw [hf _ (by omega)]; exact g3⟩
theorem e_clearL {x : Nat} {S : q_S} {R : q_HR} {I : q_HI} (hS : w_Sh x S R) : f_X4_clear S R I (x + 37) = some (z_row I (x + 47) (fun _ => -1) 8) := by
  unfold f_X4_clear
  have key := z_loop (fun n i => f_X4_clear_L2 S R (x + 37) (fun w8 I9 => some I9) n ((i : Nat) : Int) (z_row I (x + 47) (fun _ => -1) i)) 8 (some (z_row I (x + 47) (fun _ => -1) 8)) (fun n i hi => ?_) (fun n => ?_) 100 (by decide)
  · rw [z_row_0] at key
    exact key
  · show f_X4_clear_L2 _ _ _ _ (n + 1) _ _ = _
    rw [f_X4_clear_L2]
    simp only [k_37 hS, r_37_1 hS, k_47 hS, n_47 hS, Int.toNat_natCast]
    simp (disch := (first | trivial | assumption | omega | (refine r_iE ?_ ?_ <;> omega) | (refine r_lE ?_ ?_ <;> omega) | fail)) only [↓q_gdT, ↓q_ltE, ↓if_pos, ↓if_neg]
    rw [z_row_up I (x + 47) (fun _ => -1) i]
    rfl
  · show f_X4_clear_L2 _ _ _ _ (n + 1) _ _ = _
    rw [f_X4_clear_L2]
    simp (disch := (first | trivial | assumption | omega | (refine r_iE ?_ ?_ <;> omega) | (refine r_lE ?_ ?_ <;> omega) | fail)) only [↓q_gdT, ↓q_ltE, ↓if_pos, ↓if_neg]
theorem e_runClustering {x : Nat} {S : q_S} {R : q_HR} {I : q_HI} {A : q_A} {t : Nat → Bool} {a : Int} (hS : w_Sh x S R) (hB : z_B A) (h10 : I x 10 = A 0 4) (hp : w_pr x I A t) (ha : r_i a) (h0 : 0 ≤ a) : ∃ I', f_X9_runClustering S R I x a = some (if z_bp (z_hs (z_cc A t) (z_H0 A) (z_upto a)) (z_cc A t) = -1 then 0 else 1, I') ∧ (∀ c, ¬ (c = x + 37 ∨ (x + 39 ≤ c ∧ c ≤ x + 47)) → I' c = I c) ∧ (z_bp (z_hs (z_cc A t) (z_H0 A) (z_upto a)) (z_cc A t) ≠ -1 → w_lk x I' (z_bp (z_hs (z_cc A t) (z_H0 A) (z_upto a)) (z_cc A t))) := by
  obtain ⟨hk1, hk2⟩ := hB.nk
  have q0 := e_clearL (I := I) hS
  unfold f_X9_runClustering
  simp only [k_0 hS, r_0_5 hS, k_37 hS]
  simp (disch := (first | trivial | assumption | omega | (refine r_iE ?_ ?_ <;> omega) | (refine r_lE ?_ ?_ <;> omega) | fail)) only [↓q_gdT, ↓q_ltE, ↓if_pos, ↓if_neg, ↓q_bdE q0]
  have key := z_loopR (σ := Int × q_HI) (fun n s => f_X9_runClustering_L9 S R x a (fun w28 I29 => q_bd2 (f_X4_runTo S R I29 (x + 37) a) fun r30 I31 => q_gd (r30 = 0 ∨ r30 = 1) (some (r30, I31))) n s.1 s.2) (fun i s => s.1 = (i : Int) ∧ (∀ c, ¬ (x + 39 ≤ c ∧ c ≤ x + 47) → s.2 c = I c) ∧ (∀ k, k < 8 → s.2 (x + 47) k = if k < i ∧ A 4 k ≠ 0 then (k : Int) else -1) ∧ ∀ k l, k < l → l < i → A 4 l ≠ 0 → s.2 (x + 39 + k) l = z_cc A t k l) (z_nk A) (fun s => q_bd2 (f_X4_runTo S R s.2 (x + 37) a) fun r30 I31 => q_gd (r30 = 0 ∨ r30 = 1) (some (r30, I31))) (fun n i s hi hP => ?_) (fun n s hP => ?_) 100 0 (0, z_row I (x + 47) (fun _ => -1) 8) (by omega) (by omega) ⟨rfl, fun c hc => z_row_ne _ _ (by omega), fun k hk => by dsimp only; rw [z_row_at _ hk, if_neg (by omega)], fun k l _ h => absurd h (by omega)⟩
  · obtain ⟨s', ⟨h1, h2, h3, h4⟩, h5⟩ := key
    have h5' := h5
    dsimp only at h5'
    rw [h5']
    have hl : w_li x s'.2 (z_H0 A) (z_cc A t) := ⟨fun i hi => h3 i hi, fun i j hij hj n1 n2 => by
      have e2 : j < z_nk A ∧ A 4 j ≠ 0 := by
        unfold z_H0 at n2
        split at n2
        · next h => exact h
        · exact absurd rfl n2
      exact h4 i j hij e2.1 e2.2⟩
    obtain ⟨I', r1, r2, r3⟩ := e_runTo hS (z_H0O A) (z_H0D hB t) hl ha h0
    refine ⟨I', ?_, fun c hc => by rw [r2 c (by omega) (by omega)]; exact h2 c (by omega), r3⟩
    by_cases c : z_bp (z_hs (z_cc A t) (z_H0 A) (z_upto a)) (z_cc A t) = -1
    · rw [if_pos c] at r1 ⊢
      simp (disch := (first | trivial | assumption | omega | (refine r_iE ?_ ?_ <;> omega) | (refine r_lE ?_ ?_ <;> omega) | fail)) only [↓q_gdT, ↓q_ltE, ↓if_pos, ↓if_neg, ↓q_bd2E r1]
    · rw [if_neg c] at r1 ⊢
      simp (disch := (first | trivial | assumption | omega | (refine r_iE ?_ ?_ <;> omega) | (refine r_lE ?_ ?_ <;> omega) | fail)) only [↓q_gdT, ↓q_ltE, ↓if_pos, ↓if_neg, ↓q_bd2E r1]
  · obtain ⟨v, J⟩ := s
    obtain ⟨rfl, hF, hh, hg⟩ := hP
    dsimp only at hF hh hg
    show ∃ s' : Int × q_HI, _ ∧ f_X9_runClustering_L9 _ _ _ _ _ (n + 1) _ _ = _
    rw [f_X9_runClustering_L9]
    have hi8 : i < 8 := by omega
    have hnb := hB.ns hi
    have e10 : J x 10 = A 0 4 := by rw [hF _ (by omega)]; exact h10
    have e3 : J (x + 51 + 15 * i) 3 = A 4 i := by rw [hF _ (by omega)]; exact (hp.2.2.2.2.2 i hi).2.2
    simp only [k_0 hS, r_0_3 hS, k_32 hS, n_32 hS, Int.toNat_natCast, r_32 hS hi8, kg_0 hS hi8, e10, e3]
    by_cases hz : A 4 i = 0
    · refine ⟨(((i + 1 : Nat) : Int), J), ⟨rfl, hF, fun k hk => ?_, fun k l h1 h2 h3 => ?_⟩, ?_⟩
      · dsimp only
        rw [hh k hk]
        by_cases c : k < i ∧ A 4 k ≠ 0
        · rw [if_pos c, if_pos ⟨by omega, c.2⟩]
        · rw [if_neg c, if_neg (fun q => c ⟨by by_cases e : k = i; (· subst e; exact absurd hz q.2); omega, q.2⟩)]
      · dsimp only
        have : l ≠ i := fun e => h3 (by rw [e]; exact hz)
        exact hg k l h1 (by omega) h3
      · simp (disch := (first | trivial | assumption | omega | (refine r_iE ?_ ?_ <;> omega) | (refine r_lE ?_ ?_ <;> omega) | fail)) only [↓q_gdT, ↓q_ltE, ↓if_pos, ↓if_neg]
        rfl
    · simp (disch := (first | trivial | assumption | omega | (refine r_iE ?_ ?_ <;> omega) | (refine r_lE ?_ ?_ <;> omega) | fail)) only [↓q_gdT, ↓q_ltE, ↓if_pos, ↓if_neg]
      have key := z_loopR (σ := Int × q_HI) (fun m s => f_X9_runClustering_L31 S R x a (i : Int) (fun w23 I24 => q_gd (S.1 (R x 5) = 5) (q_bd (f_X4_include S R I24 (R x 5) (i : Int)) fun I26 => f_X9_runClustering_L9 S R x a (fun w28 I29 => q_bd2 (f_X4_runTo S R I29 (x + 37) a) fun r30 I31 => q_gd (r30 = 0 ∨ r30 = 1) (some (r30, I31))) n ((i : Int) + 1) I26)) m s.1 s.2) (fun j s => s.1 = (j : Int) ∧ (∀ c, ¬ (x + 39 ≤ c ∧ c ≤ x + 46) → s.2 c = J c) ∧ (∀ k l, l ≠ i → s.2 (x + 39 + k) l = J (x + 39 + k) l) ∧ ∀ k, k < j → s.2 (x + 39 + k) i = z_cc A t k i) i (fun s => q_gd (S.1 (R x 5) = 5) (q_bd (f_X4_include S R s.2 (R x 5) (i : Int)) fun I26 => f_X9_runClustering_L9 S R x a (fun w28 I29 => q_bd2 (f_X4_runTo S R I29 (x + 37) a) fun r30 I31 => q_gd (r30 = 0 ∨ r30 = 1) (some (r30, I31))) n ((i : Int) + 1) I26)) (fun m j s hj hP => ?_) (fun m s hP => ?_) 100 0 (0, J) (by omega) (by omega) ⟨rfl, fun _ _ => rfl, fun _ _ _ => rfl, fun k hk => absurd hk (by omega)⟩
      · obtain ⟨s', ⟨h1, h2, h3, h4⟩, h5⟩ := key
        have q1 : f_X4_include S R s'.2 (x + 37) (i : Int) = some (q_up s'.2 (x + 47) i (i : Int)) := by
          unfold f_X4_include
          simp only [k_37 hS, r_37_1 hS, k_47 hS, n_47 hS, Int.toNat_natCast]
          simp (disch := (first | trivial | assumption | omega | (refine r_iE ?_ ?_ <;> omega) | (refine r_lE ?_ ?_ <;> omega) | fail)) only [↓q_gdT, ↓q_ltE, ↓if_pos, ↓if_neg]
        refine ⟨(((i + 1 : Nat) : Int), q_up s'.2 (x + 47) i (i : Int)), ⟨rfl, fun c hc => ?_, fun k hk => ?_, fun k l g1 g2 g3 => ?_⟩, ?_⟩
        · dsimp only
          rw [q_up_ne _ _ _ (by omega), h2 c (by omega)]
          exact hF c hc
        · dsimp only
          unfold q_up
          by_cases e : k = i
          · rw [if_pos ⟨rfl, e⟩, if_pos ⟨by omega, by rw [e]; exact hz⟩, e]
          · rw [if_neg (fun q => e q.2), h2 _ (by omega), hh k hk]
            by_cases c : k < i ∧ A 4 k ≠ 0
            · rw [if_pos c, if_pos ⟨by omega, c.2⟩]
            · rw [if_neg c, if_neg (by omega)]
        · dsimp only
          rw [q_up_ne _ _ _ (by omega)]
          by_cases e : l = i
          · subst e
            exact h4 k g1
          · rw [h3 k l e]
            exact hg k l g1 (by omega) g3
        · refine h5.trans ?_
          simp only [r_0_5 hS, k_37 hS]
          simp (disch := (first | trivial | assumption | omega | (refine r_iE ?_ ?_ <;> omega) | (refine r_lE ?_ ?_ <;> omega) | fail)) only [↓q_gdT, ↓q_ltE, ↓if_pos, ↓if_neg, ↓q_bdE q1]
          rfl
      · obtain ⟨v, J'⟩ := s
        obtain ⟨rfl, hF', hn', hg'⟩ := hP
        dsimp only at hF' hn' hg'
        show ∃ s' : Int × q_HI, _ ∧ f_X9_runClustering_L31 _ _ _ _ _ _ (m + 1) _ _ = _
        rw [f_X9_runClustering_L31]
        have hj8 : j < 8 := by omega
        have hp' : w_pr x J' A t := hp.fr hB (fun a ha => by rw [hF' a (by omega)]; exact hF a (by omega))
        obtain ⟨q1, q1b⟩ := e_gapOfClasses (c := j) (d := i) hS hB hp' (by omega) hi
        obtain ⟨kr, nr⟩ := k_row39 hS hj8
        have q2 : f_X4_setGap S R J' (x + 37) (j : Int) (i : Int) (z_cc A t j i) = some (q_up J' (x + 39 + j) i (z_cc A t j i)) := by
          unfold f_X4_setGap
          simp only [k_37 hS, r_37_0 hS, k_38 hS, n_38 hS, Int.toNat_natCast, r_38 hS hj8, kr, nr]
          simp (disch := (first | trivial | assumption | omega | (refine r_iE ?_ ?_ <;> omega) | (refine r_lE ?_ ?_ <;> omega) | fail)) only [↓q_gdT, ↓q_ltE, ↓if_pos, ↓if_neg]
        simp only [k_0 hS, r_0_5 hS, k_37 hS]
        simp (disch := (first | trivial | assumption | omega | (refine r_iE ?_ ?_ <;> omega) | (refine r_lE ?_ ?_ <;> omega) | fail)) only [↓q_gdT, ↓q_ltE, ↓if_pos, ↓if_neg, ↓q_bdE q1, ↓q_bdE q2]
        refine ⟨(((j + 1 : Nat) : Int), q_up J' (x + 39 + j) i (z_cc A t j i)), ⟨rfl, fun c hc => ?_, fun k l hl => ?_, fun k hk => ?_⟩, rfl⟩
        · dsimp only
          rw [q_up_ne _ _ _ (by omega)]
          exact hF' c hc
        · dsimp only
          unfold q_up
          rw [if_neg (fun q => hl q.2)]
          exact hn' k l hl
        · dsimp only
          unfold q_up
          by_cases e : k = j
          · rw [if_pos ⟨by omega, rfl⟩, e]
          · rw [if_neg (by omega)]
            exact hg' k (by omega)
      · obtain ⟨v, J'⟩ := s
        obtain ⟨rfl, hF', hn', hg'⟩ := hP
        show f_X9_runClustering_L31 _ _ _ _ _ _ (m + 1) _ _ = _
        rw [f_X9_runClustering_L31]
        simp (disch := (first | trivial | assumption | omega | (refine r_iE ?_ ?_ <;> omega) | (refine r_lE ?_ ?_ <;> omega) | fail)) only [↓q_gdT, ↓q_ltE, ↓if_pos, ↓if_neg]
  · obtain ⟨v, J⟩ := s
    obtain ⟨rfl, hF, hh, hg⟩ := hP
    dsimp only at hF
    show f_X9_runClustering_L9 _ _ _ _ _ (n + 1) _ _ = _
    rw [f_X9_runClustering_L9]
    have e10 : J x 10 = A 0 4 := by rw [hF _ (by omega)]; exact h10
    simp only [k_0 hS, e10]
    simp (disch := (first | trivial | assumption | omega | (refine r_iE ?_ ?_ <;> omega) | (refine r_lE ?_ ?_ <;> omega) | fail)) only [↓q_gdT, ↓q_ltE, ↓if_pos, ↓if_neg]
