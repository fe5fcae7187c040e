/-! THE CLASS: starting anew -/
def z_re (A : q_A) (v : Int) : q_A := fun d j => if d = 0 then (if j = 1 then v else if j = 5 then 50 else if j = 8 ∨ j = 9 then 1 else if 2 ≤ j ∧ j ≤ 7 then 0 else A 0 j) else if d = 1 ∧ j < 5 then 1000 else A d j
theorem z_reB (A : q_A) {v : Int} (hv : 2 ≤ v ∧ v ≤ 5) : z_B (z_re A v) := by
  have e2 : z_re A v 0 2 = 0 := rfl
  have e3 : z_re A v 0 3 = 0 := rfl
  have e4 : z_re A v 0 4 = 0 := rfl
  have n2 : z_nc (z_re A v) = 0 := rfl
  have n3 : z_nr (z_re A v) = 0 := rfl
  have n4 : z_nk (z_re A v) = 0 := rfl
  refine ⟨hv, ⟨Int.le_refl 0, by rw [e2]; omega⟩, ⟨Int.le_refl 0, by rw [e3]; omega⟩, ⟨Int.le_refl 0, by rw [e4]; omega⟩, ?_, ?_, Or.inl rfl, Or.inr rfl, Or.inr rfl, fun s hs => ?_, fun p hp => ?_, fun k hk => ?_, fun k l _ hk => ?_, fun c hc => ?_⟩
  · show (0 : Int) ≤ 50 ∧ (50 : Int) ≤ 400
    omega
  · show (0 : Int) ≤ 0 ∧ (0 : Int) ≤ 1000000
    omega
  · have : z_re A v 1 s = 1000 := by
      unfold z_re
      rw [if_neg (by omega), if_pos ⟨rfl, hs⟩]
    omega
  · exfalso
    rcases hp with q | q | q | ⟨c, k, q, _⟩
    · have : z_re A v 0 7 = 0 := rfl
      have := q.2
      omega
    · omega
    · omega
    · omega
  · omega
  · omega
  · omega
theorem e_clear8 {S : q_S} {R : q_HR} {I : q_HI} {a : Nat} (h : S.1 a = 9) : f_X8_clear S R I a = some (q_up I a 2 0) := by
  unfold f_X8_clear
  simp only [h]
  simp (disch := (first | trivial | assumption | omega | (refine r_iE ?_ ?_ <;> omega) | (refine r_lE ?_ ?_ <;> omega) | fail)) only [↓q_gdT, ↓q_ltE, ↓if_pos, ↓if_neg]
theorem q_up_at {f : Nat → Nat → Int} {a j : Nat} {v : Int} : q_up f a j v a j = v := by unfold q_up; rw [if_pos ⟨rfl, rfl⟩]
theorem q_up_nj {f : Nat → Nat → Int} {a b i j : Nat} {v : Int} (h : i ≠ j) : q_up f a j v b i = f b i := by unfold q_up; rw [if_neg (fun q => h q.2)]
theorem e_restart0 {x : Nat} {S : q_S} {R : q_HR} {I : q_HI} {v : Int} (A : q_A) (hS : w_Sh x S R) (hv : 2 ≤ v ∧ v ≤ 5) : ∃ I', f_X0_restart S R I (x + 1) v = some I' ∧ (∀ a, a ≠ x + 1 → a ≠ x + 2 → a ≠ x + 3 → a ≠ x + 7 → a ≠ x + 8 → I' a = I a) ∧ I' (x + 1) 6 = v ∧ I' (x + 1) 5 = 1 ∧ I' (x + 3) 2 = 0 ∧ (∀ s, s < 5 → I' (x + 2) s = 1000) ∧ (∀ s, s < 5 → I' (x + 8) s = z_sxy (z_re A v) s) ∧ I' (x + 1) 4 = z_sxx (z_re A v) := by
  have eb : ∀ s, s < 5 → z_re A v 1 s = 1000 := fun s hs => by
    unfold z_re
    rw [if_neg (by omega), if_pos ⟨rfl, hs⟩]
  generalize hJ : q_up (q_up (z_row (q_up I (x + 1) 6 v) (x + 2) (fun _ => 1000) 5) (x + 3) 2 0) (x + 1) 5 1 = J
  have b2 : ∀ s, s < 5 → J (x + 2) s = 1000 := fun s hs => by
    rw [← hJ, q_up_ne _ _ _ (by omega), q_up_ne _ _ _ (by omega), z_row_at _ hs]
  have b3 : J (x + 3) 2 = 0 := by
    rw [← hJ, q_up_ne _ _ _ (by omega), q_up_at]
  obtain ⟨I', q1, f1, f2, f3⟩ := e_fit (I := J) (A := z_re A v) hS (z_reB A hv) ⟨b3, fun s hs => by rw [b2 s hs, eb s hs], fun k hk => absurd hk (Nat.not_lt_zero k)⟩
  refine ⟨I', ?_, fun a h1 h2 h3 h4 h5 => ?_, ?_, ?_, ?_, fun s hs => ?_, f2, f3⟩
  · have q2 := e_clear8 (S := S) (R := R) (I := z_row (q_up I (x + 1) 6 v) (x + 2) (fun _ => 1000) 5) (k_3 hS)
    unfold f_X0_restart
    have key := z_loop (fun n i => f_X0_restart_L7 S R (x + 1) (fun w11 I12 => q_gd (S.1 (R (x + 1) 1) = 9) (q_bd (f_X8_clear S R I12 (R (x + 1) 1)) fun I14 => q_lt (q_up I14 (x + 1) 5 1) fun I16 => q_bd (f_X0_fit S R I16 (x + 1)) fun I18 => some I18)) n ((i : Nat) : Int) (z_row (q_up I (x + 1) 6 v) (x + 2) (fun _ => 1000) i)) 5 (some I') (fun n i hi => ?_) (fun n => ?_) 100 (by decide)
    · rw [z_row_0] at key
      simp only [k_1 hS]
      rw [q_gdT trivial, q_ltE]
      exact key
    · show f_X0_restart_L7 _ _ _ _ (n + 1) _ _ = _
      rw [f_X0_restart_L7]
      simp only [k_1 hS, r_1_0 hS, k_2 hS, n_2 hS]
      simp (disch := (first | trivial | assumption | omega | (refine r_iE ?_ ?_ <;> omega) | (refine r_lE ?_ ?_ <;> omega) | fail)) only [↓q_gdT, ↓q_ltE, ↓if_pos, ↓if_neg]
      rw [Int.toNat_natCast, z_row_up (f := fun _ => 1000)]
      rfl
    · show f_X0_restart_L7 _ _ _ _ (n + 1) _ _ = _
      rw [f_X0_restart_L7]
      simp only [r_1_1 hS, k_3 hS]
      simp (disch := (first | trivial | assumption | omega | (refine r_iE ?_ ?_ <;> omega) | (refine r_lE ?_ ?_ <;> omega) | fail)) only [↓q_gdT, ↓q_ltE, ↓if_pos, ↓if_neg, ↓q_bdE q2, hJ, ↓q_bdE q1]
  · rw [f1.row h4 h5 h1, ← hJ, q_up_ne _ _ _ h1, q_up_ne _ _ _ h3, z_row_ne _ _ h2, q_up_ne _ _ _ h1]
  · rw [f1 _ _ (by omega) (by omega) (by omega), ← hJ, q_up_nj (by omega), q_up_ne _ _ _ (by omega), z_row_ne _ _ (by omega), q_up_at]
  · rw [f1 _ _ (by omega) (by omega) (by omega), ← hJ, q_up_at]
  · rw [f1 _ _ (by omega) (by omega) (by omega), b3]
  · rw [f1 _ _ (by omega) (by omega) (by omega), b2 s hs]
def z_clr (x : Nat) (I : q_HI) (n : Nat) : q_HI := fun a j => if j = 2 ∧ x + 51 ≤ a ∧ (a - (x + 51)) % 15 = 1 ∧ (a - (x + 51)) / 15 < n then 0 else I a j
theorem z_clr_ne {x : Nat} {I : q_HI} {n a : Nat} (h : a < x + 51 ∨ x + 51 + 15 * n ≤ a) : z_clr x I n a = I a := by
  funext j
  unfold z_clr
  rw [if_neg (by omega)]
theorem z_clr_up {x : Nat} {I : q_HI} {n : Nat} : q_up (z_clr x I n) (x + 51 + 15 * n + 1) 2 0 = z_clr x I (n + 1) := by
  funext a j
  unfold q_up z_clr
  by_cases h : a = x + 51 + 15 * n + 1 ∧ j = 2
  · rw [if_pos h, if_pos (by omega)]
  · rw [if_neg h]
    by_cases h2 : j = 2 ∧ x + 51 ≤ a ∧ (a - (x + 51)) % 15 = 1 ∧ (a - (x + 51)) / 15 < n
    · rw [if_pos h2, if_pos (by omega)]
    · rw [if_neg h2, if_neg (by omega)]
theorem e_restart {x : Nat} {S : q_S} {R : q_HR} {I : q_HI} {v : Int} (A : q_A) (hS : w_Sh x S R) (hv : 2 ≤ v ∧ v ≤ 5) (hb : I (x + 48) 0 = 0 ∧ ∀ s, s < 5 → I (x + 49) s = 0) : ∃ I', f_X9_restart S R I x v = some (q_up R x 8 (x + 48), I') ∧ w_C x S (q_up R x 8 (x + 48)) I' (z_re A v) ∧ w_ch x I I' := by
  obtain ⟨I2, q1, f1, a1, a2, a3, a4, a5, a6⟩ := e_restart0 (I := I) A hS hv
  have q2 : f_X1_restart S R I2 (x + 9) = some (q_up (q_up I2 (x + 10) 2 0) (x + 9) 7 1) := by
    have q := e_clear8 (S := S) (R := R) (I := I2) (k_10 hS)
    unfold f_X1_restart
    simp only [k_9 hS, r_9_0 hS, k_10 hS]
    simp (disch := (first | trivial | assumption | omega | (refine r_iE ?_ ?_ <;> omega) | (refine r_lE ?_ ?_ <;> omega) | fail)) only [↓q_gdT, ↓q_ltE, ↓if_pos, ↓if_neg, ↓q_bdE q]
  generalize hJ : q_up (q_up I2 (x + 10) 2 0) (x + 9) 7 1 = J at q2
  generalize hL : q_up (q_up (q_up (q_up (z_clr x J 8) x 10 0) x 9 0) x 11 50) x 12 0 = L
  have fL : ∀ a, a ≠ x → L a = z_clr x J 8 a := fun a h => by
    rw [← hL, q_up_ne _ _ _ h, q_up_ne _ _ _ h, q_up_ne _ _ _ h, q_up_ne _ _ _ h]
  have fJ : ∀ a, a ≠ x + 9 → a ≠ x + 10 → J a = I2 a := fun a h1 h2 => by
    rw [← hJ, q_up_ne _ _ _ h1, q_up_ne _ _ _ h2]
  have fA : ∀ a, a ≠ x → (a < x + 51 ∨ x + 171 ≤ a) → a ≠ x + 9 → a ≠ x + 10 → L a = I2 a := fun a h1 h2 h3 h4 => by
    rw [fL a h1, z_clr_ne (by omega), fJ a h3 h4]
  refine ⟨L, ?_, ?_, fun a ha => ?_⟩
  · unfold f_X9_restart
    have key := z_loop (fun n i => f_X9_restart_L17 S R x (fun w18 I19 => q_lt (q_up I19 x 10 0) fun I20 => q_gd (S.1 (R x 6) = 6) (q_lt (q_up R x 8 (R x 6)) fun R23 => q_lt (q_up I20 x 9 0) fun I25 => q_lt (q_up I25 x 11 50) fun I27 => q_lt (q_up I27 x 12 0) fun I29 => some (R23, I29))) n ((i : Nat) : Int) (z_clr x J i)) 8 (some (q_up R x 8 (x + 48), L)) (fun n i hi => ?_) (fun n => ?_) 100 (by decide)
    · have e0 : z_clr x J 0 = J := by
        funext a j
        unfold z_clr
        rw [if_neg (by omega)]
      rw [e0] at key
      simp only [k_0 hS, r_0_0 hS, k_1 hS, r_0_1 hS, k_9 hS]
      simp (disch := (first | trivial | assumption | omega | (refine r_iE ?_ ?_ <;> omega) | (refine r_lE ?_ ?_ <;> omega) | fail)) only [↓q_gdT, ↓q_ltE, ↓if_pos, ↓if_neg, ↓q_bdE q1, ↓q_bdE q2]
      exact key
    · have q := e_clear8 (S := S) (R := R) (I := z_clr x J i) (a := x + 51 + 15 * i + 1) (kg_1 hS hi)
      show f_X9_restart_L17 _ _ _ _ (n + 1) _ _ = _
      rw [f_X9_restart_L17]
      simp only [k_0 hS, r_0_3 hS, k_32 hS, n_32 hS, Int.toNat_natCast, r_32 hS hi, kg_0 hS hi, rg_0_0 hS hi, kg_1 hS hi]
      simp (disch := (first | trivial | assumption | omega | (refine r_iE ?_ ?_ <;> omega) | (refine r_lE ?_ ?_ <;> omega) | fail)) only [↓q_gdT, ↓q_ltE, ↓if_pos, ↓if_neg, ↓q_bdE q]
      rw [z_clr_up]
      rfl
    · show f_X9_restart_L17 _ _ _ _ (n + 1) _ _ = _
      rw [f_X9_restart_L17]
      simp only [k_0 hS, r_0_3 hS, k_32 hS, n_32 hS, r_0_6 hS, k_48 hS]
      simp (disch := (first | trivial | assumption | omega | (refine r_iE ?_ ?_ <;> omega) | (refine r_lE ?_ ?_ <;> omega) | fail)) only [↓q_gdT, ↓q_ltE, ↓if_pos, ↓if_neg, hL]
  · refine ⟨⟨?_, ?_, ?_, ?_, ?_, ?_, ?_, ?_, ?_⟩, fun s hs => ?_, fun c hc => ?_, fun k hk => absurd hk (Nat.not_lt_zero k), fun k hk => absurd hk (Nat.not_lt_zero k), fun c k hc => absurd hc (Nat.not_lt_zero c), ?_, ⟨?_, fun s hs => ?_⟩, fun s hs => ?_, ?_⟩
    · rw [fA _ (by omega) (by omega) (by omega) (by omega)]; exact a1
    · rw [fA _ (by omega) (by omega) (by omega) (by omega)]; exact a2
    · rw [← hL, q_up_nj (by omega), q_up_nj (by omega), q_up_at]; rfl
    · rw [← hL, q_up_nj (by omega), q_up_nj (by omega), q_up_nj (by omega), q_up_at]; rfl
    · rw [← hL, q_up_nj (by omega), q_up_at]; rfl
    · rw [← hL, q_up_at]; rfl
    · rw [fL _ (by omega), z_clr_ne (by omega), ← hJ, q_up_at]; rfl
    · rw [fA _ (by omega) (by omega) (by omega) (by omega)]; exact a3
    · rw [fL _ (by omega), z_clr_ne (by omega), ← hJ, q_up_ne _ _ _ (by omega), q_up_at]; rfl
    · rw [fA _ (by omega) (by omega) (by omega) (by omega), a4 s hs]
      unfold z_re
      rw [if_neg (by omega), if_pos ⟨rfl, hs⟩]
    · rw [if_neg (show ¬ c < z_nk (z_re A v) from Nat.not_lt_zero c), fL _ (by omega)]
      unfold z_clr
      rw [if_pos (by omega)]
    · have e7 : z_re A v 0 7 = 0 := rfl
      rw [e7, if_neg (by omega)]
      unfold q_up
      rw [if_pos ⟨rfl, rfl⟩]
    · rw [fA _ (by omega) (by omega) (by omega) (by omega), f1 _ (by omega) (by omega) (by omega) (by omega) (by omega)]; exact hb.1
    · rw [fA _ (by omega) (by omega) (by omega) (by omega), f1 _ (by omega) (by omega) (by omega) (by omega) (by omega)]; exact hb.2 s hs
    · rw [fA _ (by omega) (by omega) (by omega) (by omega)]; exact a5 s hs
    · rw [fA _ (by omega) (by omega) (by omega) (by omega)]; exact a6
  · rw [fA _ (by omega) (by omega) (by omega) (by omega), f1 _ (by omega) (by omega) (by omega) (by omega) (by omega)]
def o_reset (A : q_A) (v : Int) : Int × q_A := if 2 ≤ v ∧ v ≤ 5 then (v, z_re A v) else (-3, A)
theorem g_reset {x : Nat} {S : q_S} {R : q_HR} {I : q_HI} {A : q_A} {v : Int} (hS : w_Sh x S R) (hB : z_B A) (hC : w_C x S R I A) (hv : r_i v) : z_B (o_reset A v).2 ∧ ∃ R' I', f_X9_reset S R I x v = some ((o_reset A v).1, R', I') ∧ w_C x S R' I' (o_reset A v).2 ∧ w_ch x I I' ∧ w_cr x R R' := by
  have q0 := e_isWithin (a := v) (b := 2) (c := 5) hv (r_iE (by omega) (by omega)) (r_iE (by omega) (by omega))
  unfold f_X9_reset o_reset
  by_cases c : 2 ≤ v ∧ v ≤ 5
  · rw [if_pos c] at q0 ⊢
    obtain ⟨I', q1, h1, h2⟩ := e_restart A hS c hC.2.2.2.2.2.2.2.1
    refine ⟨z_reB A c, q_up R x 8 (x + 48), I', ?_, h1, h2, fun b j h => ?_⟩
    · simp only [k_0 hS]
      simp (disch := (first | trivial | assumption | omega | (refine r_iE ?_ ?_ <;> omega) | (refine r_lE ?_ ?_ <;> omega) | fail)) only [↓q_gdT, ↓q_ltE, ↓if_pos, ↓if_neg, ↓q_bdE q0, ↓q_bd2E q1]
    · unfold q_up
      rw [if_neg (fun q => h (Or.inr (Or.inr (Or.inl q))))]
  · rw [if_neg c] at q0 ⊢
    refine ⟨hB, R, I, ?_, hC, fun _ _ => rfl, fun _ _ _ => rfl⟩
    simp (disch := (first | trivial | assumption | omega | (refine r_iE ?_ ?_ <;> omega) | (refine r_lE ?_ ?_ <;> omega) | fail)) only [↓q_gdT, ↓q_ltE, ↓if_pos, ↓if_neg, ↓q_bdE q0]
