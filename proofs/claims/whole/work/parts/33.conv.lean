/-! THE CLASS: ratios and features -/
def w_cv (x : Nat) (I : q_HI) (A : q_A) : Prop := (∀ s, s < 5 → I (x + 2) s = A 1 s) ∧ I (x + 1) 5 = A 0 8 ∧ (∀ s, s < 5 → I (x + 8) s = z_sxy A s) ∧ I (x + 1) 4 = z_sxx A
theorem e_ratioIn {x : Nat} {S : q_S} {R : q_HR} {I : q_HI} {A : q_A} {h : Int} {r : Nat → Int} {m s : Nat} (hS : w_Sh x S R) (hb : ∀ s, s < 5 → I (x + 2) s = A 1 s) (hB : ∀ s, s < 5 → 100 ≤ A 1 s ∧ A 1 s ≤ 9999) (hM : w_M x S R I h r m) (hr : ∀ s, s < 5 → 0 ≤ r s ∧ r s ≤ 9999) (hs : s < 5) : f_X0_ratioIn S R I (x + 1) m (s : Int) = some (z_ratv A (r s) s) := by
  obtain ⟨m1, m2, m3, m4, m5, m6, m7⟩ := hM
  have b1 := hB s hs
  have b2 := hr s hs
  have q := e_quot (a := 1000 * r s) (b := A 1 s) (r_lE (by omega) (by omega)) (r_lE (by omega) (by omega)) (by omega)
  have q2 : 0 ≤ 1000 * r s / A 1 s := Int.ediv_nonneg (by omega) (by omega)
  have q3 : 1000 * r s / A 1 s ≤ 1000 * r s := Int.ediv_le_self _ (by omega)
  unfold f_X0_ratioIn
  simp only [k_1 hS, k_2 hS, n_2 hS, r_1_0 hS, Int.toNat_natCast, m1, m2, m3, m7 s hs, hb s hs]
  simp (disch := (first | trivial | assumption | omega | (refine r_iE ?_ ?_ <;> omega) | (refine r_lE ?_ ?_ <;> omega) | fail)) only [↓q_gdT, ↓q_ltE, ↓if_pos, ↓if_neg, ↓q_bdE q]
  rfl
theorem z_divA {a b M : Int} (hb : 0 < b) (h1 : -M ≤ a) (h2 : a ≤ M) (hM : 0 ≤ M) : -M ≤ a / b ∧ a / b ≤ M := by
  have e1 : M ≤ M * b := by
    have := Int.mul_le_mul_of_nonneg_left (show 1 ≤ b by omega) hM
    omega
  refine z_divB hb ?_ ?_
  · rw [Int.neg_mul]; omega
  · rw [Int.add_mul]; omega
theorem z_vc {A : q_A} {k : Nat} (h : k < z_nc A) : z_v A (1 + k) := Or.inr (Or.inl ⟨by omega, by omega⟩)
theorem z_vr {A : q_A} {k : Nat} (h : k < z_nr A) : z_v A (13 + k) := Or.inr (Or.inr (Or.inl ⟨by omega, by omega⟩))
theorem z_vs {A : q_A} {c k : Nat} (hc : c < z_nk A) (h : k < z_ns A c) : z_v A (23 + 8 * c + k) := Or.inr (Or.inr (Or.inr ⟨c, k, hc, h, rfl⟩))
theorem z_B.base {A : q_A} (h : z_B A) : ∀ s, s < 5 → 100 ≤ A 1 s ∧ A 1 s ≤ 9999 := h.2.2.2.2.2.2.2.2.2.1
theorem z_B.data {A : q_A} (h : z_B A) : ∀ p, z_v A p → (0 ≤ z_hu A p ∧ z_hu A p ≤ 100) ∧ ∀ s, s < 5 → (0 ≤ z_rd A p s ∧ z_rd A p s ≤ 9999) ∧ ((A 0 1).toNat ≤ s → z_rd A p s = 0) := h.2.2.2.2.2.2.2.2.2.2.1
theorem z_B.rat {A : q_A} (h : z_B A) {p s : Nat} (hv : z_v A p) (hs : s < 5) : 0 ≤ z_rat A p s ∧ z_rat A p s ≤ 2000 := z_ratB (h.base s hs) ((h.data p hv).2 s hs).1
theorem z_sxB {A : q_A} (h : z_B A) : (∀ s, s < 5 → -30000000 ≤ z_sxy A s ∧ z_sxy A s ≤ 30000000) ∧ 0 ≤ z_sxx A ∧ z_sxx A ≤ 2000000 := by
  have hn := h.2.1
  have en : (z_nc A : Int) = A 0 2 := by unfold z_nc; omega
  have hh : ∀ k, k < z_nc A → 0 ≤ z_hu A (1 + k) ∧ z_hu A (1 + k) ≤ 100 := fun k hk => (h.data _ (z_vc hk)).1
  have s1 := z_smB (lo := 0) (hi := 100) hh
  have m1 := z_mul0 (M := 12) (N := 100) (a := (z_nc A : Int)) (b := 100) (by omega) (by omega)
  rw [en] at s1 m1
  have t1 : 0 ≤ z_sm (fun k => z_hu A (1 + k)) (z_nc A) ∧ z_sm (fun k => z_hu A (1 + k)) (z_nc A) ≤ 1200 := by omega
  constructor
  · intro s hs
    have hr : ∀ k, k < z_nc A → 0 ≤ z_rat A (1 + k) s ∧ z_rat A (1 + k) s ≤ 2000 := fun k hk => h.rat (z_vc hk) hs
    have s2 := z_smB (lo := 0) (hi := 2000) hr
    have m2 := z_mul0 (M := 12) (N := 2000) (a := (z_nc A : Int)) (b := 2000) (by omega) (by omega)
    have s3 := z_smB (lo := 0) (hi := 200000) (f := fun k => z_hu A (1 + k) * z_rat A (1 + k) s) (n := z_nc A) (fun k hk => by
      have := z_mul0 (M := 100) (N := 2000) (hh k hk) (hr k hk)
      omega)
    have m3 := z_mul0 (M := 12) (N := 200000) (a := (z_nc A : Int)) (b := 200000) (by omega) (by omega)
    rw [en] at s2 m2 s3 m3
    have t2 : 0 ≤ z_sm (fun k => z_rat A (1 + k) s) (z_nc A) ∧ z_sm (fun k => z_rat A (1 + k) s) (z_nc A) ≤ 24000 := by omega
    have t3 := z_mul0 (M := 12) (N := 2400000) (a := A 0 2) (b := z_sm (fun k => z_hu A (1 + k) * z_rat A (1 + k) s) (z_nc A)) (by omega) (by omega)
    have t4 := z_mul0 t1 t2
    unfold z_sxy
    omega
  · have s3 := z_smB (lo := 0) (hi := 10000) (f := fun k => z_hu A (1 + k) * z_hu A (1 + k)) (n := z_nc A) (fun k hk => by
      have := z_mul0 (M := 100) (N := 100) (hh k hk) (hh k hk)
      omega)
    have m3 := z_mul0 (M := 12) (N := 10000) (a := (z_nc A : Int)) (b := 10000) (by omega) (by omega)
    rw [en] at s3 m3
    have t3 := z_mul0 (M := 12) (N := 120000) (a := A 0 2) (b := z_sm (fun k => z_hu A (1 + k) * z_hu A (1 + k)) (z_nc A)) (by omega) (by omega)
    have t4 := z_mul0 t1 t1
    have t5 := z_cauchy (fun k => z_hu A (1 + k)) (z_nc A)
    rw [en] at t5
    unfold z_sxx
    omega
theorem z_corB {A : q_A} (hB : z_B A) {h : Int} {s : Nat} (hs : s < 5) (hh : 0 ≤ h ∧ h ≤ 100) : -1500000000 ≤ z_cor A h s ∧ z_cor A h s ≤ 1500000000 := by
  obtain ⟨h1, h2⟩ := z_sxB hB
  have h3 := z_mulB (M := 30000000) (N := 50) (h1 s hs) (b := h - 50) (by omega)
  unfold z_cor
  split
  · omega
  · exact z_divA (by omega) (by omega) (by omega) (by omega)
theorem e_correction {x : Nat} {S : q_S} {R : q_HR} {I : q_HI} {A : q_A} {h : Int} {s : Nat} (hS : w_Sh x S R) (hc : w_cv x I A) (hB : z_B A) (hh : 0 ≤ h ∧ h ≤ 100) (hs : s < 5) : f_X0_correction S R I (x + 1) (s : Int) h = some (z_cor A h s) := by
  obtain ⟨c1, c2, c3, c4⟩ := hc
  obtain ⟨h1, h2, h2'⟩ := z_sxB hB
  have h1 := h1 s hs
  have h3 := z_mulB (M := 30000000) (N := 50) h1 (b := h - 50) (by omega)
  have hA8 := hB.2.2.2.2.2.2.2.1
  unfold f_X0_correction z_cor
  simp only [k_1 hS, r_1_3 hS, k_8 hS, n_8 hS, Int.toNat_natCast, c2, c3 s hs, c4]
  have g8 : r_i (A 0 8) := r_iE (by omega) (by omega)
  have g4 : r_l (z_sxx A) := r_lE (by omega) (by omega)
  by_cases ha : A 0 8 = 0
  · rw [if_pos (Or.inl ha)]
    simp (disch := (first | trivial | assumption | omega | (refine r_iE ?_ ?_ <;> omega) | (refine r_lE ?_ ?_ <;> omega) | fail)) only [↓q_gdT, ↓q_ltE, ↓if_pos, ↓if_neg]
  · by_cases hb : z_sxx A = 0
    · rw [if_pos (Or.inr hb)]
      simp (disch := (first | trivial | assumption | omega | (refine r_iE ?_ ?_ <;> omega) | (refine r_lE ?_ ?_ <;> omega) | fail)) only [↓q_gdT, ↓q_ltE, ↓if_pos, ↓if_neg]
    · rw [if_neg (by omega)]
      have q := e_quot (a := z_sxy A s * (h - 50)) (b := z_sxx A) (r_lE (by omega) (by omega)) g4 (by omega)
      simp (disch := (first | trivial | assumption | omega | (refine r_iE ?_ ?_ <;> omega) | (refine r_lE ?_ ?_ <;> omega) | fail)) only [↓q_gdT, ↓q_ltE, ↓if_pos, ↓if_neg, ↓q_bdE q]
theorem e_featureIn {x : Nat} {S : q_S} {R : q_HR} {I : q_HI} {A : q_A} {h : Int} {r : Nat → Int} {m s : Nat} (hS : w_Sh x S R) (hc : w_cv x I A) (hB : z_B A) (hM : w_M x S R I h r m) (hh : 0 ≤ h ∧ h ≤ 100) (hr : ∀ s, s < 5 → 0 ≤ r s ∧ r s ≤ 9999) (hs : s < 5) : f_X0_featureIn S R I (x + 1) m (s : Int) = some (z_fev A h (r s) s) := by
  have q1 := e_ratioIn hS hc.1 hB.base hM hr hs
  have q2 := e_correction hS hc hB hh hs
  have b1 := z_ratB (hB.base s hs) (hr s hs)
  have b2 := z_corB hB hs hh
  obtain ⟨m1, m2, m3, m4, m5, m6, m7⟩ := hM
  have b3 := z_mnB (v := z_ratv A (r s) s - z_cor A h s) (h := 4000)
  unfold f_X0_featureIn z_fev
  simp only [k_1 hS, m1, m6]
  simp (disch := (first | trivial | assumption | omega | (refine r_iE ?_ ?_ <;> omega) | (refine r_lE ?_ ?_ <;> omega) | fail)) only [↓q_gdT, ↓q_ltE, ↓if_pos, ↓if_neg, ↓q_bdE q1, ↓q_bdE q2]
/-- a row of the heap, its first n numbers written -/
def z_row (I : q_HI) (rw : Nat) (f : Nat → Int) (n : Nat) : q_HI := fun a j => if a = rw ∧ j < n then f j else I a j
theorem z_row_up (I : q_HI) (rw : Nat) (f : Nat → Int) (n : Nat) : q_up (z_row I rw f n) rw n (f n) = z_row I rw f (n + 1) := by
  funext a j
  unfold q_up z_row
  by_cases h : a = rw ∧ j = n
  · rw [if_pos h, if_pos (by omega), h.2]
  · rw [if_neg h]
    by_cases h2 : a = rw ∧ j < n
    · rw [if_pos h2, if_pos (by omega)]
    · rw [if_neg h2, if_neg (by omega)]
theorem z_row_ne {I : q_HI} {rw a : Nat} (f : Nat → Int) (n : Nat) (h : a ≠ rw) : z_row I rw f n a = I a := by
  funext j
  unfold z_row
  rw [if_neg (by omega)]
theorem z_row_0 (I : q_HI) (rw : Nat) (f : Nat → Int) : z_row I rw f 0 = I := by
  funext a j
  unfold z_row
  rw [if_neg (by omega)]
theorem z_row_at {I : q_HI} {rw n j : Nat} (f : Nat → Int) (h : j < n) : z_row I rw f n rw j = f j := by
  unfold z_row
  rw [if_pos ⟨rfl, h⟩]
theorem w_cv.fr {x : Nat} {I I' : q_HI} {A : q_A} (h : w_cv x I A) (h1 : I' (x + 1) = I (x + 1)) (h2 : I' (x + 2) = I (x + 2)) (h8 : I' (x + 8) = I (x + 8)) : w_cv x I' A := by
  unfold w_cv
  rw [h1, h2, h8]
  exact h
theorem w_M.fr {x : Nat} {S : q_S} {R : q_HR} {I I' : q_HI} {h : Int} {r : Nat → Int} {m : Nat} (hM : w_M x S R I h r m) (hf : ∀ a, w_fr x a → I' a = I a) : w_M x S R I' h r m := by
  obtain ⟨m1, m2, m3, m4, m5, m6, m7⟩ := hM
  exact ⟨m1, m2, m3, m4, m5, by rw [hf m m4]; exact m6, fun s hs => by rw [hf _ m5]; exact m7 s hs⟩
theorem e_fill {x : Nat} {S : q_S} {R : q_HR} {I : q_HI} {A : q_A} {h : Int} {r : Nat → Int} {m rw : Nat} (hS : w_Sh x S R) (hc : w_cv x I A) (hB : z_B A) (hM : w_M x S R I h r m) (hh : 0 ≤ h ∧ h ≤ 100) (hr : ∀ s, s < 5 → 0 ≤ r s ∧ r s ≤ 9999) (hk : S.1 rw = 12) (hn : S.2.1 rw = 5) (hrw : rw < x + 183 ∧ rw ≠ x + 1 ∧ rw ≠ x + 2 ∧ rw ≠ x + 8 ∧ rw ≠ x + 48 ∧ rw ≠ x + 49) : f_X0_fillFeatures S R I (x + 1) m rw = some (z_row I rw (fun s => z_fev A h (r s) s) 5) := by
  unfold f_X0_fillFeatures
  have key := z_loop (fun n i => f_X0_fillFeatures_L2 S R (x + 1) m rw (fun w12 I13 => some I13) n ((i : Nat) : Int) (z_row I rw (fun s => z_fev A h (r s) s) i)) 5 (some (z_row I rw (fun s => z_fev A h (r s) s) 5)) (fun n i hi => ?_) (fun n => ?_) 100 (by decide)
  · rw [z_row_0] at key
    exact key
  · have q := e_featureIn (I := z_row I rw (fun s => z_fev A h (r s) s) i) hS (hc.fr (z_row_ne _ _ (by omega)) (z_row_ne _ _ (by omega)) (z_row_ne _ _ (by omega))) hB (hM.fr (fun a ha => z_row_ne _ _ (by unfold w_fr at ha; omega))) hh hr hi
    show f_X0_fillFeatures_L2 _ _ _ _ _ _ (n + 1) _ _ = _
    rw [f_X0_fillFeatures_L2]
    simp only [hk, hn, k_1 hS]
    simp (disch := (first | trivial | assumption | omega | (refine r_iE ?_ ?_ <;> omega) | (refine r_lE ?_ ?_ <;> omega) | fail)) only [↓q_gdT, ↓q_ltE, ↓if_pos, ↓if_neg, ↓q_bdE q]
    rw [Int.toNat_natCast, z_row_up]
    rfl
  · show f_X0_fillFeatures_L2 _ _ _ _ _ _ (n + 1) _ _ = _
    rw [f_X0_fillFeatures_L2]
    simp only [hk, hn]
    simp (disch := (first | trivial | assumption | omega | (refine r_iE ?_ ?_ <;> omega) | (refine r_lE ?_ ?_ <;> omega) | fail)) only [↓q_gdT, ↓q_ltE, ↓if_pos, ↓if_neg]
