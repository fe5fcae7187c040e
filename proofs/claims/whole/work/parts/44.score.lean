/-! THE CLASS: scores, positions, predictions -/
theorem z_leSq {a b : Int} (ha : 0 ≤ a) (h : b * b ≤ a * a) : b ≤ a := by
  rcases Int.lt_or_le a b with q | q
  · have h1 := Int.mul_le_mul_of_nonneg_left (Int.le_of_lt q) ha
    have h2 := Int.mul_lt_mul_of_pos_right q (show 0 < b by omega)
    omega
  · exact q
theorem z_titu {T s N n P p : Int} (hN : 0 ≤ N) (hn : 0 ≤ n) (hP : 0 ≤ P) (hp : 0 ≤ p) (h1 : T * T ≤ N * P) (h2 : s * s ≤ n * p) : (T + s) * (T + s) ≤ (N + n) * (P + p) := by
  have a1 := Int.mul_nonneg hN hp
  have a2 := Int.mul_nonneg hn hP
  have a3 : (2 * (T * s)) * (2 * (T * s)) ≤ (N * p + n * P) * (N * p + n * P) := by
    have b1 : (T * T) * (s * s) ≤ (N * P) * (n * p) := Int.mul_le_mul h1 h2 (z_sq s) (Int.mul_nonneg hN hP)
    have b2 := z_sq (N * p - n * P)
    have e1 : (2 * (T * s)) * (2 * (T * s)) = 4 * ((T * T) * (s * s)) := by grind
    have e2 : (N * p + n * P) * (N * p + n * P) = (N * p - n * P) * (N * p - n * P) + 4 * ((N * P) * (n * p)) := by grind
    rw [e1, e2]
    omega
  have a4 := z_leSq (by omega) a3
  have e1 : (T + s) * (T + s) = T * T + s * s + 2 * (T * s) := by grind
  have e2 : (N + n) * (P + p) = N * P + n * p + (N * p + n * P) := by grind
  rw [e1, e2]
  omega
def z_qs (A : q_A) (c s : Nat) : Int := z_sm (fun k => z_fe A (23 + 8 * c + k) s * z_fe A (23 + 8 * c + k) s) (z_ns A c)
def z_s1 (A : q_A) (s c : Nat) : Int := (A 4 c * z_qs A c s - z_cs A c s * z_cs A c s) / A 4 c
def z_sW (A : q_A) (s n : Nat) : Int := z_sm (z_s1 A s) n
def z_sN (A : q_A) (n : Nat) : Int := z_sm (fun c => A 4 c) n
def z_sT (A : q_A) (s n : Nat) : Int := z_sm (fun c => z_cs A c s) n
def z_sQ (A : q_A) (s n : Nat) : Int := z_sm (fun c => z_qs A c s) n
def z_sB (A : q_A) (s : Nat) : Int := (z_sN A (z_nk A) * z_sQ A s (z_nk A) - z_sT A s (z_nk A) * z_sT A s (z_nk A)) / z_sN A (z_nk A) - z_sW A s (z_nk A)
def z_score (A : q_A) (s : Nat) : Int := if z_sN A (z_nk A) = 0 then -1 else if z_sW A s (z_nk A) = 0 then (if z_sB A s ≤ 0 then 0 else 1000000) else q_mn (1000 * z_sB A s / z_sW A s (z_nk A)) 2000000000
/-- the bounds of one class -/
theorem z_s1B {A : q_A} (hB : z_B A) {c : Nat} (hc : c < z_nk A) (s : Nat) : (0 ≤ z_qs A c s ∧ z_qs A c s ≤ 128000000) ∧ (-32000 ≤ z_cs A c s ∧ z_cs A c s ≤ 32000) ∧ 0 ≤ A 4 c * z_qs A c s - z_cs A c s * z_cs A c s ∧ (0 ≤ z_s1 A s c ∧ z_s1 A s c ≤ z_qs A c s) ∧ z_cs A c s * z_cs A c s ≤ A 4 c * (z_qs A c s - z_s1 A s c) ∧ (A 4 c = 0 → z_qs A c s = 0 ∧ z_cs A c s = 0 ∧ z_s1 A s c = 0) := by
  obtain ⟨h1, h2⟩ := hB.ns hc
  have a1 := z_csB hB hc s
  have a2 := z_smB (lo := 0) (hi := 16000000) (f := fun k => z_fe A (23 + 8 * c + k) s * z_fe A (23 + 8 * c + k) s) (n := z_ns A c) (fun k _ => by
    have h3 := z_fB A (23 + 8 * c + k) s
    have h4 := z_mulB (M := 4000) (N := 4000) h3 h3
    have h5 := z_sq (z_fe A (23 + 8 * c + k) s)
    show 0 ≤ z_fe A (23 + 8 * c + k) s * z_fe A (23 + 8 * c + k) s ∧ z_fe A (23 + 8 * c + k) s * z_fe A (23 + 8 * c + k) s ≤ 16000000
    omega)
  have a2' : 0 ≤ z_qs A c s ∧ z_qs A c s ≤ 128000000 := by unfold z_qs; omega
  have a3 := z_cauchy (fun k => z_fe A (23 + 8 * c + k) s) (z_ns A c)
  rw [h2] at a3
  have a3' : 0 ≤ A 4 c * z_qs A c s - z_cs A c s * z_cs A c s := a3
  have a4 := z_sq (z_cs A c s)
  have m1 := z_mul0 (M := 8) (N := 128000000) (a := A 4 c) (b := z_qs A c s) h1 a2'
  by_cases h0 : A 4 c = 0
  · have e0 : z_ns A c = 0 := by omega
    have e1 : z_qs A c s = 0 := by unfold z_qs; rw [e0]; rfl
    have e2 : z_cs A c s = 0 := by unfold z_cs; rw [e0]; rfl
    have e3 : z_s1 A s c = 0 := by unfold z_s1; rw [h0, Int.ediv_zero]
    rw [e1, e2, e3, h0]
    exact ⟨by omega, by omega, by omega, by omega, by omega, fun _ => by omega⟩
  · have hp : 0 < A 4 c := by omega
    have d1 : 0 ≤ z_s1 A s c := Int.ediv_nonneg a3' (by omega)
    have d2 : z_s1 A s c * A 4 c ≤ A 4 c * z_qs A c s - z_cs A c s * z_cs A c s := Int.ediv_mul_le _ (by omega)
    have d3 : A 4 c * (z_qs A c s - z_s1 A s c) = A 4 c * z_qs A c s - z_s1 A s c * A 4 c := by grind
    have d4 : z_s1 A s c ≤ z_qs A c s := by
      rcases Int.lt_or_le (z_qs A c s) (z_s1 A s c) with q | q
      · have := Int.mul_lt_mul_of_pos_right q hp
        rw [Int.mul_comm (A 4 c)] at d2
        omega
      · exact q
    exact ⟨a2', by omega, a3', ⟨d1, d4⟩, by omega, fun q => absurd q h0⟩
theorem z_sB0 {A : q_A} (hB : z_B A) (s : Nat) : ∀ {n : Nat}, n ≤ z_nk A → (0 ≤ z_sN A n ∧ z_sN A n ≤ 8 * n) ∧ (-(32000 * (n : Int)) ≤ z_sT A s n ∧ z_sT A s n ≤ 32000 * n) ∧ (0 ≤ z_sQ A s n ∧ z_sQ A s n ≤ 128000000 * n) ∧ (0 ≤ z_sW A s n ∧ z_sW A s n ≤ z_sQ A s n) ∧ z_sT A s n * z_sT A s n ≤ z_sN A n * (z_sQ A s n - z_sW A s n)
  | 0, _ => by simp [z_sN, z_sT, z_sQ, z_sW, z_sm]
  | n + 1, h => by
    obtain ⟨h1, h2, h3, h4, h5⟩ := z_sB0 hB s (n := n) (by omega)
    obtain ⟨g1, g2, g3, g4, g5, g6⟩ := z_s1B hB (c := n) (by omega) s
    have hn := (hB.ns (show n < z_nk A by omega)).1
    have eN : z_sN A (n + 1) = z_sN A n + A 4 n := rfl
    have eT : z_sT A s (n + 1) = z_sT A s n + z_cs A n s := rfl
    have eQ : z_sQ A s (n + 1) = z_sQ A s n + z_qs A n s := rfl
    have eW : z_sW A s (n + 1) = z_sW A s n + z_s1 A s n := rfl
    rw [eN, eT, eQ, eW]
    refine ⟨by omega, by omega, by omega, by omega, ?_⟩
    have := z_titu (T := z_sT A s n) (s := z_cs A n s) (N := z_sN A n) (n := A 4 n) (P := z_sQ A s n - z_sW A s n) (p := z_qs A n s - z_s1 A s n) (by omega) (by omega) (by omega) (by omega) h5 g5
    have e : z_sQ A s n + z_qs A n s - (z_sW A s n + z_s1 A s n) = z_sQ A s n - z_sW A s n + (z_qs A n s - z_s1 A s n) := by omega
    rw [e]
    exact this
/-- what is between the classes is not negative -/
theorem z_sBB {A : q_A} (hB : z_B A) (s : Nat) : 0 ≤ z_sN A (z_nk A) * z_sQ A s (z_nk A) - z_sT A s (z_nk A) * z_sT A s (z_nk A) ∧ z_sN A (z_nk A) * z_sQ A s (z_nk A) - z_sT A s (z_nk A) * z_sT A s (z_nk A) ≤ 65536000000 ∧ (z_sN A (z_nk A) ≠ 0 → 0 ≤ z_sB A s ∧ z_sB A s ≤ 65536000000) := by
  have hk := hB.nk
  obtain ⟨h1, h2, h3, h4, h5⟩ := z_sB0 hB s (Nat.le_refl (z_nk A))
  unfold z_sB
  generalize z_sN A (z_nk A) = N at *
  generalize z_sT A s (z_nk A) = T at *
  generalize z_sQ A s (z_nk A) = Q at *
  generalize z_sW A s (z_nk A) = W at *
  have m1 := z_mul0 (M := 64) (N := 1024000000) (a := N) (b := Q) (by omega) (by omega)
  have m2 := Int.mul_nonneg h1.1 h4.1
  have e1 : N * (Q - W) = N * Q - N * W := Int.mul_sub _ _ _
  have m3 := z_sq T
  refine ⟨by omega, by omega, fun hN => ?_⟩
  have hp : 0 < N := by omega
  have d1 : W ≤ (N * Q - T * T) / N := by
    rw [Int.le_ediv_iff_mul_le hp, Int.mul_comm]
    omega
  have d2 : (N * Q - T * T) / N ≤ N * Q - T * T := Int.ediv_le_self _ (by omega)
  omega
theorem e_squaresOf {x : Nat} {S : q_S} {R : q_HR} {I : q_HI} {A : q_A} {c s : Nat} (hS : w_Sh x S R) (hB : z_B A) (hg : w_gp x I A c) (h2 : I (x + 51 + 15 * c + 1) 2 = A 4 c) (hc : c < z_nk A) (hs : s < 5) : f_X2_squaresOf S R I (x + 51 + 15 * c) (s : Int) = some (z_qs A c s) := by
  obtain ⟨hk1, hk2⟩ := hB.nk
  obtain ⟨hn1, hn2⟩ := hB.ns hc
  have hc8 : c < 8 := by omega
  unfold f_X2_squaresOf
  have key := z_loop (fun n i => f_X2_squaresOf_L5 S R I (x + 51 + 15 * c) (s : Int) (fun w13 w14 => some w13) n (z_sm (fun k => z_fe A (23 + 8 * c + k) s * z_fe A (23 + 8 * c + k) s) i) ((i : Nat) : Int)) (z_ns A c) (some (z_qs A c s)) (fun n i hi => ?_) (fun n => ?_) 100 (by omega)
  · exact key
  · show f_X2_squaresOf_L5 _ _ _ _ _ _ (n + 1) _ _ = _
    rw [f_X2_squaresOf_L5]
    have hi8 : i < 8 := by omega
    obtain ⟨kr, nr⟩ := kg_row hS hc8 hi8
    have e1 := hg.1 i hi s hs
    have b1 := z_fB A (23 + 8 * c + i) s
    simp only [kg_0 hS hc8, rg_0_0 hS hc8, kg_1 hS hc8, h2, rg_0_1 hS hc8, kg_5 hS hc8, ng_5 hS hc8, Int.toNat_natCast, rg_5 hS hc8 hi8, kr, nr, e1]
    simp (disch := (first | trivial | assumption | omega | (refine r_iE ?_ ?_ <;> omega) | (refine r_lE ?_ ?_ <;> omega) | fail)) only [↓q_gdT, ↓q_ltE, ↓if_pos, ↓if_neg]
    rfl
  · show f_X2_squaresOf_L5 _ _ _ _ _ _ (n + 1) _ _ = _
    rw [f_X2_squaresOf_L5]
    simp only [kg_0 hS hc8, rg_0_0 hS hc8, kg_1 hS hc8, h2]
    simp (disch := (first | trivial | assumption | omega | (refine r_iE ?_ ?_ <;> omega) | (refine r_lE ?_ ?_ <;> omega) | fail)) only [↓q_gdT, ↓q_ltE, ↓if_pos, ↓if_neg]
    rfl
theorem e_scatter {n s q : Int} (h1 : 0 < n ∧ n ≤ 64) (h2 : 0 ≤ n * q - s * s ∧ n * q - s * s ≤ 65536000000) : f_X9_scatter n s q = some ((n * q - s * s) / n) := by
  have q1 := e_quot (a := n * q - s * s) (b := n) (r_lE (by omega) (by omega)) (r_lE (by omega) (by omega)) h1.1
  unfold f_X9_scatter
  simp (disch := (first | trivial | assumption | omega | (refine r_iE ?_ ?_ <;> omega) | (refine r_lE ?_ ?_ <;> omega) | fail)) only [↓q_gdT, ↓q_ltE, ↓if_pos, ↓if_neg, ↓q_bdE q1]
theorem e_scoreOf {x : Nat} {S : q_S} {R : q_HR} {I : q_HI} {A : q_A} {t : Nat → Bool} {s : Nat} (hS : w_Sh x S R) (hB : z_B A) (hC : w_C x S R I A) (hp : w_pr x I A t) (hs : s < 5) : f_X9_scoreOf S R I x (s : Int) = some (z_score A s) := by
  obtain ⟨hk1, hk2⟩ := hB.nk
  have h10 := hC.1.2.2.2.1
  obtain ⟨h1, h2, h3, h4, h5⟩ := z_sB0 hB s (Nat.le_refl (z_nk A))
  obtain ⟨b1, b2, b3⟩ := z_sBB hB s
  unfold f_X9_scoreOf
  have key := z_loop (fun n i => f_X9_scoreOf_L14 S R I x (s : Int) (fun w31 w32 w33 w34 w35 => q_gd (r_l w32) (if w32 = 0 then some (-1) else q_bd (f_X9_scatter w32 w33 w34) fun r38 => q_lt (r38 - w31) fun x40 => q_gd (r_l w31) (if w31 = 0 then q_gd (r_l x40) (if x40 ≤ 0 then some 0 else some 1000000) else q_bd (f_X9_quotient (1000 * x40) w31) fun r46 => q_gd (r_l r46) (some (q_mn r46 2000000000))))) n (z_sW A s i) (z_sN A i) (z_sT A s i) (z_sQ A s i) ((i : Nat) : Int)) (z_nk A) (some (z_score A s)) (fun n i hi => ?_) (fun n => ?_) 100 (by omega)
  · exact key
  · show f_X9_scoreOf_L14 _ _ _ _ _ _ (n + 1) _ _ _ _ _ = f_X9_scoreOf_L14 _ _ _ _ _ _ n (z_sW A s i + z_s1 A s i) (z_sN A i + A 4 i) (z_sT A s i + z_cs A i s) (z_sQ A s i + z_qs A i s) ((i + 1 : Nat) : Int)
    rw [f_X9_scoreOf_L14]
    have hi8 : i < 8 := by omega
    have hn := (hB.ns hi).1
    obtain ⟨g1, g2, g3, g4, g5, g6⟩ := z_s1B hB hi s
    obtain ⟨p1, p2, p3⟩ := hp.2.2.2.2.2 i hi
    have e14 := p2 s hs
    have q1 := e_squaresOf (c := i) (s := s) hS hB (hp.2.2.2.2.2 i hi) (hC.sa hB hi).1 hi hs
    simp only [k_0 hS, r_0_3 hS, k_32 hS, n_32 hS, Int.toNat_natCast, r_32 hS hi8, kg_0 hS hi8, q_ltE, h10, p3, rg_0_2 hS hi8, kg_14 hS hi8, ng_14 hS hi8, e14]
    by_cases h0 : A 4 i = 0
    · obtain ⟨z1, z2, z3⟩ := g6 h0
      rw [z1, z2, z3, h0, Int.add_zero, Int.add_zero, Int.add_zero, Int.add_zero]
      simp (disch := (first | trivial | assumption | omega | (refine r_iE ?_ ?_ <;> omega) | (refine r_lE ?_ ?_ <;> omega) | fail)) only [↓q_gdT, ↓q_ltE, ↓if_pos, ↓if_neg]
      rfl
    · have m1 := z_mul0 (M := 8) (N := 128000000) (a := A 4 i) (b := z_qs A i s) (by omega) (by omega)
      have m2 := z_sq (z_cs A i s)
      have q2 := e_scatter (n := A 4 i) (s := z_cs A i s) (q := z_qs A i s) (by omega) (by omega)
      simp (disch := (first | trivial | assumption | omega | (refine r_iE ?_ ?_ <;> omega) | (refine r_lE ?_ ?_ <;> omega) | fail)) only [↓q_gdT, ↓q_ltE, ↓if_pos, ↓if_neg, ↓q_bdE q1, ↓q_bdE q2]
      rfl
  · show f_X9_scoreOf_L14 _ _ _ _ _ _ (n + 1) _ _ _ _ _ = _
    rw [f_X9_scoreOf_L14]
    simp only [k_0 hS, h10]
    unfold z_score
    by_cases h0 : z_sN A (z_nk A) = 0
    · rw [if_pos h0]
      simp (disch := (first | trivial | assumption | omega | (refine r_iE ?_ ?_ <;> omega) | (refine r_lE ?_ ?_ <;> omega) | fail)) only [↓q_gdT, ↓q_ltE, ↓if_pos, ↓if_neg]
    · have b4 := b3 h0
      have q2 := e_scatter (n := z_sN A (z_nk A)) (s := z_sT A s (z_nk A)) (q := z_sQ A s (z_nk A)) (by omega) (by omega)
      have e2 : (z_sN A (z_nk A) * z_sQ A s (z_nk A) - z_sT A s (z_nk A) * z_sT A s (z_nk A)) / z_sN A (z_nk A) - z_sW A s (z_nk A) = z_sB A s := rfl
      rw [if_neg h0]
      by_cases hW : z_sW A s (z_nk A) = 0
      · rw [if_pos hW]
        by_cases hb : z_sB A s ≤ 0
        · rw [if_pos hb]
          simp (disch := (first | trivial | assumption | omega | (refine r_iE ?_ ?_ <;> omega) | (refine r_lE ?_ ?_ <;> omega) | fail)) only [↓q_gdT, ↓q_ltE, ↓if_pos, ↓if_neg, ↓q_bdE q2, e2]
        · rw [if_neg hb]
          simp (disch := (first | trivial | assumption | omega | (refine r_iE ?_ ?_ <;> omega) | (refine r_lE ?_ ?_ <;> omega) | fail)) only [↓q_gdT, ↓q_ltE, ↓if_pos, ↓if_neg, ↓q_bdE q2, e2]
      · rw [if_neg hW]
        have q3 := e_quot (a := 1000 * z_sB A s) (b := z_sW A s (z_nk A)) (r_lE (by omega) (by omega)) (r_lE (by omega) (by omega)) (by omega)
        have d := z_divB (a := 1000 * z_sB A s) (b := z_sW A s (z_nk A)) (lo := 0) (hi := 1000 * z_sB A s) (by omega) (by omega) (by
          have := Int.mul_le_mul_of_nonneg_left (show (1 : Int) ≤ z_sW A s (z_nk A) by omega) (show 0 ≤ 1000 * z_sB A s + 1 by omega)
          omega)
        simp (disch := (first | trivial | assumption | omega | (refine r_iE ?_ ?_ <;> omega) | (refine r_lE ?_ ?_ <;> omega) | fail)) only [↓q_gdT, ↓q_ltE, ↓if_pos, ↓if_neg, ↓q_bdE q2, e2, ↓q_bdE q3]
