/-! THE CLASS: farthest samples, radii, distances of classes and samples -/
def z_far (d : Nat → Int) : Nat → Int × Int
  | 0 => (-1, -1)
  | n + 1 => if d n ≤ (z_far d n).2 then z_far d n else ((n : Int), d n)
theorem z_farE {d e : Nat → Int} : ∀ {n : Nat}, (∀ c, c < n → d c = e c) → z_far d n = z_far e n
  | 0, _ => rfl
  | n + 1, h => by
    show (if d n ≤ (z_far d n).2 then z_far d n else ((n : Int), d n)) = (if e n ≤ (z_far e n).2 then z_far e n else ((n : Int), e n))
    rw [z_farE (fun c hc => h c (by omega)), h n (by omega)]
theorem z_farB {d : Nat → Int} : ∀ {n : Nat}, (∀ c, c < n → 0 ≤ d c ∧ d c ≤ 320000000) → (-1 ≤ (z_far d n).1 ∧ (z_far d n).1 < n) ∧ (-1 ≤ (z_far d n).2 ∧ (z_far d n).2 ≤ 320000000) ∧ (0 < n → 0 ≤ (z_far d n).1 ∧ (z_far d n).2 = d (z_far d n).1.toNat) ∧ (n = 0 → (z_far d n).1 = -1)
  | 0, _ => by simp [z_far]
  | n + 1, h => by
    obtain ⟨h1, h2, h3, h5⟩ := z_farB (n := n) (fun c hc => h c (by omega))
    have h4 := h n (by omega)
    unfold z_far
    split
    · next hc =>
      have hn : 0 < n := by
        rcases Nat.eq_zero_or_pos n with e | e
        · subst e
          have : (z_far d 0).2 = -1 := rfl
          omega
        · exact e
      exact ⟨by omega, h2, fun _ => h3 hn, fun q => by omega⟩
    · next hc => exact ⟨by show -1 ≤ (n : Int) ∧ (n : Int) < ((n + 1 : Nat) : Int); omega, by show -1 ≤ d n ∧ d n ≤ _; omega, fun _ => by simp, fun q => by omega⟩
def z_fs (A : q_A) (t : Nat → Bool) (c : Nat) : Int × Int := z_far (fun k => z_dp A t (23 + 8 * c + k) c) (z_ns A c)
theorem z_fsB {A : q_A} (hB : z_B A) (t : Nat → Bool) {c : Nat} (hc : c < z_nk A) : (-1 ≤ (z_fs A t c).1 ∧ (z_fs A t c).1 < z_ns A c) ∧ (-1 ≤ (z_fs A t c).2 ∧ (z_fs A t c).2 ≤ 320000000) ∧ (0 < z_ns A c → 0 ≤ (z_fs A t c).1 ∧ (z_fs A t c).2 = z_dp A t (23 + 8 * c + (z_fs A t c).1.toNat) c ∧ 0 ≤ (z_fs A t c).2) ∧ (z_ns A c = 0 → (z_fs A t c).1 = -1) := by
  have hn := hB.ns hc
  have hd : ∀ k, k < z_ns A c → 0 ≤ z_dp A t (23 + 8 * c + k) c ∧ z_dp A t (23 + 8 * c + k) c ≤ 320000000 := fun k hk => by
    have := z_dpB hB t (23 + 8 * c + k) hc
    omega
  obtain ⟨h1, h2, h3, h4⟩ := z_farB (d := fun k => z_dp A t (23 + 8 * c + k) c) (n := z_ns A c) hd
  refine ⟨h1, h2, fun h => ?_, h4⟩
  obtain ⟨h5, h6⟩ := h3 h
  refine ⟨h5, h6, ?_⟩
  have := hd (z_fs A t c).1.toNat (by unfold z_fs; omega)
  unfold z_fs at this ⊢
  omega
def z_reach (A : q_A) (t : Nat → Bool) (c : Nat) : Int := if z_ns A c = 0 then -1 else (100 + A 0 5) * (z_fs A t c).2 / 100 + A 0 6
theorem e_gapC {x : Nat} {S : q_S} {R : q_HR} {I : q_HI} {A : q_A} {t : Nat → Bool} {c k c' : Nat} (hS : w_Sh x S R) (hB : z_B A) (hp : w_pr x I A t) (hc : c < z_nk A) (hk : k < z_ns A c) (hc' : c' < z_nk A) : f_X9_gapToClass S R I x (x + 51 + 15 * c + 6 + k) (c' : Int) = some (z_dp A t (23 + 8 * c + k) c') := by
  obtain ⟨hk1, hk2⟩ := hB.nk
  obtain ⟨hn1, hn2⟩ := hB.ns hc
  obtain ⟨kr, nr⟩ := kg_row hS (show c < 8 by omega) (show k < 8 by omega)
  exact e_gapToClass (f := z_fe A (23 + 8 * c + k)) hS hB hp.2.2.2.2.1 (hp.gs hB) hc' (by omega) kr nr (fun s hs => ⟨(hp.2.2.2.2.2 c hc).1 k hk s hs, z_fB A _ s⟩)
theorem e_gapH {x : Nat} {S : q_S} {R : q_HR} {I : q_HI} {A : q_A} {t : Nat → Bool} {c : Nat} (hS : w_Sh x S R) (hB : z_B A) (hp : w_pr x I A t) (h7 : A 0 7 = 1) (hc : c < z_nk A) : f_X9_gapToClass S R I x (x + 50) (c : Int) = some (z_dp A t 0 c) := by
  obtain ⟨hk1, hk2⟩ := hB.nk
  exact e_gapToClass (f := z_fe A 0) hS hB hp.2.2.2.2.1 (hp.gs hB) hc (by omega) (k_50 hS) (n_50 hS) (fun s hs => ⟨hp.1 h7 s hs, z_fB A _ s⟩)
theorem e_farthestSample {x : Nat} {S : q_S} {R : q_HR} {I : q_HI} {A : q_A} {t : Nat → Bool} {c : Nat} (hS : w_Sh x S R) (hB : z_B A) (hC : w_C x S R I A) (hp : w_pr x I A t) (hc : c < z_nk A) : f_X9_farthestSample S R I x (c : Int) = some (z_fs A t c).1 := by
  obtain ⟨hk1, hk2⟩ := hB.nk
  obtain ⟨hn1, hn2⟩ := hB.ns hc
  have hc8 : c < 8 := by omega
  have h1 := (hC.sa hB hc).1
  unfold f_X9_farthestSample
  simp only [k_0 hS, r_0_3 hS, k_32 hS, n_32 hS, Int.toNat_natCast, r_32 hS hc8, kg_0 hS hc8, q_ltE]
  simp (disch := (first | trivial | assumption | omega | (refine r_iE ?_ ?_ <;> omega) | (refine r_lE ?_ ?_ <;> omega) | fail)) only [↓q_gdT, ↓q_ltE, ↓if_pos, ↓if_neg]
  have key := z_loop (fun n i => f_X9_farthestSample_L15 S R I x (c : Int) (x + 51 + 15 * c) (fun w22 w23 w24 => some w22) n (z_far (fun k => z_dp A t (23 + 8 * c + k) c) i).1 (z_far (fun k => z_dp A t (23 + 8 * c + k) c) i).2 ((i : Nat) : Int)) (z_ns A c) (some (z_fs A t c).1) (fun n i hi => ?_) (fun n => ?_) 100 (by omega)
  · exact key
  · show f_X9_farthestSample_L15 _ _ _ _ _ _ _ (n + 1) _ _ _ = _
    rw [f_X9_farthestSample_L15]
    have hi8 : i < 8 := by omega
    obtain ⟨kr, nr⟩ := kg_row hS hc8 hi8
    have q := e_gapC hS hB hp hc hi hc
    have b1 := z_dpB hB t (23 + 8 * c + i) hc
    obtain ⟨_, b2, _⟩ := z_farB (d := fun k => z_dp A t (23 + 8 * c + k) c) (n := i) (fun k hk => by
      have := z_dpB hB t (23 + 8 * c + k) hc
      show 0 ≤ z_dp A t (23 + 8 * c + k) c ∧ z_dp A t (23 + 8 * c + k) c ≤ 320000000
      omega)
    have e : z_far (fun k => z_dp A t (23 + 8 * c + k) c) (i + 1) = if z_dp A t (23 + 8 * c + i) c ≤ (z_far (fun k => z_dp A t (23 + 8 * c + k) c) i).2 then z_far (fun k => z_dp A t (23 + 8 * c + k) c) i else ((i : Int), z_dp A t (23 + 8 * c + i) c) := rfl
    show _ = f_X9_farthestSample_L15 _ _ _ _ _ _ _ n _ _ ((i + 1 : Nat) : Int)
    rw [e]
    simp only [k_0 hS, kg_0 hS hc8, rg_0_0 hS hc8, kg_1 hS hc8, h1, rg_0_1 hS hc8, kg_5 hS hc8, ng_5 hS hc8, Int.toNat_natCast, rg_5 hS hc8 hi8, kr]
    by_cases h : z_dp A t (23 + 8 * c + i) c ≤ (z_far (fun k => z_dp A t (23 + 8 * c + k) c) i).2
    · rw [if_pos h]
      simp (disch := (first | trivial | assumption | omega | (refine r_iE ?_ ?_ <;> omega) | (refine r_lE ?_ ?_ <;> omega) | fail)) only [↓q_gdT, ↓q_ltE, ↓if_pos, ↓if_neg, ↓q_bdE q]
      rfl
    · rw [if_neg h]
      simp (disch := (first | trivial | assumption | omega | (refine r_iE ?_ ?_ <;> omega) | (refine r_lE ?_ ?_ <;> omega) | fail)) only [↓q_gdT, ↓q_ltE, ↓if_pos, ↓if_neg, ↓q_bdE q]
      rfl
  · show f_X9_farthestSample_L15 _ _ _ _ _ _ _ (n + 1) _ _ _ = _
    rw [f_X9_farthestSample_L15]
    simp only [kg_0 hS hc8, rg_0_0 hS hc8, kg_1 hS hc8, h1]
    simp (disch := (first | trivial | assumption | omega | (refine r_iE ?_ ?_ <;> omega) | (refine r_lE ?_ ?_ <;> omega) | fail)) only [↓q_gdT, ↓q_ltE, ↓if_pos, ↓if_neg]
    rfl
theorem z_reachB {A : q_A} (hB : z_B A) (t : Nat → Bool) {c : Nat} (hc : c < z_nk A) : -1 ≤ z_reach A t c ∧ z_reach A t c ≤ 1601000000 := by
  obtain ⟨h1, h2, h3, h4⟩ := z_fsB hB t hc
  have h5 := hB.2.2.2.2.1
  have h6 := hB.2.2.2.2.2.1
  unfold z_reach
  split
  · omega
  · next h =>
    obtain ⟨h7, h8, h9⟩ := h3 (by omega)
    have := z_mul0 (M := 500) (N := 320000000) (a := 100 + A 0 5) (b := (z_fs A t c).2) (by omega) (by omega)
    generalize (100 + A 0 5) * (z_fs A t c).2 = p at *
    omega
theorem e_reachOf {x : Nat} {S : q_S} {R : q_HR} {I : q_HI} {A : q_A} {t : Nat → Bool} {c : Nat} (hS : w_Sh x S R) (hB : z_B A) (hC : w_C x S R I A) (hp : w_pr x I A t) (hc : c < z_nk A) : f_X9_reachOf S R I x (c : Int) = some (z_reach A t c) := by
  obtain ⟨hk1, hk2⟩ := hB.nk
  obtain ⟨hn1, hn2⟩ := hB.ns hc
  have hc8 : c < 8 := by omega
  have q1 := e_farthestSample hS hB hC hp hc
  obtain ⟨h1, h2, h3, h4⟩ := z_fsB hB t hc
  have h5 := hB.2.2.2.2.1
  have h6 := hB.2.2.2.2.2.1
  have e11 := hC.1.2.2.2.2.1
  have e12 := hC.1.2.2.2.2.2.1
  unfold f_X9_reachOf z_reach
  by_cases h : z_ns A c = 0
  · rw [if_pos h]
    rw [h4 h] at q1
    simp only [k_0 hS]
    simp (disch := (first | trivial | assumption | omega | (refine r_iE ?_ ?_ <;> omega) | (refine r_lE ?_ ?_ <;> omega) | fail)) only [↓q_gdT, ↓q_ltE, ↓if_pos, ↓if_neg, ↓q_bdE q1]
  · rw [if_neg h]
    obtain ⟨h7, h8, h9⟩ := h3 (by omega)
    generalize hz : z_fs A t c = z at *
    obtain ⟨z1, z2⟩ := z
    dsimp only at *
    obtain ⟨k, rfl⟩ : ∃ k : Nat, z1 = (k : Int) := ⟨z1.toNat, by omega⟩
    rw [Int.toNat_natCast] at h8
    have hk8 : k < 8 := by omega
    have q2 := e_gapC hS hB hp hc (show k < z_ns A c by omega) hc
    rw [← h8] at q2
    obtain ⟨kr, nr⟩ := kg_row hS hc8 hk8
    have h10 := z_mul0 (M := 500) (N := 320000000) (a := 100 + A 0 5) (b := z2) (by omega) (by omega)
    have q3 := e_quot (a := (100 + A 0 5) * z2) (b := 100) (r_lE (by omega) (by omega)) (r_lE (by omega) (by omega)) (by omega)
    simp only [k_0 hS, r_0_3 hS, k_32 hS, n_32 hS, Int.toNat_natCast, r_32 hS hc8, kg_0 hS hc8, rg_0_1 hS hc8, kg_5 hS hc8, ng_5 hS hc8, e11, e12]
    simp (disch := (first | trivial | assumption | omega | (refine r_iE ?_ ?_ <;> omega) | (refine r_lE ?_ ?_ <;> omega) | fail)) only [↓q_gdT, ↓q_ltE, ↓if_pos, ↓if_neg, ↓q_bdE q1, Int.toNat_natCast, rg_5 hS hc8 hk8, kr, ↓q_bdE q2, ↓q_bdE q3]
/-- distances of classes -/
def z_cc (A : q_A) (t : Nat → Bool) (c d : Nat) : Int := if A 4 c ≤ 0 ∨ A 4 d ≤ 0 then -1 else z_di A t (fun s => A 4 d * z_cs A c s - A 4 c * z_cs A d s) (A 4 c * A 4 d)
theorem e_gapOfClasses {x : Nat} {S : q_S} {R : q_HR} {I : q_HI} {A : q_A} {t : Nat → Bool} {c d : Nat} (hS : w_Sh x S R) (hB : z_B A) (hp : w_pr x I A t) (hc : c < z_nk A) (hd : d < z_nk A) : f_X9_gapOfClasses S R I x (c : Int) (d : Int) = some (z_cc A t c d) ∧ -1 ≤ z_cc A t c d ∧ z_cc A t c d ≤ 320000000 := by
  obtain ⟨hk1, hk2⟩ := hB.nk
  have hc8 : c < 8 := by omega
  have hd8 : d < 8 := by omega
  obtain ⟨hn1, hn2⟩ := hB.ns hc
  obtain ⟨hm1, hm2⟩ := hB.ns hd
  obtain ⟨c1, c2, c3⟩ := hp.gs hB c hc
  obtain ⟨d1, d2, d3⟩ := hp.gs hB d hd
  have q : f_X6_gap S R I (x + 29) (x + 51 + 15 * c + 14) (A 4 c) (x + 51 + 15 * d + 14) (A 4 d) = some (z_cc A t c d) ∧ -1 ≤ z_cc A t c d ∧ z_cc A t c d ≤ 320000000 := by
    unfold z_cc
    by_cases h : A 4 c ≤ 0 ∨ A 4 d ≤ 0
    · rw [if_pos h]
      exact ⟨e_gap0 (r_iE (by omega) (by omega)) (r_iE (by omega) (by omega)) h, by omega, by omega⟩
    · rw [if_neg h]
      have := e_gap (t := t) (f := z_cs A c) (g := z_cs A d) hS hB hp.2.2.2.2.1 (kg_14 hS hc8) (ng_14 hS hc8) (kg_14 hS hd8) (ng_14 hS hd8) (n := A 4 c) (m := A 4 d) (by omega) (by omega) c3 d3
      exact ⟨this.1, by omega, this.2.2⟩
  refine ⟨?_, q.2⟩
  have q1 := q.1
  unfold f_X9_gapOfClasses
  simp only [k_0 hS, r_0_2 hS, k_29 hS, r_0_3 hS, k_32 hS, n_32 hS, Int.toNat_natCast, r_32 hS hc8, r_32 hS hd8, kg_0 hS hc8, kg_0 hS hd8, rg_0_2 hS hc8, rg_0_2 hS hd8, kg_14 hS hc8, kg_14 hS hd8, c1, d1, q_ltE]
  simp (disch := (first | trivial | assumption | omega | (refine r_iE ?_ ?_ <;> omega) | (refine r_lE ?_ ?_ <;> omega) | fail)) only [↓q_gdT, ↓q_ltE, ↓if_pos, ↓if_neg, ↓q_bdE q1]
/-- distances of samples to the current one -/
def z_pp (A : q_A) (t : Nat → Bool) (p q : Nat) : Int := z_di A t (fun s => z_fe A p s - z_fe A q s) 1
theorem e_gapToSample {x : Nat} {S : q_S} {R : q_HR} {I : q_HI} {A : q_A} {t : Nat → Bool} {c k : Nat} (hS : w_Sh x S R) (hB : z_B A) (hp : w_pr x I A t) (h7 : A 0 7 = 1) (hc : c < z_nk A) (hk : k < z_ns A c) : f_X9_gapToSample S R I x (x + 50) (c : Int) (k : Int) = some (z_pp A t 0 (23 + 8 * c + k)) ∧ 0 ≤ z_pp A t 0 (23 + 8 * c + k) ∧ z_pp A t 0 (23 + 8 * c + k) ≤ 320000000 := by
  obtain ⟨hk1, hk2⟩ := hB.nk
  have hc8 : c < 8 := by omega
  obtain ⟨hn1, hn2⟩ := hB.ns hc
  have hk8 : k < 8 := by omega
  obtain ⟨kr, nr⟩ := kg_row hS hc8 hk8
  have q := e_gap (I := I) (t := t) (n := 1) (m := 1) (a := x + 50) (b := x + 51 + 15 * c + 6 + k) (f := z_fe A 0) (g := z_fe A (23 + 8 * c + k)) hS hB hp.2.2.2.2.1 (k_50 hS) (n_50 hS) kr nr (by omega) (by omega) (fun s hs => ⟨hp.1 h7 s hs, by have := z_fB A 0 s; omega⟩) (fun s hs => ⟨(hp.2.2.2.2.2 c hc).1 k hk s hs, by have := z_fB A (23 + 8 * c + k) s; omega⟩)
  have e : z_di A t (fun s => 1 * z_fe A 0 s - 1 * z_fe A (23 + 8 * c + k) s) (1 * 1) = z_pp A t 0 (23 + 8 * c + k) := z_diE (fun s _ => by omega) (by omega)
  rw [e] at q
  refine ⟨?_, q.2⟩
  have q1 := q.1
  unfold f_X9_gapToSample
  simp only [k_0 hS, r_0_2 hS, k_29 hS, r_0_3 hS, k_32 hS, n_32 hS, Int.toNat_natCast, r_32 hS hc8, kg_0 hS hc8, rg_0_1 hS hc8, kg_5 hS hc8, ng_5 hS hc8, rg_5 hS hc8 hk8, kr]
  simp (disch := (first | trivial | assumption | omega | (refine r_iE ?_ ?_ <;> omega) | (refine r_lE ?_ ?_ <;> omega) | fail)) only [↓q_gdT, ↓q_ltE, ↓if_pos, ↓if_neg, ↓q_bdE q1]
