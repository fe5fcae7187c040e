/-! THE REFERENCE: scores, ranking, votes -/
theorem z_soT {A : q_A} {c s : Nat} (hs : s < 5) : z_so A z_t c s (-1) (z_ns A c) = z_cs A c s := by
  rw [z_soN]
  unfold z_mk
  rw [if_pos (z_ta hs)]
theorem m_squaresOf {x : Nat} {S : q_S} {R : q_HR} {I : q_HI} {A : q_A} {c s : Nat} (hS : w_Sh x S R) (hB : z_B A) (hL : w_L x I A z_t) (hc : c < z_nk A) (hs : s < 5) : f_X10_squaresOf S R I (x + 171) (c : Int) (s : Int) = some (z_qs A c s) := by
  have hk := hB.nk
  have hn := hB.ns hc
  unfold f_X10_squaresOf
  refine z_loop (fun N i => f_X10_squaresOf_L5 S R I (x + 171) (c : Int) (s : Int) (fun w18 w19 => some w18) N (z_sm (fun k => z_fe A (23 + 8 * c + k) s * z_fe A (23 + 8 * c + k) s) i) ((i : Nat) : Int)) (z_ns A c) _ (fun N i hi => ?_) (fun N => ?_) 100 (by omega)
  · have e5 : (5 * (23 + 8 * (c : Int) + (i : Int)) + (s : Int)).toNat = 5 * (23 + 8 * c + i) + s := by omega
    have ev := z_lft hL.2.1 (p := 23 + 8 * c + i) (s := s) (Or.inr (Or.inr ⟨c, i, hc, hi, rfl⟩)) (by omega) hs
    have fb := z_fB A (23 + 8 * c + i) s
    have q2 := m_placeOf (c : Int) (i : Int)
    show f_X10_squaresOf_L5 _ _ _ _ _ _ _ (N + 1) _ _ = _
    rw [f_X10_squaresOf_L5]
    simp only [k_171 hS, r_171_13 hS, k_175 hS, n_175 hS, r_171_16 hS, k_176 hS, n_176 hS, hL.1.d4, Int.toNat_natCast]
    simp (disch := (first | trivial | assumption | omega | (refine r_iE ?_ ?_ <;> omega) | (refine r_lE ?_ ?_ <;> omega) | fail)) only [↓q_gdT, ↓q_ltE, ↓if_pos, ↓if_neg, ↓q_bdE q2, e5, ev]
    rfl
  · show f_X10_squaresOf_L5 _ _ _ _ _ _ _ (N + 1) _ _ = _
    rw [f_X10_squaresOf_L5]
    simp only [k_171 hS, r_171_13 hS, k_175 hS, n_175 hS, hL.1.d4, Int.toNat_natCast]
    simp (disch := (first | trivial | assumption | omega | (refine r_iE ?_ ?_ <;> omega) | (refine r_lE ?_ ?_ <;> omega) | fail)) only [↓q_gdT, ↓q_ltE, ↓if_pos, ↓if_neg]
    rfl
theorem h_sensorScore {x : Nat} {S : q_S} {R : q_HR} {I : q_HI} {A : q_A} {a : Int} (hS : w_Sh x S R) (hB : z_B A) (hD : w_D x I A) (ha : r_i a) : ∃ I', f_X10_sensorScore S R I (x + 171) a = some (o_sensorScore A a, I') ∧ w_T x I I' := by
  have h1 := hB.1
  have hk := hB.nk
  have q1 := m_isSensor hS hB hD.z ha
  unfold f_X10_sensorScore o_sensorScore
  simp only [k_171 hS, q_ltE]
  by_cases c : 0 ≤ a ∧ a < A 0 1
  · rw [if_pos c] at q1 ⊢
    obtain ⟨s, rfl⟩ : ∃ k : Nat, a = (k : Int) := ⟨a.toNat, by omega⟩
    have hs : s < 5 := by omega
    obtain ⟨J, q2, T2, L2⟩ := m_lays0 hS hB hD.z
    refine ⟨J, ?_, w_T.z.tr T2⟩
    rw [q_gdT trivial, q_bdE q1, q_gdT (r_iE (by omega) (by omega)), if_neg (by omega), q_bdE q2]
    rw [Int.toNat_natCast]
    refine z_loop (fun N i => f_X10_sensorScore_L35 S R J (x + 171) (s : Int) (fun w35 w36 w37 w38 w39 => q_gd (r_l w36) (if w36 = 0 then some ((-1), J) else q_gd (r_l ((w36 * w37) - (w38 * w38))) (q_gd (w36 ≠ 0) (q_lt ((Int.tdiv ((w36 * w37) - (w38 * w38)) w36) - w35) fun x44 => q_gd (r_l w35) (if w35 ≤ 0 then q_gd (r_l x44) (if x44 ≤ 0 then some (0, J) else some (1000000, J)) else q_gd (r_l (1000 * x44)) (q_gd (w35 ≠ 0) (q_lt (Int.tdiv (1000 * x44) w35) fun x54 => q_gd (r_l x54) (if x54 ≤ 2000000000 then some (x54, J) else some (2000000000, J))))))))) N (z_sW A s i) (z_sN A i) (z_sQ A s i) (z_sT A s i) ((i : Nat) : Int)) (z_nk A) _ (fun N i hi => ?_) (fun N => ?_) 100 (by omega)
    · have hn := hB.ns hi
      obtain ⟨b1, b2, b3, b4, b5, b6⟩ := z_s1B hB hi s
      have eW : z_sW A s (i + 1) = z_sW A s i + z_s1 A s i := rfl
      have eN : z_sN A (i + 1) = z_sN A i + A 4 i := rfl
      have eQ : z_sQ A s (i + 1) = z_sQ A s i + z_qs A i s := rfl
      have eT : z_sT A s (i + 1) = z_sT A s i + z_cs A i s := rfl
      have ei : (((i + 1 : Nat)) : Int) = (i : Int) + 1 := by omega
      show f_X10_sensorScore_L35 _ _ _ _ _ _ (N + 1) _ _ _ _ _ = f_X10_sensorScore_L35 _ _ _ _ _ _ N (z_sW A s (i + 1)) (z_sN A (i + 1)) (z_sQ A s (i + 1)) (z_sT A s (i + 1)) (((i + 1 : Nat)) : Int)
      rw [f_X10_sensorScore_L35, eW, eN, eQ, eT, ei]
      simp only [k_171 hS, r_171_13 hS, k_175 hS, n_175 hS, L2.1.f4, L2.1.d4, Int.toNat_natCast]
      by_cases c0 : A 4 i = 0
      · obtain ⟨g1, g2, g3⟩ := b6 c0
        rw [g1, g2, g3, c0]
        simp only [Int.add_zero]
        simp (disch := (first | trivial | assumption | omega | (refine r_iE ?_ ?_ <;> omega) | (refine r_lE ?_ ?_ <;> omega) | fail)) only [↓q_gdT, ↓q_ltE, ↓if_pos, ↓if_neg]
      · have q3 := m_sumOf (s := s) (but := -1) hS hB L2 hi hs (r_iE (by omega) (by omega))
        rw [z_soT hs] at q3
        have q4 := m_squaresOf (s := s) hS hB L2 hi hs
        have ed : Int.tdiv (A 4 i * z_qs A i s - z_cs A i s * z_cs A i s) (A 4 i) = z_s1 A s i := Int.tdiv_eq_ediv_of_nonneg (by omega)
        have m1 := z_mul0 (M := 8) (N := 128000000) (a := A 4 i) (b := z_qs A i s) (by omega) (by omega)
        have m2 := z_sq (z_cs A i s)
        simp (disch := (first | trivial | assumption | omega | (refine r_iE ?_ ?_ <;> omega) | (refine r_lE ?_ ?_ <;> omega) | fail)) only [↓q_gdT, ↓q_ltE, ↓if_pos, ↓if_neg, ↓q_bdE q3, ↓q_bdE q4, ed]
    · obtain ⟨d1, d2, d3, d4, d5⟩ := z_sB0 hB s (Nat.le_refl (z_nk A))
      obtain ⟨e1, e2, e3⟩ := z_sBB hB s
      show f_X10_sensorScore_L35 _ _ _ _ _ _ (N + 1) _ _ _ _ _ = _
      rw [f_X10_sensorScore_L35]
      simp only [k_171 hS, L2.1.f4]
      unfold z_score
      by_cases g0 : z_sN A (z_nk A) = 0
      · rw [if_pos g0]
        simp (disch := (first | trivial | assumption | omega | (refine r_iE ?_ ?_ <;> omega) | (refine r_lE ?_ ?_ <;> omega) | fail)) only [↓q_gdT, ↓q_ltE, ↓if_pos, ↓if_neg]
      · rw [if_neg g0]
        obtain ⟨e4, e5⟩ := e3 g0
        have ed : Int.tdiv (z_sN A (z_nk A) * z_sQ A s (z_nk A) - z_sT A s (z_nk A) * z_sT A s (z_nk A)) (z_sN A (z_nk A)) - z_sW A s (z_nk A) = z_sB A s := by
          rw [Int.tdiv_eq_ediv_of_nonneg e1]
          rfl
        simp only [ed]
        by_cases g1 : z_sW A s (z_nk A) = 0
        · rw [if_pos g1]
          by_cases g2 : z_sB A s ≤ 0
          · rw [if_pos g2]
            simp (disch := (first | trivial | assumption | omega | (refine r_iE ?_ ?_ <;> omega) | (refine r_lE ?_ ?_ <;> omega) | fail)) only [↓q_gdT, ↓q_ltE, ↓if_pos, ↓if_neg]
          · rw [if_neg g2]
            simp (disch := (first | trivial | assumption | omega | (refine r_iE ?_ ?_ <;> omega) | (refine r_lE ?_ ?_ <;> omega) | fail)) only [↓q_gdT, ↓q_ltE, ↓if_pos, ↓if_neg]
        · rw [if_neg g1]
          have ed2 : Int.tdiv (1000 * z_sB A s) (z_sW A s (z_nk A)) = 1000 * z_sB A s / z_sW A s (z_nk A) := Int.tdiv_eq_ediv_of_nonneg (by omega)
          have db := z_divA (a := 1000 * z_sB A s) (b := z_sW A s (z_nk A)) (M := 65536000000000) (by omega) (by omega) (by omega) (by omega)
          unfold q_mn
          generalize 1000 * z_sB A s / z_sW A s (z_nk A) = w at *
          by_cases g2 : 2000000000 < w
          · rw [if_pos g2]
            simp (disch := (first | trivial | assumption | omega | (refine r_iE ?_ ?_ <;> omega) | (refine r_lE ?_ ?_ <;> omega) | fail)) only [↓q_gdT, ↓q_ltE, ↓if_pos, ↓if_neg, ed2]
          · rw [if_neg g2]
            simp (disch := (first | trivial | assumption | omega | (refine r_iE ?_ ?_ <;> omega) | (refine r_lE ?_ ?_ <;> omega) | fail)) only [↓q_gdT, ↓q_ltE, ↓if_pos, ↓if_neg, ed2]
  · rw [if_neg c] at q1 ⊢
    refine ⟨q_up I (x + 171) 0 0, ?_, w_T.z⟩
    simp (disch := (first | trivial | assumption | omega | (refine r_iE ?_ ?_ <;> omega) | (refine r_lE ?_ ?_ <;> omega) | fail)) only [↓q_gdT, ↓q_ltE, ↓if_pos, ↓if_neg, ↓q_bdE q1]
/-- one more in its place -/
theorem m_shift {x : Nat} {S : q_S} {R : q_HR} {I : q_HI} {n : Nat} {c g : Nat → Int} {d w1 w2 : Int} (hS : w_Sh x S R) (hn : n < 64) (hgB : ∀ i, i < n → 0 ≤ g i ∧ g i ≤ 320000000) (hd : 0 ≤ d ∧ d ≤ 320000000) : ∀ (v N : Nat) (J : q_HI) (K : Int → q_HI → Option q_HI), v ≤ n → v < N → (∀ a, a ≠ x + 180 → a ≠ x + 181 → J a = I a) → (∀ i, i < v → J (x + 180) i = c i ∧ J (x + 181) i = g i) → (∀ i, v < i → i ≤ n → J (x + 180) i = c (i - 1) ∧ J (x + 181) i = g (i - 1)) → z_ip g d n = z_ip g d v →
      ∃ J', f_X10_ranks_L83 S R (x + 171) w1 w2 d K N (v : Int) J = K (z_ip g d n : Nat) J' ∧ (∀ a, a ≠ x + 180 → a ≠ x + 181 → J' a = I a) ∧ (∀ i, i < z_ip g d n → J' (x + 180) i = c i ∧ J' (x + 181) i = g i) ∧ (∀ i, z_ip g d n < i → i ≤ n → J' (x + 180) i = c (i - 1) ∧ J' (x + 181) i = g (i - 1)) := by
  intro v
  induction v with
  | zero =>
    intro N J K hv hN hF hl hr he
    obtain ⟨m, rfl⟩ : ∃ m, N = m + 1 := ⟨N - 1, by omega⟩
    have e0 : z_ip g d n = 0 := he
    rw [e0]
    refine ⟨J, ?_, hF, hl, hr⟩
    rw [f_X10_ranks_L83]
    simp (disch := (first | trivial | assumption | omega | (refine r_iE ?_ ?_ <;> omega) | (refine r_lE ?_ ?_ <;> omega) | fail)) only [↓q_gdT, ↓q_ltE, ↓if_pos, ↓if_neg]
  | succ v ih =>
    intro N J K hv hN hF hl hr he
    obtain ⟨m, rfl⟩ : ∃ m, N = m + 1 := ⟨N - 1, by omega⟩
    have ev : ((v + 1 : Nat) : Int) - 1 = (v : Int) := by omega
    have ev2 : ((v + 1 : Nat) : Int) + -1 = (v : Int) := by omega
    have ev3 : Int.toNat ((v + 1 : Nat) : Int) = v + 1 := by omega
    obtain ⟨l1, l2⟩ := hl v (by omega)
    have gb := hgB v (by omega)
    rw [f_X10_ranks_L83]
    simp only [ev, ev2, ev3, k_171 hS, r_171_22 hS, r_171_23 hS, k_180 hS, n_180 hS, k_181 hS, n_181 hS, Int.toNat_natCast, l2]
    by_cases hle : g v ≤ d
    · have e1 : z_ip g d n = v + 1 := by rw [he]; unfold z_ip; rw [if_pos hle]
      rw [e1]
      refine ⟨J, ?_, hF, hl, hr⟩
      simp (disch := (first | trivial | assumption | omega | (refine r_iE ?_ ?_ <;> omega) | (refine r_lE ?_ ?_ <;> omega) | fail)) only [↓q_gdT, ↓q_ltE, ↓if_pos, ↓if_neg]
    · have e1 : z_ip g d (v + 1) = z_ip g d v := by
        show (if _ then _ else _) = _
        rw [if_neg hle]
      have r1 : q_up J (x + 181) (v + 1) (g v) (x + 180) v = c v := by rw [q_up_ne _ _ _ (by omega)]; exact l1
      obtain ⟨J', p1, p2, p3, p4⟩ := ih m (q_up (q_up J (x + 181) (v + 1) (g v)) (x + 180) (v + 1) (c v)) K (by omega) (by omega) (fun a h1 h2 => by rw [q_up_ne _ _ _ h1, q_up_ne _ _ _ h2]; exact hF a h1 h2) (fun i hi => by
        constructor
        · rw [q_up_nj (by omega), q_up_ne _ _ _ (by omega)]
          exact (hl i (by omega)).1
        · rw [q_up_ne _ _ _ (by omega), q_up_nj (by omega)]
          exact (hl i (by omega)).2) (fun i h1 h2 => by
        by_cases e : i = v + 1
        · subst e
          constructor
          · rw [q_up_at]
            rfl
          · rw [q_up_ne _ _ _ (by omega), q_up_at]
            rfl
        · constructor
          · rw [q_up_nj e, q_up_ne _ _ _ (by omega)]
            exact (hr i (by omega) h2).1
          · rw [q_up_ne _ _ _ (by omega), q_up_nj e]
            exact (hr i (by omega) h2).2) (by rw [he, e1])
      refine ⟨J', ?_, p2, p3, p4⟩
      rw [← p1]
      have c1 : v < 64 := by omega
      simp (disch := (first | trivial | assumption | omega | (refine r_iE ?_ ?_ <;> omega) | (refine r_lE ?_ ?_ <;> omega) | fail)) only [↓q_gdT, ↓q_ltE, ↓if_pos, ↓if_neg, r1]
def w_mr (x : Nat) (I : q_HI) (Z : q_Z) : Prop := I (x + 171) 24 = (Z.1 : Int) ∧ (∀ i, i < Z.1 → I (x + 180) i = Z.2.1 i) ∧ ∀ i, i < Z.1 → I (x + 181) i = Z.2.2 i
/-- what u becomes for a sample -/
theorem m_rankU {x : Nat} {S : q_S} {R : q_HR} {I : q_HI} {A : q_A} {t : Nat → Bool} {c k : Nat} {K : Int → q_HI → Option q_HI} (hS : w_Sh x S R) (hB : z_B A) (hL : w_L x I A t) (h7 : A 0 7 = 1) (hc : c < z_nk A) (hk : k < z_ns A c) : f_X10_ranks_L29 S R (x + 171) (c : Int) (k : Int) K 100 0 I = K (A 0 1) (z_row I (x + 179) (z_mk t (fun s => z_fe A 0 s - z_fe A (23 + 8 * c + k) s)) (A 0 1).toNat) := by
  have h1 := hB.1
  have hkk := hB.nk
  have hn := hB.ns hc
  have eN : (((A 0 1).toNat : Nat) : Int) = A 0 1 := by omega
  have key := z_loop (fun N i => f_X10_ranks_L29 S R (x + 171) (c : Int) (k : Int) K N ((i : Nat) : Int) (z_row I (x + 179) (z_mk t (fun s => z_fe A 0 s - z_fe A (23 + 8 * c + k) s)) i)) (A 0 1).toNat (K (A 0 1) (z_row I (x + 179) (z_mk t (fun s => z_fe A 0 s - z_fe A (23 + 8 * c + k) s)) (A 0 1).toNat)) (fun N i hi => ?_) (fun N => ?_) 100 (by omega)
  · rw [z_row_0] at key
    exact key
  · have hLi := hL.u (J := z_row I (x + 179) (z_mk t (fun s => z_fe A 0 s - z_fe A (23 + 8 * c + k) s)) i) (w_U.of fun a ha => z_row_ne _ _ ha)
    have q1 := m_placeOf (c : Int) (k : Int)
    have e5 : (5 * (23 + 8 * (c : Int) + (k : Int)) + (i : Int)).toNat = 5 * (23 + 8 * c + k) + i := by omega
    have ev0 : z_row I (x + 179) (z_mk t (fun s => z_fe A 0 s - z_fe A (23 + 8 * c + k) s)) i (x + 176) i = z_mk t (z_fe A 0) i := by
      have := hLi.2.1 0 (by omega) (Or.inl ⟨rfl, h7⟩) i (by omega)
      rw [show 5 * 0 + i = i by omega] at this
      exact this
    have ev1 : z_row I (x + 179) (z_mk t (fun s => z_fe A 0 s - z_fe A (23 + 8 * c + k) s)) i (x + 176) (5 * (23 + 8 * c + k) + i) = z_mk t (z_fe A (23 + 8 * c + k)) i := hLi.2.1 (23 + 8 * c + k) (by omega) (Or.inr (Or.inr ⟨c, k, hc, hk, rfl⟩)) i (by omega)
    have f1 := z_fB A 0 i
    have f2 := z_fB A (23 + 8 * c + k) i
    have em : z_mk t (z_fe A 0) i - z_mk t (z_fe A (23 + 8 * c + k)) i = z_mk t (fun s => z_fe A 0 s - z_fe A (23 + 8 * c + k) s) i := by
      unfold z_mk
      cases t i
      · simp
      · simp
    have rg : r_i (z_mk t (fun s => z_fe A 0 s - z_fe A (23 + 8 * c + k) s) i) := by
      unfold z_mk
      dsimp only
      split
      · exact r_iE (by omega) (by omega)
      · exact r_iE (by omega) (by omega)
    show f_X10_ranks_L29 _ _ _ _ _ _ (N + 1) _ _ = _
    rw [f_X10_ranks_L29]
    simp only [k_171 hS, hLi.1.f1, r_171_21 hS, k_179 hS, n_179 hS, r_171_16 hS, k_176 hS, n_176 hS, Int.toNat_natCast, ev0]
    simp (disch := (first | trivial | assumption | omega | (refine r_iE ?_ ?_ <;> omega) | (refine r_lE ?_ ?_ <;> omega) | fail)) only [↓q_gdT, ↓q_ltE, ↓if_pos, ↓if_neg, ↓q_bdE q1, e5, ev1, em, z_row_up]
    rfl
  · have hLi := hL.u (J := z_row I (x + 179) (z_mk t (fun s => z_fe A 0 s - z_fe A (23 + 8 * c + k) s)) (A 0 1).toNat) (w_U.of fun a ha => z_row_ne _ _ ha)
    show f_X10_ranks_L29 _ _ _ _ _ _ (N + 1) _ _ = _
    rw [f_X10_ranks_L29]
    simp only [k_171 hS, hLi.1.f1, eN]
    simp (disch := (first | trivial | assumption | omega | (refine r_iE ?_ ?_ <;> omega) | (refine r_lE ?_ ?_ <;> omega) | fail)) only [↓q_gdT, ↓q_ltE, ↓if_pos, ↓if_neg]
theorem m_rank1 {x : Nat} {S : q_S} {R : q_HR} {I : q_HI} {A : q_A} {t : Nat → Bool} {c k m : Nat} {Z : q_Z} {K : Int → q_HI → Option q_HI} (hS : w_Sh x S R) (hB : z_B A) (hL : w_L x I A t) (h7 : A 0 7 = 1) (hc : c < z_nk A) (hk : k < z_ns A c) (hZ : z_ZB Z 63) (hw : w_mr x I Z) : ∃ J, f_X10_ranks_L17 S R (x + 171) (c : Int) K (m + 1) (k : Int) I = f_X10_ranks_L17 S R (x + 171) (c : Int) K m ((k : Int) + 1) J ∧ w_U x I J ∧ w_mr x J (z_in Z (10 * (c : Int) + (k : Int)) (z_pp A t 0 (23 + 8 * c + k))) := by
  have h1 := hB.1
  have hkk := hB.nk
  have hn := hB.ns hc
  have pb := z_ppB hB t 0 (23 + 8 * c + k)
  have hz1 := hZ.1
  generalize hI2 : z_row I (x + 179) (z_mk t (fun s => z_fe A 0 s - z_fe A (23 + 8 * c + k) s)) (A 0 1).toNat = I2
  have f2 : ∀ a, a ≠ x + 179 → I2 a = I a := fun a ha => by rw [← hI2]; exact z_row_ne _ _ ha
  have hL2 := hL.u (w_U.of f2)
  have q1 : f_X10_far S R I2 (x + 171) 1 = some (z_pp A t 0 (23 + 8 * c + k)) := m_far (v := fun s => z_fe A 0 s - z_fe A (23 + 8 * c + k) s) hS hB hL2 (fun s hs => by rw [← hI2]; exact z_row_at _ (by omega)) (fun s hs h => by rw [z_fe0 hB (Or.inl ⟨rfl, h7⟩) hs h, z_fe0 hB (z_vs hc hk) hs h]; rfl) (by omega) (fun s hs => by
    have f1 := z_fB A 0 s
    have f2 := z_fB A (23 + 8 * c + k) s
    omega)
  have w2 : w_mr x I2 Z := ⟨by rw [f2 _ (by omega)]; exact hw.1, fun i hi => by rw [f2 _ (by omega)]; exact hw.2.1 i hi, fun i hi => by rw [f2 _ (by omega)]; exact hw.2.2 i hi⟩
  generalize z_pp A t 0 (23 + 8 * c + k) = d at *
  obtain ⟨J', p1, p2, p3, p4⟩ := m_shift (I := I2) (n := Z.1) (c := Z.2.1) (g := Z.2.2) (d := d) (w1 := (c : Int)) (w2 := (k : Int)) hS (by omega) (fun i hi => (hZ.2 i hi).2) pb Z.1 100 I2 (fun w50 I51 => q_gd (S.1 (R (x + 171) 23) = 13) (q_gd ((0 : Int) ≤ w50 ∧ w50 < (S.2.1 (R (x + 171) 23) : Int)) (q_lt (q_up I51 (R (x + 171) 23) (Int.toNat w50) d) fun I54 => q_gd (S.1 (R (x + 171) 22) = 12) (q_gd ((0 : Int) ≤ w50 ∧ w50 < (S.2.1 (R (x + 171) 22) : Int)) (q_lt (q_up I54 (R (x + 171) 22) (Int.toNat w50) ((10 * (c : Int)) + (k : Int))) fun I58 => q_lt (q_up I58 (x + 171) 24 ((I58 (x + 171) 24) + 1)) fun I60 => f_X10_ranks_L17 S R (x + 171) (c : Int) K m ((k : Int) + 1) I60))))) (by omega) (by omega) (fun _ _ _ => rfl) (fun i hi => ⟨w2.2.1 i hi, w2.2.2 i hi⟩) (fun i h1 h2 => absurd h1 (by omega)) rfl
  have pb' := z_ipB Z.2.2 d Z.1
  have ein : z_in Z (10 * (c : Int) + (k : Int)) d = (Z.1 + 1, z_sh Z.2.1 (z_ip Z.2.2 d Z.1) (10 * (c : Int) + (k : Int)), z_sh Z.2.2 (z_ip Z.2.2 d Z.1) d) := rfl
  rw [ein]
  generalize z_ip Z.2.2 d Z.1 = p at *
  have e24 : q_up (q_up J' (x + 181) p d) (x + 180) p (10 * (c : Int) + (k : Int)) (x + 171) 24 = (Z.1 : Int) := by
    rw [q_up_ne _ _ _ (by omega), q_up_ne _ _ _ (by omega), p2 _ (by omega) (by omega)]
    exact w2.1
  refine ⟨q_up (q_up (q_up J' (x + 181) p d) (x + 180) p (10 * (c : Int) + (k : Int))) (x + 171) 24 ((Z.1 : Int) + 1), ?_, ?_, ?_, fun i hi => ?_, fun i hi => ?_⟩
  · rw [f_X10_ranks_L17]
    simp only [k_171 hS, r_171_13 hS, k_175 hS, n_175 hS, hL.1.d4, Int.toNat_natCast]
    rw [q_gdT trivial, q_gdT trivial, q_gdT (by omega), q_gdT (r_iE (by omega) (by omega)), q_gdT (r_iE (by omega) (by omega)), if_neg (by omega), m_rankU hS hB hL h7 hc hk, hI2, q_bdE q1, q_ltE, w2.1]
    refine p1.trans ?_
    simp only [r_171_23 hS, k_181 hS, n_181 hS, r_171_22 hS, k_180 hS, n_180 hS, Int.toNat_natCast]
    simp (disch := (first | trivial | assumption | omega | (refine r_iE ?_ ?_ <;> omega) | (refine r_lE ?_ ?_ <;> omega) | fail)) only [↓q_gdT, ↓q_ltE, ↓if_pos, ↓if_neg, e24]
  · have U1 : w_U x I2 J' := fun a j h => by rw [p2 a (fun q => h (by omega)) (fun q => h (by omega))]
    exact ((((w_U.of f2).tr U1).up (Or.inr (by omega))).up (Or.inr (by omega))).up (Or.inl ⟨rfl, by omega⟩)
  · rw [q_up_at]
    show (Z.1 : Int) + 1 = ((Z.1 + 1 : Nat) : Int)
    omega
  · rw [q_up_ne _ _ _ (by omega)]
    show _ = z_sh Z.2.1 p (10 * (c : Int) + (k : Int)) i
    unfold z_sh
    by_cases e : i = p
    · rw [e, q_up_at, if_neg (by omega), if_pos rfl]
    · rw [q_up_nj e, q_up_ne _ _ _ (by omega)]
      by_cases e2 : i < p
      · rw [if_pos e2]; exact (p3 i e2).1
      · have hi' : i < Z.1 + 1 := hi
        rw [if_neg e2, if_neg e]; exact (p4 i (by omega) (by omega)).1
  · rw [q_up_ne _ _ _ (by omega), q_up_ne _ _ _ (by omega)]
    show _ = z_sh Z.2.2 p d i
    unfold z_sh
    by_cases e : i = p
    · rw [e, q_up_at, if_neg (by omega), if_pos rfl]
    · rw [q_up_nj e]
      by_cases e2 : i < p
      · rw [if_pos e2]; exact (p3 i e2).2
      · have hi' : i < Z.1 + 1 := hi
        rw [if_neg e2, if_neg e]; exact (p4 i (by omega) (by omega)).2
theorem m_ranks {x : Nat} {S : q_S} {R : q_HR} {I : q_HI} {A : q_A} {t : Nat → Bool} (hS : w_Sh x S R) (hB : z_B A) (hL : w_L x I A t) (h7 : A 0 7 = 1) : ∃ J, f_X10_ranks S R I (x + 171) = some J ∧ w_U x I J ∧ w_mr x J (z_rk A t) := by
  have hk := hB.nk
  unfold f_X10_ranks
  simp only [k_171 hS, q_ltE]
  rw [q_gdT trivial]
  have key := z_loopR (fun n (u : Nat × q_HI) => f_X10_ranks_L7 S R (x + 171) (fun w64 I65 => some I65) n ((u.1 : Nat) : Int) u.2) (fun i u => u.1 = i ∧ w_U x I u.2 ∧ w_mr x u.2 (z_r2 A t i)) (z_nk A) (fun u => some u.2) ?_ ?_ 100 0 (0, q_up I (x + 171) 24 0) (by omega) (by omega) ⟨rfl, w_U.rf.up (Or.inl ⟨rfl, by omega⟩), q_up_at, fun i hi => absurd hi (Nat.not_lt_zero i), fun i hi => absurd hi (Nat.not_lt_zero i)⟩
  · obtain ⟨⟨i, J⟩, ⟨_, f, g⟩, e⟩ := key
    exact ⟨J, e, f, g⟩
  · rintro n c ⟨c', J⟩ hc ⟨rfl, hJ, hw⟩
    dsimp only at hJ hw hc ⊢
    have hn := hB.ns hc
    have hLJ := hL.u hJ
    have key2 := z_loopR (fun m (u : Nat × q_HI) => f_X10_ranks_L17 S R (x + 171) (c' : Int) (fun w62 I63 => f_X10_ranks_L7 S R (x + 171) (fun w64 I65 => some I65) n ((c' : Int) + 1) I63) m ((u.1 : Nat) : Int) u.2) (fun i u => u.1 = i ∧ w_U x I u.2 ∧ w_mr x u.2 (z_r1 A t c' (z_r2 A t c') i)) (z_ns A c') (fun u => f_X10_ranks_L7 S R (x + 171) (fun w64 I65 => some I65) n ((c' : Int) + 1) u.2) ?_ ?_ 100 0 (0, J) (by omega) (by omega) ⟨rfl, hJ, hw⟩
    · obtain ⟨⟨i, J3⟩, ⟨_, f3, g3⟩, e⟩ := key2
      refine ⟨(c' + 1, J3), ⟨rfl, f3, g3⟩, ?_⟩
      rw [f_X10_ranks_L7]
      simp only [k_171 hS, hLJ.1.f4]
      rw [q_gdT trivial, q_gdT (r_iE (by omega) (by omega)), q_gdT (r_iE (by omega) (by omega)), if_neg (by omega)]
      exact e
    · rintro m i ⟨i', J4⟩ hi ⟨rfl, hJ4, hw4⟩
      dsimp only at hJ4 hw4 hi ⊢
      have zb := z_r1B hB t (show c' < 8 by omega) (z_r2B hB t (c := c') (by omega)) (k := i') (by omega)
      obtain ⟨J5, q5, U5, g5⟩ := m_rank1 (m := m) (K := fun w62 I63 => f_X10_ranks_L7 S R (x + 171) (fun w64 I65 => some I65) n ((c' : Int) + 1) I63) hS hB (hL.u hJ4) h7 hc hi ⟨by have := zb.1; omega, zb.2⟩ hw4
      exact ⟨(i' + 1, J5), ⟨rfl, hJ4.tr U5, g5⟩, q5⟩
    · rintro m ⟨i, J4⟩ ⟨e, hJ4, hw4⟩
      dsimp only at e hJ4 ⊢
      subst e
      have hL4 := hL.u hJ4
      rw [f_X10_ranks_L17]
      simp only [k_171 hS, r_171_13 hS, k_175 hS, n_175 hS, hL4.1.d4, Int.toNat_natCast]
      rw [q_gdT trivial, q_gdT trivial, q_gdT (by omega), q_gdT (r_iE (by omega) (by omega)), q_gdT (r_iE (by omega) (by omega)), if_pos (by omega)]
  · rintro n ⟨i, J⟩ ⟨e, hJ, _⟩
    dsimp only at e hJ ⊢
    subst e
    have hLJ := hL.u hJ
    rw [f_X10_ranks_L7]
    simp only [k_171 hS, hLJ.1.f4]
    simp (disch := (first | trivial | assumption | omega | (refine r_iE ?_ ?_ <;> omega) | (refine r_lE ?_ ?_ <;> omega) | fail)) only [↓q_gdT, ↓q_ltE, ↓if_pos, ↓if_neg]
theorem z_rkB {A : q_A} (hB : z_B A) (t : Nat → Bool) : z_ZB (z_rk A t) 64 := by
  have h := z_r2B hB t (Nat.le_refl (z_nk A))
  have hk := hB.nk
  exact ⟨by have := h.1; show (z_r2 A t (z_nk A)).1 ≤ 64; omega, h.2⟩
theorem h_nearestSample {x : Nat} {S : q_S} {R : q_HR} {I : q_HI} {A : q_A} {a : Int} (hS : w_Sh x S R) (hB : z_B A) (hD : w_D x I A) (ha : r_i a) : ∃ I', f_X10_nearestSample S R I (x + 171) a = some (o_nearestSample A a, I') ∧ w_T x I I' := by
  have h7 := hB.2.2.2.2.2.2.1
  unfold f_X10_nearestSample o_nearestSample
  simp only [k_171 hS, q_ltE, hD.z.f7, r_171_22 hS, k_180 hS, n_180 hS]
  by_cases c0 : 0 ≤ a
  · simp only [if_pos c0]
    by_cases c7 : A 0 7 = 0
    · simp only [if_pos c7]
      refine ⟨q_up I (x + 171) 0 0, ?_, w_T.z⟩
      simp (disch := (first | trivial | assumption | omega | (refine r_iE ?_ ?_ <;> omega) | (refine r_lE ?_ ?_ <;> omega) | fail)) only [↓q_gdT, ↓q_ltE, ↓if_pos, ↓if_neg]
    · simp only [if_neg c7]
      obtain ⟨J, q2, T2, L2⟩ := m_lays0 hS hB hD.z
      obtain ⟨J3, q3, U3, w3⟩ := m_ranks hS hB L2 (by omega)
      have zb := z_rkB hB z_t
      have zb1 := zb.1
      refine ⟨J3, ?_, (w_T.z.tr T2).tr U3.t⟩
      by_cases c1 : ((z_rk A z_t).1 : Int) ≤ a
      · rw [if_pos c1]
        simp (disch := (first | trivial | assumption | omega | (refine r_iE ?_ ?_ <;> omega) | (refine r_lE ?_ ?_ <;> omega) | fail)) only [↓q_gdT, ↓q_ltE, ↓if_pos, ↓if_neg, ↓q_bdE q2, ↓q_bdE q3, w3.1]
      · rw [if_neg c1]
        have e := w3.2.1 a.toNat (by omega)
        simp (disch := (first | trivial | assumption | omega | (refine r_iE ?_ ?_ <;> omega) | (refine r_lE ?_ ?_ <;> omega) | fail)) only [↓q_gdT, ↓q_ltE, ↓if_pos, ↓if_neg, ↓q_bdE q2, ↓q_bdE q3, w3.1, e]
  · simp only [if_neg c0]
    refine ⟨q_up I (x + 171) 0 0, ?_, w_T.z⟩
    simp (disch := (first | trivial | assumption | omega | (refine r_iE ?_ ?_ <;> omega) | (refine r_lE ?_ ?_ <;> omega) | fail)) only [↓q_gdT, ↓q_ltE, ↓if_pos, ↓if_neg]
theorem h_vote {x : Nat} {S : q_S} {R : q_HR} {I : q_HI} {A : q_A} {a : Int} (hS : w_Sh x S R) (hB : z_B A) (hD : w_D x I A) (ha : r_i a) : ∃ I', f_X10_vote S R I (x + 171) a = some (o_vote A a, I') ∧ w_T x I I' := by
  have h7 := hB.2.2.2.2.2.2.1
  have ha1 := ha.1
  have ha2 := ha.2
  have q0 := e_isIn (a := a) (b := 1) (c := 64) (r_lE (by omega) (by omega)) (r_lE (by omega) (by omega)) (r_lE (by omega) (by omega))
  unfold f_X10_vote o_vote
  simp only [k_171 hS, q_ltE, hD.z.f7]
  by_cases c0 : 1 ≤ a ∧ a ≤ 64
  · rw [if_pos c0] at q0 ⊢
    by_cases c7 : A 0 7 = 0
    · simp only [if_pos c7]
      refine ⟨q_up I (x + 171) 0 0, ?_, w_T.z⟩
      simp (disch := (first | trivial | assumption | omega | (refine r_iE ?_ ?_ <;> omega) | (refine r_lE ?_ ?_ <;> omega) | fail)) only [↓q_gdT, ↓q_ltE, ↓if_pos, ↓if_neg, ↓q_bdE q0]
    · simp only [if_neg c7]
      obtain ⟨J, q2, T2, L2⟩ := m_lays0 hS hB hD.z
      obtain ⟨J3, q3, U3, w3⟩ := m_ranks hS hB L2 (by omega)
      have zb := z_rkB hB z_t
      have zb1 := zb.1
      refine ⟨J3, ?_, (w_T.z.tr T2).tr U3.t⟩
      generalize z_rk A z_t = Z at *
      obtain ⟨M, hM, hM1, hM2⟩ : ∃ M : Nat, min a.toNat Z.1 = M ∧ ((M : Int) ≤ a ∧ M ≤ Z.1) ∧ ((M : Int) = a ∨ M = Z.1) := ⟨min a.toNat Z.1, rfl, by omega, by omega⟩
      rw [hM]
      rw [q_gdT trivial, q_gdT ha, q_bdE q0, q_gdT (r_iE (by omega) (by omega)), if_neg (by omega), q_gdT (r_iE (by omega) (by omega)), q_bdE q2, q_bdE q3]
      refine z_loop (fun n i => f_X10_vote_L46 S R J3 (x + 171) a (fun w49 w50 w51 => some (w49, J3)) n (z_wi Z.2.1 M i).1 (z_wi Z.2.1 M i).2 ((i : Nat) : Int)) M _ (fun n i hi => ?_) (fun n => ?_) 100 (by omega)
      · have cb := (zb.2 i (by omega)).1
        have vb := z_vtB Z.2.1 M (Int.tdiv (Z.2.1 i) 10)
        have wb := z_wiB Z.2.1 M i
        have td := z_d10 cb
        have e0 := w3.2.1 i (by omega)
        have es : z_wi Z.2.1 M (i + 1) = if z_vt Z.2.1 M (Int.tdiv (Z.2.1 i) 10) ≤ (z_wi Z.2.1 M i).2 then z_wi Z.2.1 M i else (Int.tdiv (Z.2.1 i) 10, z_vt Z.2.1 M (Int.tdiv (Z.2.1 i) 10)) := rfl
        have inner : ∀ K : Int → Int → Option (Int × q_HI), f_X10_vote_L67 S R J3 (x + 171) a (z_wi Z.2.1 M i).1 (z_wi Z.2.1 M i).2 ((i : Nat) : Int) K 100 0 0 = K (z_vt Z.2.1 M (Int.tdiv (Z.2.1 i) 10)) (M : Int) := fun K => by
          refine z_loop (fun n j => f_X10_vote_L67 S R J3 (x + 171) a (z_wi Z.2.1 M i).1 (z_wi Z.2.1 M i).2 ((i : Nat) : Int) K n (z_sm (fun j => if Int.tdiv (Z.2.1 j) 10 = Int.tdiv (Z.2.1 i) 10 then 1 else 0) j) ((j : Nat) : Int)) M _ (fun n j hj => ?_) (fun n => ?_) 100 (by omega)
          · have cj := (zb.2 j (by omega)).1
            have tj := z_d10 cj
            have ej := w3.2.1 j (by omega)
            have ess : z_sm (fun j => if Int.tdiv (Z.2.1 j) 10 = Int.tdiv (Z.2.1 i) 10 then 1 else 0) (j + 1) = z_sm (fun j => if Int.tdiv (Z.2.1 j) 10 = Int.tdiv (Z.2.1 i) 10 then 1 else 0) j + (if Int.tdiv (Z.2.1 j) 10 = Int.tdiv (Z.2.1 i) 10 then 1 else 0) := rfl
            show f_X10_vote_L67 _ _ _ _ _ _ _ _ _ (n + 1) _ _ = f_X10_vote_L67 _ _ _ _ _ _ _ _ _ n (z_sm (fun j => if Int.tdiv (Z.2.1 j) 10 = Int.tdiv (Z.2.1 i) 10 then 1 else 0) (j + 1)) _
            rw [f_X10_vote_L67, ess]
            simp only [k_171 hS, w3.1, r_171_22 hS, k_180 hS, n_180 hS, Int.toNat_natCast, ej, e0]
            by_cases e : Int.tdiv (Z.2.1 j) 10 = Int.tdiv (Z.2.1 i) 10
            · simp only [if_pos e]
              simp (disch := (first | trivial | assumption | omega | (refine r_iE ?_ ?_ <;> omega) | (refine r_lE ?_ ?_ <;> omega) | fail)) only [↓q_gdT, ↓q_ltE, ↓if_pos, ↓if_neg]
              rfl
            · simp only [if_neg e]
              simp (disch := (first | trivial | assumption | omega | (refine r_iE ?_ ?_ <;> omega) | (refine r_lE ?_ ?_ <;> omega) | fail)) only [↓q_gdT, ↓q_ltE, ↓if_pos, ↓if_neg]
              rfl
          · show f_X10_vote_L67 _ _ _ _ _ _ _ _ _ (n + 1) _ _ = _
            rw [f_X10_vote_L67]
            simp only [k_171 hS, w3.1]
            by_cases e : (Z.1 : Int) ≤ (M : Int)
            · simp (disch := (first | trivial | assumption | omega | (refine r_iE ?_ ?_ <;> omega) | (refine r_lE ?_ ?_ <;> omega) | fail)) only [↓q_gdT, ↓q_ltE, ↓if_pos, ↓if_neg]
              rfl
            · simp (disch := (first | trivial | assumption | omega | (refine r_iE ?_ ?_ <;> omega) | (refine r_lE ?_ ?_ <;> omega) | fail)) only [↓q_gdT, ↓q_ltE, ↓if_pos, ↓if_neg]
              rfl
        show f_X10_vote_L46 _ _ _ _ _ _ (n + 1) _ _ _ = f_X10_vote_L46 _ _ _ _ _ _ n (z_wi Z.2.1 M (i + 1)).1 (z_wi Z.2.1 M (i + 1)).2 _
        rw [f_X10_vote_L46, es]
        simp only [k_171 hS, w3.1, r_171_22 hS, k_180 hS, n_180 hS, inner, Int.toNat_natCast, e0]
        by_cases e : z_vt Z.2.1 M (Int.tdiv (Z.2.1 i) 10) ≤ (z_wi Z.2.1 M i).2
        · rw [if_pos e]
          simp (disch := (first | trivial | assumption | omega | (refine r_iE ?_ ?_ <;> omega) | (refine r_lE ?_ ?_ <;> omega) | fail)) only [↓q_gdT, ↓q_ltE, ↓if_pos, ↓if_neg]
          rfl
        · rw [if_neg e]
          simp (disch := (first | trivial | assumption | omega | (refine r_iE ?_ ?_ <;> omega) | (refine r_lE ?_ ?_ <;> omega) | fail)) only [↓q_gdT, ↓q_ltE, ↓if_pos, ↓if_neg]
          rfl
      · show f_X10_vote_L46 _ _ _ _ _ _ (n + 1) _ _ _ = _
        rw [f_X10_vote_L46]
        simp only [k_171 hS, w3.1]
        by_cases e : (Z.1 : Int) ≤ (M : Int)
        · simp (disch := (first | trivial | assumption | omega | (refine r_iE ?_ ?_ <;> omega) | (refine r_lE ?_ ?_ <;> omega) | fail)) only [↓q_gdT, ↓q_ltE, ↓if_pos, ↓if_neg]
        · simp (disch := (first | trivial | assumption | omega | (refine r_iE ?_ ?_ <;> omega) | (refine r_lE ?_ ?_ <;> omega) | fail)) only [↓q_gdT, ↓q_ltE, ↓if_pos, ↓if_neg]
  · rw [if_neg c0] at q0 ⊢
    refine ⟨q_up I (x + 171) 0 0, ?_, w_T.z⟩
    simp (disch := (first | trivial | assumption | omega | (refine r_iE ?_ ?_ <;> omega) | (refine r_lE ?_ ?_ <;> omega) | fail)) only [↓q_gdT, ↓q_ltE, ↓if_pos, ↓if_neg, ↓q_bdE q0]
