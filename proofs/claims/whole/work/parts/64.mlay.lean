/-! THE REFERENCE: features and drift laid out -/
def z_u (A : q_A) (p : Nat) : Prop := (p = 0 ∧ A 0 7 = 1) ∨ (13 ≤ p ∧ p < 13 + z_nr A) ∨ ∃ c k, c < z_nk A ∧ k < z_ns A c ∧ p = 23 + 8 * c + k
theorem z_u.v {A : q_A} {p : Nat} (h : z_u A p) : z_v A p := by
  rcases h with h | h | h
  · exact Or.inl h
  · exact Or.inr (Or.inr (Or.inl h))
  · exact Or.inr (Or.inr (Or.inr h))
theorem z_B.r10 {A : q_A} (h : z_B A) : (0 ≤ A 0 3 ∧ A 0 3 ≤ 10) ∧ (z_nr A : Int) = A 0 3 := by
  have := h.2.2.1
  unfold z_nr
  omega
theorem m_isPlace {x : Nat} {S : q_S} {R : q_HR} {I : q_HI} {A : q_A} {p : Nat} (hS : w_Sh x S R) (hB : z_B A) (hD : w_D x I A) (h87 : p < 87) : ∃ r : Int, f_X10_isPlace S R I (x + 171) (p : Int) = some r ∧ ((r = 0 ∧ ¬ z_u A p) ∨ (r = 1 ∧ z_u A p)) := by
  have h7 := hB.2.2.2.2.2.2.1
  have hr := hB.r10
  have hk := hB.nk
  unfold f_X10_isPlace
  simp only [k_171 hS, r_171_13 hS, k_175 hS, n_175 hS, hD.f7, hD.f3, hD.f4, hD.d4]
  by_cases c1 : p = 0
  · subst c1
    refine ⟨A 0 7, ?_, ?_⟩
    · simp (disch := (first | trivial | assumption | omega | (refine r_iE ?_ ?_ <;> omega) | (refine r_lE ?_ ?_ <;> omega) | fail)) only [↓q_gdT, ↓q_ltE, ↓if_pos, ↓if_neg]
    · rcases h7 with e | e
      · refine Or.inl ⟨e, fun q => ?_⟩
        rcases q with q | q | ⟨c, k, _, _, q⟩
        · omega
        · omega
        · omega
      · exact Or.inr ⟨e, Or.inl ⟨rfl, e⟩⟩
  by_cases c2 : p < 13
  · refine ⟨0, ?_, Or.inl ⟨rfl, fun q => ?_⟩⟩
    · simp (disch := (first | trivial | assumption | omega | (refine r_iE ?_ ?_ <;> omega) | (refine r_lE ?_ ?_ <;> omega) | fail)) only [↓q_gdT, ↓q_ltE, ↓if_pos, ↓if_neg]
    · rcases q with q | q | ⟨c, k, _, _, q⟩
      · omega
      · omega
      · omega
  by_cases c3 : p < 23
  · by_cases c4 : p < 13 + z_nr A
    · refine ⟨1, ?_, Or.inr ⟨rfl, Or.inr (Or.inl ⟨by omega, c4⟩)⟩⟩
      simp (disch := (first | trivial | assumption | omega | (refine r_iE ?_ ?_ <;> omega) | (refine r_lE ?_ ?_ <;> omega) | fail)) only [↓q_gdT, ↓q_ltE, ↓if_pos, ↓if_neg]
    · refine ⟨0, ?_, Or.inl ⟨rfl, fun q => ?_⟩⟩
      · simp (disch := (first | trivial | assumption | omega | (refine r_iE ?_ ?_ <;> omega) | (refine r_lE ?_ ?_ <;> omega) | fail)) only [↓q_gdT, ↓q_ltE, ↓if_pos, ↓if_neg]
      · rcases q with q | q | ⟨c, k, _, _, q⟩
        · omega
        · omega
        · omega
  have e1 : Int.tdiv ((p : Int) - 23) 8 = (((p - 23) / 8 : Nat) : Int) := by rw [Int.tdiv_eq_ediv_of_nonneg (by omega)]; omega
  have e2 : Int.tmod ((p : Int) - 23) 8 = (((p - 23) % 8 : Nat) : Int) := by rw [Int.tmod_eq_emod_of_nonneg (by omega)]; omega
  simp only [q_ltE, e1, e2, Int.toNat_natCast]
  have uniq : ∀ c k, c < z_nk A → k < z_ns A c → p = 23 + 8 * c + k → c = (p - 23) / 8 ∧ k = (p - 23) % 8 := fun c k h1 h2 h3 => by
    have := hB.ns h1
    omega
  by_cases c5 : (p - 23) / 8 < z_nk A
  · have hn := hB.ns c5
    by_cases c6 : (p - 23) % 8 < z_ns A ((p - 23) / 8)
    · refine ⟨1, ?_, Or.inr ⟨rfl, Or.inr (Or.inr ⟨_, _, c5, c6, by omega⟩)⟩⟩
      simp (disch := (first | trivial | assumption | omega | (refine r_iE ?_ ?_ <;> omega) | (refine r_lE ?_ ?_ <;> omega) | fail)) only [↓q_gdT, ↓q_ltE, ↓if_pos, ↓if_neg]
    · refine ⟨0, ?_, Or.inl ⟨rfl, fun q => ?_⟩⟩
      · simp (disch := (first | trivial | assumption | omega | (refine r_iE ?_ ?_ <;> omega) | (refine r_lE ?_ ?_ <;> omega) | fail)) only [↓q_gdT, ↓q_ltE, ↓if_pos, ↓if_neg]
      · rcases q with q | q | ⟨c, k, q1, q2, q3⟩
        · omega
        · omega
        · obtain ⟨u1, u2⟩ := uniq c k q1 q2 q3
          rw [u1, u2] at q2
          exact c6 q2
  · refine ⟨0, ?_, Or.inl ⟨rfl, fun q => ?_⟩⟩
    · simp (disch := (first | trivial | assumption | omega | (refine r_iE ?_ ?_ <;> omega) | (refine r_lE ?_ ?_ <;> omega) | fail)) only [↓q_gdT, ↓q_ltE, ↓if_pos, ↓if_neg]
    · rcases q with q | q | ⟨c, k, q1, q2, q3⟩
      · omega
      · omega
      · obtain ⟨u1, u2⟩ := uniq c k q1 q2 q3
        rw [u1] at q1
        exact c5 q1
/-- sensors that are not there -/
theorem z_rat0 {A : q_A} (hB : z_B A) {p s : Nat} (hv : z_v A p) (hs : s < 5) (h1 : (A 0 1).toNat ≤ s) : z_rat A p s = 0 := by
  have e := ((hB.data p hv).2 s hs).2 h1
  unfold z_rat z_ratv q_mn
  rw [e]
  simp
theorem z_sxy0 {A : q_A} (hB : z_B A) {s : Nat} (hs : s < 5) (h1 : (A 0 1).toNat ≤ s) : z_sxy A s = 0 := by
  unfold z_sxy
  rw [z_sm0 (f := fun k => z_hu A (1 + k) * z_rat A (1 + k) s) (fun k hk => by rw [z_rat0 hB (z_vc hk) hs h1, Int.mul_zero]), z_sm0 (f := fun k => z_rat A (1 + k) s) (fun k hk => z_rat0 hB (z_vc hk) hs h1)]
  simp
theorem z_fe0 {A : q_A} (hB : z_B A) {p s : Nat} (hv : z_v A p) (hs : s < 5) (h1 : (A 0 1).toNat ≤ s) : z_fe A p s = 0 := by
  have e1 : z_ratv A (z_rd A p s) s = 0 := z_rat0 hB hv hs h1
  have e2 : z_cor A (z_hu A p) s = 0 := by
    unfold z_cor
    rw [z_sxy0 hB hs h1]
    split
    · rfl
    · simp
  unfold z_fe z_fev
  rw [e1, e2]
  rfl
theorem z_tr0 {A : q_A} (hB : z_B A) {s : Nat} (hs : s < 5) (h1 : (A 0 1).toNat ≤ s) : z_tr A s = 0 := by
  unfold z_tr
  rw [z_sm0 (f := fun k => A 3 k * z_fe A (13 + k) s) (fun k hk => by rw [z_fe0 hB (z_vr hk) hs h1, Int.mul_zero]), z_sm0 (f := fun k => z_fe A (13 + k) s) (fun k hk => z_fe0 hB (z_vr hk) hs h1)]
  simp
theorem z_dc0 {A : q_A} (hB : z_B A) {s : Nat} (hs : s < 5) (h1 : (A 0 1).toNat ≤ s) : z_dc A s = 0 := by
  unfold z_dc
  rw [z_tr0 hB hs h1]
  split
  · rfl
  · simp
theorem z_smT {f : Nat → Int} {n : Nat} : ∀ {m : Nat}, n ≤ m → (∀ k, n ≤ k → k < m → f k = 0) → z_sm f n = z_sm f m
  | 0, h, _ => by rw [show n = 0 by omega]
  | m + 1, h, hf => by
    by_cases e : n = m + 1
    · rw [e]
    · show _ = z_sm f m + f m
      rw [hf m (by omega) (by omega), Int.add_zero]
      exact z_smT (by omega) (fun k h1 h2 => hf k h1 (by omega))
/-- features of all places -/
def w_lf (x : Nat) (I : q_HI) (A : q_A) (t : Nat → Bool) (n : Nat) : Prop := ∀ p, p < n → z_u A p → ∀ s, s < 5 → I (x + 176) (5 * p + s) = if t s = true then z_fe A p s else 0
theorem m_lays1 {x : Nat} {S : q_S} {R : q_HR} {I : q_HI} {A : q_A} {p : Nat} {w : Int} {K : Int → q_HI → Option q_HI} (hS : w_Sh x S R) (hB : z_B A) (hD : w_D x I A) (hp : z_u A p) (h87 : p < 87) : ∃ J, f_X10_lays_L21 S R (x + 171) w (p : Int) K 100 0 I = K 5 J ∧ w_T x I J ∧ (∀ j, ¬ (5 * p ≤ j ∧ j < 5 * p + 5) → J (x + 176) j = I (x + 176) j) ∧ ∀ s, s < 5 → J (x + 176) (5 * p + s) = z_fe A p s := by
  have h1 := hB.1
  have key := z_loopR (fun n (s : Nat × q_HI) => f_X10_lays_L21 S R (x + 171) w (p : Int) K n ((s.1 : Nat) : Int) s.2) (fun i s => s.1 = i ∧ w_T x I s.2 ∧ (∀ j, ¬ (5 * p ≤ j ∧ j < 5 * p + 5) → s.2 (x + 176) j = I (x + 176) j) ∧ ∀ k, k < i → s.2 (x + 176) (5 * p + k) = z_fe A p k) 5 (fun s => K 5 s.2) ?_ ?_ 100 0 (0, I) (by omega) (by omega) ⟨rfl, w_T.rf, fun _ _ => rfl, fun k hk => absurd hk (Nat.not_lt_zero k)⟩
  · obtain ⟨⟨i, J⟩, ⟨_, h2, h3, h4⟩, e⟩ := key
    exact ⟨J, e, h2, h3, h4⟩
  · rintro n i ⟨i', J⟩ hi ⟨rfl, hT, hj, hk⟩
    dsimp only at hT hj hk hi ⊢
    have hDJ := hD.t hT
    have e5 : (5 * (p : Int) + (i' : Int)).toNat = 5 * p + i' := by omega
    by_cases c : A 0 1 ≤ (i' : Int)
    · refine ⟨(i' + 1, q_up J (x + 176) (5 * p + i') 0), ⟨rfl, hT.up2 (Or.inr (by omega)), fun j h => ?_, fun k h => ?_⟩, ?_⟩
      · show q_up J (x + 176) (5 * p + i') 0 (x + 176) j = _
        rw [q_up_nj (by omega)]; exact hj j h
      · show q_up J (x + 176) (5 * p + i') 0 (x + 176) (5 * p + k) = _
        by_cases e : k = i'
        · subst e
          rw [q_up_at, z_fe0 hB hp.v hi (by omega)]
        · rw [q_up_nj (by omega)]; exact hk k (by omega)
      · rw [f_X10_lays_L21]
        simp only [k_171 hS, r_171_16 hS, k_176 hS, n_176 hS, hDJ.f1, e5]
        simp (disch := (first | trivial | assumption | omega | (refine r_iE ?_ ?_ <;> omega) | (refine r_lE ?_ ?_ <;> omega) | fail)) only [↓q_gdT, ↓q_ltE, ↓if_pos, ↓if_neg]
        rfl
    · obtain ⟨J2, q2, f2⟩ := m_featureOf (s := i') hS hB hDJ hp.v h87 hi
      have hT2 : w_T x J J2 := fun a j h => f2 a j (fun q => h (by unfold w_tm; omega))
      refine ⟨(i' + 1, q_up J2 (x + 176) (5 * p + i') (z_fe A p i')), ⟨rfl, (hT.tr hT2).up2 (Or.inr (by omega)), fun j h => ?_, fun k h => ?_⟩, ?_⟩
      · show q_up J2 (x + 176) (5 * p + i') _ (x + 176) j = _
        rw [q_up_nj (by omega), f2 _ _ (by omega)]; exact hj j h
      · show q_up J2 (x + 176) (5 * p + i') _ (x + 176) (5 * p + k) = _
        by_cases e : k = i'
        · subst e
          rw [q_up_at]
        · rw [q_up_nj (by omega), f2 _ _ (by omega)]; exact hk k (by omega)
      · rw [f_X10_lays_L21]
        simp only [k_171 hS, r_171_16 hS, k_176 hS, n_176 hS, hDJ.f1, e5]
        simp (disch := (first | trivial | assumption | omega | (refine r_iE ?_ ?_ <;> omega) | (refine r_lE ?_ ?_ <;> omega) | fail)) only [↓q_gdT, ↓q_ltE, ↓if_pos, ↓if_neg, ↓q_bd2E q2]
        rfl
  · rintro n ⟨i, J⟩ ⟨e, _⟩
    dsimp only at e ⊢
    subst e
    rw [f_X10_lays_L21]
    simp (disch := (first | trivial | assumption | omega | (refine r_iE ?_ ?_ <;> omega) | (refine r_lE ?_ ?_ <;> omega) | fail)) only [↓q_gdT, ↓q_ltE, ↓if_pos, ↓if_neg]
    rfl
theorem m_lays2 {x : Nat} {S : q_S} {R : q_HR} {I : q_HI} {A : q_A} {w : Int} {K : Int → q_HI → Option q_HI} (hS : w_Sh x S R) (hB : z_B A) (hD : w_D x I A) : ∃ J, f_X10_lays_L2 S R (x + 171) w K 100 0 I = K 87 J ∧ w_T x I J ∧ w_lf x J A (fun _ => true) 87 := by
  have key := z_loopR (fun n (s : Nat × q_HI) => f_X10_lays_L2 S R (x + 171) w K n ((s.1 : Nat) : Int) s.2) (fun i s => s.1 = i ∧ w_T x I s.2 ∧ w_lf x s.2 A (fun _ => true) i) 87 (fun s => K 87 s.2) ?_ ?_ 100 0 (0, I) (by omega) (by omega) ⟨rfl, w_T.rf, fun k hk => absurd hk (Nat.not_lt_zero k)⟩
  · obtain ⟨⟨i, J⟩, ⟨_, h2, h3⟩, e⟩ := key
    exact ⟨J, e, h2, h3⟩
  · rintro n i ⟨i', J⟩ hi ⟨rfl, hT, hl⟩
    dsimp only at hT hl hi ⊢
    have hDJ := hD.t hT
    obtain ⟨r, q1, hr⟩ := m_isPlace hS hB hDJ hi
    rcases hr with ⟨rfl, hu⟩ | ⟨rfl, hu⟩
    · refine ⟨(i' + 1, J), ⟨rfl, hT, fun p hp hup => ?_⟩, ?_⟩
      · by_cases e : p = i'
        · subst e; exact absurd hup hu
        · exact hl p (by omega) hup
      · rw [f_X10_lays_L2]
        simp only [k_171 hS]
        simp (disch := (first | trivial | assumption | omega | (refine r_iE ?_ ?_ <;> omega) | (refine r_lE ?_ ?_ <;> omega) | fail)) only [↓q_gdT, ↓q_ltE, ↓if_pos, ↓if_neg, ↓q_bdE q1]
        rfl
    · obtain ⟨J2, q2, hT2, f2, g2⟩ := m_lays1 (w := w) (K := fun w23 I24 => f_X10_lays_L2 S R (x + 171) w K n (((i' : Nat) : Int) + 1) I24) hS hB hDJ hu hi
      refine ⟨(i' + 1, J2), ⟨rfl, hT.tr hT2, fun p hp hup s hs => ?_⟩, ?_⟩
      · by_cases e : p = i'
        · subst e
          rw [if_pos rfl]
          exact g2 s hs
        · show J2 (x + 176) (5 * p + s) = _
          rw [f2 _ (by omega)]
          exact hl p (by omega) hup s hs
      · rw [f_X10_lays_L2]
        simp only [k_171 hS]
        simp (disch := (first | trivial | assumption | omega | (refine r_iE ?_ ?_ <;> omega) | (refine r_lE ?_ ?_ <;> omega) | fail)) only [↓q_gdT, ↓q_ltE, ↓if_pos, ↓if_neg, ↓q_bdE q1]
        exact q2
  · rintro n ⟨i, J⟩ ⟨e, _⟩
    dsimp only at e ⊢
    subst e
    rw [f_X10_lays_L2]
    simp (disch := (first | trivial | assumption | omega | (refine r_iE ?_ ?_ <;> omega) | (refine r_lE ?_ ?_ <;> omega) | fail)) only [↓q_gdT, ↓q_ltE, ↓if_pos, ↓if_neg]
    rfl
