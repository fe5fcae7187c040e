/-! THE REFERENCE: the closest classes -/
def w_cb (v1 v2 w B : Int) : Prop := (w = -1 ∧ v1 = -1) ∨ ((0 ≤ v2 ∧ v2 ≤ 320000000) ∧ (0 ≤ v1 ∧ v1 < B) ∧ w = 100 * v2 + v1)
theorem w_cb.mono {v1 v2 w B B' : Int} (h : w_cb v1 v2 w B) (hb : B ≤ B') : w_cb v1 v2 w B' := by
  rcases h with h | ⟨h1, h2, h3⟩
  · exact Or.inl h
  · exact Or.inr ⟨h1, ⟨h2.1, by omega⟩, h3⟩
theorem m_close1 {x : Nat} {S : q_S} {R : q_HR} {I : q_HI} {A : q_A} {t : Nat → Bool} {K : Int → Int → Int → q_HI → Option (Int × q_HI)} {a : Nat} {v1 v2 : Int} (hS : w_Sh x S R) (hB : z_B A) (hL : w_L x I A t) (ha : a < z_nk A) (hw : w_cb v1 v2 (z_m2 (z_lp (z_H0 A) (z_cc A t)) (z_nk A) a) (10 * (a : Int))) : ∃ (w1 w2 : Int) (J : q_HI), f_X10_closestClasses_L32 S R (x + 171) (a : Int) K 100 v1 v2 ((a : Int) + 1) I = K w1 w2 (A 0 4) J ∧ (∀ i, i ≠ x + 179 → J i = I i) ∧ w_cb w1 w2 (z_m2 (z_lp (z_H0 A) (z_cc A t)) (z_nk A) (a + 1)) (10 * ((a : Int) + 1)) := by
  have hk := hB.nk
  generalize hQ : z_lp (z_H0 A) (z_cc A t) = Q at *
  have e0 : z_m1 (Q a) (z_m2 Q (z_nk A) a) (a + 1) = z_m2 Q (z_nk A) a := z_m1Lo (fun j hj => by
    rw [← hQ]
    exact if_neg (by omega))
  have key := z_loopR (fun n (u : Nat × Int × Int × q_HI) => f_X10_closestClasses_L32 S R (x + 171) (a : Int) K n u.2.1 u.2.2.1 ((u.1 : Nat) : Int) u.2.2.2) (fun i u => u.1 = i ∧ a < i ∧ (∀ i, i ≠ x + 179 → u.2.2.2 i = I i) ∧ w_cb u.2.1 u.2.2.1 (z_m1 (Q a) (z_m2 Q (z_nk A) a) i) (10 * (a : Int) + (i : Int))) (z_nk A) (fun u => K u.2.1 u.2.2.1 (A 0 4) u.2.2.2) ?_ ?_ 100 (a + 1) (a + 1, v1, v2, I) (by omega) (by omega) ⟨rfl, by omega, fun _ _ => rfl, by rw [e0]; exact hw.mono (by omega)⟩
  · obtain ⟨⟨i, w1, w2, J⟩, ⟨_, _, f, h⟩, e⟩ := key
    exact ⟨w1, w2, J, e, f, h.mono (by omega)⟩
  · rintro n b ⟨b', w1, w2, J⟩ hb ⟨rfl, hab, hJ, hwJ⟩
    dsimp only at hab hJ hwJ hb ⊢
    have hLJ := hL.u (w_U.of hJ)
    have hn := hB.ns ha
    have hm := hB.ns hb
    have es : z_m1 (Q a) (z_m2 Q (z_nk A) a) (b' + 1) = if Q a b' = -1 ∨ (z_m1 (Q a) (z_m2 Q (z_nk A) a) b' ≠ -1 ∧ z_m1 (Q a) (z_m2 Q (z_nk A) a) b' ≤ Q a b') then z_m1 (Q a) (z_m2 Q (z_nk A) a) b' else Q a b' := rfl
    generalize z_m1 (Q a) (z_m2 Q (z_nk A) a) b' = w at *
    have ei : (((b' + 1 : Nat)) : Int) = (b' : Int) + 1 := by omega
    by_cases g1 : A 4 a = 0
    · have eQ : Q a b' = -1 := by
        rw [← hQ]
        exact if_neg (fun q => q.2.1 (if_neg (fun q2 => q2.2 g1)))
      rw [if_pos (Or.inl eQ)] at es
      refine ⟨(b' + 1, w1, w2, J), ⟨rfl, by omega, hJ, by rw [es]; exact hwJ.mono (by omega)⟩, ?_⟩
      rw [f_X10_closestClasses_L32]
      simp only [k_171 hS, hLJ.1.f4, r_171_13 hS, k_175 hS, n_175 hS, hLJ.1.d4, Int.toNat_natCast, ei]
      simp (disch := (first | trivial | assumption | omega | (refine r_iE ?_ ?_ <;> omega) | (refine r_lE ?_ ?_ <;> omega) | fail)) only [↓q_gdT, ↓q_ltE, ↓if_pos, ↓if_neg]
    by_cases g2 : A 4 b' = 0
    · have eQ : Q a b' = -1 := by
        rw [← hQ]
        exact if_neg (fun q => q.2.2.1 (if_neg (fun q2 => q2.2 g2)))
      rw [if_pos (Or.inl eQ)] at es
      refine ⟨(b' + 1, w1, w2, J), ⟨rfl, by omega, hJ, by rw [es]; exact hwJ.mono (by omega)⟩, ?_⟩
      rw [f_X10_closestClasses_L32]
      simp only [k_171 hS, hLJ.1.f4, r_171_13 hS, k_175 hS, n_175 hS, hLJ.1.d4, Int.toNat_natCast, ei]
      simp (disch := (first | trivial | assumption | omega | (refine r_iE ?_ ?_ <;> omega) | (refine r_lE ?_ ?_ <;> omega) | fail)) only [↓q_gdT, ↓q_ltE, ↓if_pos, ↓if_neg]
    obtain ⟨J2, q2, f2⟩ := m_between hS hB hLJ ha hb g1 g2
    have cb := z_ccB hB t ha hb
    have cb2 := cb.2.2 g1 g2
    have h1 : z_H0 A a = (a : Int) := if_pos ⟨ha, g1⟩
    have h2 : z_H0 A b' = (b' : Int) := if_pos ⟨hb, g2⟩
    have eQ : Q a b' = 100 * z_cc A t a b' + 10 * (a : Int) + (b' : Int) := by
      have mm := z_mm (a := (a : Int)) (b := (b' : Int))
      rw [← hQ]
      unfold z_lp z_key
      rw [if_pos ⟨hab, by omega, by omega, by omega⟩, h1, h2]
      omega
    have fJ : ∀ i, i ≠ x + 179 → J2 i = I i := fun i hi => (f2 i hi).trans (hJ i hi)
    generalize z_cc A t a b' = r at *
    have tk : w_cb (10 * (a : Int) + (b' : Int)) r (Q a b') (10 * (a : Int) + ((b' + 1 : Nat) : Int)) := Or.inr ⟨by omega, by omega, by omega⟩
    rcases hwJ with ⟨p1, p2⟩ | ⟨p1, p2, p3⟩
    · rw [if_neg (by omega)] at es
      refine ⟨(b' + 1, 10 * (a : Int) + (b' : Int), r, J2), ⟨rfl, by omega, fJ, by rw [es]; exact tk⟩, ?_⟩
      rw [f_X10_closestClasses_L32]
      simp only [k_171 hS, hLJ.1.f4, r_171_13 hS, k_175 hS, n_175 hS, hLJ.1.d4, Int.toNat_natCast, ei]
      simp (disch := (first | trivial | assumption | omega | (refine r_iE ?_ ?_ <;> omega) | (refine r_lE ?_ ?_ <;> omega) | fail)) only [↓q_gdT, ↓q_ltE, ↓if_pos, ↓if_neg, ↓q_bd2E q2]
    · by_cases g3 : r < w2
      · rw [if_neg (by omega)] at es
        refine ⟨(b' + 1, 10 * (a : Int) + (b' : Int), r, J2), ⟨rfl, by omega, fJ, by rw [es]; exact tk⟩, ?_⟩
        rw [f_X10_closestClasses_L32]
        simp only [k_171 hS, hLJ.1.f4, r_171_13 hS, k_175 hS, n_175 hS, hLJ.1.d4, Int.toNat_natCast, ei]
        simp (disch := (first | trivial | assumption | omega | (refine r_iE ?_ ?_ <;> omega) | (refine r_lE ?_ ?_ <;> omega) | fail)) only [↓q_gdT, ↓q_ltE, ↓if_pos, ↓if_neg, ↓q_bd2E q2]
      · rw [if_pos (by omega)] at es
        have kp : w_cb w1 w2 w (10 * (a : Int) + ((b' + 1 : Nat) : Int)) := Or.inr ⟨p1, by omega, p3⟩
        refine ⟨(b' + 1, w1, w2, J2), ⟨rfl, by omega, fJ, by rw [es]; exact kp⟩, ?_⟩
        rw [f_X10_closestClasses_L32]
        simp only [k_171 hS, hLJ.1.f4, r_171_13 hS, k_175 hS, n_175 hS, hLJ.1.d4, Int.toNat_natCast, ei]
        simp (disch := (first | trivial | assumption | omega | (refine r_iE ?_ ?_ <;> omega) | (refine r_lE ?_ ?_ <;> omega) | fail)) only [↓q_gdT, ↓q_ltE, ↓if_pos, ↓if_neg, ↓q_bd2E q2]
  · rintro n ⟨b, w1, w2, J⟩ ⟨e, _, hJ, _⟩
    dsimp only at e hJ ⊢
    subst e
    have hLJ := hL.u (w_U.of hJ)
    rw [f_X10_closestClasses_L32]
    simp only [k_171 hS, hLJ.1.f4, hk.2]
    simp (disch := (first | trivial | assumption | omega | (refine r_iE ?_ ?_ <;> omega) | (refine r_lE ?_ ?_ <;> omega) | fail)) only [↓q_gdT, ↓q_ltE, ↓if_pos, ↓if_neg]
theorem h_closestClasses {x : Nat} {S : q_S} {R : q_HR} {I : q_HI} {A : q_A} (hS : w_Sh x S R) (hB : z_B A) (hD : w_D x I A) : ∃ I', f_X10_closestClasses S R I (x + 171) = some (o_joined A 0, I') ∧ w_T x I I' := by
  have hk := hB.nk
  obtain ⟨I2, q1, T1, L1⟩ := m_lays0 hS hB hD.z
  have eb : z_m2 (z_lp (z_H0 A) (z_cc A z_t)) (z_nk A) (z_nk A) = z_jb A z_t (z_upto 0) := by
    show _ = z_m2 (z_lp (z_H0 A) (z_cc A z_t)) 8 8
    refine z_m2U (fun i j hi hj hp => ⟨i, j, by omega, by omega, hp, Int.le_refl _⟩) (fun i j hi hj hp => ?_)
    have e : i < j ∧ z_H0 A i ≠ -1 ∧ z_H0 A j ≠ -1 ∧ z_H0 A i ≠ z_H0 A j := by
      by_cases e : i < j ∧ z_H0 A i ≠ -1 ∧ z_H0 A j ≠ -1 ∧ z_H0 A i ≠ z_H0 A j
      · exact e
      · exact absurd (if_neg e) hp
    have hi' : i < z_nk A := by
      rcases Nat.lt_or_ge i (z_nk A) with q | q
      · exact q
      · exact absurd (if_neg (fun q2 => by omega)) e.2.1
    have hj' : j < z_nk A := by
      rcases Nat.lt_or_ge j (z_nk A) with q | q
      · exact q
      · exact absurd (if_neg (fun q2 => by omega)) e.2.2.1
    exact ⟨i, j, hi', hj', hp, Int.le_refl _⟩
  have eo : o_joined A 0 = if z_jb A z_t (z_upto 0) = -1 then -1 else z_jb A z_t (z_upto 0) % 100 := if_pos (Int.le_refl 0)
  rw [eo]
  unfold f_X10_closestClasses
  simp only [k_171 hS, q_ltE]
  rw [q_gdT trivial, q_bdE q1]
  have key := z_loopR (fun n (u : Nat × Int × Int × q_HI) => f_X10_closestClasses_L17 S R (x + 171) (fun w39 w40 w41 I42 => some (w39, I42)) n u.2.1 u.2.2.1 ((u.1 : Nat) : Int) u.2.2.2) (fun i u => u.1 = i ∧ (∀ i, i ≠ x + 179 → u.2.2.2 i = I2 i) ∧ w_cb u.2.1 u.2.2.1 (z_m2 (z_lp (z_H0 A) (z_cc A z_t)) (z_nk A) i) (10 * (i : Int))) (z_nk A) (fun u => some (u.2.1, u.2.2.2)) ?_ ?_ 100 0 (0, -1, 0, I2) (by omega) (by omega) ⟨rfl, fun _ _ => rfl, Or.inl ⟨rfl, rfl⟩⟩
  · obtain ⟨⟨i, w1, w2, J⟩, ⟨_, f, h⟩, e⟩ := key
    dsimp only at f h e
    rw [eb] at h
    refine ⟨J, ?_, (w_T.z.tr T1).tr (w_U.of f).t⟩
    refine e.trans ?_
    rcases h with ⟨p1, p2⟩ | ⟨p1, p2, p3⟩
    · rw [if_pos p1, p2]
    · rw [if_neg (by omega), show w1 = z_jb A z_t (z_upto 0) % 100 by omega]
  · rintro n a ⟨a', w1, w2, J⟩ ha ⟨rfl, hJ, hwJ⟩
    dsimp only at hJ hwJ ha ⊢
    have hLJ := L1.u (w_U.of hJ)
    obtain ⟨u1, u2, J2, q2, f2, g2⟩ := m_close1 (K := fun w35 w36 w37 I38 => f_X10_closestClasses_L17 S R (x + 171) (fun w39 w40 w41 I42 => some (w39, I42)) n w35 w36 ((a' : Int) + 1) I38) hS hB hLJ ha hwJ
    refine ⟨(a' + 1, u1, u2, J2), ⟨rfl, fun i hi => (f2 i hi).trans (hJ i hi), g2⟩, ?_⟩
    rw [f_X10_closestClasses_L17]
    simp only [k_171 hS, hLJ.1.f4]
    rw [q_gdT trivial, q_gdT (r_iE (by omega) (by omega)), q_gdT (r_iE (by omega) (by omega)), if_neg (by omega), q_ltE]
    exact q2
  · rintro n ⟨a, w1, w2, J⟩ ⟨e, hJ, _⟩
    dsimp only at e hJ ⊢
    subst e
    have hLJ := L1.u (w_U.of hJ)
    rw [f_X10_closestClasses_L17]
    simp only [k_171 hS, hLJ.1.f4]
    rw [q_gdT trivial, q_gdT (r_iE (by omega) (by omega)), q_gdT (r_iE (by omega) (by omega)), if_pos (by omega)]
