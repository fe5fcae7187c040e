/-! THE REFERENCE: nearest classes, radii, distances of classes -/
theorem m_nearG {x : Nat} {S : q_S} {R : q_HR} {I : q_HI} {A : q_A} {p : Nat} {ex own but : Int} {d : Nat → Int} (hS : w_Sh x S R) (hB : z_B A) (hD : w_D x I A) (h1 : r_i ex) (h2 : r_i own) (hd : ∀ c, c < z_nk A → -1 ≤ d c ∧ d c ≤ 320000000) (hf : ∀ J, (∀ a, a ≠ x + 179 → J a = I a) → ∀ c, c < z_nk A → (c : Int) ≠ ex → ∃ J', f_X10_farFrom S R J (x + 171) (p : Int) (c : Int) (if (c : Int) = own then but else -1) = some (d c, J') ∧ ∀ a, a ≠ x + 179 → J' a = J a) : ∃ J, f_X10_nearest S R I (x + 171) (p : Int) ex own but = some ((z_nst (fun c => if (c : Int) = ex then -1 else d c) (z_nk A)).1, J) ∧ ∀ a, a ≠ x + 179 → J a = I a := by
  have hk := hB.nk
  unfold f_X10_nearest
  generalize hz : (fun c : Nat => if (c : Int) = ex then (-1 : Int) else d c) = D
  have zb : ∀ i, i ≤ z_nk A → (-1 ≤ (z_nst D i).1 ∧ (z_nst D i).1 < i) ∧ (0 ≤ (z_nst D i).2 ∧ (z_nst D i).2 ≤ 320000000) := fun i hi => by
    have := z_nstB (d := D) (n := i) (fun c hc => by
      rw [← hz]
      have := hd c (by omega)
      dsimp only
      split <;> omega)
    exact ⟨this.1, this.2.1⟩
  have key := z_loopR (fun n (u : Nat × q_HI) => f_X10_nearest_L9 S R (x + 171) (p : Int) ex own but (fun w28 w29 w30 I31 => some (w28, I31)) n (z_nst D u.1).1 (z_nst D u.1).2 ((u.1 : Nat) : Int) u.2) (fun i u => u.1 = i ∧ ∀ a, a ≠ x + 179 → u.2 a = I a) (z_nk A) (fun u => some ((z_nst D (z_nk A)).1, u.2)) ?_ ?_ 100 0 (0, I) (by omega) (by omega) ⟨rfl, fun _ _ => rfl⟩
  · obtain ⟨⟨i, J⟩, ⟨_, g2⟩, e⟩ := key
    exact ⟨J, e, g2⟩
  · rintro n i ⟨i', J⟩ hi ⟨rfl, hJ⟩
    dsimp only at hJ hi ⊢
    have hDJ : w_D x J A := hD.t ((w_U.of hJ).t)
    have zi := zb i' (by omega)
    have es : z_nst D (i' + 1) = if D i' = -1 ∨ ((z_nst D i').1 ≠ -1 ∧ (z_nst D i').2 ≤ D i') then z_nst D i' else ((i' : Int), D i') := rfl
    have ei : (((i' + 1 : Nat)) : Int) = (i' : Int) + 1 := by omega
    by_cases cx : (i' : Int) = ex
    · have eD : D i' = -1 := by rw [← hz]; exact if_pos cx
      rw [if_pos (Or.inl eD)] at es
      refine ⟨(i' + 1, J), ⟨rfl, hJ⟩, ?_⟩
      rw [f_X10_nearest_L9]
      simp only [k_171 hS, hDJ.f4, es, ei]
      simp (disch := (first | trivial | assumption | omega | (refine r_iE ?_ ?_ <;> omega) | (refine r_lE ?_ ?_ <;> omega) | fail)) only [↓q_gdT, ↓q_ltE, ↓if_pos, ↓if_neg]
    · have eD : D i' = d i' := by rw [← hz]; exact if_neg cx
      rw [eD] at es
      obtain ⟨J2, q2, f2⟩ := hf J hJ i' hi cx
      have db := hd i' hi
      have gJ : ∀ a, a ≠ x + 179 → J2 a = I a := fun a ha => (f2 a ha).trans (hJ a ha)
      by_cases co : (i' : Int) = own
      · rw [if_pos co] at q2
        by_cases e1 : d i' = -1
        · rw [if_pos (Or.inl e1)] at es
          refine ⟨(i' + 1, J2), ⟨rfl, gJ⟩, ?_⟩
          rw [f_X10_nearest_L9]
          simp only [k_171 hS, hDJ.f4, es, ei]
          simp (disch := (first | trivial | assumption | omega | (refine r_iE ?_ ?_ <;> omega) | (refine r_lE ?_ ?_ <;> omega) | fail)) only [↓q_gdT, ↓q_ltE, ↓if_pos, ↓if_neg, ↓q_bd2E q2]
        · by_cases e2 : (z_nst D i').1 ≠ -1 ∧ (z_nst D i').2 ≤ d i'
          · rw [if_pos (Or.inr e2)] at es
            refine ⟨(i' + 1, J2), ⟨rfl, gJ⟩, ?_⟩
            rw [f_X10_nearest_L9]
            simp only [k_171 hS, hDJ.f4, es, ei]
            simp (disch := (first | trivial | assumption | omega | (refine r_iE ?_ ?_ <;> omega) | (refine r_lE ?_ ?_ <;> omega) | fail)) only [↓q_gdT, ↓q_ltE, ↓if_pos, ↓if_neg, ↓q_bd2E q2]
          · rw [if_neg (by omega)] at es
            refine ⟨(i' + 1, J2), ⟨rfl, gJ⟩, ?_⟩
            rw [f_X10_nearest_L9]
            simp only [k_171 hS, hDJ.f4, es, ei]
            by_cases e3 : (z_nst D i').1 = -1
            · simp (disch := (first | trivial | assumption | omega | (refine r_iE ?_ ?_ <;> omega) | (refine r_lE ?_ ?_ <;> omega) | fail)) only [↓q_gdT, ↓q_ltE, ↓if_pos, ↓if_neg, ↓q_bd2E q2]
            · simp (disch := (first | trivial | assumption | omega | (refine r_iE ?_ ?_ <;> omega) | (refine r_lE ?_ ?_ <;> omega) | fail)) only [↓q_gdT, ↓q_ltE, ↓if_pos, ↓if_neg, ↓q_bd2E q2]
      · rw [if_neg co] at q2
        by_cases e1 : d i' = -1
        · rw [if_pos (Or.inl e1)] at es
          refine ⟨(i' + 1, J2), ⟨rfl, gJ⟩, ?_⟩
          rw [f_X10_nearest_L9]
          simp only [k_171 hS, hDJ.f4, es, ei]
          simp (disch := (first | trivial | assumption | omega | (refine r_iE ?_ ?_ <;> omega) | (refine r_lE ?_ ?_ <;> omega) | fail)) only [↓q_gdT, ↓q_ltE, ↓if_pos, ↓if_neg, ↓q_bd2E q2]
        · by_cases e2 : (z_nst D i').1 ≠ -1 ∧ (z_nst D i').2 ≤ d i'
          · rw [if_pos (Or.inr e2)] at es
            refine ⟨(i' + 1, J2), ⟨rfl, gJ⟩, ?_⟩
            rw [f_X10_nearest_L9]
            simp only [k_171 hS, hDJ.f4, es, ei]
            simp (disch := (first | trivial | assumption | omega | (refine r_iE ?_ ?_ <;> omega) | (refine r_lE ?_ ?_ <;> omega) | fail)) only [↓q_gdT, ↓q_ltE, ↓if_pos, ↓if_neg, ↓q_bd2E q2]
          · rw [if_neg (by omega)] at es
            refine ⟨(i' + 1, J2), ⟨rfl, gJ⟩, ?_⟩
            rw [f_X10_nearest_L9]
            simp only [k_171 hS, hDJ.f4, es, ei]
            by_cases e3 : (z_nst D i').1 = -1
            · simp (disch := (first | trivial | assumption | omega | (refine r_iE ?_ ?_ <;> omega) | (refine r_lE ?_ ?_ <;> omega) | fail)) only [↓q_gdT, ↓q_ltE, ↓if_pos, ↓if_neg, ↓q_bd2E q2]
            · simp (disch := (first | trivial | assumption | omega | (refine r_iE ?_ ?_ <;> omega) | (refine r_lE ?_ ?_ <;> omega) | fail)) only [↓q_gdT, ↓q_ltE, ↓if_pos, ↓if_neg, ↓q_bd2E q2]
  · rintro n ⟨i, J⟩ ⟨e, hJ⟩
    dsimp only at e hJ ⊢
    subst e
    have hDJ : w_D x J A := hD.t ((w_U.of hJ).t)
    rw [f_X10_nearest_L9]
    simp only [k_171 hS, hDJ.f4]
    simp (disch := (first | trivial | assumption | omega | (refine r_iE ?_ ?_ <;> omega) | (refine r_lE ?_ ?_ <;> omega) | fail)) only [↓q_gdT, ↓q_ltE, ↓if_pos, ↓if_neg]
theorem m_near {x : Nat} {S : q_S} {R : q_HR} {I : q_HI} {A : q_A} {t : Nat → Bool} {ex : Int} (hS : w_Sh x S R) (hB : z_B A) (hL : w_L x I A t) (h7 : A 0 7 = 1) (h1 : r_i ex) : ∃ J, f_X10_nearest S R I (x + 171) 0 ex (-1) (-1) = some ((z_n1 A t ex).1, J) ∧ ∀ a, a ≠ x + 179 → J a = I a := by
  refine m_nearG (p := 0) (own := -1) (but := -1) (d := fun c => z_dp A t 0 c) hS hB hL.1 h1 (r_iE (by omega) (by omega)) (fun c hc => ⟨(z_dpB hB t 0 hc).1, (z_dpB hB t 0 hc).2.1⟩) (fun J hJ c hc _ => ?_)
  rw [if_neg (by omega)]
  exact m_farFrom hS hB (hL.u (w_U.of hJ)) (Or.inl ⟨rfl, h7⟩) (by omega) hc
theorem m_tested {x : Nat} {S : q_S} {R : q_HR} {I : q_HI} {A : q_A} {t : Nat → Bool} {c k : Nat} (hS : w_Sh x S R) (hB : z_B A) (hL : w_L x I A t) (hc : c < z_nk A) (hk : k < z_ns A c) : ∃ J, f_X10_tested S R I (x + 171) (c : Int) (k : Int) = some (z_test A t c k, J) ∧ ∀ a, a ≠ x + 179 → J a = I a := by
  have hkk := hB.nk
  have hn := hB.ns hc
  have hp : z_u A (23 + 8 * c + k) := Or.inr (Or.inr ⟨c, k, hc, hk, rfl⟩)
  obtain ⟨J, q1, f1⟩ := m_nearG (p := 23 + 8 * c + k) (ex := -1) (own := (c : Int)) (but := (k : Int)) (d := fun c' => z_dg A t (z_fe A (23 + 8 * c + k)) (z_lg A c k c') (z_lm A c c')) hS hB hL.1 (r_iE (by omega) (by omega)) (r_iE (by omega) (by omega)) (fun c' hc' => by
    have := z_dgB hB t (f := z_fe A (23 + 8 * c + k)) (g := z_lg A c k c') (m := z_lm A c c') (fun s _ => z_fB _ _ _) (fun s _ => z_lgB hB hc' hk hc)
    exact ⟨this.1, this.2.1⟩) (fun J hJ c' hc' _ => by
    by_cases e : (c' : Int) = (c : Int)
    · have e' : c' = c := by omega
      subst e'
      rw [if_pos rfl]
      exact m_farBut hS hB (hL.u (w_U.of hJ)) hp (by omega) hc hk
    · rw [if_neg e]
      have := m_farFrom (c := c') hS hB (hL.u (w_U.of hJ)) hp (by omega) hc'
      have el : z_lm A c c' = A 4 c' := if_neg (by omega)
      have eg : z_lg A c k c' = z_cs A c' := funext fun s => if_neg (by omega)
      rw [el, eg]
      exact this)
  refine ⟨J, ?_, f1⟩
  have ez : (z_nst (fun c' => if (c' : Int) = -1 then -1 else z_dg A t (z_fe A (23 + 8 * c + k)) (z_lg A c k c') (z_lm A c c')) (z_nk A)).1 = z_test A t c k := by
    unfold z_test
    rw [z_nstE (fun c' _ => if_neg (by omega))]
  rw [ez] at q1
  have q0 := m_placeOf (c : Int) (k : Int)
  have ep : ((23 + 8 * c + k : Nat) : Int) = 23 + 8 * (c : Int) + (k : Int) := by omega
  rw [ep] at q1
  unfold f_X10_tested
  simp only [k_171 hS]
  simp (disch := (first | trivial | assumption | omega | (refine r_iE ?_ ?_ <;> omega) | (refine r_lE ?_ ?_ <;> omega) | fail)) only [↓q_gdT, ↓q_ltE, ↓if_pos, ↓if_neg, ↓q_bdE q0, ↓q_bd2E q1]
theorem h_distance {x : Nat} {S : q_S} {R : q_HR} {I : q_HI} {A : q_A} {a : Int} (hS : w_Sh x S R) (hB : z_B A) (hD : w_D x I A) (ha : r_i a) : ∃ I', f_X10_distance S R I (x + 171) a = some (o_distance A a, I') ∧ w_T x I I' := by
  have hk := hB.nk
  have h7 := hB.2.2.2.2.2.2.1
  have q1 := m_isClass hS hB hD.z ha
  unfold f_X10_distance o_distance
  simp only [k_171 hS, q_ltE, hD.z.f7]
  by_cases c : 0 ≤ a ∧ a < A 0 4
  · rw [if_pos c] at q1 ⊢
    by_cases c7 : A 0 7 = 0
    · simp only [if_pos c7]
      refine ⟨q_up I (x + 171) 0 0, ?_, w_T.z⟩
      simp (disch := (first | trivial | assumption | omega | (refine r_iE ?_ ?_ <;> omega) | (refine r_lE ?_ ?_ <;> omega) | fail)) only [↓q_gdT, ↓q_ltE, ↓if_pos, ↓if_neg, ↓q_bdE q1]
    · simp only [if_neg c7]
      obtain ⟨k, rfl⟩ : ∃ k : Nat, a = (k : Int) := ⟨a.toNat, by omega⟩
      obtain ⟨J, q2, T2, L2⟩ := m_lays0 hS hB hD.z
      obtain ⟨J3, q3, f3⟩ := m_farFrom (p := 0) (c := k) hS hB L2 (Or.inl ⟨rfl, by omega⟩) (by omega) (by omega)
      rw [show ((0 : Nat) : Int) = 0 from rfl] at q3
      refine ⟨J3, ?_, (w_T.z.tr T2).tr (w_U.of f3).t⟩
      rw [Int.toNat_natCast]
      simp (disch := (first | trivial | assumption | omega | (refine r_iE ?_ ?_ <;> omega) | (refine r_lE ?_ ?_ <;> omega) | fail)) only [↓q_gdT, ↓q_ltE, ↓if_pos, ↓if_neg, ↓q_bdE q1, ↓q_bdE q2, ↓q_bd2E q3]
  · rw [if_neg c] at q1 ⊢
    refine ⟨q_up I (x + 171) 0 0, ?_, w_T.z⟩
    simp (disch := (first | trivial | assumption | omega | (refine r_iE ?_ ?_ <;> omega) | (refine r_lE ?_ ?_ <;> omega) | fail)) only [↓q_gdT, ↓q_ltE, ↓if_pos, ↓if_neg, ↓q_bdE q1]
theorem h_nearestClass {x : Nat} {S : q_S} {R : q_HR} {I : q_HI} {A : q_A} (hS : w_Sh x S R) (hB : z_B A) (hD : w_D x I A) : ∃ I', f_X10_nearestClass S R I (x + 171) = some (o_nearestClass A, I') ∧ w_T x I I' := by
  have h7 := hB.2.2.2.2.2.2.1
  unfold f_X10_nearestClass o_nearestClass
  simp only [k_171 hS, q_ltE, hD.z.f7]
  by_cases c7 : A 0 7 = 0
  · simp only [if_pos c7]
    refine ⟨q_up I (x + 171) 0 0, ?_, w_T.z⟩
    simp (disch := (first | trivial | assumption | omega | (refine r_iE ?_ ?_ <;> omega) | (refine r_lE ?_ ?_ <;> omega) | fail)) only [↓q_gdT, ↓q_ltE, ↓if_pos, ↓if_neg]
  · simp only [if_neg c7]
    obtain ⟨J, q2, T2, L2⟩ := m_lays0 hS hB hD.z
    obtain ⟨J3, q3, f3⟩ := m_near (ex := -1) hS hB L2 (by omega) (r_iE (by omega) (by omega))
    refine ⟨J3, ?_, (w_T.z.tr T2).tr (w_U.of f3).t⟩
    simp (disch := (first | trivial | assumption | omega | (refine r_iE ?_ ?_ <;> omega) | (refine r_lE ?_ ?_ <;> omega) | fail)) only [↓q_gdT, ↓q_ltE, ↓if_pos, ↓if_neg, ↓q_bdE q2, ↓q_bd2E q3]
theorem z_nst1 {d : Nat → Int} : ∀ {n : Nat}, (∀ c, c < n → d c = -1) → z_nst d n = (-1, 0)
  | 0, _ => rfl
  | n + 1, h => by
    show (if d n = -1 ∨ _ then z_nst d n else _) = _
    rw [if_pos (Or.inl (h n (by omega)))]
    exact z_nst1 (fun c hc => h c (by omega))
theorem z_n1X {A : q_A} (hB : z_B A) {t : Nat → Bool} (h : (z_n1 A t (-1)).1 = -1) (ex : Int) : (z_n1 A t ex).1 = -1 := by
  have h1 := (z_n1N hB t).mp h
  unfold z_n1
  rw [z_nst1 (fun c hc => by
    have := (z_dpB hB t 0 hc).2.2.mpr (h1 c hc)
    rw [this]
    split <;> rfl)]
theorem h_runnerUp {x : Nat} {S : q_S} {R : q_HR} {I : q_HI} {A : q_A} (hS : w_Sh x S R) (hB : z_B A) (hD : w_D x I A) : ∃ I', f_X10_runnerUp S R I (x + 171) = some (o_runnerUp A, I') ∧ w_T x I I' := by
  have h7 := hB.2.2.2.2.2.2.1
  have hk := hB.nk
  unfold f_X10_runnerUp o_runnerUp
  simp only [k_171 hS, q_ltE, hD.z.f7]
  by_cases c7 : A 0 7 = 0
  · simp only [if_pos c7]
    refine ⟨q_up I (x + 171) 0 0, ?_, w_T.z⟩
    simp (disch := (first | trivial | assumption | omega | (refine r_iE ?_ ?_ <;> omega) | (refine r_lE ?_ ?_ <;> omega) | fail)) only [↓q_gdT, ↓q_ltE, ↓if_pos, ↓if_neg]
  · simp only [if_neg c7]
    have nb := (z_n1B hB z_t (-1)).1
    obtain ⟨J, q2, T2, L2⟩ := m_lays0 hS hB hD.z
    obtain ⟨J3, q3, f3⟩ := m_near (ex := -1) hS hB L2 (by omega) (r_iE (by omega) (by omega))
    by_cases c1 : (z_n1 A z_t (-1)).1 = -1
    · refine ⟨J3, ?_, (w_T.z.tr T2).tr (w_U.of f3).t⟩
      rw [z_n1X hB c1]
      simp (disch := (first | trivial | assumption | omega | (refine r_iE ?_ ?_ <;> omega) | (refine r_lE ?_ ?_ <;> omega) | fail)) only [↓q_gdT, ↓q_ltE, ↓if_pos, ↓if_neg, ↓q_bdE q2, ↓q_bd2E q3]
    · obtain ⟨J4, q4, f4⟩ := m_near (ex := (z_n1 A z_t (-1)).1) hS hB (L2.u (w_U.of f3)) (by omega) (r_iE (by omega) (by omega))
      refine ⟨J4, ?_, ((w_T.z.tr T2).tr (w_U.of f3).t).tr (w_U.of f4).t⟩
      simp (disch := (first | trivial | assumption | omega | (refine r_iE ?_ ?_ <;> omega) | (refine r_lE ?_ ?_ <;> omega) | fail)) only [↓q_gdT, ↓q_ltE, ↓if_pos, ↓if_neg, ↓q_bdE q2, ↓q_bd2E q3, ↓q_bd2E q4]
/-- farthest samples -/
theorem m_farthest {x : Nat} {S : q_S} {R : q_HR} {I : q_HI} {A : q_A} {t : Nat → Bool} {c : Nat} (hS : w_Sh x S R) (hB : z_B A) (hL : w_L x I A t) (hc : c < z_nk A) (h0 : A 4 c ≠ 0) : ∃ J, f_X10_farthest S R I (x + 171) (c : Int) = some ((z_fs A t c).1, J) ∧ ∀ a, a ≠ x + 179 → J a = I a := by
  have hk := hB.nk
  have hn := hB.ns hc
  unfold f_X10_farthest z_fs
  generalize hz : (fun k => z_dp A t (23 + 8 * c + k) c) = D
  have db : ∀ k, k < z_ns A c → 0 ≤ D k ∧ D k ≤ 320000000 := fun k hk' => by
    have := z_dpB hB t (23 + 8 * c + k) hc
    rw [← hz]
    dsimp only
    omega
  have zb : ∀ i, i ≤ z_ns A c → 0 < i → (0 ≤ (z_far D i).1 ∧ (z_far D i).1 < i) ∧ (z_far D i).2 = D (z_far D i).1.toNat := fun i hi h => by
    have := z_farB (d := D) (n := i) (fun k hk' => db k (by omega))
    exact ⟨⟨(this.2.2.1 h).1, this.1.2⟩, (this.2.2.1 h).2⟩
  have key := z_loopR (fun n (u : Nat × q_HI) => f_X10_farthest_L4 S R (x + 171) (c : Int) (fun w20 w21 I22 => some (w20, I22)) n (z_far D (u.1 + 1)).1 (((u.1 + 1 : Nat)) : Int) u.2) (fun i u => u.1 = i ∧ ∀ a, a ≠ x + 179 → u.2 a = I a) (z_ns A c - 1) (fun u => some ((z_far D (z_ns A c)).1, u.2)) ?_ ?_ 100 0 (0, I) (by omega) (by omega) ⟨rfl, fun _ _ => rfl⟩
  · obtain ⟨⟨i, J⟩, ⟨_, g2⟩, e⟩ := key
    refine ⟨J, ?_, g2⟩
    have z1 : (z_far D 1).1 = 0 := by
      show (if D 0 ≤ -1 then (-1, -1) else (((0 : Nat) : Int), D 0) : Int × Int).1 = 0
      rw [if_neg (by have := db 0 (by omega); omega)]
      rfl
    dsimp only at e
    rw [show (0 + 1 : Nat) = 1 from rfl, z1] at e
    exact e
  · rintro n i ⟨i', J⟩ hi ⟨rfl, hJ⟩
    dsimp only at hJ hi ⊢
    have hLJ := hL.u (w_U.of hJ)
    have zi := zb (i' + 1) (by omega) (by omega)
    have es : z_far D (i' + 1 + 1) = if D (i' + 1) ≤ (z_far D (i' + 1)).2 then z_far D (i' + 1) else (((i' + 1 : Nat) : Int), D (i' + 1)) := rfl
    have ei : (((i' + 1 + 1 : Nat)) : Int) = ((i' + 1 : Nat) : Int) + 1 := by omega
    obtain ⟨J2, q2, f2⟩ := m_farFrom (p := 23 + 8 * c + (i' + 1)) (c := c) hS hB hLJ (Or.inr (Or.inr ⟨c, i' + 1, hc, by omega, rfl⟩)) (by omega) hc
    obtain ⟨b, hb⟩ : ∃ b : Nat, (z_far D (i' + 1)).1 = (b : Int) := ⟨(z_far D (i' + 1)).1.toNat, by omega⟩
    obtain ⟨J3, q3, f3⟩ := m_farFrom (p := 23 + 8 * c + b) (c := c) hS hB (hLJ.u (w_U.of f2)) (Or.inr (Or.inr ⟨c, b, hc, by omega, rfl⟩)) (by omega) hc
    have e2 : z_dp A t (23 + 8 * c + (i' + 1)) c = D (i' + 1) := by rw [← hz]
    have e3 : z_dp A t (23 + 8 * c + b) c = D b := by rw [← hz]
    rw [e2, show ((23 + 8 * c + (i' + 1) : Nat) : Int) = 23 + 8 * (c : Int) + ((i' + 1 : Nat) : Int) by omega] at q2
    rw [e3, show ((23 + 8 * c + b : Nat) : Int) = 23 + 8 * (c : Int) + (b : Int) by omega] at q3
    have p2 := m_placeOf (c : Int) ((i' + 1 : Nat) : Int)
    have p3 := m_placeOf (c : Int) (b : Int)
    have d2 := db (i' + 1) (by omega)
    have d3 := db b (by omega)
    rw [hb, Int.toNat_natCast] at zi
    rw [zi.2] at es
    refine ⟨(i' + 1, J3), ⟨rfl, fun a ha => (f3 a ha).trans ((f2 a ha).trans (hJ a ha))⟩, ?_⟩
    rw [f_X10_farthest_L4]
    simp only [k_171 hS, r_171_13 hS, k_175 hS, n_175 hS, hLJ.1.d4, Int.toNat_natCast, hb, es, ei]
    by_cases e : D (i' + 1) ≤ D b
    · simp only [if_pos e, hb]
      simp (disch := (first | trivial | assumption | omega | (refine r_iE ?_ ?_ <;> omega) | (refine r_lE ?_ ?_ <;> omega) | fail)) only [↓q_gdT, ↓q_ltE, ↓if_pos, ↓if_neg, ↓q_bdE p2, ↓q_bd2E q2, ↓q_bdE p3, ↓q_bd2E q3]
    · simp only [if_neg e]
      simp (disch := (first | trivial | assumption | omega | (refine r_iE ?_ ?_ <;> omega) | (refine r_lE ?_ ?_ <;> omega) | fail)) only [↓q_gdT, ↓q_ltE, ↓if_pos, ↓if_neg, ↓q_bdE p2, ↓q_bd2E q2, ↓q_bdE p3, ↓q_bd2E q3]
  · rintro n ⟨i, J⟩ ⟨e, hJ⟩
    dsimp only at e hJ ⊢
    subst e
    have hLJ := hL.u (w_U.of hJ)
    have e1 : z_ns A c - 1 + 1 = z_ns A c := by omega
    rw [f_X10_farthest_L4]
    simp only [k_171 hS, r_171_13 hS, k_175 hS, n_175 hS, hLJ.1.d4, Int.toNat_natCast, e1]
    simp (disch := (first | trivial | assumption | omega | (refine r_iE ?_ ?_ <;> omega) | (refine r_lE ?_ ?_ <;> omega) | fail)) only [↓q_gdT, ↓q_ltE, ↓if_pos, ↓if_neg]
