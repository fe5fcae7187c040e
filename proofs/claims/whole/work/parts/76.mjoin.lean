/-! THE REFERENCE: joining, the calls -/
def w_js (x : Nat) (I : q_HI) (w B : Int) : Prop := (w = -1 ∧ I (x + 171) 26 = -1) ∨ ∃ d e : Int, (0 ≤ d ∧ d ≤ 320000000) ∧ (0 ≤ e ∧ e < B) ∧ I (x + 171) 26 = e ∧ I (x + 171) 27 = d ∧ w = 100 * d + e
theorem w_js.mono {x : Nat} {I : q_HI} {w B B' : Int} (h : w_js x I w B) (hb : B ≤ B') : w_js x I w B' := by
  rcases h with h | ⟨d, e, h1, h2, h3⟩
  · exact Or.inl h
  · exact Or.inr ⟨d, e, h1, ⟨h2.1, by omega⟩, h3⟩
theorem w_js.fr {x : Nat} {I J : q_HI} {w B : Int} (h : w_js x I w B) (hf : J (x + 171) = I (x + 171)) : w_js x J w B := by
  unfold w_js
  rw [hf]
  exact h
theorem m_join1 {x : Nat} {S : q_S} {R : q_HR} {I : q_HI} {A : q_A} {t : Nat → Bool} {H : Nat → Int} {K : Int → q_HI → Option (Int × q_HI)} {a : Nat} (hS : w_Sh x S R) (hB : z_B A) (hL : w_L x I A t) (hH : w_hd x I H (z_nk A)) (hb8 : ∀ c, c < z_nk A → -1 ≤ H c ∧ H c < 8) (h0 : ∀ c, c < z_nk A → H c ≠ -1 → A 4 c ≠ 0) (hD : z_dk H (z_cc A t)) (ha : a < z_nk A) (hw : w_js x I (z_m2 (z_lq H (z_cc A t) (z_nk A)) (z_nk A) a) (10 * (a : Int))) : ∃ J, f_X10_joins_L19 S R (x + 171) (a : Int) K 100 ((a : Int) + 1) I = K (A 0 4) J ∧ w_U x I J ∧ w_hd x J H (z_nk A) ∧ w_js x J (z_m2 (z_lq H (z_cc A t) (z_nk A)) (z_nk A) (a + 1)) (10 * ((a : Int) + 1)) := by
  have hk := hB.nk
  generalize hQ : z_lq H (z_cc A t) (z_nk A) = Q at *
  have e0 : z_m1 (Q a) (z_m2 Q (z_nk A) a) (a + 1) = z_m2 Q (z_nk A) a := z_m1Lo (fun j hj => by
    rw [← hQ]
    exact if_neg (by omega))
  have key := z_loopR (fun n (u : Nat × q_HI) => f_X10_joins_L19 S R (x + 171) (a : Int) K n ((u.1 : Nat) : Int) u.2) (fun i u => u.1 = i ∧ a < i ∧ w_U x I u.2 ∧ w_hd x u.2 H (z_nk A) ∧ w_js x u.2 (z_m1 (Q a) (z_m2 Q (z_nk A) a) i) (10 * (a : Int) + (i : Int))) (z_nk A) (fun u => K (A 0 4) u.2) ?_ ?_ 100 (a + 1) (a + 1, I) (by omega) (by omega) ⟨rfl, by omega, w_U.rf, hH, by rw [e0]; exact hw.mono (by omega)⟩
  · obtain ⟨⟨i, J⟩, ⟨_, _, f, g, h⟩, e⟩ := key
    exact ⟨J, e, f, g, h.mono (by omega)⟩
  · rintro n b ⟨b', J⟩ hb ⟨rfl, hab, hJ, hHJ, hwJ⟩
    dsimp only at hab hJ hHJ hwJ hb ⊢
    have hLJ := hL.u hJ
    have e1 := hHJ a ha
    have e2 := hHJ b' hb
    have b1 := hb8 a ha
    have b2 := hb8 b' hb
    have es : z_m1 (Q a) (z_m2 Q (z_nk A) a) (b' + 1) = if Q a b' = -1 ∨ (z_m1 (Q a) (z_m2 Q (z_nk A) a) b' ≠ -1 ∧ z_m1 (Q a) (z_m2 Q (z_nk A) a) b' ≤ Q a b') then z_m1 (Q a) (z_m2 Q (z_nk A) a) b' else Q a b' := rfl
    generalize z_m1 (Q a) (z_m2 Q (z_nk A) a) b' = w at *
    have ei : (((b' + 1 : Nat)) : Int) = (b' : Int) + 1 := by omega
    by_cases g1 : H a = (a : Int)
    · by_cases g2 : H b' = (b' : Int)
      · obtain ⟨r, hr⟩ : ∃ r, z_ap H (z_cc A t) (z_nk A) (a : Int) (b' : Int) = r := ⟨_, rfl⟩
        have eQ : Q a b' = 100 * r + 10 * (a : Int) + (b' : Int) := by rw [← hQ, ← hr]; exact if_pos ⟨hab, g1, g2⟩
        obtain ⟨J2, q2, f2⟩ := m_apart (a := a) (b := b') hS hB hLJ hHJ hb8 h0 (by omega) (by omega)
        have rb := (z_apB (n := z_nk A) (by omega) hD ha hb g1 g2).1
        rw [hr] at q2 rb
        have h171 : J2 (x + 171) = J (x + 171) := f2 _ (by omega)
        have U2 := hJ.tr (w_U.of f2)
        have H2 : w_hd x J2 H (z_nk A) := fun c hc => by rw [f2 _ (by omega)]; exact hHJ c hc
        have u26 : ∀ v : Int, q_up (q_up J2 (x + 171) 26 (10 * (a : Int) + (b' : Int))) (x + 171) 27 v (x + 171) 26 = 10 * (a : Int) + (b' : Int) := fun v => by rw [q_up_nj (by omega), q_up_at]
        have take : w_U x I (q_up (q_up J2 (x + 171) 26 (10 * (a : Int) + (b' : Int))) (x + 171) 27 r) ∧ w_hd x (q_up (q_up J2 (x + 171) 26 (10 * (a : Int) + (b' : Int))) (x + 171) 27 r) H (z_nk A) ∧ w_js x (q_up (q_up J2 (x + 171) 26 (10 * (a : Int) + (b' : Int))) (x + 171) 27 r) (Q a b') (10 * (a : Int) + ((b' + 1 : Nat) : Int)) :=
          ⟨(U2.up (Or.inl ⟨rfl, by omega⟩)).up (Or.inl ⟨rfl, by omega⟩), fun c hc => by rw [q_up_ne _ _ _ (by omega), q_up_ne _ _ _ (by omega)]; exact H2 c hc, Or.inr ⟨r, 10 * (a : Int) + (b' : Int), rb, by omega, u26 r, q_up_at, by omega⟩⟩
        rcases hwJ with ⟨w1, w2⟩ | ⟨d, e, w1, w2, w3, w4, w5⟩
        · rw [if_neg (by omega)] at es
          refine ⟨(b' + 1, q_up (q_up J2 (x + 171) 26 (10 * (a : Int) + (b' : Int))) (x + 171) 27 r), ⟨rfl, by omega, take.1, take.2.1, by rw [es]; exact take.2.2⟩, ?_⟩
          have v26 : J2 (x + 171) 26 = -1 := by rw [h171]; exact w2
          rw [f_X10_joins_L19]
          simp only [k_171 hS, hLJ.1.f4, r_171_25 hS, k_182 hS, n_182 hS, Int.toNat_natCast, e1, e2, ei]
          simp (disch := (first | trivial | assumption | omega | (refine r_iE ?_ ?_ <;> omega) | (refine r_lE ?_ ?_ <;> omega) | fail)) only [↓q_gdT, ↓q_ltE, ↓if_pos, ↓if_neg, ↓q_bd2E q2, v26]
        · have v26 : J2 (x + 171) 26 = e := by rw [h171]; exact w3
          have v27 : J2 (x + 171) 27 = d := by rw [h171]; exact w4
          by_cases g3 : r < d
          · rw [if_neg (by omega)] at es
            refine ⟨(b' + 1, q_up (q_up J2 (x + 171) 26 (10 * (a : Int) + (b' : Int))) (x + 171) 27 r), ⟨rfl, by omega, take.1, take.2.1, by rw [es]; exact take.2.2⟩, ?_⟩
            rw [f_X10_joins_L19]
            simp only [k_171 hS, hLJ.1.f4, r_171_25 hS, k_182 hS, n_182 hS, Int.toNat_natCast, e1, e2, ei]
            simp (disch := (first | trivial | assumption | omega | (refine r_iE ?_ ?_ <;> omega) | (refine r_lE ?_ ?_ <;> omega) | fail)) only [↓q_gdT, ↓q_ltE, ↓if_pos, ↓if_neg, ↓q_bd2E q2, v26, v27]
          · rw [if_pos (by omega)] at es
            refine ⟨(b' + 1, J2), ⟨rfl, by omega, U2, H2, Or.inr ⟨d, e, w1, by omega, v26, v27, by rw [es]; exact w5⟩⟩, ?_⟩
            rw [f_X10_joins_L19]
            simp only [k_171 hS, hLJ.1.f4, r_171_25 hS, k_182 hS, n_182 hS, Int.toNat_natCast, e1, e2, ei]
            simp (disch := (first | trivial | assumption | omega | (refine r_iE ?_ ?_ <;> omega) | (refine r_lE ?_ ?_ <;> omega) | fail)) only [↓q_gdT, ↓q_ltE, ↓if_pos, ↓if_neg, ↓q_bd2E q2, v26, v27]
      · have eQ : Q a b' = -1 := by rw [← hQ]; exact if_neg (fun q => g2 q.2.2)
        rw [if_pos (Or.inl eQ)] at es
        refine ⟨(b' + 1, J), ⟨rfl, by omega, hJ, hHJ, by rw [es]; exact hwJ.mono (by omega)⟩, ?_⟩
        rw [f_X10_joins_L19]
        simp only [k_171 hS, hLJ.1.f4, r_171_25 hS, k_182 hS, n_182 hS, Int.toNat_natCast, e1, e2, ei]
        simp (disch := (first | trivial | assumption | omega | (refine r_iE ?_ ?_ <;> omega) | (refine r_lE ?_ ?_ <;> omega) | fail)) only [↓q_gdT, ↓q_ltE, ↓if_pos, ↓if_neg]
    · have eQ : Q a b' = -1 := by rw [← hQ]; exact if_neg (fun q => g1 q.2.1)
      rw [if_pos (Or.inl eQ)] at es
      refine ⟨(b' + 1, J), ⟨rfl, by omega, hJ, hHJ, by rw [es]; exact hwJ.mono (by omega)⟩, ?_⟩
      rw [f_X10_joins_L19]
      simp only [k_171 hS, hLJ.1.f4, r_171_25 hS, k_182 hS, n_182 hS, Int.toNat_natCast, e1, e2, ei]
      simp (disch := (first | trivial | assumption | omega | (refine r_iE ?_ ?_ <;> omega) | (refine r_lE ?_ ?_ <;> omega) | fail)) only [↓q_gdT, ↓q_ltE, ↓if_pos, ↓if_neg]
  · rintro n ⟨b, J⟩ ⟨e, _, hJ, _⟩
    dsimp only at e hJ ⊢
    subst e
    have hLJ := hL.u hJ
    rw [f_X10_joins_L19]
    simp only [k_171 hS, hLJ.1.f4, hk.2]
    simp (disch := (first | trivial | assumption | omega | (refine r_iE ?_ ?_ <;> omega) | (refine r_lE ?_ ?_ <;> omega) | fail)) only [↓q_gdT, ↓q_ltE, ↓if_pos, ↓if_neg]
theorem m_join2 {x : Nat} {S : q_S} {R : q_HR} {I : q_HI} {A : q_A} {t : Nat → Bool} {H : Nat → Int} {w : Int} (hS : w_Sh x S R) (hB : z_B A) (hL : w_L x I A t) (hH : w_hd x I H (z_nk A)) (hb8 : ∀ c, c < z_nk A → -1 ≤ H c ∧ H c < 8) (h26 : I (x + 171) 26 = w % 100) (hw : 0 ≤ w) : ∃ J, f_X10_joins_L116 S R (x + 171) (fun w56 I57 => some (1, I57)) 100 0 I = some (1, J) ∧ w_U x I J ∧ w_hd x J (z_jn H w) (z_nk A) ∧ J (x + 171) = I (x + 171) := by
  have hk := hB.nk
  have key := z_loopR (fun n (u : Nat × q_HI) => f_X10_joins_L116 S R (x + 171) (fun w56 I57 => some (1, I57)) n ((u.1 : Nat) : Int) u.2) (fun i u => u.1 = i ∧ w_U x I u.2 ∧ u.2 (x + 171) = I (x + 171) ∧ ∀ c, c < z_nk A → u.2 (x + 182) c = if c < i then z_jn H w c else H c) (z_nk A) (fun u => some (1, u.2)) ?_ ?_ 100 0 (0, I) (by omega) (by omega) ⟨rfl, w_U.rf, rfl, fun c hc => by rw [if_neg (by omega)]; exact hH c hc⟩
  · obtain ⟨⟨i, J⟩, ⟨_, f, g, h⟩, e⟩ := key
    refine ⟨J, e, f, fun c hc => ?_, g⟩
    have := h c hc
    rw [if_pos hc] at this
    exact this
  · rintro n c ⟨c', J⟩ hc ⟨rfl, hJ, hr, hg⟩
    dsimp only at hJ hr hg hc ⊢
    have hLJ := hL.u hJ
    have e26 : J (x + 171) 26 = w % 100 := by rw [hr]; exact h26
    have e1 := hg c' hc
    rw [if_neg (by omega)] at e1
    have b1 := hb8 c' hc
    have t1 : Int.tmod (w % 100) 10 = w % 10 := by rw [Int.tmod_eq_emod_of_nonneg (by omega)]; omega
    have t2 : Int.tdiv (w % 100) 10 = w / 10 % 10 := by rw [Int.tdiv_eq_ediv_of_nonneg (by omega)]; omega
    have ei : (((c' + 1 : Nat)) : Int) = (c' : Int) + 1 := by omega
    by_cases g1 : H c' = w % 10
    · refine ⟨(c' + 1, q_up J (x + 182) c' (w / 10 % 10)), ⟨rfl, hJ.up (Or.inr (by omega)), ?_, fun d hd => ?_⟩, ?_⟩
      · show q_up J (x + 182) c' _ (x + 171) = _
        rw [q_up_ne _ _ _ (by omega)]
        exact hr
      · show q_up J (x + 182) c' _ (x + 182) d = _
        by_cases e : d = c'
        · rw [e, q_up_at, if_pos (by omega)]
          unfold z_jn
          rw [if_pos g1]
        · rw [q_up_nj e, hg d hd]
          by_cases e2 : d < c'
          · rw [if_pos e2, if_pos (by omega)]
          · rw [if_neg e2, if_neg (by omega)]
      · rw [f_X10_joins_L116]
        simp only [k_171 hS, hLJ.1.f4, r_171_25 hS, k_182 hS, n_182 hS, Int.toNat_natCast, e1, e26, t1, t2, ei]
        simp (disch := (first | trivial | assumption | omega | (refine r_iE ?_ ?_ <;> omega) | (refine r_lE ?_ ?_ <;> omega) | fail)) only [↓q_gdT, ↓q_ltE, ↓if_pos, ↓if_neg]
    · refine ⟨(c' + 1, J), ⟨rfl, hJ, hr, fun d hd => ?_⟩, ?_⟩
      · show J (x + 182) d = _
        rw [hg d hd]
        by_cases e : d = c'
        · rw [if_neg (by omega), if_pos (by omega), e]
          unfold z_jn
          rw [if_neg g1]
        · by_cases e2 : d < c'
          · rw [if_pos e2, if_pos (by omega)]
          · rw [if_neg e2, if_neg (by omega)]
      · rw [f_X10_joins_L116]
        simp only [k_171 hS, hLJ.1.f4, r_171_25 hS, k_182 hS, n_182 hS, Int.toNat_natCast, e1, e26, t1, t2, ei]
        simp (disch := (first | trivial | assumption | omega | (refine r_iE ?_ ?_ <;> omega) | (refine r_lE ?_ ?_ <;> omega) | fail)) only [↓q_gdT, ↓q_ltE, ↓if_pos, ↓if_neg]
  · rintro n ⟨c, J⟩ ⟨e, hJ, _⟩
    dsimp only at e hJ ⊢
    subst e
    have hLJ := hL.u hJ
    rw [f_X10_joins_L116]
    simp only [k_171 hS, hLJ.1.f4]
    simp (disch := (first | trivial | assumption | omega | (refine r_iE ?_ ?_ <;> omega) | (refine r_lE ?_ ?_ <;> omega) | fail)) only [↓q_gdT, ↓q_ltE, ↓if_pos, ↓if_neg]
theorem m_joins {x : Nat} {S : q_S} {R : q_HR} {I : q_HI} {A : q_A} {t : Nat → Bool} {H : Nat → Int} (hS : w_Sh x S R) (hB : z_B A) (hL : w_L x I A t) (hH : w_hd x I H (z_nk A)) (hO : z_ok H) (hD : z_dk H (z_cc A t)) (h1 : ∀ i, H i = -1 ↔ z_H0 A i = -1) : ∃ J, f_X10_joins S R I (x + 171) = some (if z_bp H (z_cc A t) = -1 then 0 else 1, J) ∧ w_U x I J ∧ (z_bp H (z_cc A t) ≠ -1 → w_hd x J (z_jn H (z_bp H (z_cc A t))) (z_nk A) ∧ J (x + 171) 26 = z_bp H (z_cc A t) % 100 ∧ J (x + 171) 27 = z_bp H (z_cc A t) / 100) := by
  have hk := hB.nk
  have hb8 : ∀ c, c < z_nk A → -1 ≤ H c ∧ H c < 8 := fun c hc => by
    rcases hO c (by omega) with q | ⟨q, _⟩ <;> omega
  have h0 : ∀ c, c < z_nk A → H c ≠ -1 → A 4 c ≠ 0 := fun c hc h e => h ((h1 c).mpr (if_neg (fun q => q.2 e)))
  have hz : ∀ i, i < 8 → z_nk A ≤ i → H i = -1 := fun i _ h => (h1 i).mpr (if_neg (fun q => by omega))
  have eb := z_bpQ (n := z_nk A) (by omega) hO hD (fun c d => z_ccS A t c d) hz
  generalize hbp : z_bp H (z_cc A t) = v at *
  unfold f_X10_joins
  simp only [k_171 hS, q_ltE]
  rw [q_gdT trivial]
  have key := z_loopR (fun n (u : Nat × q_HI) => f_X10_joins_L7 S R (x + 171) (fun w40 I41 => q_gd (r_i (I41 (x + 171) 26)) (if I41 (x + 171) 26 = (-1) then some (0, I41) else f_X10_joins_L116 S R (x + 171) (fun w56 I57 => some (1, I57)) 100 0 I41)) n ((u.1 : Nat) : Int) u.2) (fun i u => u.1 = i ∧ w_U x I u.2 ∧ w_hd x u.2 H (z_nk A) ∧ w_js x u.2 (z_m2 (z_lq H (z_cc A t) (z_nk A)) (z_nk A) i) (10 * (i : Int))) (z_nk A) (fun u => q_gd (r_i (u.2 (x + 171) 26)) (if u.2 (x + 171) 26 = (-1) then some (0, u.2) else f_X10_joins_L116 S R (x + 171) (fun w56 I57 => some (1, I57)) 100 0 u.2)) ?_ ?_ 100 0 (0, q_up I (x + 171) 26 (-1)) (by omega) (by omega) ⟨rfl, w_U.rf.up (Or.inl ⟨rfl, by omega⟩), fun c hc => by show q_up I (x + 171) 26 (-1) (x + 182) c = _; rw [q_up_ne _ _ _ (by omega)]; exact hH c hc, Or.inl ⟨rfl, q_up_at⟩⟩
  · obtain ⟨⟨i, J⟩, ⟨_, hJ, hHJ, hwJ⟩, e⟩ := key
    dsimp only at hJ hHJ hwJ e
    rw [eb] at hwJ
    rcases hwJ with ⟨w1, w2⟩ | ⟨d, e', w1, w2, w3, w4, w5⟩
    · refine ⟨J, ?_, hJ, fun q => absurd w1 q⟩
      rw [if_pos w1]
      refine e.trans ?_
      rw [q_gdT (r_iE (by omega) (by omega)), if_pos w2]
    · have hv0 : 0 ≤ v := by omega
      have h26 : J (x + 171) 26 = v % 100 := by omega
      have h27 : J (x + 171) 27 = v / 100 := by omega
      obtain ⟨J2, q2, U2, H2, r2⟩ := m_join2 (w := v) hS hB (hL.u hJ) hHJ hb8 h26 hv0
      refine ⟨J2, ?_, hJ.tr U2, fun _ => ⟨H2, by rw [r2]; exact h26, by rw [r2]; exact h27⟩⟩
      rw [if_neg (show ¬ v = -1 by omega)]
      refine e.trans ?_
      rw [q_gdT (r_iE (by omega) (by omega)), if_neg (by omega), q2]
  · rintro n a ⟨a', J⟩ ha ⟨rfl, hJ, hHJ, hwJ⟩
    dsimp only at hJ hHJ hwJ ha ⊢
    have hLJ := hL.u hJ
    obtain ⟨J2, q2, U2, H2, w2⟩ := m_join1 (K := fun w38 I39 => f_X10_joins_L7 S R (x + 171) (fun w40 I41 => q_gd (r_i (I41 (x + 171) 26)) (if I41 (x + 171) 26 = (-1) then some (0, I41) else f_X10_joins_L116 S R (x + 171) (fun w56 I57 => some (1, I57)) 100 0 I41)) n ((a' : Int) + 1) I39) hS hB hLJ hHJ hb8 h0 hD ha hwJ
    refine ⟨(a' + 1, J2), ⟨rfl, hJ.tr U2, H2, w2⟩, ?_⟩
    rw [f_X10_joins_L7]
    simp only [k_171 hS, hLJ.1.f4]
    rw [q_gdT trivial, q_gdT (r_iE (by omega) (by omega)), q_gdT (r_iE (by omega) (by omega)), if_neg (by omega), q_ltE]
    exact q2
  · rintro n ⟨a, J⟩ ⟨e, hJ, _⟩
    dsimp only at e hJ ⊢
    subst e
    have hLJ := hL.u hJ
    rw [f_X10_joins_L7]
    simp only [k_171 hS, hLJ.1.f4]
    rw [q_gdT trivial, q_gdT (r_iE (by omega) (by omega)), q_gdT (r_iE (by omega) (by omega)), if_pos (by omega)]
/-- a number of joinings -/
theorem m_steps {x : Nat} {S : q_S} {R : q_HR} {I : q_HI} {A : q_A} {t : Nat → Bool} {a : Int} {K : Int → Int → q_HI → Option (Int × q_HI)} (hS : w_Sh x S R) (hB : z_B A) (hL : w_L x I A t) (hH : w_hd x I (z_H0 A) (z_nk A)) (ha : r_i a) : ∀ k : Nat, k ≤ 9 → (k : Int) ≤ a + 1 → (∀ j, j < k → z_bp (z_hs (z_cc A t) (z_H0 A) j) (z_cc A t) ≠ -1) → ∃ J, (∀ N, f_X10_goesTo_L45 S R (x + 171) a K (N + k) 1 0 I = f_X10_goesTo_L45 S R (x + 171) a K N 1 (k : Int) J) ∧ w_U x I J ∧ w_hd x J (z_hs (z_cc A t) (z_H0 A) k) (z_nk A) ∧ (∀ m, k = m + 1 → J (x + 171) 26 = z_bp (z_hs (z_cc A t) (z_H0 A) m) (z_cc A t) % 100 ∧ J (x + 171) 27 = z_bp (z_hs (z_cc A t) (z_H0 A) m) (z_cc A t) / 100) := by
  have ha2 := ha.2
  intro k
  induction k with
  | zero => exact fun _ _ _ => ⟨I, fun N => rfl, w_U.rf, hH, fun m hm => absurd hm (by omega)⟩
  | succ k ih =>
    intro h9 hka hne
    obtain ⟨J, e1, U1, H1, _⟩ := ih (by omega) (by omega) (fun j hj => hne j (by omega))
    obtain ⟨o1, o2, o3⟩ := z_hsO (z_H0O A) (z_H0D hB t) k
    obtain ⟨J2, q2, U2, g2⟩ := m_joins hS hB (hL.u U1) H1 o1 o2 o3
    have hk := hne k (by omega)
    rw [if_neg hk] at q2
    obtain ⟨g3, g4, g5⟩ := g2 hk
    have eh : z_hs (z_cc A t) (z_H0 A) (k + 1) = z_jn (z_hs (z_cc A t) (z_H0 A) k) (z_bp (z_hs (z_cc A t) (z_H0 A) k) (z_cc A t)) := if_neg hk
    refine ⟨J2, fun N => ?_, U1.tr U2, by rw [eh]; exact g3, fun m hm => ?_⟩
    · have e2 := e1 (N + 1)
      rw [show N + 1 + k = N + (k + 1) by omega] at e2
      rw [e2, f_X10_goesTo_L45]
      simp only [k_171 hS]
      rw [q_gdT (r_iE (by omega) (by omega)), q_gdT ha, if_neg (by omega), q_gdT (r_iE (by omega) (by omega)), if_neg (by omega), q_gdT trivial, q_bd2E q2]
      rfl
    · have : m = k := by omega
      subst this
      exact ⟨g4, g5⟩
theorem m_goesTo {x : Nat} {S : q_S} {R : q_HR} {I : q_HI} {A : q_A} {a : Int} (hS : w_Sh x S R) (hB : z_B A) (hD : w_D x I A) (ha : r_i a) (h0 : 0 ≤ a) : ∃ J, f_X10_goesTo S R I (x + 171) a = some (if z_jb A z_t (z_upto a) = -1 then 0 else 1, J) ∧ w_T x I J ∧ (z_jb A z_t (z_upto a) ≠ -1 → J (x + 171) 26 = z_jb A z_t (z_upto a) % 100 ∧ J (x + 171) 27 = z_jb A z_t (z_upto a) / 100) := by
  have hk := hB.nk
  have ha2 := ha.2
  obtain ⟨I2, q1, T1, L1⟩ := m_lays0 hS hB hD
  unfold f_X10_goesTo
  simp only [k_171 hS]
  rw [q_gdT trivial, q_bdE q1]
  have key : f_X10_goesTo_L7 S R (x + 171) a (fun w19 I20 => f_X10_goesTo_L45 S R (x + 171) a (fun w30 w31 I32 => q_gd (w30 = 0 ∨ w30 = 1) (some (w30, I32))) 100 1 0 I20) 100 0 I2 = f_X10_goesTo_L45 S R (x + 171) a (fun w30 w31 I32 => q_gd (w30 = 0 ∨ w30 = 1) (some (w30, I32))) 100 1 0 (z_row I2 (x + 182) (z_H0 A) (z_nk A)) := by
    have key := z_loop (fun n i => f_X10_goesTo_L7 S R (x + 171) a (fun w19 I20 => f_X10_goesTo_L45 S R (x + 171) a (fun w30 w31 I32 => q_gd (w30 = 0 ∨ w30 = 1) (some (w30, I32))) 100 1 0 I20) n ((i : Nat) : Int) (z_row I2 (x + 182) (z_H0 A) i)) (z_nk A) (f_X10_goesTo_L45 S R (x + 171) a (fun w30 w31 I32 => q_gd (w30 = 0 ∨ w30 = 1) (some (w30, I32))) 100 1 0 (z_row I2 (x + 182) (z_H0 A) (z_nk A))) (fun n i hi => ?_) (fun n => ?_) 100 (by omega)
    · rw [z_row_0] at key
      exact key
    · have hT : w_T x I2 (z_row I2 (x + 182) (z_H0 A) i) := fun b j h => by rw [z_row_ne _ _ (fun q => h (by unfold w_tm; omega))]
      have hDi := L1.1.t hT
      have hn := hB.ns hi
      show f_X10_goesTo_L7 _ _ _ _ _ (n + 1) _ _ = _
      rw [f_X10_goesTo_L7]
      simp only [k_171 hS, hDi.f4, r_171_25 hS, k_182 hS, n_182 hS, r_171_13 hS, k_175 hS, n_175 hS, hDi.d4, Int.toNat_natCast]
      rw [← z_row_up]
      unfold z_H0
      by_cases c0 : A 4 i = 0
      · rw [if_neg (show ¬ (i < z_nk A ∧ A 4 i ≠ 0) from fun q => q.2 c0)]
        simp (disch := (first | trivial | assumption | omega | (refine r_iE ?_ ?_ <;> omega) | (refine r_lE ?_ ?_ <;> omega) | fail)) only [↓q_gdT, ↓q_ltE, ↓if_pos, ↓if_neg]
        rfl
      · rw [if_pos (show i < z_nk A ∧ A 4 i ≠ 0 from ⟨hi, c0⟩)]
        simp (disch := (first | trivial | assumption | omega | (refine r_iE ?_ ?_ <;> omega) | (refine r_lE ?_ ?_ <;> omega) | fail)) only [↓q_gdT, ↓q_ltE, ↓if_pos, ↓if_neg]
        rfl
    · have hT : w_T x I2 (z_row I2 (x + 182) (z_H0 A) (z_nk A)) := fun b j h => by rw [z_row_ne _ _ (fun q => h (by unfold w_tm; omega))]
      have hDi := L1.1.t hT
      show f_X10_goesTo_L7 _ _ _ _ _ (n + 1) _ _ = _
      rw [f_X10_goesTo_L7]
      simp only [k_171 hS, hDi.f4]
      rw [q_gdT trivial, q_gdT (r_iE (by omega) (by omega)), q_gdT (r_iE (by omega) (by omega)), if_pos (by omega)]
  rw [key]
  have U2 : w_U x I2 (z_row I2 (x + 182) (z_H0 A) (z_nk A)) := fun b j h => by rw [z_row_ne _ _ (fun q => h (by omega))]
  have L2 := L1.u U2
  have H2 : w_hd x (z_row I2 (x + 182) (z_H0 A) (z_nk A)) (z_H0 A) (z_nk A) := fun c hc => z_row_at _ hc
  have hO := z_H0O A
  have hDk := z_H0D hB z_t
  unfold z_jb
  generalize hI3 : z_row I2 (x + 182) (z_H0 A) (z_nk A) = I3 at *
  have T3 : w_T x I I3 := T1.tr U2.t
  -- the first failing step, if there is one up to z_upto a
  have dich : ∀ u : Nat, (∀ j, j < u + 1 → z_bp (z_hs (z_cc A z_t) (z_H0 A) j) (z_cc A z_t) ≠ -1) ∨ ∃ k, k ≤ u ∧ (∀ j, j < k → z_bp (z_hs (z_cc A z_t) (z_H0 A) j) (z_cc A z_t) ≠ -1) ∧ z_bp (z_hs (z_cc A z_t) (z_H0 A) k) (z_cc A z_t) = -1 := by
    intro u
    induction u with
    | zero =>
      by_cases e : z_bp (z_hs (z_cc A z_t) (z_H0 A) 0) (z_cc A z_t) = -1
      · exact Or.inr ⟨0, Nat.le_refl _, fun j hj => absurd hj (Nat.not_lt_zero j), e⟩
      · refine Or.inl fun j hj => ?_
        rw [show j = 0 by omega]
        exact e
    | succ u ih =>
      rcases ih with ih | ⟨k, h1, h2, h3⟩
      · by_cases e : z_bp (z_hs (z_cc A z_t) (z_H0 A) (u + 1)) (z_cc A z_t) = -1
        · exact Or.inr ⟨u + 1, Nat.le_refl _, ih, e⟩
        · refine Or.inl fun j hj => ?_
          by_cases ej : j = u + 1
          · rw [ej]; exact e
          · exact ih j (by omega)
      · exact Or.inr ⟨k, by omega, h2, h3⟩
  have hu : (z_upto a : Int) ≤ a ∧ z_upto a ≤ 8 ∧ (z_upto a < 8 → (z_upto a : Int) = a) := by
    unfold z_upto
    split <;> omega
  rcases dich (z_upto a) with hall | ⟨k, k1, k2, k3⟩
  · have hu8 : z_upto a < 8 := by
      rcases Nat.lt_or_ge (z_upto a) 8 with q | q
      · exact q
      · have e8 : z_upto a = 8 := by omega
        exact absurd (z_hs8 hO hDk) (hall 8 (by omega))
    have ea := hu.2.2 hu8
    obtain ⟨J, e1, U1, H1, g1⟩ := m_steps (K := fun w30 w31 I32 => q_gd (w30 = 0 ∨ w30 = 1) (some (w30, I32))) hS hB L2 H2 ha (z_upto a + 1) (by omega) (by omega) hall
    have hne := hall (z_upto a) (by omega)
    refine ⟨J, ?_, T3.tr U1.t, fun _ => g1 _ rfl⟩
    rw [if_neg hne]
    have e2 := e1 (100 - (z_upto a + 1))
    rw [show 100 - (z_upto a + 1) + (z_upto a + 1) = 100 by omega] at e2
    rw [e2, show 100 - (z_upto a + 1) = (98 - z_upto a) + 1 by omega, f_X10_goesTo_L45]
    rw [q_gdT (r_iE (by omega) (by omega)), q_gdT ha, if_pos (by omega), q_gdT (Or.inr rfl)]
  · have k8 : k ≤ 8 := by omega
    obtain ⟨J, e1, U1, H1, g1⟩ := m_steps (K := fun w30 w31 I32 => q_gd (w30 = 0 ∨ w30 = 1) (some (w30, I32))) hS hB L2 H2 ha k (by omega) (by omega) k2
    obtain ⟨o1, o2, o3⟩ := z_hsO hO hDk k
    obtain ⟨J2, q2, U2', g2⟩ := m_joins hS hB (L2.u U1) H1 o1 o2 o3
    rw [if_pos k3] at q2
    have est : z_hs (z_cc A z_t) (z_H0 A) (z_upto a) = z_hs (z_cc A z_t) (z_H0 A) k := by
      have := z_hsStay k3 (z_upto a - k)
      rwa [show k + (z_upto a - k) = z_upto a by omega] at this
    rw [est, if_pos k3]
    refine ⟨J2, ?_, (T3.tr U1.t).tr U2'.t, fun q => absurd k3 q⟩
    have e2 := e1 (100 - k)
    rw [show 100 - k + k = 100 by omega] at e2
    rw [e2, show 100 - k = (98 - k) + 1 + 1 by omega, f_X10_goesTo_L45]
    simp only [k_171 hS]
    rw [q_gdT (r_iE (by omega) (by omega)), q_gdT ha, if_neg (by omega), q_gdT (r_iE (by omega) (by omega)), if_neg (by omega), q_gdT trivial, q_bd2E q2, f_X10_goesTo_L45]
    rw [q_gdT (r_iE (by omega) (by omega)), q_gdT ha]
    by_cases e : a < (k : Int) + 1
    · rw [if_pos e, q_gdT (Or.inl rfl)]
    · rw [if_neg e, q_gdT (r_iE (by omega) (by omega)), if_pos rfl, q_gdT (Or.inl rfl)]
theorem h_joinedGroups {x : Nat} {S : q_S} {R : q_HR} {I : q_HI} {A : q_A} {a : Int} (hS : w_Sh x S R) (hB : z_B A) (hD : w_D x I A) (ha : r_i a) : ∃ I', f_X10_joinedGroups S R I (x + 171) a = some (o_joined A a, I') ∧ w_T x I I' := by
  unfold f_X10_joinedGroups o_joined
  simp only [k_171 hS, q_ltE]
  by_cases c : 0 ≤ a
  · simp only [if_pos c]
    obtain ⟨J, q1, T1, g1⟩ := m_goesTo hS hB hD.z ha c
    refine ⟨J, ?_, w_T.z.tr T1⟩
    by_cases e : z_jb A z_t (z_upto a) = -1
    · rw [if_pos e] at q1 ⊢
      simp (disch := (first | trivial | assumption | omega | (refine r_iE ?_ ?_ <;> omega) | (refine r_lE ?_ ?_ <;> omega) | fail)) only [↓q_gdT, ↓q_ltE, ↓if_pos, ↓if_neg, ↓q_bd2E q1]
    · rw [if_neg e] at q1 ⊢
      simp (disch := (first | trivial | assumption | omega | (refine r_iE ?_ ?_ <;> omega) | (refine r_lE ?_ ?_ <;> omega) | fail)) only [↓q_gdT, ↓q_ltE, ↓if_pos, ↓if_neg, ↓q_bd2E q1, (g1 e).1]
  · simp only [if_neg c]
    refine ⟨q_up I (x + 171) 0 0, ?_, w_T.z⟩
    simp (disch := (first | trivial | assumption | omega | (refine r_iE ?_ ?_ <;> omega) | (refine r_lE ?_ ?_ <;> omega) | fail)) only [↓q_gdT, ↓q_ltE, ↓if_pos, ↓if_neg]
theorem h_joinDistance {x : Nat} {S : q_S} {R : q_HR} {I : q_HI} {A : q_A} {a : Int} (hS : w_Sh x S R) (hB : z_B A) (hD : w_D x I A) (ha : r_i a) : ∃ I', f_X10_joinDistance S R I (x + 171) a = some (o_joinDist A a, I') ∧ w_T x I I' := by
  unfold f_X10_joinDistance o_joinDist
  simp only [k_171 hS, q_ltE]
  by_cases c : 0 ≤ a
  · simp only [if_pos c]
    obtain ⟨J, q1, T1, g1⟩ := m_goesTo hS hB hD.z ha c
    refine ⟨J, ?_, w_T.z.tr T1⟩
    by_cases e : z_jb A z_t (z_upto a) = -1
    · rw [if_pos e] at q1 ⊢
      simp (disch := (first | trivial | assumption | omega | (refine r_iE ?_ ?_ <;> omega) | (refine r_lE ?_ ?_ <;> omega) | fail)) only [↓q_gdT, ↓q_ltE, ↓if_pos, ↓if_neg, ↓q_bd2E q1]
    · rw [if_neg e] at q1 ⊢
      simp (disch := (first | trivial | assumption | omega | (refine r_iE ?_ ?_ <;> omega) | (refine r_lE ?_ ?_ <;> omega) | fail)) only [↓q_gdT, ↓q_ltE, ↓if_pos, ↓if_neg, ↓q_bd2E q1, (g1 e).2]
  · simp only [if_neg c]
    refine ⟨q_up I (x + 171) 0 0, ?_, w_T.z⟩
    simp (disch := (first | trivial | assumption | omega | (refine r_iE ?_ ?_ <;> omega) | (refine r_lE ?_ ?_ <;> omega) | fail)) only [↓q_gdT, ↓q_ltE, ↓if_pos, ↓if_neg]
