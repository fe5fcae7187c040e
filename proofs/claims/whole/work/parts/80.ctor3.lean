/-! CONSTRUCTORS: the class, the reference -/
def z_F51 : q_Fs := (0, 8, 48) :: (0, 7, 50) :: (0, 6, 48) :: (48, 1, 49) :: (0, 5, 37) :: z_F48
def z_L51 : q_L := z_L48 ++ [(6, 0)] ++ [(12, 5)] ++ [(12, 5)]
def z_gl : Nat → q_L
  | 0 => z_L51
  | i + 1 => z_gl i ++ [(3, 0)] ++ z_gL
def z_gf : Nat → q_Fs
  | 0 => z_F51
  | i + 1 => (32, i, 51 + 15 * i) :: z_gF (51 + 15 * i) (51 + 15 * i + 1) (z_gf i)
theorem z_gl0 : ∀ i, i < 9 → (z_gl i).getD 0 (0, 0) = (10, 0) ∧ (z_gl i).getD 32 (0, 0) = (15, 8) := by decide +kernel
theorem z_gf0 : ∀ i, i < 9 → (0, 3, 32) ∈ z_gf i := by decide +kernel
theorem z_gf1 : ∀ i, i < 8 → ∀ q ∈ z_gF (51 + 15 * i) (51 + 15 * i + 1) (z_gf i), ¬ (q.1 = 32 ∧ q.2.1 = i) := by decide +kernel
theorem ct_groups {x : Nat} {K : Int → q_S → q_HR → q_HI → Option q_O} {Q : q_O → Prop} (hK : ∀ S R, w_cs x S R z_I0 (z_gl 8) 171 (z_gf 8) → ∃ o, K 8 S R z_I0 = some o ∧ Q o) : ∀ (d i : Nat) (S : q_S) (R : q_HR), i + d = 8 → w_cs x S R z_I0 (z_gl i) (51 + 15 * i) (z_gf i) → ∃ o, f_X9_init_L102 x K (d + 1) (i : Int) S R z_I0 = some o ∧ Q o := by
  intro d
  induction d with
  | zero =>
    intro i S R hi h
    have e : i = 8 := by omega
    subst e
    have k0 : S.1 x = 10 := (h.k (d := 0) (by decide)).trans (congrArg Prod.fst (z_gl0 8 (by decide)).1)
    have k32 : S.1 (x + 32) = 15 := (h.k (d := 32) (by decide)).trans (congrArg Prod.fst (z_gl0 8 (by decide)).2)
    have m32 : S.2.1 (x + 32) = 8 := (h.m (d := 32) (by decide)).trans (congrArg Prod.snd (z_gl0 8 (by decide)).2)
    have r03 : R x 3 = x + 32 := h.r (p := 0) (j := 3) (v := 32) (z_gf0 8 (by decide))
    obtain ⟨o, e1, e2⟩ := hK S R h
    refine ⟨o, ?_, e2⟩
    rw [f_X9_init_L102]
    simp only [k0, r03, k32, m32]
    simp (disch := (first | trivial | assumption | omega | (refine r_iE ?_ ?_ <;> omega) | (refine r_lE ?_ ?_ <;> omega) | fail)) only [↓q_gdT, ↓q_ltE, ↓if_pos, ↓if_neg]
    exact e1
  | succ d ih =>
    intro i S R hi h
    have k0 : S.1 x = 10 := (h.k (d := 0) (by omega)).trans (congrArg Prod.fst (z_gl0 i (by omega)).1)
    have k32 : S.1 (x + 32) = 15 := (h.k (d := 32) (by omega)).trans (congrArg Prod.fst (z_gl0 i (by omega)).2)
    have m32 : S.2.1 (x + 32) = 8 := (h.m (d := 32) (by omega)).trans (congrArg Prod.snd (z_gl0 i (by omega)).2)
    have r03 : R x 3 = x + 32 := h.r (p := 0) (j := 3) (v := 32) (z_gf0 i (by omega))
    have hl := h.2.2.1
    have h6 := h.2.2.2.2.2.1
    rw [f_X9_init_L102]
    simp only [k0, r03, k32, m32]
    rw [q_gdT trivial, q_gdT trivial, q_gdT (r_iE (by omega) (by omega)), q_gdT (r_iE (by omega) (by omega)), if_neg (by omega)]
    refine p_new h 3 0 fun S1 R1 h1 e1 => ?_
    rw [h.nx]
    refine p_bd3 (ct_X2 (p := 51 + 15 * i) h1 (by omega) (by rw [show 51 + 15 * i = (z_gl i).length + 0 by omega, z_gdB]; rfl) (fun q hq => by have := h6 q hq; omega)) fun S2 R2 I2 h2 => ?_
    obtain ⟨h2, rfl⟩ := h2
    dsimp only at h2
    have e15 : 51 + 15 * i + 1 + 14 = 51 + 15 * (i + 1) := by omega
    rw [e15] at h2
    have k2 : S2.1 (x + 32) = 15 := (h2.k (d := 32) (by omega)).trans (congrArg Prod.fst (z_gl0 (i + 1) (by omega)).2)
    have m2 : S2.2.1 (x + 32) = 8 := (h2.m (d := 32) (by omega)).trans (congrArg Prod.snd (z_gl0 (i + 1) (by omega)).2)
    have k3 : S2.1 (x + (51 + 15 * i)) = 3 := by
      have l1 : (z_gl i ++ [(3, 0)]).length = 51 + 15 * i + 1 := h1.2.2.1
      rw [h2.k (by omega), z_gdA (by omega), show 51 + 15 * i = (z_gl i).length + 0 by omega, z_gdB]
      rfl
    simp only [k2, m2, k3, Int.toNat_natCast]
    rw [q_gdT trivial, q_gdT (by omega), q_gdT trivial]
    refine p_put h2 (by omega) (z_gf1 i (by omega)) fun R3 h3 => ?_
    have := ih (i + 1) S2 R3 (by omega) h3
    rw [show (((i + 1 : Nat)) : Int) = (i : Int) + 1 by omega] at this
    exact this
theorem z_fin0 : ∀ i, i < 8 → ((z_gl 8).getD (51 + 15 * i) (0, 0)).1 = 3 ∧ ((z_gl 8).getD (51 + 15 * i + 1) (0, 0)).1 = 9 ∧ (32, i, 51 + 15 * i) ∈ z_gf 8 ∧ (51 + 15 * i, 0, 51 + 15 * i + 1) ∈ z_gf 8 := by decide +kernel
theorem z_fin1 : (0, 0, 1) ∈ z_gf 8 ∧ (1, 0, 2) ∈ z_gf 8 ∧ (1, 1, 3) ∈ z_gf 8 ∧ (1, 2, 7) ∈ z_gf 8 ∧ (1, 3, 8) ∈ z_gf 8 ∧ (0, 1, 9) ∈ z_gf 8 ∧ (9, 0, 10) ∈ z_gf 8 ∧ (0, 3, 32) ∈ z_gf 8 ∧ (0, 6, 48) ∈ z_gf 8 := ⟨by decide +kernel, by decide +kernel, by decide +kernel, by decide +kernel, by decide +kernel, by decide +kernel, by decide +kernel, by decide +kernel, by decide +kernel⟩
theorem z_fin2 : ((z_gl 8).getD 0 (0, 0)).1 = 10 ∧ ((z_gl 8).getD 1 (0, 0)).1 = 1 ∧ (z_gl 8).getD 2 (0, 0) = (12, 5) ∧ ((z_gl 8).getD 3 (0, 0)).1 = 9 ∧ ((z_gl 8).getD 7 (0, 0)).1 = 4 ∧ (z_gl 8).getD 8 (0, 0) = (13, 5) ∧ ((z_gl 8).getD 9 (0, 0)).1 = 2 ∧ ((z_gl 8).getD 10 (0, 0)).1 = 9 ∧ (z_gl 8).getD 32 (0, 0) = (15, 8) ∧ ((z_gl 8).getD 48 (0, 0)).1 = 6 := by decide +kernel
theorem ct_fit {x : Nat} {S : q_S} {R : q_HR} {I : q_HI} (h : w_cs x S R z_I0 (z_gl 8) 171 (z_gf 8)) (hc : I (x + 3) 2 = 0) : ∃ I', f_X0_fit S R I (x + 1) = some I' ∧ w_Ff x I I' ∧ (∀ s, s < 5 → I' (x + 8) s = 0) ∧ I' (x + 1) 4 = 0 := by
  obtain ⟨t0, t1, t2, t3, t7, t8, t9, t10, t32, t48⟩ := z_fin2
  obtain ⟨g1, g2, g3, g4, g5, g6, g7, g8, g9⟩ := z_fin1
  have k1 : S.1 (x + 1) = 1 := (h.k (d := 1) (by decide)).trans t1
  have k3 : S.1 (x + 3) = 9 := (h.k (d := 3) (by decide)).trans t3
  have k7 : S.1 (x + 7) = 4 := (h.k (d := 7) (by decide)).trans t7
  have k8 : S.1 (x + 8) = 13 := (h.k (d := 8) (by decide)).trans (congrArg Prod.fst t8)
  have n8 : S.2.1 (x + 8) = 5 := (h.m (d := 8) (by decide)).trans (congrArg Prod.snd t8)
  have r1 : R (x + 1) 1 = x + 3 := h.r g3
  have r2 : R (x + 1) 2 = x + 7 := h.r g4
  have r3 : R (x + 1) 3 = x + 8 := h.r g5
  unfold f_X0_fit
  have key := z_loopR (fun n (u : Nat × q_HI) => f_X0_fit_L2 S R (x + 1) (fun w34 I35 => some I35) n ((u.1 : Nat) : Int) u.2) (fun i u => u.1 = i ∧ w_Ff x I u.2 ∧ (∀ s, s < i → u.2 (x + 8) s = 0) ∧ (0 < i → u.2 (x + 1) 4 = 0)) 5 (fun u => some u.2) ?_ ?_ 100 0 (0, I) (by omega) (by omega) ⟨rfl, fun _ _ _ _ _ => rfl, fun s hs => absurd hs (Nat.not_lt_zero s), fun q => absurd q (by omega)⟩
  · obtain ⟨⟨i, J⟩, ⟨_, f, g, g'⟩, e⟩ := key
    exact ⟨J, e, f, g, g' (by omega)⟩
  · rintro n i ⟨i', J⟩ hi ⟨rfl, f, g, g'⟩
    dsimp only at f g g' hi ⊢
    have q1 := e_clear3 (S := S) (R := R) (I := J) k7
    generalize hJ1 : z_row J (x + 7) (z_5 0 0 0 0 0) 5 = J1 at q1
    have z7 : J1 (x + 7) 0 = 0 ∧ J1 (x + 7) 1 = 0 := by rw [← hJ1]; exact ⟨z_row_at _ (by decide), z_row_at _ (by decide)⟩
    have c3 : J1 (x + 3) 2 = 0 := by rw [← hJ1, z_row_ne _ _ (by omega), f _ _ (by omega) (by omega) (by omega)]; exact hc
    have q2 : f_X3_cross S R J1 (x + 7) = some 0 := by rw [e_cross k7, z7.1, z7.2]; simp
    have q3 : f_X3_square S R (q_up J1 (x + 8) i' 0) (x + 7) = some 0 := by rw [e_square k7, q_up_ne _ _ _ (by omega), z7.1, z7.2]; simp
    refine ⟨(i' + 1, q_up (q_up J1 (x + 8) i' 0) (x + 1) 4 0), ⟨rfl, fun a j h1 h2 h3 => ?_, fun s hs => ?_, fun _ => q_up_at⟩, ?_⟩
    · show q_up (q_up J1 (x + 8) i' 0) (x + 1) 4 0 a j = _
      unfold q_up
      rw [if_neg h3, if_neg (fun q => h2 q.1), ← hJ1, z_row_ne _ _ h1]
      exact f a j h1 h2 h3
    · show q_up (q_up J1 (x + 8) i' 0) (x + 1) 4 0 (x + 8) s = 0
      rw [q_up_ne _ _ _ (by omega)]
      by_cases e : s = i'
      · rw [e, q_up_at]
      · rw [q_up_nj e, ← hJ1, z_row_ne _ _ (by omega)]
        exact g s (by omega)
    · rw [f_X0_fit_L2]
      simp only [k1, r2, k7, r3, k8, n8, Int.toNat_natCast]
      rw [q_gdT (r_iE (by omega) (by omega)), if_neg (by omega), q_gdT trivial, q_gdT trivial, q_bdE q1]
      rw [show (100 : Nat) = 99 + 1 from rfl, f_X0_fit_L16]
      simp only [k1, r1, k3, c3]
      simp (disch := (first | trivial | assumption | omega | (refine r_iE ?_ ?_ <;> omega) | (refine r_lE ?_ ?_ <;> omega) | fail)) only [↓q_gdT, ↓q_ltE, ↓if_pos, ↓if_neg, ↓q_bdE q2, ↓q_bdE q3]
      rfl
  · rintro n ⟨i, J⟩ ⟨e, _⟩
    dsimp only at e ⊢
    subst e
    rw [f_X0_fit_L2]
    simp (disch := (first | trivial | assumption | omega | (refine r_iE ?_ ?_ <;> omega) | (refine r_lE ?_ ?_ <;> omega) | fail)) only [↓q_gdT, ↓q_ltE, ↓if_pos, ↓if_neg]
theorem ct_restart {x : Nat} {S : q_S} {R : q_HR} {v : Int} (A : q_A) (h : w_cs x S R z_I0 (z_gl 8) 171 (z_gf 8)) (hv : 2 ≤ v ∧ v ≤ 5) : ∃ I', f_X9_restart S R z_I0 x v = some (q_up R x 8 (x + 48), I') ∧ (∀ S', w_C x S' (q_up R x 8 (x + 48)) I' (z_re A v)) ∧ w_ch x z_I0 I' := by
  obtain ⟨t0, t1, t2, t3, t7, t8, t9, t10, t32, t48⟩ := z_fin2
  obtain ⟨g1, g2, g3, g4, g5, g6, g7, g8, g9⟩ := z_fin1
  have k0 : S.1 x = 10 := (h.k (d := 0) (by decide)).trans t0
  have k1 : S.1 (x + 1) = 1 := (h.k (d := 1) (by decide)).trans t1
  have k2 : S.1 (x + 2) = 12 := (h.k (d := 2) (by decide)).trans (congrArg Prod.fst t2)
  have n2 : S.2.1 (x + 2) = 5 := (h.m (d := 2) (by decide)).trans (congrArg Prod.snd t2)
  have k3 : S.1 (x + 3) = 9 := (h.k (d := 3) (by decide)).trans t3
  have k9 : S.1 (x + 9) = 2 := (h.k (d := 9) (by decide)).trans t9
  have k10 : S.1 (x + 10) = 9 := (h.k (d := 10) (by decide)).trans t10
  have k32 : S.1 (x + 32) = 15 := (h.k (d := 32) (by decide)).trans (congrArg Prod.fst t32)
  have n32 : S.2.1 (x + 32) = 8 := (h.m (d := 32) (by decide)).trans (congrArg Prod.snd t32)
  have k48 : S.1 (x + 48) = 6 := (h.k (d := 48) (by decide)).trans t48
  have r00 : R x 0 = x + 1 := h.r (p := 0) g1
  have r10 : R (x + 1) 0 = x + 2 := h.r g2
  have r11 : R (x + 1) 1 = x + 3 := h.r g3
  have r01 : R x 1 = x + 9 := h.r (p := 0) g6
  have r90 : R (x + 9) 0 = x + 10 := h.r g7
  have r03 : R x 3 = x + 32 := h.r (p := 0) g8
  have r06 : R x 6 = x + 48 := h.r (p := 0) g9
  -- the converter
  generalize hJ0 : q_up (q_up (z_row (q_up z_I0 (x + 1) 6 v) (x + 2) (fun _ => 1000) 5) (x + 3) 2 0) (x + 1) 5 1 = J0
  have b2 : ∀ s, s < 5 → J0 (x + 2) s = 1000 := fun s hs => by
    rw [← hJ0, q_up_ne _ _ _ (by omega), q_up_ne _ _ _ (by omega), z_row_at _ hs]
  have b3 : J0 (x + 3) 2 = 0 := by
    rw [← hJ0, q_up_ne _ _ _ (by omega), q_up_at]
  obtain ⟨I2, p1, f1, f2, f3⟩ := ct_fit (I := J0) h b3
  have q1 : f_X0_restart S R z_I0 (x + 1) v = some I2 := by
    have q2 := e_clear8 (S := S) (R := R) (I := z_row (q_up z_I0 (x + 1) 6 v) (x + 2) (fun _ => 1000) 5) k3
    unfold f_X0_restart
    have key := z_loop (fun n i => f_X0_restart_L7 S R (x + 1) (fun w11 I12 => q_gd (S.1 (R (x + 1) 1) = 9) (q_bd (f_X8_clear S R I12 (R (x + 1) 1)) fun I14 => q_lt (q_up I14 (x + 1) 5 1) fun I16 => q_bd (f_X0_fit S R I16 (x + 1)) fun I18 => some I18)) n ((i : Nat) : Int) (z_row (q_up z_I0 (x + 1) 6 v) (x + 2) (fun _ => 1000) i)) 5 (some I2) (fun n i hi => ?_) (fun n => ?_) 100 (by decide)
    · rw [z_row_0] at key
      simp only [k1]
      rw [q_gdT trivial, q_ltE]
      exact key
    · show f_X0_restart_L7 _ _ _ _ (n + 1) _ _ = _
      rw [f_X0_restart_L7]
      simp only [k1, r10, k2, n2]
      simp (disch := (first | trivial | assumption | omega | (refine r_iE ?_ ?_ <;> omega) | (refine r_lE ?_ ?_ <;> omega) | fail)) only [↓q_gdT, ↓q_ltE, ↓if_pos, ↓if_neg]
      rw [Int.toNat_natCast, z_row_up (f := fun _ => 1000)]
      rfl
    · show f_X0_restart_L7 _ _ _ _ (n + 1) _ _ = _
      rw [f_X0_restart_L7]
      simp only [r11, k3]
      simp (disch := (first | trivial | assumption | omega | (refine r_iE ?_ ?_ <;> omega) | (refine r_lE ?_ ?_ <;> omega) | fail)) only [↓q_gdT, ↓q_ltE, ↓if_pos, ↓if_neg, ↓q_bdE q2, hJ0, ↓q_bdE p1]
  have c0 : ∀ a, a ≠ x + 1 → a ≠ x + 2 → a ≠ x + 3 → a ≠ x + 7 → a ≠ x + 8 → I2 a = z_I0 a := fun a h1 h2 h3 h4 h5 => by
    rw [f1.row h4 h5 h1, ← hJ0, q_up_ne _ _ _ h1, q_up_ne _ _ _ h3, z_row_ne _ _ h2, q_up_ne _ _ _ h1]
  have a1 : I2 (x + 1) 6 = v := by rw [f1 _ _ (by omega) (by omega) (by omega), ← hJ0, q_up_nj (by omega), q_up_ne _ _ _ (by omega), z_row_ne _ _ (by omega), q_up_at]
  have a2 : I2 (x + 1) 5 = 1 := by rw [f1 _ _ (by omega) (by omega) (by omega), ← hJ0, q_up_at]
  have a3 : I2 (x + 3) 2 = 0 := by rw [f1 _ _ (by omega) (by omega) (by omega), b3]
  have a4 : ∀ s, s < 5 → I2 (x + 2) s = 1000 := fun s hs => by rw [f1 _ _ (by omega) (by omega) (by omega), b2 s hs]
  have q2 : f_X1_restart S R I2 (x + 9) = some (q_up (q_up I2 (x + 10) 2 0) (x + 9) 7 1) := by
    have q := e_clear8 (S := S) (R := R) (I := I2) k10
    unfold f_X1_restart
    simp only [k9, r90, k10]
    simp (disch := (first | trivial | assumption | omega | (refine r_iE ?_ ?_ <;> omega) | (refine r_lE ?_ ?_ <;> omega) | fail)) only [↓q_gdT, ↓q_ltE, ↓if_pos, ↓if_neg, ↓q_bdE q]
  generalize hJ : q_up (q_up I2 (x + 10) 2 0) (x + 9) 7 1 = J at q2
  generalize hL : q_up (q_up (q_up (q_up (z_clr x J 8) x 10 0) x 9 0) x 11 50) x 12 0 = L
  have fL : ∀ a, a ≠ x → L a = z_clr x J 8 a := fun a h => by
    rw [← hL, q_up_ne _ _ _ h, q_up_ne _ _ _ h, q_up_ne _ _ _ h, q_up_ne _ _ _ h]
  have fJ : ∀ a, a ≠ x + 9 → a ≠ x + 10 → J a = I2 a := fun a h1 h2 => by
    rw [← hJ, q_up_ne _ _ _ h1, q_up_ne _ _ _ h2]
  have fA : ∀ a, a ≠ x → (a < x + 51 ∨ x + 171 ≤ a) → a ≠ x + 9 → a ≠ x + 10 → L a = I2 a := fun a h1 h2 h3 h4 => by
    rw [fL a h1, z_clr_ne (by omega), fJ a h3 h4]
  refine ⟨L, ?_, fun S' => ?_, fun a ha => ?_⟩
  · unfold f_X9_restart
    have key := z_loop (fun n i => f_X9_restart_L17 S R x (fun w18 I19 => q_lt (q_up I19 x 10 0) fun I20 => q_gd (S.1 (R x 6) = 6) (q_lt (q_up R x 8 (R x 6)) fun R23 => q_lt (q_up I20 x 9 0) fun I25 => q_lt (q_up I25 x 11 50) fun I27 => q_lt (q_up I27 x 12 0) fun I29 => some (R23, I29))) n ((i : Nat) : Int) (z_clr x J i)) 8 (some (q_up R x 8 (x + 48), L)) (fun n i hi => ?_) (fun n => ?_) 100 (by decide)
    · have e0 : z_clr x J 0 = J := by
        funext a j
        unfold z_clr
        rw [if_neg (by omega)]
      rw [e0] at key
      simp only [k0, r00, k1, r01, k9]
      simp (disch := (first | trivial | assumption | omega | (refine r_iE ?_ ?_ <;> omega) | (refine r_lE ?_ ?_ <;> omega) | fail)) only [↓q_gdT, ↓q_ltE, ↓if_pos, ↓if_neg, ↓q_bdE q1, ↓q_bdE q2]
      exact key
    · obtain ⟨u1, u2, u3, u4⟩ := z_fin0 i hi
      have kg0 : S.1 (x + (51 + 15 * i)) = 3 := (h.k (by omega)).trans u1
      have kg1 : S.1 (x + (51 + 15 * i + 1)) = 9 := (h.k (by omega)).trans u2
      have rg : R (x + 32) i = x + (51 + 15 * i) := h.r u3
      have rg0 : R (x + (51 + 15 * i)) 0 = x + (51 + 15 * i + 1) := h.r u4
      have q := e_clear8 (S := S) (R := R) (I := z_clr x J i) (a := x + (51 + 15 * i + 1)) kg1
      show f_X9_restart_L17 _ _ _ _ (n + 1) _ _ = _
      rw [f_X9_restart_L17]
      simp only [k0, r03, k32, n32, Int.toNat_natCast, rg, kg0, rg0, kg1]
      simp (disch := (first | trivial | assumption | omega | (refine r_iE ?_ ?_ <;> omega) | (refine r_lE ?_ ?_ <;> omega) | fail)) only [↓q_gdT, ↓q_ltE, ↓if_pos, ↓if_neg, ↓q_bdE q]
      rw [show x + (51 + 15 * i + 1) = x + 51 + 15 * i + 1 by omega, z_clr_up]
      rfl
    · show f_X9_restart_L17 _ _ _ _ (n + 1) _ _ = _
      rw [f_X9_restart_L17]
      simp only [k0, r03, k32, n32, r06, k48]
      simp (disch := (first | trivial | assumption | omega | (refine r_iE ?_ ?_ <;> omega) | (refine r_lE ?_ ?_ <;> omega) | fail)) only [↓q_gdT, ↓q_ltE, ↓if_pos, ↓if_neg, hL]
  · refine ⟨⟨?_, ?_, ?_, ?_, ?_, ?_, ?_, ?_, ?_⟩, fun s hs => ?_, fun c hc => ?_, fun k hk => absurd hk (Nat.not_lt_zero k), fun k hk => absurd hk (Nat.not_lt_zero k), fun c k hc => absurd hc (Nat.not_lt_zero c), ?_, ⟨?_, fun s hs => ?_⟩, fun s hs => ?_, ?_⟩
    · rw [fA _ (by omega) (by omega) (by omega) (by omega)]; exact a1
    · rw [fA _ (by omega) (by omega) (by omega) (by omega)]; exact a2
    · rw [← hL, q_up_nj (by omega), q_up_nj (by omega), q_up_at]; rfl
    · rw [← hL, q_up_nj (by omega), q_up_nj (by omega), q_up_nj (by omega), q_up_at]; rfl
    · rw [← hL, q_up_nj (by omega), q_up_at]; rfl
    · rw [← hL, q_up_at]; rfl
    · rw [fL _ (by omega), z_clr_ne (by omega), ← hJ, q_up_at]; rfl
    · rw [fA _ (by omega) (by omega) (by omega) (by omega)]; exact a3
    · rw [fL _ (by omega), z_clr_ne (by omega), ← hJ, q_up_ne _ _ _ (by omega), q_up_at]; rfl
    · rw [fA _ (by omega) (by omega) (by omega) (by omega), a4 s hs]
      unfold z_re
      rw [if_neg (by omega), if_pos ⟨rfl, hs⟩]
    · rw [if_neg (show ¬ c < z_nk (z_re A v) from Nat.not_lt_zero c), fL _ (by omega)]
      unfold z_clr
      rw [if_pos (by omega)]
    · have e7 : z_re A v 0 7 = 0 := rfl
      rw [e7, if_neg (by omega)]
      unfold q_up
      rw [if_pos ⟨rfl, rfl⟩]
    · rw [fA _ (by omega) (by omega) (by omega) (by omega), c0 _ (by omega) (by omega) (by omega) (by omega) (by omega)]; rfl
    · rw [fA _ (by omega) (by omega) (by omega) (by omega), c0 _ (by omega) (by omega) (by omega) (by omega) (by omega)]; rfl
    · rw [fA _ (by omega) (by omega) (by omega) (by omega), f2 s hs]
      show 0 = 0 * _ - 0 * 0
      simp
    · rw [fA _ (by omega) (by omega) (by omega) (by omega), f3]
      show 0 = 0 * _ - 0 * 0
      simp
  · rw [fA _ (by omega) (by omega) (by omega) (by omega), c0 _ (by omega) (by omega) (by omega) (by omega) (by omega)]
