/-! CONSTRUCTORS: both made -/
theorem z_gf8 : ∀ q ∈ z_gf 8, q.1 = 0 → q.2.1 = 8 → q.2.2 = 48 := by decide +kernel
theorem w_cs.cur {x n : Nat} {S : q_S} {R : q_HR} {I I' : q_HI} {l : q_L} {fs : q_Fs} (h : w_cs x S R I l n fs) (hf : ∀ q ∈ fs, q.1 = 0 → q.2.1 = 8 → q.2.2 = 48) (hI : ∀ a, x + n ≤ a → ∀ j, I' a j = 0) : w_cs x S (q_up R x 8 (x + 48)) I' l n fs := by
  obtain ⟨h1, h2, h3, h4, h5, h6, h7⟩ := h
  refine ⟨h1, h2, h3, h4, fun q hq => ?_, h6, hI⟩
  unfold q_up
  by_cases e : x + q.1 = x ∧ q.2.1 = 8
  · rw [if_pos e, hf q hq (by omega) e.2]
  · rw [if_neg e]
    exact h5 q hq
theorem ct_X9 {x : Nat} {S : q_S} {R : q_HR} (A : q_A) (h : w_cs x S R z_I0 [(10, 0)] 1 []) : ∃ o, f_X9_init S R z_I0 x = some o ∧ (w_cs x o.1 o.2.1 o.2.2 (z_gl 8) 171 (z_gf 8) ∧ ∀ S', w_C x S' o.2.1 o.2.2 (z_re A 2)) := by
  unfold f_X9_init
  refine p_new h 1 0 fun S1 R1 h1 e1 => ?_
  rw [h.nx]
  refine p_bd3 (ct_X0 h1) fun S2 R2 I2 h2 => ?_
  obtain ⟨h2, rfl⟩ := h2
  dsimp only at h2
  refine p_gd (h2.k (d := 0) (by decide)) (p_gd (h2.k (d := 1) (by decide)) ?_)
  refine p_put (p := 0) h2 (by decide) (by decide) fun R3 h3 => ?_
  refine p_new h3 2 0 fun S4 R4 h4 e4 => ?_
  rw [h2.nx]
  refine p_bd3 (ct_X1 h4) fun S5 R5 I5 h5 => ?_
  obtain ⟨h5, rfl⟩ := h5
  dsimp only at h5
  refine p_gd (h5.k (d := 0) (by decide)) (p_gd (h5.k (d := 9) (by decide)) ?_)
  refine p_put (p := 0) h5 (by decide) (by decide) fun R6 h6 => ?_
  refine p_new h6 7 0 fun S7 R7 h7 e7 => ?_
  rw [h5.nx]
  refine p_bd3 (ct_X6 h7) fun S8 R8 I8 h8 => ?_
  obtain ⟨h8, rfl⟩ := h8
  dsimp only at h8
  refine p_gd (h8.k (d := 0) (by decide)) (p_gd (h8.k (d := 29) (by decide)) ?_)
  refine p_put (p := 0) h8 (by decide) (by decide) fun R9 h9 => ?_
  refine p_new h9 15 8 fun S10 R10 h10 e10 => ?_
  rw [h8.nx]
  refine p_gd (h10.k (d := 0) (by decide)) (p_gd (h10.k (d := 32) (by decide)) ?_)
  refine p_put (p := 0) h10 (by decide) (by decide) fun R11 h11 => ?_
  refine p_new h11 8 0 fun S12 R12 h12 e12 => ?_
  rw [e10]
  refine p_bd3 (ct_X7 h12) fun S13 R13 I13 h13 => ?_
  obtain ⟨h13, rfl⟩ := h13
  dsimp only at h13
  refine p_gd (h13.k (d := 0) (by decide)) (p_gd (h13.k (d := 33) (by decide)) ?_)
  refine p_put (p := 0) h13 (by decide) (by decide) fun R14 h14 => ?_
  refine p_new h14 5 0 fun S15 R15 h15 e15 => ?_
  rw [h13.nx]
  refine p_bd3 (ct_X4 h15) fun S16 R16 I16 h16 => ?_
  obtain ⟨h16, rfl⟩ := h16
  dsimp only at h16
  refine p_gd (h16.k (d := 0) (by decide)) (p_gd (h16.k (d := 37) (by decide)) ?_)
  refine p_put (p := 0) h16 (by decide) (by decide) fun R17 h17 => ?_
  refine p_new h17 6 0 fun S18 R18 h18 e18 => ?_
  rw [h16.nx]
  refine p_bd3 (ct_X5 (p := 48) h18 (by decide) rfl (by decide)) fun S19 R19 I19 h19 => ?_
  obtain ⟨h19, rfl⟩ := h19
  dsimp only at h19
  refine p_gd (h19.k (d := 0) (by decide)) (p_gd (h19.k (d := 48) (by decide)) ?_)
  refine p_put (p := 0) h19 (by decide) (by decide) fun R20 h20 => ?_
  refine p_new h20 12 5 fun S21 R21 h21 e21 => ?_
  rw [h19.nx]
  refine p_gd (h21.k (d := 0) (by decide)) (p_gd (h21.k (d := 50) (by decide)) ?_)
  refine p_put (p := 0) h21 (by decide) (by decide) fun R22 h22 => ?_
  have r6 : R22 x 6 = x + 48 := h22.r (p := 0) (j := 6) (v := 48) (by decide)
  rw [r6]
  refine p_gd (h22.k (d := 48) (by decide)) ?_
  refine p_put (p := 0) h22 (by decide) (by decide) fun R23 h23 => ?_
  refine ct_groups (fun S24 R24 h24 => ?_) 8 0 S21 R23 rfl h23
  have k0 : S24.1 x = 10 := (h24.k (d := 0) (by decide)).trans (congrArg Prod.fst (z_gl0 8 (by decide)).1)
  obtain ⟨I', q1, c1, f1⟩ := ct_restart A h24 (v := 2) (by decide)
  refine ⟨(S24, q_up R24 x 8 (x + 48), I'), ?_, h24.cur z_gf8 (fun a ha j => by show I' a j = 0; rw [f1 a ha]; rfl), c1⟩
  rw [q_gdT k0, q_bd2E q1]
def z_LM : q_L := z_gl 8 ++ [(11, 0)] ++ [(12, 5)] ++ [(12, 522)] ++ [(12, 10)] ++ [(12, 8)] ++ [(12, 435)] ++ [(12, 5)] ++ [(13, 5)] ++ [(13, 5)] ++ [(12, 64)] ++ [(13, 64)] ++ [(12, 8)]
def z_FM : q_Fs := [(171, 25, 182), (171, 23, 181), (171, 22, 180), (171, 21, 179), (171, 20, 178), (171, 17, 177), (171, 16, 176), (171, 13, 175), (171, 12, 174), (171, 11, 173), (171, 10, 172)] ++ z_gf 8
theorem z_LMk : ∀ d, d < 183 → (z_LM.getD d (0, 0)).1 = w_k d ∧ (z_LM.getD d (0, 0)).2 = w_n d := by decide +kernel
theorem z_FMa : ∀ q ∈ w_rA, q ∈ z_FM := by decide +kernel
theorem z_FMg : ∀ i, i < 8 → ∀ q ∈ w_rG, (51 + 15 * i + q.1, q.2.1, 51 + 15 * i + q.2.2) ∈ z_FM := by decide +kernel
theorem z_FM1 : ∀ j, j < 10 → (16, j, 17 + j) ∈ z_FM := by decide +kernel
theorem z_FM2 : ∀ j, j < 8 → (32, j, 51 + 15 * j) ∈ z_FM ∧ (38, j, 39 + j) ∈ z_FM := by decide +kernel
theorem z_FM3 : ∀ i, i < 8 → ∀ j, j < 8 → (51 + 15 * i + 5, j, 51 + 15 * i + 6 + j) ∈ z_FM := by decide +kernel
theorem w_cs.sh {x : Nat} {S : q_S} {R : q_HR} {I : q_HI} (h : w_cs x S R I z_LM 183 z_FM) (hx : 0 < x) : w_Sh x S R := by
  refine ⟨fun d hd => ?_, fun q hq => ?_, fun i hi q hq => ?_, fun j hj => ?_, fun j hj => ?_, fun j hj => ?_, fun i hi j hj => ?_, by rw [h.nx]; omega, hx⟩
  · rw [h.k hd, h.m hd]
    exact z_LMk d hd
  · exact h.r (p := q.1) (j := q.2.1) (v := q.2.2) (z_FMa q hq)
  · have := h.r (z_FMg i hi q hq)
    rw [show x + 51 + 15 * i + q.1 = x + (51 + 15 * i + q.1) by omega, this]
    omega
  · rw [h.r (z_FM1 j hj)]
    omega
  · rw [h.r (z_FM2 j hj).1]
    omega
  · rw [h.r (z_FM2 j hj).2]
    omega
  · have := h.r (z_FM3 i hi j hj)
    rw [show x + 51 + 15 * i + 5 = x + (51 + 15 * i + 5) by omega, this]
    omega
theorem z_Mf : ∀ q ∈ z_gf 8, q.1 ≠ 171 := by decide +kernel
theorem z_M8 : (0, 8, 48) ∈ z_FM := by decide +kernel
theorem ct_X10 {x : Nat} {S : q_S} {R : q_HR} {I : q_HI} (hx : 0 < x) (h : w_cs x S R I (z_gl 8 ++ [(11, 0)]) 172 (z_gf 8)) (hI : ∀ a, x + 171 ≤ a → ∀ j, I a j = 0) : ∃ o, f_X10_init S R I (x + 171) = some o ∧ (w_Sh x o.1 o.2.1 ∧ w_zz o.1 ∧ o.1.2.2 = x + 183 ∧ o.2.1 x 8 = x + 48 ∧ w_D x o.2.2 (z_re (fun _ _ => 0) 2) ∧ w_mc x I o.2.2) := by
  have N : ∀ {j : Nat} {fs : q_Fs}, (∀ q ∈ fs, q.1 = 171 → q.2.1 < j) → ∀ q ∈ fs ++ z_gf 8, ¬ (q.1 = 171 ∧ q.2.1 = j) := fun {j fs} hf q hq => by
    rcases List.mem_append.mp hq with hq | hq
    · exact fun e => by have := hf q hq e.1; omega
    · exact fun e => z_Mf q hq e.1
  have kM : ∀ {S1 : q_S} {R1 : q_HR} {l : q_L} {n : Nat} {fs : q_Fs}, w_cs x S1 R1 I l n fs → ∀ d, d < n → S1.1 (x + d) = (l.getD d (0, 0)).1 := fun h d hd => h.k hd
  have l0 : (z_gl 8).length = 171 := by decide +kernel
  unfold f_X10_init
  refine p_new h 12 5 fun S1 R1 h1 e1 => ?_
  rw [h.nx]
  refine p_gd ((kM h1 171 (by decide)).trans (by decide +kernel)) (p_gd ((kM h1 172 (by decide)).trans (by decide +kernel)) ?_)
  refine p_put h1 (by decide) (N (fs := []) (by decide)) fun R2 h2 => ?_
  refine p_new h2 12 522 fun S3 R3 h3 e3 => ?_
  rw [e1]
  refine p_gd ((kM h3 171 (by decide)).trans (by decide +kernel)) (p_gd ((kM h3 173 (by decide)).trans (by decide +kernel)) ?_)
  refine p_put h3 (by decide) (N (fs := [(171, 10, 172)]) (by decide)) fun R4 h4 => ?_
  refine p_new h4 12 10 fun S5 R5 h5 e5 => ?_
  rw [e3]
  refine p_gd ((kM h5 171 (by decide)).trans (by decide +kernel)) (p_gd ((kM h5 174 (by decide)).trans (by decide +kernel)) ?_)
  refine p_put h5 (by decide) (N (fs := [(171, 11, 173), (171, 10, 172)]) (by decide)) fun R6 h6 => ?_
  refine p_new h6 12 8 fun S7 R7 h7 e7 => ?_
  rw [e5]
  refine p_gd ((kM h7 171 (by decide)).trans (by decide +kernel)) (p_gd ((kM h7 175 (by decide)).trans (by decide +kernel)) ?_)
  refine p_put h7 (by decide) (N (fs := [(171, 12, 174), (171, 11, 173), (171, 10, 172)]) (by decide)) fun R8 h8 => ?_
  refine p_new h8 12 435 fun S9 R9 h9 e9 => ?_
  rw [e7]
  refine p_gd ((kM h9 171 (by decide)).trans (by decide +kernel)) (p_gd ((kM h9 176 (by decide)).trans (by decide +kernel)) ?_)
  refine p_put h9 (by decide) (N (fs := [(171, 13, 175), (171, 12, 174), (171, 11, 173), (171, 10, 172)]) (by decide)) fun R10 h10 => ?_
  refine p_new h10 12 5 fun S11 R11 h11 e11 => ?_
  rw [e9]
  refine p_gd ((kM h11 171 (by decide)).trans (by decide +kernel)) (p_gd ((kM h11 177 (by decide)).trans (by decide +kernel)) ?_)
  refine p_put h11 (by decide) (N (fs := [(171, 16, 176), (171, 13, 175), (171, 12, 174), (171, 11, 173), (171, 10, 172)]) (by decide)) fun R12 h12 => ?_
  refine p_new h12 13 5 fun S13 R13 h13 e13 => ?_
  rw [e11]
  refine p_gd ((kM h13 171 (by decide)).trans (by decide +kernel)) (p_gd ((kM h13 178 (by decide)).trans (by decide +kernel)) ?_)
  refine p_put h13 (by decide) (N (fs := [(171, 17, 177), (171, 16, 176), (171, 13, 175), (171, 12, 174), (171, 11, 173), (171, 10, 172)]) (by decide)) fun R14 h14 => ?_
  refine p_new h14 13 5 fun S15 R15 h15 e15 => ?_
  rw [e13]
  refine p_gd ((kM h15 171 (by decide)).trans (by decide +kernel)) (p_gd ((kM h15 179 (by decide)).trans (by decide +kernel)) ?_)
  refine p_put h15 (by decide) (N (fs := [(171, 20, 178), (171, 17, 177), (171, 16, 176), (171, 13, 175), (171, 12, 174), (171, 11, 173), (171, 10, 172)]) (by decide)) fun R16 h16 => ?_
  refine p_new h16 12 64 fun S17 R17 h17 e17 => ?_
  rw [e15]
  refine p_gd ((kM h17 171 (by decide)).trans (by decide +kernel)) (p_gd ((kM h17 180 (by decide)).trans (by decide +kernel)) ?_)
  refine p_put h17 (by decide) (N (fs := [(171, 21, 179), (171, 20, 178), (171, 17, 177), (171, 16, 176), (171, 13, 175), (171, 12, 174), (171, 11, 173), (171, 10, 172)]) (by decide)) fun R18 h18 => ?_
  refine p_new h18 13 64 fun S19 R19 h19 e19 => ?_
  rw [e17]
  refine p_gd ((kM h19 171 (by decide)).trans (by decide +kernel)) (p_gd ((kM h19 181 (by decide)).trans (by decide +kernel)) ?_)
  refine p_put h19 (by decide) (N (fs := [(171, 22, 180), (171, 21, 179), (171, 20, 178), (171, 17, 177), (171, 16, 176), (171, 13, 175), (171, 12, 174), (171, 11, 173), (171, 10, 172)]) (by decide)) fun R20 h20 => ?_
  refine p_new h20 12 8 fun S21 R21 h21 e21 => ?_
  rw [e19]
  refine p_gd ((kM h21 171 (by decide)).trans (by decide +kernel)) (p_gd ((kM h21 182 (by decide)).trans (by decide +kernel)) ?_)
  refine p_put h21 (by decide) (N (fs := [(171, 23, 181), (171, 22, 180), (171, 21, 179), (171, 20, 178), (171, 17, 177), (171, 16, 176), (171, 13, 175), (171, 12, 174), (171, 11, 173), (171, 10, 172)]) (by decide)) fun R22 h22 => ?_
  have hf : w_cs x S21 R22 I z_LM 183 z_FM := h22
  have hS := hf.sh hx
  obtain ⟨J, q1, D1, F1⟩ := m_starts (I := I) (A := fun _ _ => 0) (v := 2) hS (fun d h1 h2 j => hI _ (by omega) j)
  refine ⟨(S21, R22, J), by rw [q_bdE q1], hS, hf.2.2.2.1, hf.nx, hf.r (p := 0) z_M8, D1, F1⟩
theorem w_C.re' {x : Nat} {S S' : q_S} {R R' : q_HR} {I I' : q_HI} {A : q_A} {v : Int} (h : w_C x S R I (z_re A v)) (hB : z_B (z_re A v)) (hr : R' x 8 = x + 48) (hc : w_mc x I I') : w_C x S' R' I' (z_re A v) := by
  obtain ⟨s, bl, n, ca, re, sa, cu, bk, t1, t2⟩ := h.mc hB hc
  refine ⟨s, bl, n, fun k hk => absurd hk (Nat.not_lt_zero k), fun k hk => absurd hk (Nat.not_lt_zero k), fun c k hc => absurd hc (Nat.not_lt_zero c), ?_, bk, t1, t2⟩
  have e7 : z_re A v 0 7 = 0 := rfl
  rw [e7, if_neg (by omega)]
  exact hr
