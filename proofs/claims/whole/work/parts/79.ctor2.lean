/-! CONSTRUCTORS: groups, and the class's parts -/
def z_gL : q_L := [(9, 0)] ++ z_stL 8 ++ ((17, 8) :: List.replicate 8 (12, 5)) ++ [(12, 5)]
def z_gF (p n : Nat) (fs : q_Fs) : q_Fs := (p, 2, n + 1 + 3 + 1 + 8) :: (p, 1, n + 1 + 3) :: (z_rr (n + 1 + 3) 8 ++ ((p, 0, n) :: (z_stF n (n + 1) ++ fs)))
theorem ct_X2 {x n p : Nat} {S : q_S} {R : q_HR} {l : q_L} {fs : q_Fs} (h : w_cs x S R z_I0 l n fs) (hp : p < n) (hk : (l.getD p (0, 0)).1 = 3) (hf : ∀ q ∈ fs, q.1 ≠ p) : ∃ o, f_X2_init S R z_I0 (x + p) = some o ∧ z_ctP x (l ++ z_gL) (n + 14) (z_gF p n fs) o := by
  have hl := h.2.2.1
  have h6 := h.2.2.2.2.2.1
  unfold f_X2_init
  refine p_new h 9 0 fun S1 R1 h1 e1 => ?_
  rw [h.nx]
  refine p_bd3 (ct_X8 (p := n) (cap := 8) h1 (by omega) (by rw [show n = l.length + 0 by omega, z_gdB]; rfl) (fun q hq => by have := h6 q hq; omega) (by omega)) fun S7 R8 I9 h7 => ?_
  obtain ⟨h7, rfl⟩ := h7
  dsimp only at h7
  have l1 : (l ++ [(9, 0)]).length = n + 1 := h1.2.2.1
  have kp7 : S7.1 (x + p) = 3 := by rw [h7.k (by omega), z_gdA (by omega), z_gdA (by omega)]; exact hk
  have kn7 : S7.1 (x + n) = 9 := by
    rw [h7.k (by omega), z_gdA (by omega), show n = l.length + 0 by omega, z_gdB]
    rfl
  refine p_gd kp7 (p_gd kn7 ?_)
  have st : ∀ q ∈ z_stF n (n + 1), q.1 = n ∨ q.1 = n + 2 := fun q hq => by
    simp [z_stF] at hq
    rcases hq with rfl | rfl | rfl
    · exact Or.inl rfl
    · exact Or.inr rfl
    · exact Or.inl rfl
  refine p_put h7 (by omega) (fun q hq => by
    rcases List.mem_append.mp hq with hq | hq
    · have := st q hq
      omega
    · exact fun e => hf q hq e.1) fun R13 h13 => ?_
  refine p_nm h13 8 5 fun S15 R17 h15 e15 => ?_
  have l7 : (l ++ [(9, 0)] ++ z_stL 8).length = n + 1 + 3 := h7.2.2.1
  have l15 := h15.2.2.1
  have kp15 : S15.1 (x + p) = 3 := by rw [h15.k (by omega), z_gdA (by omega), z_gdA (by omega), z_gdA (by omega)]; exact hk
  have kn15 : S15.1 (x + (n + 1 + 3)) = 17 := by
    rw [h15.k (by omega), show n + 1 + 3 = (l ++ [(9, 0)] ++ z_stL 8).length + 0 by omega, z_gdB]
    rfl
  rw [h7.nx]
  refine p_gd kp15 (p_gd kn15 ?_)
  refine p_put h15 (by omega) (fun q hq => by
    rcases List.mem_append.mp hq with hq | hq
    · obtain ⟨a, b, c⟩ := q
      have := z_rrM hq
      show ¬ (a = p ∧ b = 1)
      omega
    rcases List.mem_cons.mp hq with rfl | hq
    · show ¬ (p = p ∧ 0 = 1)
      omega
    rcases List.mem_append.mp hq with hq | hq
    · have := st q hq
      omega
    · exact fun e => hf q hq e.1) fun R23 h23 => ?_
  refine p_new h23 12 5 fun S25 R27 h25 e25 => ?_
  have kp25 : S25.1 (x + p) = 3 := by rw [h25.k (by omega), z_gdA (by omega), z_gdA (by omega), z_gdA (by omega), z_gdA (by omega)]; exact hk
  have kn25 : S25.1 (x + (n + 1 + 3 + 1 + 8)) = 12 := by
    rw [h25.k (by omega), show n + 1 + 3 + 1 + 8 = (l ++ [(9, 0)] ++ z_stL 8 ++ (17, 8) :: List.replicate 8 (12, 5)).length + 0 by omega, z_gdB]
    rfl
  rw [h15.nx]
  refine p_gd kp25 (p_gd kn25 ?_)
  refine p_put h25 (by omega) (fun q hq => by
    rcases List.mem_cons.mp hq with rfl | hq
    · show ¬ (p = p ∧ 1 = 2)
      omega
    rcases List.mem_append.mp hq with hq | hq
    · obtain ⟨a, b, c⟩ := q
      have := z_rrM hq
      show ¬ (a = p ∧ b = 2)
      omega
    rcases List.mem_cons.mp hq with rfl | hq
    · show ¬ (p = p ∧ 0 = 2)
      omega
    rcases List.mem_append.mp hq with hq | hq
    · have := st q hq
      omega
    · exact fun e => hf q hq e.1) fun R33 h33 => ?_
  have ll : l ++ [(9, 0)] ++ z_stL 8 ++ (17, 8) :: List.replicate 8 (12, 5) ++ [(12, 5)] = l ++ z_gL := by simp [z_gL]
  rw [ll] at h33
  exact ⟨_, rfl, h33, rfl⟩
/-! the converter, drift, metric, ranking, linkage -/
def z_F9 : q_Fs := [(1, 3, 8), (1, 2, 7), (1, 1, 3)] ++ z_stF 3 4 ++ [(1, 0, 2)]
def z_L9 : q_L := [(10, 0), (1, 0), (12, 5), (9, 0), (16, 12), (6, 0), (12, 5), (4, 0), (13, 5)]
theorem ct_X0 {x : Nat} {S : q_S} {R : q_HR} (h : w_cs x S R z_I0 [(10, 0), (1, 0)] 2 []) : ∃ o, f_X0_init S R z_I0 (x + 1) = some o ∧ z_ctP x z_L9 9 z_F9 o := by
  unfold f_X0_init
  refine p_new h 12 5 fun S1 R1 h1 e1 => ?_
  rw [h.nx]
  refine p_gd (h1.k (d := 1) (by decide)) (p_gd (h1.k (d := 2) (by decide)) ?_)
  refine p_put h1 (by decide) (by decide) fun R2 h2 => ?_
  refine p_new h2 9 0 fun S3 R3 h3 e3 => ?_
  rw [e1]
  refine p_bd3 (ct_X8 (p := 3) (cap := 12) h3 (by decide) rfl (by decide) (by decide)) fun S4 R4 I4 h4 => ?_
  obtain ⟨h4, rfl⟩ := h4
  dsimp only at h4
  refine p_gd (h4.k (d := 1) (by decide)) (p_gd (h4.k (d := 3) (by decide)) ?_)
  refine p_put h4 (by decide) (by decide) fun R5 h5 => ?_
  refine p_new h5 4 0 fun S6 R6 h6 e6 => ?_
  rw [h4.nx, show f_X3_init (x + 7) = some () from rfl]
  refine p_gd (h6.k (d := 1) (by decide)) (p_gd (h6.k (d := 7) (by decide)) ?_)
  refine p_put h6 (by decide) (by decide) fun R7 h7 => ?_
  refine p_new h7 13 5 fun S8 R8 h8 e8 => ?_
  rw [e6]
  refine p_gd (h8.k (d := 1) (by decide)) (p_gd (h8.k (d := 8) (by decide)) ?_)
  refine p_put h8 (by decide) (by decide) fun R9 h9 => ?_
  exact ⟨_, rfl, h9, rfl⟩
def z_F29 : q_Fs := [(9, 5, 28), (9, 4, 27), (9, 3, 16)] ++ (z_rr 16 10 ++ ([(9, 2, 15), (9, 1, 14), (9, 0, 10)] ++ z_stF 10 11 ++ ((0, 0, 1) :: z_F9)))
def z_L29 : q_L := z_L9 ++ [(2, 0)] ++ [(9, 0)] ++ z_stL 10 ++ [(12, 10)] ++ [(4, 0)] ++ ((17, 10) :: List.replicate 10 (12, 5)) ++ [(13, 5)] ++ [(12, 5)]
theorem ct_X1 {x : Nat} {S : q_S} {R : q_HR} (h : w_cs x S R z_I0 (z_L9 ++ [(2, 0)]) 10 ((0, 0, 1) :: z_F9)) : ∃ o, f_X1_init S R z_I0 (x + 9) = some o ∧ z_ctP x z_L29 29 z_F29 o := by
  unfold f_X1_init
  refine p_new h 9 0 fun S1 R1 h1 e1 => ?_
  rw [h.nx]
  refine p_bd3 (ct_X8 (p := 10) (cap := 10) h1 (by decide) rfl (by decide) (by decide)) fun S4 R4 I4 h4 => ?_
  obtain ⟨h4, rfl⟩ := h4
  dsimp only at h4
  refine p_gd (h4.k (d := 9) (by decide)) (p_gd (h4.k (d := 10) (by decide)) ?_)
  refine p_put h4 (by decide) (by decide) fun R5 h5 => ?_
  refine p_new h5 12 10 fun S6 R6 h6 e6 => ?_
  rw [h4.nx]
  refine p_gd (h6.k (d := 9) (by decide)) (p_gd (h6.k (d := 14) (by decide)) ?_)
  refine p_put h6 (by decide) (by decide) fun R7 h7 => ?_
  refine p_new h7 4 0 fun S8 R8 h8 e8 => ?_
  rw [e6, show f_X3_init (x + 15) = some () from rfl]
  refine p_gd (h8.k (d := 9) (by decide)) (p_gd (h8.k (d := 15) (by decide)) ?_)
  refine p_put h8 (by decide) (by decide) fun R9 h9 => ?_
  refine p_nm h9 10 5 fun S10 R10 h10 e10 => ?_
  rw [e8]
  refine p_gd (h10.k (d := 9) (by decide)) (p_gd (h10.k (d := 16) (by decide)) ?_)
  refine p_put h10 (by decide) (by decide) fun R11 h11 => ?_
  refine p_new h11 13 5 fun S12 R12 h12 e12 => ?_
  rw [e10]
  refine p_gd (h12.k (d := 9) (by decide)) (p_gd (h12.k (d := 27) (by decide)) ?_)
  refine p_put h12 (by decide) (by decide) fun R13 h13 => ?_
  refine p_new h13 12 5 fun S14 R14 h14 e14 => ?_
  rw [e12]
  refine p_gd (h14.k (d := 9) (by decide)) (p_gd (h14.k (d := 28) (by decide)) ?_)
  refine p_put h14 (by decide) (by decide) fun R15 h15 => ?_
  exact ⟨_, rfl, h15, rfl⟩
def z_F32 : q_Fs := [(29, 1, 31), (29, 0, 30), (0, 1, 9)] ++ z_F29
def z_L32 : q_L := z_L29 ++ [(7, 0)] ++ [(14, 5)] ++ [(12, 5)]
theorem ct_X6 {x : Nat} {S : q_S} {R : q_HR} (h : w_cs x S R z_I0 (z_L29 ++ [(7, 0)]) 30 ((0, 1, 9) :: z_F29)) : ∃ o, f_X6_init S R z_I0 (x + 29) = some o ∧ z_ctP x z_L32 32 z_F32 o := by
  unfold f_X6_init
  refine p_new h 14 5 fun S1 R1 h1 e1 => ?_
  rw [h.nx]
  refine p_gd (h1.k (d := 29) (by decide)) (p_gd (h1.k (d := 30) (by decide)) ?_)
  refine p_put h1 (by decide) (by decide) fun R2 h2 => ?_
  refine p_new h2 12 5 fun S3 R3 h3 e3 => ?_
  rw [e1]
  refine p_gd (h3.k (d := 29) (by decide)) (p_gd (h3.k (d := 31) (by decide)) ?_)
  refine p_put h3 (by decide) (by decide) fun R4 h4 => ?_
  exact ⟨_, rfl, h4, rfl⟩
def z_F37 : q_Fs := [(33, 2, 36), (33, 1, 35), (33, 0, 34), (0, 3, 32), (0, 2, 29)] ++ z_F32
def z_L37 : q_L := z_L32 ++ [(15, 8)] ++ [(8, 0)] ++ [(12, 64)] ++ [(12, 64)] ++ [(12, 8)]
theorem ct_X7 {x : Nat} {S : q_S} {R : q_HR} (h : w_cs x S R z_I0 (z_L32 ++ [(15, 8)] ++ [(8, 0)]) 34 ((0, 3, 32) :: (0, 2, 29) :: z_F32)) : ∃ o, f_X7_init S R z_I0 (x + 33) = some o ∧ z_ctP x z_L37 37 z_F37 o := by
  unfold f_X7_init
  refine p_new h 12 64 fun S1 R1 h1 e1 => ?_
  rw [h.nx]
  refine p_gd (h1.k (d := 33) (by decide)) (p_gd (h1.k (d := 34) (by decide)) ?_)
  refine p_put h1 (by decide) (by decide) fun R2 h2 => ?_
  refine p_new h2 12 64 fun S3 R3 h3 e3 => ?_
  rw [e1]
  refine p_gd (h3.k (d := 33) (by decide)) (p_gd (h3.k (d := 35) (by decide)) ?_)
  refine p_put h3 (by decide) (by decide) fun R4 h4 => ?_
  refine p_new h4 12 8 fun S5 R5 h5 e5 => ?_
  rw [e3]
  refine p_gd (h5.k (d := 33) (by decide)) (p_gd (h5.k (d := 36) (by decide)) ?_)
  refine p_put h5 (by decide) (by decide) fun R6 h6 => ?_
  exact ⟨_, rfl, h6, rfl⟩
def z_F48 : q_Fs := [(37, 1, 47), (37, 0, 38)] ++ (z_rr 38 8 ++ ((0, 4, 33) :: z_F37))
def z_L48 : q_L := z_L37 ++ [(5, 0)] ++ ((17, 8) :: List.replicate 8 (12, 8)) ++ [(12, 8)]
theorem ct_X4 {x : Nat} {S : q_S} {R : q_HR} (h : w_cs x S R z_I0 (z_L37 ++ [(5, 0)]) 38 ((0, 4, 33) :: z_F37)) : ∃ o, f_X4_init S R z_I0 (x + 37) = some o ∧ z_ctP x z_L48 48 z_F48 o := by
  unfold f_X4_init
  refine p_nm h 8 8 fun S1 R1 h1 e1 => ?_
  rw [h.nx]
  refine p_gd (h1.k (d := 37) (by decide)) (p_gd (h1.k (d := 38) (by decide)) ?_)
  refine p_put h1 (by decide) (by decide) fun R2 h2 => ?_
  refine p_new h2 12 8 fun S3 R3 h3 e3 => ?_
  rw [e1]
  refine p_gd (h3.k (d := 37) (by decide)) (p_gd (h3.k (d := 47) (by decide)) ?_)
  refine p_put h3 (by decide) (by decide) fun R4 h4 => ?_
  exact ⟨_, rfl, h4, rfl⟩
