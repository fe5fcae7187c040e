/-! CONSTRUCTORS: cells one behind another -/
abbrev q_L : Type := List (Nat × Nat)
abbrev q_Fs : Type := List (Nat × Nat × Nat)
def w_cs (x : Nat) (S : q_S) (R : q_HR) (I : q_HI) (l : q_L) (n : Nat) (fs : q_Fs) : Prop := (∀ d, d < n → S.1 (x + d) = (l.getD d (0, 0)).1 ∧ S.2.1 (x + d) = (l.getD d (0, 0)).2) ∧ S.2.2 = x + n ∧ l.length = n ∧ w_zz S ∧ (∀ q ∈ fs, R (x + q.1) q.2.1 = x + q.2.2) ∧ (∀ q ∈ fs, q.1 < n) ∧ ∀ a, x + n ≤ a → ∀ j, I a j = 0
section CT
variable {x n : Nat} {S : q_S} {R : q_HR} {I : q_HI} {l : q_L} {fs : q_Fs}
theorem w_cs.k (h : w_cs x S R I l n fs) {d : Nat} (hd : d < n) : S.1 (x + d) = (l.getD d (0, 0)).1 := (h.1 d hd).1
theorem w_cs.m (h : w_cs x S R I l n fs) {d : Nat} (hd : d < n) : S.2.1 (x + d) = (l.getD d (0, 0)).2 := (h.1 d hd).2
theorem w_cs.nx (h : w_cs x S R I l n fs) : S.2.2 = x + n := h.2.1
theorem w_cs.r (h : w_cs x S R I l n fs) {p j v : Nat} (hq : (p, j, v) ∈ fs) : R (x + p) j = x + v := h.2.2.2.2.1 _ hq
theorem z_gdA {m : q_L} {d : Nat} (h : d < l.length) : (l ++ m).getD d (0, 0) = l.getD d (0, 0) := by
  rw [List.getD_eq_getElem?_getD, List.getD_eq_getElem?_getD, List.getElem?_append_left h]
theorem z_gdB {m : q_L} {d : Nat} : (l ++ m).getD (l.length + d) (0, 0) = m.getD d (0, 0) := by
  rw [List.getD_eq_getElem?_getD, List.getD_eq_getElem?_getD, List.getElem?_append_right (by omega), show l.length + d - l.length = d by omega]
theorem w_cs.new (h : w_cs x S R I l n fs) (k m : Nat) : w_cs x (q_nw S k m) (q_zr R S.2.2 0) I (l ++ [(k, m)]) (n + 1) fs ∧ q_zr I S.2.2 0 = I := by
  obtain ⟨h1, h2, h3, h4, h5, h6, h7⟩ := h
  refine ⟨⟨fun d hd => ?_, by show S.2.2 + 1 = _; omega, by rw [List.length_append]; show l.length + 1 = n + 1; omega, fun a ha => ?_, fun q hq => ?_, fun q hq => by have := h6 q hq; omega, fun a ha j => h7 a (by omega) j⟩, ?_⟩
  · show (if x + d = S.2.2 then k else S.1 (x + d)) = _ ∧ (if x + d = S.2.2 then m else S.2.1 (x + d)) = _
    by_cases e : d = n
    · have e2 : (l ++ [(k, m)]).getD d (0, 0) = (k, m) := by
        rw [show d = l.length + 0 by omega, z_gdB]
        rfl
      rw [if_pos (by omega), if_pos (by omega), e2]
      exact ⟨rfl, rfl⟩
    · rw [if_neg (by omega), if_neg (by omega), z_gdA (by omega)]
      exact h1 d (by omega)
  · show (if a = S.2.2 then k else S.1 a) = 0
    have ha' : S.2.2 + 1 ≤ a := ha
    rw [if_neg (by omega)]
    exact h4 a (by omega)
  · have := h6 q hq
    rw [q_zr_ne _ _ (by omega)]
    exact h5 q hq
  · funext a j
    unfold q_zr
    by_cases e : a = S.2.2
    · rw [if_pos e, h7 a (by omega) j]
    · rw [if_neg e]
theorem w_cs.put (h : w_cs x S R I l n fs) {p j v : Nat} (hp : p < n) (hf : ∀ q ∈ fs, ¬ (q.1 = p ∧ q.2.1 = j)) : w_cs x S (q_up R (x + p) j (x + v)) I l n ((p, j, v) :: fs) := by
  obtain ⟨h1, h2, h3, h4, h5, h6, h7⟩ := h
  refine ⟨h1, h2, h3, h4, fun q hq => ?_, fun q hq => ?_, h7⟩
  · rcases List.mem_cons.mp hq with rfl | hq
    · unfold q_up
      rw [if_pos ⟨rfl, rfl⟩]
    · have := hf q hq
      unfold q_up
      rw [if_neg (by omega)]
      exact h5 q hq
  · rcases List.mem_cons.mp hq with rfl | hq
    · exact hp
    · exact h6 q hq
theorem w_cs.set (h : w_cs x S R I l n fs) {p j v : Nat} (hf : ∀ q ∈ fs, q.1 ≠ p) : w_cs x S (q_up R (x + p) j v) I l n fs := by
  obtain ⟨h1, h2, h3, h4, h5, h6, h7⟩ := h
  refine ⟨h1, h2, h3, h4, fun q hq => ?_, h6, h7⟩
  have := hf q hq
  rw [q_up_ne _ _ _ (by omega)]
  exact h5 q hq
/-- rows of rows -/
def z_rr (n N : Nat) : q_Fs := (List.range N).map (fun j => (n, j, n + 1 + j))
theorem z_rrM {n N p j v : Nat} (h : (p, j, v) ∈ z_rr n N) : p = n ∧ j < N ∧ v = n + 1 + j := by
  obtain ⟨i, h1, h2⟩ := List.mem_map.mp h
  have := List.mem_range.mp h1
  simp only [Prod.mk.injEq] at h2
  omega
theorem w_cs.nm (h : w_cs x S R I l n fs) (N K : Nat) : w_cs x (q_nm S N K) (q_zm R S.2.2 N) I (l ++ (17, N) :: List.replicate N (12, K)) (n + 1 + N) (z_rr n N ++ fs) ∧ q_zi I S.2.2 N = I := by
  obtain ⟨h1, h2, h3, h4, h5, h6, h7⟩ := h
  refine ⟨⟨fun d hd => ?_, by show S.2.2 + 1 + N = _; omega, by rw [List.length_append, List.length_cons, List.length_replicate]; omega, fun a ha => ?_, fun q hq => ?_, fun q hq => ?_, fun a ha j => h7 a (by omega) j⟩, ?_⟩
  · show (if x + d = S.2.2 then 17 else if S.2.2 < x + d ∧ x + d < S.2.2 + 1 + N then 12 else S.1 (x + d)) = _ ∧ (if x + d = S.2.2 then N else if S.2.2 < x + d ∧ x + d < S.2.2 + 1 + N then K else S.2.1 (x + d)) = _
    by_cases e : d = n
    · have e2 : (l ++ (17, N) :: List.replicate N (12, K)).getD d (0, 0) = (17, N) := by
        rw [show d = l.length + 0 by omega, z_gdB]
        rfl
      rw [if_pos (by omega), if_pos (by omega), e2]
      exact ⟨rfl, rfl⟩
    · rw [if_neg (show ¬ x + d = S.2.2 by omega), if_neg (show ¬ x + d = S.2.2 by omega)]
      by_cases e2 : n < d
      · have e3 : (l ++ (17, N) :: List.replicate N (12, K)).getD d (0, 0) = (12, K) := by
          rw [show d = l.length + (d - n) by omega, z_gdB, List.getD_eq_getElem?_getD, show d - n = (d - n - 1) + 1 by omega, List.getElem?_cons_succ, List.getElem?_replicate, if_pos (by omega)]
          rfl
        rw [if_pos (show S.2.2 < x + d ∧ x + d < S.2.2 + 1 + N by omega), if_pos (show S.2.2 < x + d ∧ x + d < S.2.2 + 1 + N by omega), e3]
        exact ⟨rfl, rfl⟩
      · rw [if_neg (show ¬ (S.2.2 < x + d ∧ x + d < S.2.2 + 1 + N) by omega), if_neg (show ¬ (S.2.2 < x + d ∧ x + d < S.2.2 + 1 + N) by omega), z_gdA (by omega)]
        exact h1 d (by omega)
  · show (if a = S.2.2 then 17 else if S.2.2 < a ∧ a < S.2.2 + 1 + N then 12 else S.1 a) = 0
    have ha' : S.2.2 + 1 + N ≤ a := ha
    rw [if_neg (by omega), if_neg (by omega)]
    exact h4 a (by omega)
  · obtain ⟨p, j, v⟩ := q
    rcases List.mem_append.mp hq with hq | hq
    · obtain ⟨e1, e2, e3⟩ := z_rrM hq
      show (if x + p = S.2.2 then (if j < N then S.2.2 + 1 + j else 0) else _) = x + v
      rw [if_pos (by omega), if_pos e2]
      omega
    · have h8 : p < n := h6 _ hq
      show (if x + p = S.2.2 then _ else if S.2.2 < x + p ∧ x + p < S.2.2 + 1 + N then 0 else R (x + p) j) = x + v
      rw [if_neg (by omega), if_neg (by omega)]
      exact h5 _ hq
  · obtain ⟨p, j, v⟩ := q
    rcases List.mem_append.mp hq with hq | hq
    · obtain ⟨e1, e2, e3⟩ := z_rrM hq
      show p < n + 1 + N
      omega
    · have h8 : p < n := h6 _ hq
      show p < n + 1 + N
      omega
  · funext a j
    unfold q_zi
    by_cases e : S.2.2 ≤ a ∧ a < S.2.2 + 1 + N
    · rw [if_pos e, h7 a (by omega) j]
    · rw [if_neg e]
end CT
/-! running a constructor forward -/
abbrev q_O : Type := q_S × q_HR × q_HI
theorem p_gd {p : Prop} {k : Option q_O} {Q : q_O → Prop} (hp : p) (h : ∃ o, k = some o ∧ Q o) : ∃ o, q_gd p k = some o ∧ Q o := by rw [q_gdT hp]; exact h
theorem p_new {x n : Nat} {S : q_S} {R : q_HR} {I : q_HI} {l : q_L} {fs : q_Fs} {F : q_S → q_HR → q_HI → Option q_O} {Q : q_O → Prop} (h : w_cs x S R I l n fs) (k m : Nat) (hF : ∀ S1 R1, w_cs x S1 R1 I (l ++ [(k, m)]) (n + 1) fs → S1.2.2 = x + (n + 1) → ∃ o, F S1 R1 I = some o ∧ Q o) : ∃ o, (q_lt (q_nw S k m) fun S1 => q_lt (q_zr R S.2.2 0) fun R3 => q_lt (q_zr I S.2.2 0) fun I5 => F S1 R3 I5) = some o ∧ Q o := by
  obtain ⟨h1, h2⟩ := h.new k m
  rw [q_ltE, q_ltE, q_ltE, h2]
  exact hF _ _ h1 h1.nx
theorem p_nm {x n : Nat} {S : q_S} {R : q_HR} {I : q_HI} {l : q_L} {fs : q_Fs} {F : q_S → q_HR → q_HI → Option q_O} {Q : q_O → Prop} (h : w_cs x S R I l n fs) (N K : Nat) (hF : ∀ S1 R1, w_cs x S1 R1 I (l ++ (17, N) :: List.replicate N (12, K)) (n + 1 + N) (z_rr n N ++ fs) → S1.2.2 = x + (n + 1 + N) → ∃ o, F S1 R1 I = some o ∧ Q o) : ∃ o, (q_lt (q_nm S N K) fun S1 => q_lt (q_zm R S.2.2 N) fun R3 => q_lt (q_zi I S.2.2 N) fun I5 => F S1 R3 I5) = some o ∧ Q o := by
  obtain ⟨h1, h2⟩ := h.nm N K
  rw [q_ltE, q_ltE, q_ltE, h2]
  exact hF _ _ h1 h1.nx
theorem p_put {x n : Nat} {S : q_S} {R : q_HR} {I : q_HI} {l : q_L} {fs : q_Fs} {F : q_HR → Option q_O} {Q : q_O → Prop} {p j v : Nat} (h : w_cs x S R I l n fs) (hp : p < n) (hf : ∀ q ∈ fs, ¬ (q.1 = p ∧ q.2.1 = j)) (hF : ∀ R1, w_cs x S R1 I l n ((p, j, v) :: fs) → ∃ o, F R1 = some o ∧ Q o) : ∃ o, (q_lt (q_up R (x + p) j (x + v)) fun R1 => F R1) = some o ∧ Q o := by
  rw [q_ltE]
  exact hF _ (h.put hp hf)
theorem p_bd3 {E : Option q_O} {F : q_S → q_HR → q_HI → Option q_O} {P Q : q_O → Prop} (hE : ∃ o, E = some o ∧ P o) (hF : ∀ S1 R1 I1, P (S1, R1, I1) → ∃ o, F S1 R1 I1 = some o ∧ Q o) : ∃ o, q_bd3 E F = some o ∧ Q o := by
  obtain ⟨⟨S1, R1, I1⟩, e, hP⟩ := hE
  rw [q_bd3E e]
  exact hF _ _ _ hP
def z_I0 : q_HI := fun _ _ => 0
theorem z_I0u {a j : Nat} : q_up z_I0 a j 0 = z_I0 := by
  funext b i
  unfold q_up z_I0
  split <;> rfl
def z_ctP (x : Nat) (l : q_L) (n : Nat) (fs : q_Fs) (o : q_O) : Prop := w_cs x o.1 o.2.1 z_I0 l n fs ∧ o.2.2 = z_I0
theorem ct_X5 {x n p : Nat} {S : q_S} {R : q_HR} {l : q_L} {fs : q_Fs} (h : w_cs x S R z_I0 l n fs) (hp : p < n) (hk : (l.getD p (0, 0)).1 = 6) (hf : ∀ q ∈ fs, ¬ (q.1 = p ∧ q.2.1 = 1)) : ∃ o, f_X5_init S R z_I0 (x + p) 0 0 0 0 0 0 = some o ∧ z_ctP x (l ++ [(12, 5)]) (n + 1) ((p, 1, n) :: fs) o := by
  have hl := h.2.2.1
  unfold f_X5_init
  refine p_gd ((h.k hp).trans hk) ?_
  rw [q_ltE, z_I0u]
  refine p_new h 12 5 fun S1 R1 h1 e1 => ?_
  have kn : S1.1 (x + n) = 12 := by
    rw [h1.k (by omega), show n = l.length + 0 by omega, z_gdB]
    rfl
  have mn : S1.2.1 (x + n) = 5 := by
    rw [h1.m (by omega), show n = l.length + 0 by omega, z_gdB]
    rfl
  have kp : S1.1 (x + p) = 6 := by rw [h1.k (by omega), z_gdA (by omega)]; exact hk
  rw [h.nx, q_gdT kn]
  simp only [mn, q_ltE, z_I0u, kp]
  simp (disch := (first | trivial | assumption | omega | (refine r_iE ?_ ?_ <;> omega) | (refine r_lE ?_ ?_ <;> omega) | fail)) only [↓q_gdT, ↓q_ltE, ↓if_pos, ↓if_neg]
  exact ⟨_, rfl, h1.put (by omega) hf, rfl⟩
/-- a store -/
def z_stL (cap : Nat) : q_L := [(16, cap), (6, 0), (12, 5)]
def z_stF (p n : Nat) : q_Fs := [(p, 1, n + 1), (n + 1, 1, n + 2), (p, 0, n)]
theorem ct_X8 {x n p cap : Nat} {S : q_S} {R : q_HR} {l : q_L} {fs : q_Fs} (h : w_cs x S R z_I0 l n fs) (hp : p < n) (hk : (l.getD p (0, 0)).1 = 9) (hf : ∀ q ∈ fs, q.1 ≠ p) (hc : cap ≤ 12) : ∃ o, f_X8_init S R z_I0 (x + p) (cap : Int) = some o ∧ z_ctP x (l ++ z_stL cap) (n + 3) (z_stF p n ++ fs) o := by
  have hl := h.2.2.1
  have h6 := h.2.2.2.2.2.1
  have em : q_mx (cap : Int) 0 = (cap : Int) := by unfold q_mx; split <;> omega
  unfold f_X8_init
  rw [em]
  refine p_gd (r_iE (by omega) (by omega)) (p_gd (by omega) ?_)
  rw [Int.toNat_natCast]
  refine p_new h 16 cap fun S1 R1 h1 e1 => ?_
  have kn : S1.1 (x + n) = 16 := by
    rw [h1.k (by omega), show n = l.length + 0 by omega, z_gdB]
    rfl
  have kp : S1.1 (x + p) = 9 := by rw [h1.k (by omega), z_gdA (by omega)]; exact hk
  rw [h.nx]
  refine p_gd kp (p_gd kn ?_)
  refine p_put h1 (by omega) (fun q hq => fun e => hf q hq e.1) fun R2 h2 => ?_
  refine p_new h2 6 0 fun S3 R3 h3 e3 => ?_
  rw [e1]
  have c5 := ct_X5 (p := n + 1) h3 (by omega) (by
    rw [show n + 1 = (l ++ [(16, cap)]).length + 0 by rw [List.length_append]; show n + 1 = l.length + 1 + 0; omega, z_gdB]
    rfl) (fun q hq => by
    rcases List.mem_cons.mp hq with rfl | hq
    · show ¬ (p = n + 1 ∧ _)
      omega
    · have := h6 q hq
      omega)
  refine p_bd3 c5 fun S4 R4 I4 h4 => ?_
  obtain ⟨h4, rfl⟩ := h4
  have l4 : l ++ [(16, cap)] ++ [(6, 0)] ++ [(12, 5)] = l ++ z_stL cap := by simp [z_stL]
  dsimp only at h4
  rw [l4] at h4
  have kp4 : S4.1 (x + p) = 9 := by rw [h4.k (by omega), z_gdA (by omega)]; exact hk
  have kn4 : S4.1 (x + (n + 1)) = 6 := by
    rw [h4.k (by omega), show n + 1 = l.length + 1 by omega, z_gdB]
    rfl
  have k16 : S4.1 (x + n) = 16 := by
    rw [h4.k (by omega), show n = l.length + 0 by omega, z_gdB]
    rfl
  have m16 : S4.2.1 (x + n) = cap := by
    rw [h4.m (by omega), show n = l.length + 0 by omega, z_gdB]
    rfl
  refine p_gd kp4 (p_gd kn4 ?_)
  refine p_put h4 (by omega) (fun q hq => by
    rcases List.mem_cons.mp hq with rfl | hq
    · show ¬ (n + 1 = p ∧ _)
      omega
    rcases List.mem_cons.mp hq with rfl | hq
    · show ¬ (p = p ∧ 0 = 1)
      omega
    · exact fun e => hf q hq e.1) fun R5 h5 => ?_
  have key := z_loopR (fun N (u : Nat × q_HR) => f_X8_init_L35 S4 z_I0 (x + p) (fun w36 R37 => some (S4, R37, z_I0)) N ((u.1 : Nat) : Int) u.2) (fun i u => u.1 = i ∧ w_cs x S4 u.2 z_I0 (l ++ z_stL cap) (n + 3) (z_stF p n ++ fs)) cap (fun u => some (S4, u.2, z_I0)) ?_ ?_ 100 0 (0, R5) (by omega) (by omega) ⟨rfl, h5⟩
  · obtain ⟨⟨i, R6⟩, ⟨_, h7⟩, e⟩ := key
    exact ⟨_, e, h7, rfl⟩
  · rintro N i ⟨i', R6⟩ hi ⟨rfl, h7⟩
    dsimp only at h7 hi ⊢
    have r0 : R6 (x + p) 0 = x + n := h7.r (by simp [z_stF])
    have r1 : R6 (x + p) 1 = x + (n + 1) := h7.r (by simp [z_stF])
    refine ⟨(i' + 1, q_up R6 (x + n) i' (x + (n + 1))), ⟨rfl, h7.set (fun q hq => ?_)⟩, ?_⟩
    · rcases List.mem_append.mp hq with hq | hq
      · simp [z_stF] at hq
        rcases hq with rfl | rfl | rfl
        · show p ≠ n
          omega
        · show n + 1 ≠ n
          omega
        · show p ≠ n
          omega
      · have := h6 q hq
        omega
    · rw [f_X8_init_L35]
      simp only [kp4, r0, k16, m16, r1, kn4, Int.toNat_natCast]
      simp (disch := (first | trivial | assumption | omega | (refine r_iE ?_ ?_ <;> omega) | (refine r_lE ?_ ?_ <;> omega) | fail)) only [↓q_gdT, ↓q_ltE, ↓if_pos, ↓if_neg]
      rfl
  · rintro N ⟨i, R6⟩ ⟨e, h7⟩
    dsimp only at e h7 ⊢
    subst e
    have r0 : R6 (x + p) 0 = x + n := h7.r (by simp [z_stF])
    rw [f_X8_init_L35]
    simp only [kp4, r0, k16, m16]
    simp (disch := (first | trivial | assumption | omega | (refine r_iE ?_ ?_ <;> omega) | (refine r_lE ?_ ?_ <;> omega) | fail)) only [↓q_gdT, ↓q_ltE, ↓if_pos, ↓if_neg]
