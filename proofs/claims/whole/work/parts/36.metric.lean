/-! THE CLASS: the metric -/
def z_bit (set : Int) (s : Nat) : Bool := decide (q_and (q_shr set (s : Int)) 1 = 1)
theorem r_iI (v : Int32) : r_i v.toInt := ⟨by have := v.le_toInt; omega, by have := v.toInt_lt; omega⟩
theorem r_and (a b : Int) : r_i (q_and a b) := r_iI _
def z_dir (A : q_A) (t : Nat → Bool) (s : Nat) : Int := if A 0 9 = 0 ∨ t s = false then 0 else z_dc A s
def z_dd (A : q_A) (t : Nat → Bool) : Int := z_sm (fun s => z_dir A t s * z_dir A t s) 5
theorem z_dirB {A : q_A} (h : z_B A) (t : Nat → Bool) {s : Nat} (hs : s < 5) : -1000 ≤ z_dir A t s ∧ z_dir A t s ≤ 1000 := by
  unfold z_dir
  have := z_dcB h hs
  split <;> omega
theorem z_ddB {A : q_A} (h : z_B A) (t : Nat → Bool) : 0 ≤ z_dd A t ∧ z_dd A t ≤ 5000000 := by
  have := z_smB (lo := 0) (hi := 1000000) (f := fun s => z_dir A t s * z_dir A t s) (n := 5) (fun s hs => by
    have h1 := z_dirB h t hs
    have h2 := z_mulB (M := 1000) (N := 1000) h1 h1
    have h3 := z_sq (z_dir A t s)
    omega)
  unfold z_dd
  omega
/-- the metric's state -/
def w_me (x : Nat) (I : q_HI) (A : q_A) (t : Nat → Bool) : Prop := (∀ s, s < 5 → I (x + 30) s = if t s = true then 1 else 0) ∧ (∀ s, s < 5 → I (x + 31) s = z_dir A t s) ∧ I (x + 29) 2 = z_dd A t
theorem e_aim {x : Nat} {S : q_S} {R : q_HR} {I : q_HI} {A : q_A} {set : Int} (hS : w_Sh x S R) (hB : z_B A) (h7 : I (x + 9) 7 = A 0 9) (h28 : ∀ s, s < 5 → I (x + 28) s = z_dc A s) : ∃ I', f_X6_aim S R I (x + 29) (x + 9) set = some I' ∧ (∀ a, a ≠ x + 29 → a ≠ x + 30 → a ≠ x + 31 → I' a = I a) ∧ w_me x I' A (z_bit set) := by
  have h9 := hB.2.2.2.2.2.2.2.2.1
  unfold f_X6_aim
  simp only [k_29 hS]
  simp (disch := (first | trivial | assumption | omega | (refine r_iE ?_ ?_ <;> omega) | (refine r_lE ?_ ?_ <;> omega) | fail)) only [↓q_gdT, ↓q_ltE, ↓if_pos, ↓if_neg]
  have key := z_loopR (σ := Int × q_HI) (fun n s => f_X6_aim_L7 S R (x + 29) (x + 9) set (fun w68 I69 => some I69) n s.1 s.2) (fun i s => s.1 = (i : Int) ∧ (∀ a, a ≠ x + 29 → a ≠ x + 30 → a ≠ x + 31 → s.2 a = I a) ∧ (∀ t, t < i → s.2 (x + 30) t = if z_bit set t = true then 1 else 0) ∧ (∀ t, t < i → s.2 (x + 31) t = z_dir A (z_bit set) t) ∧ s.2 (x + 29) 2 = z_sm (fun s => z_dir A (z_bit set) s * z_dir A (z_bit set) s) i) 5 (fun s => some s.2) (fun n i s hi hP => ?_) (fun n s hP => ?_) 100 0 (0, q_up I (x + 29) 2 0) (by omega) (by omega) ⟨rfl, fun a h1 _ _ => q_up_ne _ _ _ h1, fun t ht => absurd ht (by omega), fun t ht => absurd ht (by omega), by show q_up _ _ _ _ _ _ = 0; unfold q_up; rw [if_pos ⟨rfl, rfl⟩]⟩
  · obtain ⟨s', ⟨h1, h2, h3, h4, h5⟩, h6⟩ := key
    exact ⟨s'.2, h6, h2, h3, h4, h5⟩
  · obtain ⟨v, J⟩ := s
    obtain ⟨rfl, hF, hT, hD, hd⟩ := hP
    dsimp only at hF hT hD hd
    show ∃ s' : Int × q_HI, _ ∧ f_X6_aim_L7 _ _ _ _ _ _ (n + 1) _ _ = _
    rw [f_X6_aim_L7]
    have e7 : J (x + 9) 7 = A 0 9 := by rw [hF _ (by omega) (by omega) (by omega)]; exact h7
    have e28 : J (x + 28) i = z_dc A i := by rw [hF _ (by omega) (by omega) (by omega)]; exact h28 i hi
    have gb := r_and (q_shr set (i : Int)) 1
    have b1 := z_dcB hB hi
    -- one step writes the three rows
    have fin : ∀ (b d : Int), b = (if z_bit set i = true then 1 else 0) → d = z_dir A (z_bit set) i → ∃ s' : Int × q_HI, (s'.1 = ((i + 1 : Nat) : Int) ∧ (∀ a, a ≠ x + 29 → a ≠ x + 30 → a ≠ x + 31 → s'.2 a = I a) ∧ (∀ t, t < i + 1 → s'.2 (x + 30) t = if z_bit set t = true then 1 else 0) ∧ (∀ t, t < i + 1 → s'.2 (x + 31) t = z_dir A (z_bit set) t) ∧ s'.2 (x + 29) 2 = z_sm (fun s => z_dir A (z_bit set) s * z_dir A (z_bit set) s) (i + 1)) ∧
        f_X6_aim_L7 S R (x + 29) (x + 9) set (fun w68 I69 => some I69) n ((i : Int) + 1) (q_up (q_up (q_up J (x + 30) i b) (x + 31) i d) (x + 29) 2 (J (x + 29) 2 + d * d)) = f_X6_aim_L7 S R (x + 29) (x + 9) set (fun w68 I69 => some I69) n s'.1 s'.2 := by
      intro b d hb hd'
      refine ⟨(((i + 1 : Nat) : Int), _), ⟨rfl, fun a h1 h2 h3 => ?_, fun t ht => ?_, fun t ht => ?_, ?_⟩, rfl⟩
      · show q_up _ _ _ _ a = _
        rw [q_up_ne _ _ _ h1, q_up_ne _ _ _ h3, q_up_ne _ _ _ h2]
        exact hF a h1 h2 h3
      · show q_up _ _ _ _ (x + 30) t = _
        rw [q_up_ne _ _ _ (by omega), q_up_ne _ _ _ (by omega)]
        unfold q_up
        by_cases e : t = i
        · rw [if_pos ⟨rfl, e⟩, e]; exact hb
        · rw [if_neg (by omega)]; exact hT t (by omega)
      · show q_up _ _ _ _ (x + 31) t = _
        rw [q_up_ne _ _ _ (by omega)]
        unfold q_up
        by_cases e : t = i
        · rw [if_pos ⟨rfl, e⟩, e]; exact hd'
        · rw [if_neg (by omega), if_neg (by omega)]; exact hD t (by omega)
      · show q_up _ _ _ _ (x + 29) 2 = _
        unfold q_up
        rw [if_pos ⟨rfl, rfl⟩, hd, hd']
        rfl
    have u30 : ∀ b : Int, q_up J (x + 30) i b (x + 9) 7 = A 0 9 := fun b => by rw [q_up_ne _ _ _ (by omega)]; exact e7
    have u30' : ∀ b : Int, q_up J (x + 30) i b (x + 30) i = b := fun b => by unfold q_up; rw [if_pos ⟨rfl, rfl⟩]
    have u28 : ∀ b : Int, q_up J (x + 30) i b (x + 28) i = z_dc A i := fun b => by rw [q_up_ne _ _ _ (by omega)]; exact e28
    have u31 : ∀ b d : Int, q_up (q_up J (x + 30) i b) (x + 31) i d (x + 31) i = d := fun b d => by unfold q_up; rw [if_pos ⟨rfl, rfl⟩]
    have u29 : ∀ b d : Int, q_up (q_up J (x + 30) i b) (x + 31) i d (x + 29) 2 = J (x + 29) 2 := fun b d => by rw [q_up_ne _ _ _ (by omega), q_up_ne _ _ _ (by omega)]
    simp only [k_29 hS, r_29_0 hS, k_30 hS, n_30 hS, r_29_1 hS, k_31 hS, n_31 hS, k_9 hS, r_9_5 hS, k_28 hS, n_28 hS, Int.toNat_natCast]
    by_cases hb : q_and (q_shr set (i : Int)) 1 = 1
    · have hbit : z_bit set i = true := by unfold z_bit; rw [hb]; rfl
      by_cases h9' : A 0 9 = 0
      · have := fin 1 0 (by rw [hbit]; rfl) (by unfold z_dir; rw [if_pos (Or.inl h9')])
        simp (disch := (first | trivial | assumption | omega | (refine r_iE ?_ ?_ <;> omega) | (refine r_lE ?_ ?_ <;> omega) | fail)) only [↓q_gdT, ↓q_ltE, ↓if_pos, ↓if_neg, u30, u30', u28, u31, u29]
        exact this
      · have := fin 1 (z_dc A i) (by rw [hbit]; rfl) (by unfold z_dir; rw [if_neg (by rw [hbit]; simp [h9'])])
        simp (disch := (first | trivial | assumption | omega | (refine r_iE ?_ ?_ <;> omega) | (refine r_lE ?_ ?_ <;> omega) | fail)) only [↓q_gdT, ↓q_ltE, ↓if_pos, ↓if_neg, u30, u30', u28, u31, u29]
        exact this
    · have hbit : z_bit set i = false := by unfold z_bit; exact decide_eq_false hb
      have := fin 0 0 (by rw [hbit]; rfl) (by unfold z_dir; rw [if_pos (Or.inr hbit)])
      by_cases h9' : A 0 9 = 0
      · simp (disch := (first | trivial | assumption | omega | (refine r_iE ?_ ?_ <;> omega) | (refine r_lE ?_ ?_ <;> omega) | fail)) only [↓q_gdT, ↓q_ltE, ↓if_pos, ↓if_neg, u30, u30', u28, u31, u29]
        exact this
      · simp (disch := (first | trivial | assumption | omega | (refine r_iE ?_ ?_ <;> omega) | (refine r_lE ?_ ?_ <;> omega) | fail)) only [↓q_gdT, ↓q_ltE, ↓if_pos, ↓if_neg, u30, u30', u28, u31, u29]
        exact this
  · obtain ⟨v, J⟩ := s
    obtain ⟨rfl, hF, hT, hD, hd⟩ := hP
    show f_X6_aim_L7 _ _ _ _ _ _ (n + 1) _ _ = _
    rw [f_X6_aim_L7]
    simp (disch := (first | trivial | assumption | omega | (refine r_iE ?_ ?_ <;> omega) | (refine r_lE ?_ ?_ <;> omega) | fail)) only [↓q_gdT, ↓q_ltE, ↓if_pos, ↓if_neg]
/-- sums over the sensors of a set -/
def z_uu (t : Nat → Bool) (u : Nat → Int) : Int := z_sm (fun s => if t s = true then u s * u s else 0) 5
def z_ud (A : q_A) (t : Nat → Bool) (u : Nat → Int) : Int := z_sm (fun s => if t s = true then u s * z_dir A t s else 0) 5
/-- the document's distance -/
def z_di (A : q_A) (t : Nat → Bool) (u : Nat → Int) (n : Int) : Int := if z_dd A t = 0 then Int.tdiv (z_uu t u) (n * n) else Int.tdiv (z_uu t u * z_dd A t - z_ud A t u * z_ud A t u) (n * n * z_dd A t)
theorem z_cs5 (a0 a1 a2 a3 a4 b0 b1 b2 b3 b4 : Int) : 0 ≤ (a0 * a0 + a1 * a1 + a2 * a2 + a3 * a3 + a4 * a4) * (b0 * b0 + b1 * b1 + b2 * b2 + b3 * b3 + b4 * b4) - (a0 * b0 + a1 * b1 + a2 * b2 + a3 * b3 + a4 * b4) * (a0 * b0 + a1 * b1 + a2 * b2 + a3 * b3 + a4 * b4) := by
  have e : (a0 * a0 + a1 * a1 + a2 * a2 + a3 * a3 + a4 * a4) * (b0 * b0 + b1 * b1 + b2 * b2 + b3 * b3 + b4 * b4) - (a0 * b0 + a1 * b1 + a2 * b2 + a3 * b3 + a4 * b4) * (a0 * b0 + a1 * b1 + a2 * b2 + a3 * b3 + a4 * b4) =
    (a0 * b1 - a1 * b0) * (a0 * b1 - a1 * b0) + (a0 * b2 - a2 * b0) * (a0 * b2 - a2 * b0) + (a0 * b3 - a3 * b0) * (a0 * b3 - a3 * b0) + (a0 * b4 - a4 * b0) * (a0 * b4 - a4 * b0) + (a1 * b2 - a2 * b1) * (a1 * b2 - a2 * b1) + (a1 * b3 - a3 * b1) * (a1 * b3 - a3 * b1) + (a1 * b4 - a4 * b1) * (a1 * b4 - a4 * b1) + (a2 * b3 - a3 * b2) * (a2 * b3 - a3 * b2) + (a2 * b4 - a4 * b2) * (a2 * b4 - a4 * b2) + (a3 * b4 - a4 * b3) * (a3 * b4 - a4 * b3) := by grind
  rw [e]
  have h1 := z_sq (a0 * b1 - a1 * b0)
  have h2 := z_sq (a0 * b2 - a2 * b0)
  have h3 := z_sq (a0 * b3 - a3 * b0)
  have h4 := z_sq (a0 * b4 - a4 * b0)
  have h5 := z_sq (a1 * b2 - a2 * b1)
  have h6 := z_sq (a1 * b3 - a3 * b1)
  have h7 := z_sq (a1 * b4 - a4 * b1)
  have h8 := z_sq (a2 * b3 - a3 * b2)
  have h9 := z_sq (a2 * b4 - a4 * b2)
  have h10 := z_sq (a3 * b4 - a4 * b3)
  omega
theorem z_csd (A : q_A) (t : Nat → Bool) (u : Nat → Int) : 0 ≤ z_uu t u * z_dd A t - z_ud A t u * z_ud A t u := by
  have h := z_cs5 (if t 0 = true then u 0 else 0) (if t 1 = true then u 1 else 0) (if t 2 = true then u 2 else 0) (if t 3 = true then u 3 else 0) (if t 4 = true then u 4 else 0) (z_dir A t 0) (z_dir A t 1) (z_dir A t 2) (z_dir A t 3) (z_dir A t 4)
  have e1 : ∀ s, (if t s = true then u s * u s else 0) = (if t s = true then u s else 0) * (if t s = true then u s else 0) := fun s => by split <;> simp
  have e2 : ∀ s, (if t s = true then u s * z_dir A t s else 0) = (if t s = true then u s else 0) * z_dir A t s := fun s => by split <;> simp
  unfold z_uu z_dd z_ud
  simp only [z_sm, Int.zero_add, e1, e2]
  exact h
theorem z_uuB {t : Nat → Bool} {u : Nat → Int} {M : Int} (hM : 0 ≤ M) (h : ∀ s, s < 5 → -M ≤ u s ∧ u s ≤ M) : 0 ≤ z_uu t u ∧ z_uu t u ≤ 5 * (M * M) := by
  have hMM := Int.mul_nonneg hM hM
  have := z_smB (lo := 0) (hi := M * M) (f := fun s => if t s = true then u s * u s else 0) (n := 5) (fun s hs => by
    have h1 := h s hs
    have h2 := z_mulB (M := M) (N := M) h1 h1
    have h3 := z_sq (u s)
    split <;> omega)
  unfold z_uu
  omega
theorem z_tdivB {a b M : Int} (ha : 0 ≤ a) (hb : 0 < b) (h : a ≤ M * b) : 0 ≤ Int.tdiv a b ∧ Int.tdiv a b ≤ M := by
  rw [Int.tdiv_eq_ediv_of_nonneg ha]
  constructor
  · exact Int.ediv_nonneg ha (by omega)
  · have : a / b < M + 1 := by
      rw [Int.ediv_lt_iff_lt_mul hb, Int.add_mul]
      omega
    omega
theorem z_diB {A : q_A} (hB : z_B A) (t : Nat → Bool) {u : Nat → Int} {n : Int} (hn : 0 < n) (h : ∀ s, s < 5 → -(8000 * n) ≤ u s ∧ u s ≤ 8000 * n) : 0 ≤ z_di A t u n ∧ z_di A t u n ≤ 320000000 := by
  obtain ⟨h1, h2⟩ := z_uuB (t := t) (M := 8000 * n) (by omega) h
  obtain ⟨h3, h4⟩ := z_ddB hB t
  have h5 := z_csd A t u
  have h6 := z_sq (z_ud A t u)
  have hnn : 0 < n * n := Int.mul_pos hn hn
  have e1 : 5 * (8000 * n * (8000 * n)) = 320000000 * (n * n) := by grind
  rw [e1] at h2
  unfold z_di
  split
  · exact z_tdivB h1 hnn h2
  · next hd =>
    refine z_tdivB h5 (Int.mul_pos hnn (by omega)) ?_
    have h7 := Int.mul_le_mul_of_nonneg_right h2 h3
    have e2 : 320000000 * (n * n) * z_dd A t = 320000000 * (n * n * z_dd A t) := by grind
    omega
theorem e_gap {x : Nat} {S : q_S} {R : q_HR} {I : q_HI} {A : q_A} {t : Nat → Bool} {a b : Nat} {n m : Int} {f g : Nat → Int} (hS : w_Sh x S R) (hB : z_B A) (hm : w_me x I A t) (ka : S.1 a = 12) (na : S.2.1 a = 5) (kb : S.1 b = 12) (nb : S.2.1 b = 5) (h1 : 1 ≤ n ∧ n ≤ 8) (h2 : 1 ≤ m ∧ m ≤ 8) (hf : ∀ s, s < 5 → I a s = f s ∧ -(4000 * n) ≤ f s ∧ f s ≤ 4000 * n) (hg : ∀ s, s < 5 → I b s = g s ∧ -(4000 * m) ≤ g s ∧ g s ≤ 4000 * m) :
    f_X6_gap S R I (x + 29) a n b m = some (z_di A t (fun s => m * f s - n * g s) (n * m)) ∧ 0 ≤ z_di A t (fun s => m * f s - n * g s) (n * m) ∧ z_di A t (fun s => m * f s - n * g s) (n * m) ≤ 320000000 := by
  have hnm : 1 ≤ n * m ∧ n * m ≤ 64 := by
    have := z_mul0 (M := 8) (N := 8) (a := n) (b := m) (by omega) (by omega)
    have := Int.mul_pos (show 0 < n by omega) (show 0 < m by omega)
    omega
  have hub : ∀ s, s < 5 → -(8000 * (n * m)) ≤ m * f s - n * g s ∧ m * f s - n * g s ≤ 8000 * (n * m) := fun s hs => by
    have h3 := z_mulB (M := m) (N := 4000 * n) (a := m) (b := f s) (by omega) (by have := hf s hs; omega)
    have h4 := z_mulB (M := n) (N := 4000 * m) (a := n) (b := g s) (by omega) (by have := hg s hs; omega)
    have e1 : m * (4000 * n) = 4000 * (n * m) := by grind
    have e2 : n * (4000 * m) = 4000 * (n * m) := by grind
    omega
  have hdi := z_diB hB t (n := n * m) (by omega) hub
  refine ⟨?_, hdi⟩
  obtain ⟨m1, m2, m3⟩ := hm
  obtain ⟨d1, d2⟩ := z_ddB hB t
  obtain ⟨u1, u2⟩ := z_uuB (t := t) (u := fun s => m * f s - n * g s) (M := 512000) (by omega) (fun s hs => by have := hub s hs; omega)
  have c1 := z_csd A t (fun s => m * f s - n * g s)
  have c2 := z_sq (z_ud A t (fun s => m * f s - n * g s))
  have c3 := z_mul0 (M := 1310720000000) (N := 5000000) (a := z_uu t (fun s => m * f s - n * g s)) (b := z_dd A t) (by omega) (by omega)
  have s1 := z_mul0 (M := 64) (N := 64) (a := n * m) (b := n * m) (by omega) (by omega)
  have s2 : 0 < n * m * (n * m) := Int.mul_pos (by omega) (by omega)
  have s3 : n * m * n * m = n * m * (n * m) := by grind
  have s4 := z_mul0 (M := 4096) (N := 5000000) (a := n * m * (n * m)) (b := z_dd A t) (by omega) (by omega)
  unfold f_X6_gap
  have key := z_loop (fun N i => f_X6_gap_L20 S R I (x + 29) a n b m (fun w29 w30 w31 => q_lt (((n * m) * n) * m) fun x32 => q_gd (S.1 (x + 29) = 7) (q_gd (r_l (I (x + 29) 2)) (if I (x + 29) 2 = 0 then q_gd (r_l w29) (q_gd (r_l x32) (q_gd (x32 ≠ 0) (some (Int.tdiv w29 x32)))) else q_gd (r_l ((w29 * (I (x + 29) 2)) - (w30 * w30))) (q_gd (r_l (x32 * (I (x + 29) 2))) (q_gd (x32 * (I (x + 29) 2) ≠ 0) (some (Int.tdiv ((w29 * (I (x + 29) 2)) - (w30 * w30)) (x32 * (I (x + 29) 2))))))))) N (z_sm (fun s => if t s = true then (m * f s - n * g s) * (m * f s - n * g s) else 0) i) (z_sm (fun s => if t s = true then (m * f s - n * g s) * z_dir A t s else 0) i) ((i : Nat) : Int)) 5 (some (z_di A t (fun s => m * f s - n * g s) (n * m))) (fun N i hi => ?_) (fun N => ?_) 100 (by decide)
  · rw [q_gdT (r_iE (by omega) (by omega)), if_neg (by omega), q_gdT (r_iE (by omega) (by omega)), if_pos (by omega)]
    exact key
  · show f_X6_gap_L20 _ _ _ _ _ _ _ _ _ (N + 1) _ _ _ = _
    rw [f_X6_gap_L20]
    obtain ⟨e1, b1, b2⟩ := hf i hi
    obtain ⟨e2, b3, b4⟩ := hg i hi
    have b5 := z_dirB hB t hi
    simp only [k_29 hS, r_29_0 hS, k_30 hS, n_30 hS, r_29_1 hS, k_31 hS, n_31 hS, Int.toNat_natCast, ka, na, kb, nb, e1, e2, m1 i hi, m2 i hi]
    cases ht : t i with
    | false =>
      simp only [Bool.false_eq_true, if_false]
      simp (disch := (first | trivial | assumption | omega | (refine r_iE ?_ ?_ <;> omega) | (refine r_lE ?_ ?_ <;> omega) | fail)) only [↓q_gdT, ↓q_ltE, ↓if_pos, ↓if_neg]
      show _ = f_X6_gap_L20 _ _ _ _ _ _ _ _ _ _ (z_sm _ i + (if t i = true then _ else 0)) (z_sm _ i + (if t i = true then _ else 0)) _
      rw [ht]
      simp
    | true =>
      simp only [if_true]
      simp (disch := (first | trivial | assumption | omega | (refine r_iE ?_ ?_ <;> omega) | (refine r_lE ?_ ?_ <;> omega) | fail)) only [↓q_gdT, ↓q_ltE, ↓if_pos, ↓if_neg]
      show _ = f_X6_gap_L20 _ _ _ _ _ _ _ _ _ _ (z_sm _ i + (if t i = true then _ else 0)) (z_sm _ i + (if t i = true then _ else 0)) _
      rw [ht]
      simp
  · show f_X6_gap_L20 _ _ _ _ _ _ _ _ _ (N + 1) _ _ _ = _
    rw [f_X6_gap_L20]
    have e5 : z_sm (fun s => if t s = true then (m * f s - n * g s) * (m * f s - n * g s) else 0) 5 = z_uu t (fun s => m * f s - n * g s) := rfl
    have e6 : z_sm (fun s => if t s = true then (m * f s - n * g s) * z_dir A t s else 0) 5 = z_ud A t (fun s => m * f s - n * g s) := rfl
    rw [e5, e6]
    simp only [k_29 hS, m3, s3]
    unfold z_di
    by_cases hd : z_dd A t = 0
    · simp (disch := (first | trivial | assumption | omega | (refine r_iE ?_ ?_ <;> omega) | (refine r_lE ?_ ?_ <;> omega) | fail)) only [↓q_gdT, ↓q_ltE, ↓if_pos, ↓if_neg, s3]
    · have s5 : n * m * (n * m) * z_dd A t ≠ 0 := by
        have := Int.mul_pos s2 (show 0 < z_dd A t by omega)
        omega
      simp (disch := (first | trivial | assumption | omega | (refine r_iE ?_ ?_ <;> omega) | (refine r_lE ?_ ?_ <;> omega) | fail)) only [↓q_gdT, ↓q_ltE, ↓if_pos, ↓if_neg, s3]
theorem e_gap0 {x : Nat} {S : q_S} {R : q_HR} {I : q_HI} {a b : Nat} {n m : Int} (hn : r_i n) (hm : r_i m) (h : n ≤ 0 ∨ m ≤ 0) : f_X6_gap S R I (x + 29) a n b m = some (-1) := by
  unfold f_X6_gap
  by_cases h1 : n ≤ 0
  · rw [q_gdT hn, if_pos h1]
  · rw [q_gdT hn, if_neg h1, q_gdT hm, if_neg (by omega)]
