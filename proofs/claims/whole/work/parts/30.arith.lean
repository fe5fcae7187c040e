/-! PURE ARITHMETIC -/
def z_sm (f : Nat → Int) : Nat → Int
  | 0 => 0
  | n + 1 => z_sm f n + f n
theorem z_smE {f g : Nat → Int} : ∀ {n : Nat}, (∀ k, k < n → f k = g k) → z_sm f n = z_sm g n
  | 0, _ => rfl
  | n + 1, h => by
    show z_sm f n + f n = z_sm g n + g n
    rw [z_smE (fun k hk => h k (by omega)), h n (by omega)]
theorem z_smB {f : Nat → Int} {lo hi : Int} : ∀ {n : Nat}, (∀ k, k < n → lo ≤ f k ∧ f k ≤ hi) → (n : Int) * lo ≤ z_sm f n ∧ z_sm f n ≤ (n : Int) * hi
  | 0, _ => by simp [z_sm]
  | n + 1, h => by
    obtain ⟨h1, h2⟩ := z_smB (n := n) (fun k hk => h k (by omega))
    obtain ⟨h3, h4⟩ := h n (by omega)
    have e1 : ((n + 1 : Nat) : Int) * lo = (n : Int) * lo + lo := by rw [Int.natCast_add, Int.add_mul]; simp
    have e2 : ((n + 1 : Nat) : Int) * hi = (n : Int) * hi + hi := by rw [Int.natCast_add, Int.add_mul]; simp
    show _ ≤ z_sm f n + f n ∧ z_sm f n + f n ≤ _
    omega
theorem z_sm0 {n : Nat} {f : Nat → Int} (h : ∀ k, k < n → f k = 0) : z_sm f n = 0 := by
  have := z_smB (lo := 0) (hi := 0) (n := n) (f := f) (fun k hk => by rw [h k hk]; omega)
  omega
/-- loops: the states in closed form, or by an invariant -/
theorem z_loop {α : Type} (F : Nat → Nat → α) (e : Nat) (K : α) (hs : ∀ n i, i < e → F (n + 1) i = F n (i + 1)) (hx : ∀ n, F (n + 1) e = K) : ∀ N, e < N → F N 0 = K := by
  have key : ∀ (d i N : Nat), i + d = e → d < N → F N i = K := by
    intro d
    induction d with
    | zero =>
      intro i N hi hN
      obtain ⟨n, rfl⟩ : ∃ n, N = n + 1 := ⟨N - 1, by omega⟩
      rw [show i = e by omega]
      exact hx n
    | succ d ih =>
      intro i N hi hN
      obtain ⟨n, rfl⟩ : ∃ n, N = n + 1 := ⟨N - 1, by omega⟩
      rw [hs n i (by omega)]
      exact ih (i + 1) n (by omega) (by omega)
  exact fun N h => key e 0 N (by omega) h
theorem z_loopR {σ α : Type} (F : Nat → σ → α) (P : Nat → σ → Prop) (e : Nat) (k : σ → α) (hs : ∀ n i s, i < e → P i s → ∃ s', P (i + 1) s' ∧ F (n + 1) s = F n s') (hx : ∀ n s, P e s → F (n + 1) s = k s) : ∀ (N i : Nat) (s : σ), i ≤ e → e - i < N → P i s → ∃ s', P e s' ∧ F N s = k s' := by
  have key : ∀ (d i N : Nat) (s : σ), i + d = e → d < N → P i s → ∃ s', P e s' ∧ F N s = k s' := by
    intro d
    induction d with
    | zero =>
      intro i N s hi hN hP
      obtain ⟨n, rfl⟩ : ∃ n, N = n + 1 := ⟨N - 1, by omega⟩
      have hie : i = e := by omega
      subst hie
      exact ⟨s, hP, hx n s hP⟩
    | succ d ih =>
      intro i N s hi hN hP
      obtain ⟨n, rfl⟩ : ∃ n, N = n + 1 := ⟨N - 1, by omega⟩
      obtain ⟨s', hP', e1⟩ := hs n i s (by omega) hP
      obtain ⟨s2, h2, e2⟩ := ih (i + 1) n s' (by omega) (by omega) hP'
      exact ⟨s2, h2, e1.trans e2⟩
  exact fun N i s h1 h2 h3 => key (e - i) i N s (by omega) h2 h3
/-- division towards negative infinity, out of the one towards 0 -/
theorem z_floor {a b : Int} (hb : 0 < b) : (Int.tmod a b < 0 → Int.tdiv a b - 1 = a / b) ∧ (¬ Int.tmod a b < 0 → Int.tdiv a b = a / b) := by
  have h0 : a = b * Int.tdiv a b + Int.tmod a b := (Int.mul_tdiv_add_tmod a b).symm
  obtain ⟨h1, h2⟩ := tmod_bounds (a := a) hb
  generalize Int.tdiv a b = t at *
  generalize Int.tmod a b = r at *
  constructor
  · intro h
    have e1 : b * (t - 1) = b * t - b := by rw [Int.mul_sub, Int.mul_one]
    refine Int.le_antisymm ?_ ?_
    · rw [Int.le_ediv_iff_mul_le hb, Int.mul_comm]; omega
    · have : a / b < t := by rw [Int.ediv_lt_iff_lt_mul hb, Int.mul_comm]; omega
      omega
  · intro h
    refine Int.le_antisymm ?_ ?_
    · rw [Int.le_ediv_iff_mul_le hb, Int.mul_comm]; omega
    · have e1 : (t + 1) * b = b * t + b := by rw [Int.add_mul, Int.one_mul, Int.mul_comm]
      have : a / b < t + 1 := by rw [Int.ediv_lt_iff_lt_mul hb]; omega
      omega
theorem z_divB {a b : Int} (hb : 0 < b) {lo hi : Int} (h1 : lo * b ≤ a) (h2 : a < (hi + 1) * b) : lo ≤ a / b ∧ a / b ≤ hi := by
  constructor
  · rw [Int.le_ediv_iff_mul_le hb]; exact h1
  · have : a / b < hi + 1 := by rw [Int.ediv_lt_iff_lt_mul hb]; exact h2
    omega
theorem r_lE {x : Int} (h1 : -9223372036854775808 ≤ x) (h2 : x ≤ 9223372036854775807) : r_l x := ⟨h1, h2⟩
theorem r_iE {x : Int} (h1 : -2147483648 ≤ x) (h2 : x ≤ 2147483647) : r_i x := ⟨h1, h2⟩
theorem e_quot {a b : Int} (ha : r_l a) (hb : r_l b) (h : 0 < b) : f_X9_quotient a b = some (a / b) := by
  obtain ⟨h1, h2⟩ := z_floor (a := a) h
  have hm := tmod_bounds (a := a) h
  have hb2 := hb.2
  have hmr : r_l (Int.tmod a b) := r_lE (by omega) (by omega)
  have hne : b ≠ 0 := by omega
  unfold f_X9_quotient
  simp only [↓q_ltE, ↓q_gdT ha, ↓q_gdT hb, ↓q_gdT hmr, ↓q_gdT hne, ↓if_pos h]
  by_cases hc : Int.tmod a b < 0
  · rw [if_neg (by omega), h1 hc]
  · rw [if_pos (by omega), h2 hc]
theorem e_quot0 {a : Int} : f_X9_quotient a 0 = some 0 := by
  unfold f_X9_quotient
  rw [q_gdT (r_lE (by omega) (by omega)), if_neg (by omega)]
theorem e_down {a b : Int} (ha : r_l a) (hb : r_l b) (h : 0 < b) : f_X10_down a b = some (a / b) := by
  obtain ⟨h1, h2⟩ := z_floor (a := a) h
  have hm := tmod_bounds (a := a) h
  have hb2 := hb.2
  have h0 : a = b * Int.tdiv a b + Int.tmod a b := (Int.mul_tdiv_add_tmod a b).symm
  have hne : b ≠ 0 := by omega
  have hx : r_l (Int.tdiv a b * b) := by
    have hs : Int.tmod a b = a - Int.tdiv a b * b := by rw [Int.mul_comm]; omega
    have h3 : 0 ≤ a → 0 ≤ Int.tmod a b := fun h => Int.tmod_nonneg b h
    have h4 : a ≤ 0 → Int.tmod a b ≤ 0 := fun h => by
      have := Int.tmod_nonneg b (a := -a) (by omega)
      rw [Int.neg_tmod] at this
      omega
    obtain ⟨ha1, ha2⟩ := ha
    rcases Int.le_total 0 a with q | q
    · have := h3 q; exact r_lE (by omega) (by omega)
    · have := h4 q; exact r_lE (by omega) (by omega)
  unfold f_X10_down
  simp only [↓q_ltE, ↓q_gdT ha, ↓q_gdT hb, ↓q_gdT hx, ↓q_gdT hne]
  have hc2 : Int.tdiv a b * b = b * Int.tdiv a b := Int.mul_comm _ _
  by_cases hc : Int.tmod a b < 0
  · rw [if_neg (by omega), h1 hc]
  · rw [if_pos (by omega), h2 hc]
theorem e_isWithin {a b c : Int} (ha : r_i a) (hb : r_i b) (hc : r_i c) : f_X9_isWithin a b c = some (if b ≤ a ∧ a ≤ c then 1 else 0) := by
  unfold f_X9_isWithin
  simp only [↓q_gdT ha, ↓q_gdT hb, ↓q_gdT hc]
  by_cases h1 : a < b
  · rw [if_pos h1, if_neg (by omega)]
  · rw [if_neg h1]
    by_cases h2 : c < a
    · rw [if_pos h2, if_neg (by omega)]
    · rw [if_neg h2, if_pos (by omega)]
theorem e_isIn {a b c : Int} (ha : r_l a) (hb : r_l b) (hc : r_l c) : f_X10_isIn a b c = some (if b ≤ a ∧ a ≤ c then 1 else 0) := by
  unfold f_X10_isIn
  simp only [↓q_gdT ha, ↓q_gdT hb, ↓q_gdT hc]
  by_cases h1 : a < b
  · rw [if_pos h1, if_neg (by omega)]
  · rw [if_neg h1]
    by_cases h2 : c < a
    · rw [if_pos h2, if_neg (by omega)]
    · rw [if_neg h2, if_pos (by omega)]
