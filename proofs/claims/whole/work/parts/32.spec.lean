/-! THE ABSTRACT STATE. A d j: d = 0 the reference's fields (1 sensors, 2 calibrations, 3 references, 4 classes, 5 margin, 6 slack, 7 measured, 8 humidity on, 9 drift on), 1 baselines, 2 data (six numbers a place: 0 the current, 1 .. calibrations, 13 .. references, 23 + 8 c .. the samples of class c), 3 times, 4 numbers of samples -/
abbrev q_A : Type := Nat → Nat → Int
def z_hu (A : q_A) (p : Nat) : Int := A 2 (6 * p)
def z_rd (A : q_A) (p s : Nat) : Int := A 2 (6 * p + 1 + s)
def z_ratv (A : q_A) (r : Int) (s : Nat) : Int := q_mn (1000 * r / A 1 s) 2000
def z_rat (A : q_A) (p s : Nat) : Int := z_ratv A (z_rd A p s) s
def z_nc (A : q_A) : Nat := (A 0 2).toNat
def z_nr (A : q_A) : Nat := (A 0 3).toNat
def z_nk (A : q_A) : Nat := (A 0 4).toNat
def z_ns (A : q_A) (c : Nat) : Nat := (A 4 c).toNat
def z_sxy (A : q_A) (s : Nat) : Int := A 0 2 * z_sm (fun k => z_hu A (1 + k) * z_rat A (1 + k) s) (z_nc A) - z_sm (fun k => z_hu A (1 + k)) (z_nc A) * z_sm (fun k => z_rat A (1 + k) s) (z_nc A)
def z_sxx (A : q_A) : Int := A 0 2 * z_sm (fun k => z_hu A (1 + k) * z_hu A (1 + k)) (z_nc A) - z_sm (fun k => z_hu A (1 + k)) (z_nc A) * z_sm (fun k => z_hu A (1 + k)) (z_nc A)
def z_cor (A : q_A) (h : Int) (s : Nat) : Int := if A 0 8 = 0 ∨ z_sxx A = 0 then 0 else z_sxy A s * (h - 50) / z_sxx A
def z_fev (A : q_A) (h r : Int) (s : Nat) : Int := q_mx (-4000) (q_mn (z_ratv A r s - z_cor A h s) 4000)
def z_fe (A : q_A) (p s : Nat) : Int := z_fev A (z_hu A p) (z_rd A p s) s
/-- where something is measured -/
def z_v (A : q_A) (p : Nat) : Prop := (p = 0 ∧ A 0 7 = 1) ∨ (1 ≤ p ∧ p < 1 + z_nc A) ∨ (13 ≤ p ∧ p < 13 + z_nr A) ∨ ∃ c k, c < z_nk A ∧ k < z_ns A c ∧ p = 23 + 8 * c + k
/-- the bounds of the abstract state -/
def z_B (A : q_A) : Prop := (2 ≤ A 0 1 ∧ A 0 1 ≤ 5) ∧ (0 ≤ A 0 2 ∧ A 0 2 ≤ 12) ∧ (0 ≤ A 0 3 ∧ A 0 3 ≤ 10) ∧ (0 ≤ A 0 4 ∧ A 0 4 ≤ 8) ∧ (0 ≤ A 0 5 ∧ A 0 5 ≤ 400) ∧ (0 ≤ A 0 6 ∧ A 0 6 ≤ 1000000) ∧ (A 0 7 = 0 ∨ A 0 7 = 1) ∧ (A 0 8 = 0 ∨ A 0 8 = 1) ∧ (A 0 9 = 0 ∨ A 0 9 = 1) ∧
  (∀ s, s < 5 → 100 ≤ A 1 s ∧ A 1 s ≤ 9999) ∧ (∀ p, z_v A p → (0 ≤ z_hu A p ∧ z_hu A p ≤ 100) ∧ ∀ s, s < 5 → (0 ≤ z_rd A p s ∧ z_rd A p s ≤ 9999) ∧ ((A 0 1).toNat ≤ s → z_rd A p s = 0)) ∧
  (∀ k, k < z_nr A → 0 ≤ A 3 k ∧ A 3 k ≤ 999) ∧ (∀ k l, k < l → l < z_nr A → A 3 k < A 3 l) ∧ ∀ c, c < z_nk A → 0 ≤ A 4 c ∧ A 4 c ≤ 8
/-! what class and reference hold of it -/
def w_fr (x a : Nat) : Prop := x + 183 ≤ a ∨ a = x + 48 ∨ a = x + 49
def w_M (x : Nat) (S : q_S) (R : q_HR) (I : q_HI) (h : Int) (r : Nat → Int) (m : Nat) : Prop := S.1 m = 6 ∧ S.1 (R m 1) = 12 ∧ S.2.1 (R m 1) = 5 ∧ w_fr x m ∧ w_fr x (R m 1) ∧ I m 0 = h ∧ ∀ s, s < 5 → I (R m 1) s = r s
def w_P (x : Nat) (S : q_S) (R : q_HR) (I : q_HI) (A : q_A) (m p : Nat) : Prop := w_M x S R I (z_hu A p) (z_rd A p) m
def w_C (x : Nat) (S : q_S) (R : q_HR) (I : q_HI) (A : q_A) : Prop :=
  (I (x + 1) 6 = A 0 1 ∧ I (x + 1) 5 = A 0 8 ∧ I x 9 = A 0 7 ∧ I x 10 = A 0 4 ∧ I x 11 = A 0 5 ∧ I x 12 = A 0 6 ∧ I (x + 9) 7 = A 0 9 ∧ I (x + 3) 2 = A 0 2 ∧ I (x + 10) 2 = A 0 3) ∧
  (∀ s, s < 5 → I (x + 2) s = A 1 s) ∧ (∀ c, c < 8 → I (x + 51 + 15 * c + 1) 2 = if c < z_nk A then A 4 c else 0) ∧
  (∀ k, k < z_nc A → w_P x S R I A (R (x + 4) k) (1 + k)) ∧ (∀ k, k < z_nr A → w_P x S R I A (R (x + 11) k) (13 + k) ∧ I (x + 14) k = A 3 k) ∧ (∀ c k, c < z_nk A → k < z_ns A c → w_P x S R I A (R (x + 51 + 15 * c + 2) k) (23 + 8 * c + k)) ∧
  (if A 0 7 = 1 then w_P x S R I A (R x 8) 0 else R x 8 = x + 48) ∧ (I (x + 48) 0 = 0 ∧ ∀ s, s < 5 → I (x + 49) s = 0) ∧ (∀ s, s < 5 → I (x + 8) s = z_sxy A s) ∧ I (x + 1) 4 = z_sxx A
def w_D (x : Nat) (I : q_HI) (A : q_A) : Prop := (∀ j, 1 ≤ j → j < 10 → I (x + 171) j = A 0 j) ∧ ∀ d, 1 ≤ d → d < 5 → ∀ j, I (x + 171 + d) j = A d j
def w_I (x : Nat) (S : q_S) (R : q_HR) (I : q_HI) (A : q_A) : Prop := w_Sh x S R ∧ w_C x S R I A ∧ w_D x I A ∧ z_B A
/-! bounds -/
theorem z_mulB {a b M N : Int} (ha : -M ≤ a ∧ a ≤ M) (hb : -N ≤ b ∧ b ≤ N) : -(M * N) ≤ a * b ∧ a * b ≤ M * N := by
  have h1 : a.natAbs ≤ M.toNat := by omega
  have h2 : b.natAbs ≤ N.toNat := by omega
  have h3 : (a * b).natAbs ≤ M.toNat * N.toNat := by rw [Int.natAbs_mul]; exact Nat.mul_le_mul h1 h2
  have h4 : ((M.toNat * N.toNat : Nat) : Int) = M * N := by rw [Int.natCast_mul, Int.toNat_of_nonneg (by omega), Int.toNat_of_nonneg (by omega)]
  omega
theorem z_mul0 {a b M N : Int} (ha : 0 ≤ a ∧ a ≤ M) (hb : 0 ≤ b ∧ b ≤ N) : 0 ≤ a * b ∧ a * b ≤ M * N :=
  ⟨Int.mul_nonneg ha.1 hb.1, (z_mulB (a := a) (b := b) (M := M) (N := N) (by omega) (by omega)).2⟩
theorem z_sq (a : Int) : 0 ≤ a * a := by
  rcases Int.le_total 0 a with h | h
  · exact Int.mul_nonneg h h
  · have := Int.mul_nonneg (show 0 ≤ -a by omega) (show 0 ≤ -a by omega)
    rwa [Int.neg_mul_neg] at this
theorem z_mnB {v h : Int} : q_mn v h ≤ h ∧ q_mn v h ≤ v ∧ (q_mn v h = v ∨ q_mn v h = h) := by unfold q_mn; split <;> omega
theorem z_mxB {l v : Int} : l ≤ q_mx l v ∧ v ≤ q_mx l v ∧ (q_mx l v = v ∨ q_mx l v = l) := by unfold q_mx; split <;> omega
theorem z_feB (A : q_A) (h r : Int) (s : Nat) : -4000 ≤ z_fev A h r s ∧ z_fev A h r s ≤ 4000 := by
  unfold z_fev
  have h1 := z_mxB (l := -4000) (v := q_mn (z_ratv A r s - z_cor A h s) 4000)
  have h2 := z_mnB (v := z_ratv A r s - z_cor A h s) (h := 4000)
  omega
theorem z_ratB {A : q_A} {r : Int} {s : Nat} (hb : 100 ≤ A 1 s ∧ A 1 s ≤ 9999) (hr : 0 ≤ r ∧ r ≤ 9999) : 0 ≤ z_ratv A r s ∧ z_ratv A r s ≤ 2000 := by
  unfold z_ratv
  have h1 : 0 ≤ 1000 * r / A 1 s := Int.ediv_nonneg (by omega) (by omega)
  have h2 := z_mnB (v := 1000 * r / A 1 s) (h := 2000)
  omega
/-- Cauchy for n numbers: n times the sum of squares is at least the square of the sum -/
theorem z_smSub (h : Nat → Int) (c : Int) : ∀ n : Nat, z_sm (fun k => (h k - c) * (h k - c)) n = z_sm (fun k => h k * h k) n - 2 * c * z_sm h n + n * (c * c)
  | 0 => by simp [z_sm]
  | n + 1 => by
    show z_sm _ n + (h n - c) * (h n - c) = (z_sm _ n + h n * h n) - 2 * c * (z_sm h n + h n) + ((n + 1 : Nat) : Int) * (c * c)
    rw [z_smSub h c n]
    have e : ((n + 1 : Nat) : Int) = (n : Int) + 1 := by omega
    rw [e]
    grind
theorem z_smNN {f : Nat → Int} : ∀ {n : Nat}, (∀ k, k < n → 0 ≤ f k) → 0 ≤ z_sm f n
  | 0, _ => Int.le_refl 0
  | n + 1, h => by
    have h1 := z_smNN (n := n) (fun k hk => h k (by omega))
    have h2 := h n (by omega)
    show 0 ≤ z_sm f n + f n
    omega
theorem z_cauchy (h : Nat → Int) : ∀ n : Nat, 0 ≤ (n : Int) * z_sm (fun k => h k * h k) n - z_sm h n * z_sm h n
  | 0 => by simp [z_sm]
  | n + 1 => by
    have h1 := z_cauchy h n
    have h2 : 0 ≤ z_sm (fun k => (h k - h n) * (h k - h n)) n := z_smNN (fun k _ => z_sq _)
    rw [z_smSub] at h2
    show 0 ≤ ((n + 1 : Nat) : Int) * (z_sm (fun k => h k * h k) n + h n * h n) - (z_sm h n + h n) * (z_sm h n + h n)
    have e : ((n + 1 : Nat) : Int) = (n : Int) + 1 := by omega
    rw [e]
    generalize z_sm (fun k => h k * h k) n = Q at *
    generalize z_sm h n = T at *
    generalize (n : Int) = N at *
    generalize h n = a at *
    have : (N + 1) * (Q + a * a) - (T + a) * (T + a) = (N * Q - T * T) + (Q - 2 * a * T + N * (a * a)) := by grind
    omega
theorem z_smPos (h : Nat → Int) (c : Int) (hd : h 0 ≠ c) : ∀ m : Nat, 0 < z_sm (fun k => (h k - c) * (h k - c)) (m + 1)
  | 0 => by
    show 0 < 0 + (h 0 - c) * (h 0 - c)
    have h3 := z_sq (h 0 - c)
    have h4 : (h 0 - c) * (h 0 - c) ≠ 0 := fun q => by
      rcases Int.mul_eq_zero.mp q with q | q <;> omega
    omega
  | m + 1 => by
    have ih := z_smPos h c hd m
    have h3 := z_sq (h (m + 1) - c)
    show 0 < z_sm _ (m + 1) + (h (m + 1) - c) * (h (m + 1) - c)
    omega
/-- .. and more than it, where two of the numbers differ -/
theorem z_cauchyS (h : Nat → Int) (n : Nat) (hn : 0 < n) (hd : h 0 ≠ h n) : 0 < ((n + 1 : Nat) : Int) * z_sm (fun k => h k * h k) (n + 1) - z_sm h (n + 1) * z_sm h (n + 1) := by
  have h1 := z_cauchy h n
  have h2 : 0 < z_sm (fun k => (h k - h n) * (h k - h n)) n := by
    have := z_smPos h (h n) hd (n - 1)
    rwa [show n - 1 + 1 = n by omega] at this
  rw [z_smSub] at h2
  show 0 < ((n + 1 : Nat) : Int) * (z_sm (fun k => h k * h k) n + h n * h n) - (z_sm h n + h n) * (z_sm h n + h n)
  have e : ((n + 1 : Nat) : Int) = (n : Int) + 1 := by omega
  rw [e]
  generalize z_sm (fun k => h k * h k) n = Q at *
  generalize z_sm h n = T at *
  generalize (n : Int) = N at *
  generalize h n = a at *
  have : (N + 1) * (Q + a * a) - (T + a) * (T + a) = (N * Q - T * T) + (Q - 2 * a * T + N * (a * a)) := by grind
  omega
