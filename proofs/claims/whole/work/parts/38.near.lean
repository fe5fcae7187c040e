/-! THE CLASS: nearest classes, tests -/
def z_dg (A : q_A) (t : Nat → Bool) (f g : Nat → Int) (m : Int) : Int := if m ≤ 0 then -1 else z_di A t (fun s => m * f s - g s) m
theorem z_dgB {A : q_A} (hB : z_B A) (t : Nat → Bool) {f g : Nat → Int} {m : Int} (hf : ∀ s, s < 5 → -4000 ≤ f s ∧ f s ≤ 4000) (hg : ∀ s, s < 5 → -(4000 * m) ≤ g s ∧ g s ≤ 4000 * m) : -1 ≤ z_dg A t f g m ∧ z_dg A t f g m ≤ 320000000 ∧ (z_dg A t f g m = -1 ↔ m ≤ 0) := by
  unfold z_dg
  split
  · next h => exact ⟨by omega, by omega, by simp [h]⟩
  · next h =>
    have := z_diB hB t (u := fun s => m * f s - g s) (n := m) (by omega) (fun s hs => by
      have h1 := z_mulB (M := m) (N := 4000) (a := m) (b := f s) (by omega) (hf s hs)
      have h2 := hg s hs
      show -(8000 * m) ≤ m * f s - g s ∧ m * f s - g s ≤ 8000 * m
      omega)
    refine ⟨by omega, by omega, ?_⟩
    constructor
    · intro q; omega
    · intro q; omega
/-- the groups' sums and weights at present -/
def w_gs (x : Nat) (I : q_HI) (n : Nat) (m : Nat → Int) (g : Nat → Nat → Int) : Prop := ∀ c, c < n → I (x + 51 + 15 * c) 3 = m c ∧ (0 ≤ m c ∧ m c ≤ 8) ∧ ∀ s, s < 5 → I (x + 51 + 15 * c + 14) s = g c s ∧ -(4000 * m c) ≤ g c s ∧ g c s ≤ 4000 * m c
theorem z_diE {A : q_A} {t : Nat → Bool} {u v : Nat → Int} {n k : Int} (h : ∀ s, s < 5 → u s = v s) (hn : n = k) : z_di A t u n = z_di A t v k := by
  subst hn
  have e1 : z_uu t u = z_uu t v := z_smE (fun s hs => by show (if t s = true then u s * u s else 0) = _; rw [h s hs])
  have e2 : z_ud A t u = z_ud A t v := z_smE (fun s hs => by show (if t s = true then u s * z_dir A t s else 0) = _; rw [h s hs])
  unfold z_di
  rw [e1, e2]
theorem e_gapToClass {x : Nat} {S : q_S} {R : q_HR} {I : q_HI} {A : q_A} {t : Nat → Bool} {a c N : Nat} {f : Nat → Int} {m : Nat → Int} {g : Nat → Nat → Int} (hS : w_Sh x S R) (hB : z_B A) (hm : w_me x I A t) (hG : w_gs x I N m g) (hc : c < N) (hN : N ≤ 8) (ka : S.1 a = 12) (na : S.2.1 a = 5) (hf : ∀ s, s < 5 → I a s = f s ∧ -4000 ≤ f s ∧ f s ≤ 4000) :
    f_X9_gapToClass S R I x a (c : Int) = some (z_dg A t f (g c) (m c)) := by
  obtain ⟨g1, g2, g3⟩ := hG c hc
  have hc8 : c < 8 := by omega
  unfold f_X9_gapToClass
  simp only [k_0 hS, r_0_2 hS, k_29 hS, r_0_3 hS, k_32 hS, n_32 hS, Int.toNat_natCast, r_32 hS hc8, kg_0 hS hc8, rg_0_2 hS hc8, kg_14 hS hc8, g1]
  have q : f_X6_gap S R I (x + 29) a 1 (x + 51 + 15 * c + 14) (m c) = some (z_dg A t f (g c) (m c)) := by
    by_cases h0 : m c ≤ 0
    · rw [e_gap0 (r_iE (by omega) (by omega)) (r_iE (by omega) (by omega)) (Or.inr h0)]
      unfold z_dg
      rw [if_pos h0]
    · have := (e_gap (t := t) (a := a) (b := x + 51 + 15 * c + 14) (n := 1) (m := m c) (f := f) (g := g c) hS hB hm ka na (kg_14 hS hc8) (ng_14 hS hc8) (by omega) (by omega) (fun s hs => by have := hf s hs; omega) g3).1
      rw [this]
      unfold z_dg
      rw [if_neg h0]
      exact congrArg some (z_diE (fun s _ => by rw [Int.one_mul]) (by rw [Int.one_mul]))
  simp (disch := (first | trivial | assumption | omega | (refine r_iE ?_ ?_ <;> omega) | (refine r_lE ?_ ?_ <;> omega) | fail)) only [↓q_gdT, ↓q_ltE, ↓if_pos, ↓if_neg, ↓q_bdE q]
/-- the first of the nearest: (class, distance), by distances that are -1 where there is none -/
def z_nst (d : Nat → Int) : Nat → Int × Int
  | 0 => (-1, 0)
  | n + 1 => if d n = -1 ∨ ((z_nst d n).1 ≠ -1 ∧ (z_nst d n).2 ≤ d n) then z_nst d n else ((n : Int), d n)
theorem z_nstE {d e : Nat → Int} : ∀ {n : Nat}, (∀ c, c < n → d c = e c) → z_nst d n = z_nst e n
  | 0, _ => rfl
  | n + 1, h => by
    show (if d n = -1 ∨ ((z_nst d n).1 ≠ -1 ∧ (z_nst d n).2 ≤ d n) then z_nst d n else ((n : Int), d n)) = (if e n = -1 ∨ ((z_nst e n).1 ≠ -1 ∧ (z_nst e n).2 ≤ e n) then z_nst e n else ((n : Int), e n))
    rw [z_nstE (fun c hc => h c (by omega)), h n (by omega)]
theorem z_nstB {d : Nat → Int} : ∀ {n : Nat}, (∀ c, c < n → -1 ≤ d c ∧ d c ≤ 320000000) → (-1 ≤ (z_nst d n).1 ∧ (z_nst d n).1 < n) ∧ (0 ≤ (z_nst d n).2 ∧ (z_nst d n).2 ≤ 320000000) ∧ ((z_nst d n).1 ≠ -1 → (z_nst d n).2 = d (z_nst d n).1.toNat ∧ d (z_nst d n).1.toNat ≠ -1)
  | 0, _ => by simp [z_nst]
  | n + 1, h => by
    obtain ⟨h1, h2, h3⟩ := z_nstB (n := n) (fun c hc => h c (by omega))
    have h4 := h n (by omega)
    unfold z_nst
    split
    · exact ⟨by omega, h2, h3⟩
    · next hc => exact ⟨by show -1 ≤ (n : Int) ∧ (n : Int) < ((n + 1 : Nat) : Int); omega, by show 0 ≤ d n ∧ d n ≤ _; omega, fun _ => by simp; omega⟩
theorem e_nearestTo {x : Nat} {S : q_S} {R : q_HR} {I : q_HI} {A : q_A} {t : Nat → Bool} {a : Nat} {f : Nat → Int} {m : Nat → Int} {g : Nat → Nat → Int} {skip : Int} (hS : w_Sh x S R) (hB : z_B A) (h10 : I x 10 = A 0 4) (hm : w_me x I A t) (hG : w_gs x I (z_nk A) m g) (ka : S.1 a = 12) (na : S.2.1 a = 5) (hf : ∀ s, s < 5 → I a s = f s ∧ -4000 ≤ f s ∧ f s ≤ 4000) (hk : r_i skip) :
    f_X9_nearestTo S R I x a skip = some (z_nst (fun c => if (c : Int) = skip then -1 else z_dg A t f (g c) (m c)) (z_nk A)).1 := by
  obtain ⟨hk1, hk2⟩ := hB.nk
  have hd : ∀ c, c < z_nk A → -1 ≤ (if (c : Int) = skip then -1 else z_dg A t f (g c) (m c)) ∧ (if (c : Int) = skip then -1 else z_dg A t f (g c) (m c)) ≤ 320000000 := fun c hc => by
    have := z_dgB hB t (f := f) (g := g c) (m := m c) (fun s hs => (hf s hs).2) (fun s hs => ((hG c hc).2.2 s hs).2)
    split <;> omega
  unfold f_X9_nearestTo
  have key := z_loop (fun n i => f_X9_nearestTo_L8 S R I x a skip (fun w16 w17 w18 => some w16) n (z_nst (fun c => if (c : Int) = skip then -1 else z_dg A t f (g c) (m c)) i).1 (z_nst (fun c => if (c : Int) = skip then -1 else z_dg A t f (g c) (m c)) i).2 ((i : Nat) : Int)) (z_nk A) (some (z_nst (fun c => if (c : Int) = skip then -1 else z_dg A t f (g c) (m c)) (z_nk A)).1) (fun n i hi => ?_) (fun n => ?_) 100 (by omega)
  · exact key
  · show f_X9_nearestTo_L8 _ _ _ _ _ _ _ (n + 1) _ _ _ = _
    rw [f_X9_nearestTo_L8]
    have q := e_gapToClass (c := i) hS hB hm hG hi (by omega) ka na hf
    obtain ⟨b1, b2, b3⟩ := z_nstB (d := fun c => if (c : Int) = skip then -1 else z_dg A t f (g c) (m c)) (n := i) (fun c hc => hd c (by omega))
    have b4 := hd i hi
    have e : z_nst (fun c => if (c : Int) = skip then -1 else z_dg A t f (g c) (m c)) (i + 1) = if (if (i : Int) = skip then -1 else z_dg A t f (g i) (m i)) = -1 ∨ ((z_nst (fun c => if (c : Int) = skip then -1 else z_dg A t f (g c) (m c)) i).1 ≠ -1 ∧ (z_nst (fun c => if (c : Int) = skip then -1 else z_dg A t f (g c) (m c)) i).2 ≤ (if (i : Int) = skip then -1 else z_dg A t f (g i) (m i))) then z_nst (fun c => if (c : Int) = skip then -1 else z_dg A t f (g c) (m c)) i else ((i : Int), if (i : Int) = skip then -1 else z_dg A t f (g i) (m i)) := rfl
    show _ = f_X9_nearestTo_L8 _ _ _ _ _ _ _ n _ _ ((i + 1 : Nat) : Int)
    rw [e]
    generalize hz : z_nst (fun c => if (c : Int) = skip then -1 else z_dg A t f (g c) (m c)) i = z at *
    simp only [k_0 hS, h10]
    by_cases hs : (i : Int) = skip
    · simp only [if_pos hs] at b4 ⊢
      simp only [true_or, if_true]
      simp (disch := (first | trivial | assumption | omega | (refine r_iE ?_ ?_ <;> omega) | (refine r_lE ?_ ?_ <;> omega) | fail)) only [↓q_gdT, ↓q_ltE, ↓if_pos, ↓if_neg]
      rfl
    · simp only [if_neg hs] at b4 ⊢
      generalize z_dg A t f (g i) (m i) = w at *
      by_cases h1 : w = -1
      · rw [if_pos (Or.inl h1)]
        simp (disch := (first | trivial | assumption | omega | (refine r_iE ?_ ?_ <;> omega) | (refine r_lE ?_ ?_ <;> omega) | fail)) only [↓q_gdT, ↓q_ltE, ↓if_pos, ↓if_neg, ↓q_bdE q]
        rfl
      · by_cases h2 : z.1 = -1
        · rw [if_neg (by omega)]
          simp (disch := (first | trivial | assumption | omega | (refine r_iE ?_ ?_ <;> omega) | (refine r_lE ?_ ?_ <;> omega) | fail)) only [↓q_gdT, ↓q_ltE, ↓if_pos, ↓if_neg, ↓q_bdE q]
          rfl
        · by_cases h3 : z.2 ≤ w
          · rw [if_pos (Or.inr ⟨h2, h3⟩)]
            simp (disch := (first | trivial | assumption | omega | (refine r_iE ?_ ?_ <;> omega) | (refine r_lE ?_ ?_ <;> omega) | fail)) only [↓q_gdT, ↓q_ltE, ↓if_pos, ↓if_neg, ↓q_bdE q]
            rfl
          · rw [if_neg (by omega)]
            simp (disch := (first | trivial | assumption | omega | (refine r_iE ?_ ?_ <;> omega) | (refine r_lE ?_ ?_ <;> omega) | fail)) only [↓q_gdT, ↓q_ltE, ↓if_pos, ↓if_neg, ↓q_bdE q]
            rfl
  · show f_X9_nearestTo_L8 _ _ _ _ _ _ _ (n + 1) _ _ _ = _
    rw [f_X9_nearestTo_L8]
    simp only [k_0 hS, h10]
    simp (disch := (first | trivial | assumption | omega | (refine r_iE ?_ ?_ <;> omega) | (refine r_lE ?_ ?_ <;> omega) | fail)) only [↓q_gdT, ↓q_ltE, ↓if_pos, ↓if_neg]
/-! distances by places -/
def z_dp (A : q_A) (t : Nat → Bool) (p c : Nat) : Int := z_dg A t (z_fe A p) (z_cs A c) (A 4 c)
theorem z_fB (A : q_A) (p s : Nat) : -4000 ≤ z_fe A p s ∧ z_fe A p s ≤ 4000 := z_feB _ _ _ _
theorem z_csB {A : q_A} (hB : z_B A) {c : Nat} (hc : c < z_nk A) (s : Nat) : -(4000 * A 4 c) ≤ z_cs A c s ∧ z_cs A c s ≤ 4000 * A 4 c := by
  obtain ⟨h1, h2⟩ := hB.ns hc
  have := z_smB (lo := -4000) (hi := 4000) (f := fun k => z_fe A (23 + 8 * c + k) s) (n := z_ns A c) (fun k _ => z_fB A _ s)
  rw [h2] at this
  unfold z_cs
  omega
theorem z_dpB {A : q_A} (hB : z_B A) (t : Nat → Bool) (p : Nat) {c : Nat} (hc : c < z_nk A) : -1 ≤ z_dp A t p c ∧ z_dp A t p c ≤ 320000000 ∧ (z_dp A t p c = -1 ↔ A 4 c ≤ 0) := z_dgB hB t (fun s _ => z_fB A p s) (fun s _ => z_csB hB hc s)
theorem w_pr.gs {x : Nat} {I : q_HI} {A : q_A} {t : Nat → Bool} (h : w_pr x I A t) (hB : z_B A) : w_gs x I (z_nk A) (fun c => A 4 c) (fun c s => z_cs A c s) := fun c hc => ⟨(h.2.2.2.2.2 c hc).2.2, (hB.ns hc).1, fun s hs => ⟨(h.2.2.2.2.2 c hc).2.1 s hs, z_csB hB hc s⟩⟩
/-- a sum without one of its terms -/
theorem z_smSkip (f : Nat → Int) (k : Nat) : ∀ n : Nat, z_sm (fun j => if j = k then 0 else f j) n = z_sm f n - if k < n then f k else 0
  | 0 => by simp [z_sm]
  | n + 1 => by
    show z_sm _ n + (if n = k then 0 else f n) = z_sm f n + f n - _
    rw [z_smSkip f k n]
    by_cases h1 : n = k
    · subst h1
      rw [if_neg (by omega), if_pos rfl, if_pos (by omega)]
      omega
    · rw [if_neg h1]
      by_cases h2 : k < n
      · rw [if_pos h2, if_pos (by omega)]; omega
      · rw [if_neg h2, if_neg (by omega)]; omega
theorem z_smSkipB {f : Nat → Int} {M : Int} (hM : 0 ≤ M) (hf : ∀ j, -M ≤ f j ∧ f j ≤ M) (q : Nat) : ∀ n : Nat, q < n → -(M * ((n : Int) - 1)) ≤ z_sm f n - f q ∧ z_sm f n - f q ≤ M * ((n : Int) - 1)
  | 0, h => absurd h (by omega)
  | n + 1, h => by
    have e : M * (((n + 1 : Nat) : Int) - 1) = M * (n : Int) := by congr 1; omega
    rw [e]
    show _ ≤ z_sm f n + f n - f q ∧ z_sm f n + f n - f q ≤ _
    by_cases h1 : q = n
    · subst h1
      have := z_smB (lo := -M) (hi := M) (f := f) (n := q) (fun j _ => hf j)
      rw [Int.mul_comm M]
      rw [Int.mul_neg] at this
      omega
    · have := z_smSkipB hM hf q n (by omega)
      have h2 := hf n
      have e2 : M * ((n : Int) - 1) = M * n - M := by rw [Int.mul_sub, Int.mul_one]
      rw [e2] at this
      omega
/-- a test: the class of a sample without it -/
def z_lg (A : q_A) (c0 k c s : Nat) : Int := if c = c0 then z_cs A c s - z_fe A (23 + 8 * c0 + k) s else z_cs A c s
def z_lm (A : q_A) (c0 c : Nat) : Int := if c = c0 then A 4 c - 1 else A 4 c
def z_test (A : q_A) (t : Nat → Bool) (c0 k : Nat) : Int := (z_nst (fun c => z_dg A t (z_fe A (23 + 8 * c0 + k)) (z_lg A c0 k c) (z_lm A c0 c)) (z_nk A)).1
theorem z_lgB {A : q_A} (hB : z_B A) {c0 k c s : Nat} (hc : c < z_nk A) (hk : k < z_ns A c0) (h0 : c0 < z_nk A) : -(4000 * z_lm A c0 c) ≤ z_lg A c0 k c s ∧ z_lg A c0 k c s ≤ 4000 * z_lm A c0 c := by
  unfold z_lg z_lm
  by_cases h : c = c0
  · subst h
    rw [if_pos rfl, if_pos rfl]
    have := z_smSkipB (M := 4000) (by omega) (f := fun j => z_fe A (23 + 8 * c + j) s) (fun j => z_fB A _ s) k (z_ns A c) hk
    rw [(hB.ns hc).2] at this
    unfold z_cs
    omega
  · rw [if_neg h, if_neg h]
    exact z_csB hB hc s
theorem z_testB {A : q_A} (hB : z_B A) (t : Nat → Bool) {c0 k : Nat} (h0 : c0 < z_nk A) (hk : k < z_ns A c0) : -1 ≤ z_test A t c0 k ∧ z_test A t c0 k < 8 := by
  have := z_nstB (d := fun c => z_dg A t (z_fe A (23 + 8 * c0 + k)) (z_lg A c0 k c) (z_lm A c0 c)) (n := z_nk A) (fun c hc => by
    have := z_dgB hB t (f := z_fe A (23 + 8 * c0 + k)) (g := z_lg A c0 k c) (m := z_lm A c0 c) (fun s _ => z_fB A _ s) (fun s _ => z_lgB hB hc hk h0)
    omega)
  have h2 := hB.nk
  unfold z_test
  omega
theorem e_resultOfTest {x : Nat} {S : q_S} {R : q_HR} {I : q_HI} {A : q_A} {t : Nat → Bool} {c0 k : Nat} (hS : w_Sh x S R) (hB : z_B A) (h10 : I x 10 = A 0 4) (hm : w_me x I A t) (hG : ∀ c, c < z_nk A → w_gp x I A c) (h0 : c0 < z_nk A) (hk : k < z_ns A c0) : f_X9_resultOfTest S R I x (c0 : Int) (k : Int) = some (z_test A t c0 k, I) := by
  obtain ⟨hk1, hk2⟩ := hB.nk
  obtain ⟨hn1, hn2⟩ := hB.ns h0
  have hc8 : c0 < 8 := by omega
  have hk8 : k < 8 := by omega
  have q1 := e_weigh (I := I) (c := c0) (k := k) (sg := -1) hS hc8 hk8
  generalize hJ : z_row (q_up I (x + 51 + 15 * c0) 3 (I (x + 51 + 15 * c0) 3 + -1)) (x + 51 + 15 * c0 + 14) (fun s => I (x + 51 + 15 * c0 + 14) s + -1 * I (x + 51 + 15 * c0 + 6 + k) s) 5 = J at q1
  have frJ : ∀ a, a ≠ x + 51 + 15 * c0 → a ≠ x + 51 + 15 * c0 + 14 → J a = I a := fun a h1 h2 => by rw [← hJ, z_row_ne _ _ h2, q_up_ne _ _ _ h1]
  have J3 : J (x + 51 + 15 * c0) 3 = I (x + 51 + 15 * c0) 3 + -1 := by
    rw [← hJ, z_row_ne _ _ (by omega)]
    unfold q_up
    rw [if_pos ⟨rfl, rfl⟩]
  have J3' : ∀ j, j ≠ 3 → J (x + 51 + 15 * c0) j = I (x + 51 + 15 * c0) j := fun j hj => by
    rw [← hJ, z_row_ne _ _ (by omega)]
    unfold q_up
    rw [if_neg (by omega)]
  have J14 : ∀ s, s < 5 → J (x + 51 + 15 * c0 + 14) s = I (x + 51 + 15 * c0 + 14) s + -1 * I (x + 51 + 15 * c0 + 6 + k) s := fun s hs => by rw [← hJ]; exact z_row_at _ hs
  have J14' : ∀ s, 5 ≤ s → J (x + 51 + 15 * c0 + 14) s = I (x + 51 + 15 * c0 + 14) s := fun s hs => by rw [← hJ, z_row_hi _ hs, q_up_ne _ _ _ (by omega)]
  have q3 := e_weigh (I := J) (c := c0) (k := k) (sg := 1) hS hc8 hk8
  have back : z_row (q_up J (x + 51 + 15 * c0) 3 (J (x + 51 + 15 * c0) 3 + 1)) (x + 51 + 15 * c0 + 14) (fun s => J (x + 51 + 15 * c0 + 14) s + 1 * J (x + 51 + 15 * c0 + 6 + k) s) 5 = I := by
    funext a j
    by_cases h1 : a = x + 51 + 15 * c0 + 14
    · subst h1
      by_cases hj : j < 5
      · rw [z_row_at _ hj, J14 j hj, frJ (x + 51 + 15 * c0 + 6 + k) (by omega) (by omega)]
        omega
      · rw [z_row_hi _ (by omega), q_up_ne _ _ _ (by omega), J14' j (by omega)]
    · rw [z_row_ne _ _ h1]
      by_cases h2 : a = x + 51 + 15 * c0
      · subst h2
        unfold q_up
        by_cases hj : j = 3
        · rw [if_pos ⟨rfl, hj⟩, J3, hj]; omega
        · rw [if_neg (by omega), J3' j hj]
      · rw [q_up_ne _ _ _ h2, frJ a h2 h1]
  rw [back] at q3
  obtain ⟨kr, nr⟩ := kg_row hS hc8 hk8
  obtain ⟨g1, g2, g3⟩ := hG c0 h0
  have q2 := e_nearestTo (I := J) (a := x + 51 + 15 * c0 + 6 + k) (t := t) (f := z_fe A (23 + 8 * c0 + k)) (m := z_lm A c0) (g := z_lg A c0 k) (skip := -1) hS hB (by rw [frJ _ (by omega) (by omega)]; exact h10) ⟨fun s hs => by rw [frJ _ (by omega) (by omega)]; exact hm.1 s hs, fun s hs => by rw [frJ _ (by omega) (by omega)]; exact hm.2.1 s hs, by rw [frJ _ (by omega) (by omega)]; exact hm.2.2⟩ (fun c hc => by
    obtain ⟨p1, p2, p3⟩ := hG c hc
    have hn := (hB.ns hc).1
    refine ⟨?_, ?_, fun s hs => ⟨?_, z_lgB hB hc hk h0⟩⟩
    · unfold z_lm
      by_cases e : c = c0
      · subst e; rw [if_pos rfl, J3, p3]; omega
      · rw [if_neg e, frJ _ (by omega) (by omega), p3]
    · unfold z_lm
      split
      · next e => subst e; omega
      · exact hn
    · unfold z_lg
      by_cases e : c = c0
      · subst e; rw [if_pos rfl, J14 s hs, p2 s hs, p1 k hk s hs]; omega
      · rw [if_neg e, frJ _ (by omega) (by omega), p2 s hs]) kr nr (fun s hs => ⟨by rw [frJ _ (by omega) (by omega)]; exact g1 k hk s hs, z_fB A _ s⟩) (r_iE (by omega) (by omega))
  have eq2 : (z_nst (fun c => if (c : Int) = -1 then -1 else z_dg A t (z_fe A (23 + 8 * c0 + k)) (z_lg A c0 k c) (z_lm A c0 c)) (z_nk A)).1 = z_test A t c0 k := by
    unfold z_test
    rw [z_nstE (fun c _ => by rw [if_neg (by omega)])]
  rw [eq2] at q2
  unfold f_X9_resultOfTest
  simp only [k_0 hS, r_0_3 hS, k_32 hS, n_32 hS, Int.toNat_natCast, r_32 hS hc8, kg_0 hS hc8, q_ltE, rg_0_1 hS hc8, kg_5 hS hc8, ng_5 hS hc8, rg_5 hS hc8 hk8, kr]
  simp (disch := (first | trivial | assumption | omega | (refine r_iE ?_ ?_ <;> omega) | (refine r_lE ?_ ?_ <;> omega) | fail)) only [↓q_gdT, ↓q_ltE, ↓if_pos, ↓if_neg, ↓q_bdE q1, ↓q_bdE q2, ↓q_bdE q3]
def z_cnt (A : q_A) (t : Nat → Bool) (c0 : Nat) (res : Int) (n : Nat) : Int := z_sm (fun k => if z_test A t c0 k = res then 1 else 0) n
theorem e_countResults {x : Nat} {S : q_S} {R : q_HR} {I : q_HI} {A : q_A} {t : Nat → Bool} {c0 : Nat} {res : Int} (hS : w_Sh x S R) (hB : z_B A) (h10 : I x 10 = A 0 4) (hm : w_me x I A t) (hG : ∀ c, c < z_nk A → w_gp x I A c) (hc : I (x + 51 + 15 * c0 + 1) 2 = A 4 c0) (h0 : c0 < z_nk A) (hr : r_i res) : f_X9_countResults S R I x (c0 : Int) res = some (z_cnt A t c0 res (z_ns A c0), I) := by
  obtain ⟨hk1, hk2⟩ := hB.nk
  obtain ⟨hn1, hn2⟩ := hB.ns h0
  have hc8 : c0 < 8 := by omega
  unfold f_X9_countResults
  have key := z_loop (fun n i => f_X9_countResults_L5 S R x (c0 : Int) res (fun w15 w16 I17 => some (w15, I17)) n (z_cnt A t c0 res i) ((i : Nat) : Int) I) (z_ns A c0) (some (z_cnt A t c0 res (z_ns A c0), I)) (fun n i hi => ?_) (fun n => ?_) 100 (by omega)
  · exact key
  · show f_X9_countResults_L5 _ _ _ _ _ _ (n + 1) _ _ _ = f_X9_countResults_L5 _ _ _ _ _ _ n (z_sm _ i + (if z_test A t c0 i = res then 1 else 0)) _ _
    rw [f_X9_countResults_L5]
    have q := e_resultOfTest hS hB h10 hm hG h0 hi
    have b := z_testB hB t h0 hi
    simp only [k_0 hS, r_0_3 hS, k_32 hS, n_32 hS, Int.toNat_natCast, r_32 hS hc8, kg_0 hS hc8, rg_0_0 hS hc8, kg_1 hS hc8, hc]
    by_cases e : z_test A t c0 i = res
    · rw [if_pos e]
      simp (disch := (first | trivial | assumption | omega | (refine r_iE ?_ ?_ <;> omega) | (refine r_lE ?_ ?_ <;> omega) | fail)) only [↓q_gdT, ↓q_ltE, ↓if_pos, ↓if_neg, ↓q_bd2E q]
      rfl
    · rw [if_neg e]
      simp (disch := (first | trivial | assumption | omega | (refine r_iE ?_ ?_ <;> omega) | (refine r_lE ?_ ?_ <;> omega) | fail)) only [↓q_gdT, ↓q_ltE, ↓if_pos, ↓if_neg, ↓q_bd2E q]
      rw [Int.add_zero]
      rfl
  · show f_X9_countResults_L5 _ _ _ _ _ _ (n + 1) _ _ _ = _
    rw [f_X9_countResults_L5]
    simp only [k_0 hS, r_0_3 hS, k_32 hS, n_32 hS, Int.toNat_natCast, r_32 hS hc8, kg_0 hS hc8, rg_0_0 hS hc8, kg_1 hS hc8, hc]
    simp (disch := (first | trivial | assumption | omega | (refine r_iE ?_ ?_ <;> omega) | (refine r_lE ?_ ?_ <;> omega) | fail)) only [↓q_gdT, ↓q_ltE, ↓if_pos, ↓if_neg]
def z_corr (A : q_A) (t : Nat → Bool) : Int := z_sm (fun c => z_cnt A t c (c : Int) (z_ns A c)) (z_nk A)
theorem e_countCorrect {x : Nat} {S : q_S} {R : q_HR} {I : q_HI} {A : q_A} {t : Nat → Bool} {set : Int} (hS : w_Sh x S R) (hB : z_B A) (hC : w_C x S R I A) (hp : w_pr x I A t) : ∃ I', f_X9_countCorrect S R I x set = some (z_corr A (z_bit set), I') ∧ w_Q x I I' ∧ w_pr x I' A (z_bit set) := by
  obtain ⟨hk1, hk2⟩ := hB.nk
  obtain ⟨I', q1, f1, m1⟩ := e_aim (set := set) hS hB hC.1.2.2.2.2.2.2.1 hp.2.1
  have Q1 : w_Q x I I' := fun a j h => by
    rw [f1 a (fun q => h (by unfold w_sc; omega)) (fun q => h (by unfold w_sc; omega)) (fun q => h (by unfold w_sc; omega))]
  have hC1 := hC.q Q1
  have hp1 : w_pr x I' A (z_bit set) := by
    have hn := hB.2.2.1
    have en : (z_nr A : Int) = A 0 3 := by unfold z_nr; omega
    obtain ⟨p1, p2, p3, p4, p5, p6⟩ := hp
    refine ⟨fun h7 s hs => by rw [f1 _ (by omega) (by omega) (by omega)]; exact p1 h7 s hs, fun s hs => by rw [f1 _ (by omega) (by omega) (by omega)]; exact p2 s hs, by rw [f1 _ (by omega) (by omega) (by omega)]; exact p3, p4.fr (fun k hk => f1 _ (by omega) (by omega) (by omega)), m1, fun c hc => ?_⟩
    obtain ⟨g1, g2, g3⟩ := p6 c hc
    have hn8 := hB.ns hc
    exact ⟨fun k hk s hs => by rw [f1 _ (by omega) (by omega) (by omega)]; exact g1 k hk s hs, fun s hs => by rw [f1 _ (by omega) (by omega) (by omega)]; exact g2 s hs, by rw [f1 _ (by omega) (by omega) (by omega)]; exact g3⟩
  refine ⟨I', ?_, Q1, hp1⟩
  unfold f_X9_countCorrect
  simp only [k_0 hS, r_0_2 hS, k_29 hS, r_0_1 hS, k_9 hS]
  simp (disch := (first | trivial | assumption | omega | (refine r_iE ?_ ?_ <;> omega) | (refine r_lE ?_ ?_ <;> omega) | fail)) only [↓q_gdT, ↓q_ltE, ↓if_pos, ↓if_neg, ↓q_bdE q1]
  have key := z_loop (fun n i => f_X9_countCorrect_L16 S R x (fun w15 w16 I17 => some (w15, I17)) n (z_sm (fun c => z_cnt A (z_bit set) c (c : Int) (z_ns A c)) i) ((i : Nat) : Int) I') (z_nk A) (some (z_corr A (z_bit set), I')) (fun n i hi => ?_) (fun n => ?_) 100 (by omega)
  · exact key
  · show f_X9_countCorrect_L16 _ _ _ _ (n + 1) _ _ _ = _
    rw [f_X9_countCorrect_L16]
    have q := e_countResults (I := I') (t := z_bit set) (c0 := i) (res := (i : Int)) hS hB hC1.1.2.2.2.1 m1 hp1.2.2.2.2.2 (hC1.sa hB hi).1 hi (r_iE (by omega) (by omega))
    have e10 := hC1.1.2.2.2.1
    simp only [k_0 hS, e10]
    simp (disch := (first | trivial | assumption | omega | (refine r_iE ?_ ?_ <;> omega) | (refine r_lE ?_ ?_ <;> omega) | fail)) only [↓q_gdT, ↓q_ltE, ↓if_pos, ↓if_neg, ↓q_bd2E q]
    rfl
  · show f_X9_countCorrect_L16 _ _ _ _ (n + 1) _ _ _ = _
    rw [f_X9_countCorrect_L16]
    have e10 := hC1.1.2.2.2.1
    simp only [k_0 hS, e10]
    simp (disch := (first | trivial | assumption | omega | (refine r_iE ?_ ?_ <;> omega) | (refine r_lE ?_ ?_ <;> omega) | fail)) only [↓q_gdT, ↓q_ltE, ↓if_pos, ↓if_neg]
    rfl
