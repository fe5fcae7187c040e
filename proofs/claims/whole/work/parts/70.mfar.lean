/-! THE REFERENCE: distances -/
def w_U (x : Nat) (I J : q_HI) : Prop := ∀ a j, ¬ ((a = x + 171 ∧ 24 ≤ j) ∨ (x + 179 ≤ a ∧ a ≤ x + 182)) → J a j = I a j
theorem w_U.rf {x : Nat} {I : q_HI} : w_U x I I := fun _ _ _ => rfl
theorem w_U.tr {x : Nat} {I I' I'' : q_HI} (h1 : w_U x I I') (h2 : w_U x I' I'') : w_U x I I'' := fun a j h => (h2 a j h).trans (h1 a j h)
theorem w_U.t {x : Nat} {I J : q_HI} (h : w_U x I J) : w_T x I J := fun a j hn => h a j (fun q => hn (by unfold w_tm; omega))
theorem w_U.up {x : Nat} {I I' : q_HI} {a j : Nat} {v : Int} (h1 : w_U x I I') (h : (a = x + 171 ∧ 24 ≤ j) ∨ (x + 179 ≤ a ∧ a ≤ x + 182)) : w_U x I (q_up I' a j v) := h1.tr (fun b i hb => by
  unfold q_up
  rw [if_neg (fun q => hb (by rw [q.1, q.2]; exact h))])
theorem w_U.of {x : Nat} {I J : q_HI} (h : ∀ a, a ≠ x + 179 → J a = I a) : w_U x I J := fun a j hn => by rw [h a (by omega)]
theorem w_L.u {x : Nat} {I J : q_HI} {A : q_A} {t : Nat → Bool} (h : w_L x I A t) (hu : w_U x I J) : w_L x J A t := by
  obtain ⟨h1, h2, h3, h4, h5⟩ := h
  refine ⟨h1.t hu.t, fun p hp hup s hs => ?_, fun s hs => ?_, ?_, ?_⟩
  · rw [hu _ _ (by omega)]; exact h2 p hp hup s hs
  · rw [hu _ _ (by omega)]; exact h3 s hs
  · rw [hu _ _ (by omega)]; exact h4
  · rw [hu _ _ (by omega)]; exact h5
theorem m_far {x : Nat} {S : q_S} {R : q_HR} {I : q_HI} {A : q_A} {t : Nat → Bool} {v : Nat → Int} {n : Int} (hS : w_Sh x S R) (hB : z_B A) (hL : w_L x I A t) (hu : ∀ s : Nat, (s : Int) < A 0 1 → I (x + 179) s = z_mk t v s) (h0 : ∀ s, s < 5 → (A 0 1).toNat ≤ s → v s = 0) (hn : 1 ≤ n ∧ n ≤ 64) (hv : ∀ s, s < 5 → -(8000 * n) ≤ v s ∧ v s ≤ 8000 * n) : f_X10_far S R I (x + 171) n = some (z_di A t v n) := by
  obtain ⟨hD, hf, hd, h18, h19⟩ := hL
  have h1 := hB.1
  have h9 := hB.2.2.2.2.2.2.2.2.1
  have eN : (((A 0 1).toNat : Nat) : Int) = A 0 1 := by omega
  have ub := z_uuB (t := t) (u := v) (M := 512000) (by omega) (fun s hs => by have := hv s hs; omega)
  have db := z_ddB hB t
  have cs := z_csd A t v
  have mb := z_mul0 (M := 1310720000000) (N := 5000000) (a := z_uu t v) (b := z_dd A t) (by omega) (by omega)
  have sq := z_sq (z_ud A t v)
  have nn := z_mul0 (M := 64) (N := 64) (a := n) (b := n) (by omega) (by omega)
  have np : 0 < n * n := Int.mul_pos (by omega) (by omega)
  have nd := z_mul0 (M := 4096) (N := 5000000) (a := n * n) (b := z_dd A t) (by omega) (by omega)
  unfold f_X10_far
  refine z_loop (fun N i => f_X10_far_L11 S R I (x + 171) n (fun w17 w18 w19 w20 => q_gd (S.1 (x + 171) = 11) (q_gd (r_i (I (x + 171) 18)) (if I (x + 171) 18 = 0 then q_gd (r_l w17) (q_gd (r_l (n * n)) (q_gd (n * n ≠ 0) (some (Int.tdiv w17 (n * n))))) else q_gd (r_l ((w17 * w19) - (w18 * w18))) (q_gd (r_l ((n * n) * w19)) (q_gd ((n * n) * w19 ≠ 0) (some (Int.tdiv ((w17 * w19) - (w18 * w18)) ((n * n) * w19)))))))) N (z_sm (fun s => z_mk t v s * z_mk t v s) i) (z_sm (fun s => z_mk t v s * z_mk t (z_dc A) s) i) (z_sm (fun s => z_mk t (z_dc A) s * z_mk t (z_dc A) s) i) ((i : Nat) : Int)) (A 0 1).toNat _ (fun N i hi => ?_) (fun N => ?_) 100 (by omega)
  · have b := z_mkB hB t (show i < 5 by omega)
    have bb := z_mulB (M := 1000) (N := 1000) b b
    show f_X10_far_L11 _ _ _ _ _ _ (N + 1) _ _ _ _ = _
    rw [f_X10_far_L11]
    simp only [k_171 hS, hD.f1, r_171_21 hS, k_179 hS, n_179 hS, r_171_17 hS, k_177 hS, n_177 hS, Int.toNat_natCast, hu i (by omega), hd i (by omega)]
    simp (disch := (first | trivial | assumption | omega | (refine r_iE ?_ ?_ <;> omega) | (refine r_lE ?_ ?_ <;> omega) | fail)) only [↓q_gdT, ↓q_ltE, ↓if_pos, ↓if_neg]
    rfl
  · show f_X10_far_L11 _ _ _ _ _ _ (N + 1) _ _ _ _ = _
    rw [f_X10_far_L11]
    have mz : ∀ k, (A 0 1).toNat ≤ k → k < 5 → z_mk t v k = 0 := fun k h1 h2 => by
      unfold z_mk
      rw [h0 k h2 h1]
      split <;> rfl
    have s1 : z_sm (fun s => z_mk t v s * z_mk t v s) (A 0 1).toNat = z_uu t v := by
      rw [z_smT (m := 5) (by omega) (fun k h1 h2 => by rw [mz k h1 h2, Int.mul_zero])]
      refine z_smE fun s hs => ?_
      unfold z_mk
      cases t s
      · rfl
      · rfl
    simp only [k_171 hS, hD.f1, s1, eN, h18]
    unfold z_di
    by_cases c : z_dd A t = 0
    · simp only [if_pos c]
      simp (disch := (first | trivial | assumption | omega | (refine r_iE ?_ ?_ <;> omega) | (refine r_lE ?_ ?_ <;> omega) | fail)) only [↓q_gdT, ↓q_ltE, ↓if_pos, ↓if_neg]
    · have c9 : A 0 9 ≠ 0 := fun q => c (z_dd9 q)
      have s2 : z_sm (fun s => z_mk t v s * z_mk t (z_dc A) s) (A 0 1).toNat = z_ud A t v := by
        rw [z_smT (m := 5) (by omega) (fun k h1 h2 => by rw [mz k h1 h2, Int.zero_mul])]
        refine z_smE fun s hs => ?_
        unfold z_mk z_dir
        cases t s
        · rfl
        · rw [if_pos rfl, if_pos rfl, if_pos rfl, if_neg (by simp [c9])]
      have s3 : z_sm (fun s => z_mk t (z_dc A) s * z_mk t (z_dc A) s) (A 0 1).toNat = z_dd A t := by
        rw [z_ddM c9]
        exact z_smT (by omega) (fun k h1 h2 => by rw [z_mk0 hB t h2 h1, Int.mul_zero])
      have ndp : 0 < n * n * z_dd A t := Int.mul_pos np (by omega)
      simp only [if_neg c, s2, s3]
      simp (disch := (first | trivial | assumption | omega | (refine r_iE ?_ ?_ <;> omega) | (refine r_lE ?_ ?_ <;> omega) | fail)) only [↓q_gdT, ↓q_ltE, ↓if_pos, ↓if_neg]
/-- sums of a class -/
def z_so (A : q_A) (t : Nat → Bool) (c s : Nat) (but : Int) (n : Nat) : Int := z_sm (fun k => if (k : Int) = but then 0 else z_mk t (z_fe A (23 + 8 * c + k)) s) n
theorem m_sumOf {x : Nat} {S : q_S} {R : q_HR} {I : q_HI} {A : q_A} {t : Nat → Bool} {c s : Nat} {but : Int} (hS : w_Sh x S R) (hB : z_B A) (hL : w_L x I A t) (hc : c < z_nk A) (hs : s < 5) (hb : r_i but) : f_X10_sumOf S R I (x + 171) (c : Int) (s : Int) but = some (z_so A t c s but (z_ns A c)) := by
  obtain ⟨hD, hf, hd, h18, h19⟩ := hL
  have hk := hB.nk
  have hn := hB.ns hc
  unfold f_X10_sumOf
  refine z_loop (fun N i => f_X10_sumOf_L6 S R I (x + 171) (c : Int) (s : Int) but (fun w18 w19 => some w18) N (z_so A t c s but i) ((i : Nat) : Int)) (z_ns A c) _ (fun N i hi => ?_) (fun N => ?_) 100 (by omega)
  · have e5 : (5 * (23 + 8 * (c : Int) + (i : Int)) + (s : Int)).toNat = 5 * (23 + 8 * c + i) + s := by omega
    have ev := hf (23 + 8 * c + i) (by omega) (Or.inr (Or.inr ⟨c, i, hc, hi, rfl⟩)) s hs
    have fb := z_fB A (23 + 8 * c + i) s
    have q2 := m_placeOf (c : Int) (i : Int)
    have es : z_so A t c s but (i + 1) = z_so A t c s but i + (if (i : Int) = but then 0 else z_mk t (z_fe A (23 + 8 * c + i)) s) := rfl
    show f_X10_sumOf_L6 _ _ _ _ _ _ _ _ (N + 1) _ _ = f_X10_sumOf_L6 _ _ _ _ _ _ _ _ N (z_so A t c s but (i + 1)) _
    rw [f_X10_sumOf_L6, es]
    simp only [k_171 hS, r_171_13 hS, k_175 hS, n_175 hS, r_171_16 hS, k_176 hS, n_176 hS, hD.d4, Int.toNat_natCast]
    by_cases cb : (i : Int) = but
    · simp only [if_pos cb]
      simp (disch := (first | trivial | assumption | omega | (refine r_iE ?_ ?_ <;> omega) | (refine r_lE ?_ ?_ <;> omega) | fail)) only [↓q_gdT, ↓q_ltE, ↓if_pos, ↓if_neg]
      rfl
    · simp only [if_neg cb]
      have rg : r_i (z_mk t (z_fe A (23 + 8 * c + i)) s) := by
        unfold z_mk
        split
        · exact r_iE (by omega) (by omega)
        · exact r_iE (by omega) (by omega)
      have ev' : I (x + 176) (5 * (23 + 8 * c + i) + s) = z_mk t (z_fe A (23 + 8 * c + i)) s := ev
      simp (disch := (first | trivial | assumption | omega | (refine r_iE ?_ ?_ <;> omega) | (refine r_lE ?_ ?_ <;> omega) | fail)) only [↓q_gdT, ↓q_ltE, ↓if_pos, ↓if_neg, ↓q_bdE q2, e5, ev']
      rfl
  · show f_X10_sumOf_L6 _ _ _ _ _ _ _ _ (N + 1) _ _ = _
    rw [f_X10_sumOf_L6]
    simp only [k_171 hS, r_171_13 hS, k_175 hS, n_175 hS, hD.d4, Int.toNat_natCast]
    simp (disch := (first | trivial | assumption | omega | (refine r_iE ?_ ?_ <;> omega) | (refine r_lE ?_ ?_ <;> omega) | fail)) only [↓q_gdT, ↓q_ltE, ↓if_pos, ↓if_neg]
theorem z_mkS {A : q_A} {t : Nat → Bool} {f : Nat → Nat → Int} {s : Nat} : ∀ n : Nat, z_sm (fun k => z_mk t (f k) s) n = z_mk t (fun s => z_sm (fun k => f k s) n) s
  | 0 => by unfold z_mk; split <;> rfl
  | n + 1 => by
    show z_sm (fun k => z_mk t (f k) s) n + z_mk t (f n) s = _
    rw [z_mkS (A := A) n]
    unfold z_mk
    cases t s
    · rfl
    · rfl
theorem z_soN {A : q_A} {t : Nat → Bool} {c s : Nat} : z_so A t c s (-1) (z_ns A c) = z_mk t (z_cs A c) s := by
  unfold z_so
  rw [z_smE (g := fun k => z_mk t (z_fe A (23 + 8 * c + k)) s) (fun k _ => if_neg (by omega))]
  exact z_mkS (A := A) _
theorem z_soK {A : q_A} {t : Nat → Bool} {c s k : Nat} (hk : k < z_ns A c) : z_so A t c s (k : Int) (z_ns A c) = z_mk t (fun s => z_cs A c s - z_fe A (23 + 8 * c + k) s) s := by
  unfold z_so
  rw [z_smE (g := fun j => if j = k then 0 else z_mk t (z_fe A (23 + 8 * c + j)) s) (fun j _ => by
    by_cases e : j = k
    · rw [if_pos (by omega), if_pos e]
    · rw [if_neg (by omega), if_neg e])]
  rw [z_smSkip (fun j => z_mk t (z_fe A (23 + 8 * c + j)) s) k, if_pos hk, z_mkS (A := A)]
  unfold z_mk z_cs
  cases t s
  · rfl
  · rfl
/-- from a place to a class, one sample left out or none -/
theorem m_farLoop {x : Nat} {S : q_S} {R : q_HR} {I : q_HI} {A : q_A} {t : Nat → Bool} {p c : Nat} {but m : Int} {g : Nat → Int} {K : Int → q_HI → Option (Int × q_HI)} (hS : w_Sh x S R) (hB : z_B A) (hL : w_L x I A t) (hp : z_u A p) (h87 : p < 87) (hc : c < z_nk A) (hb : r_i but) (hg : ∀ s, s < 5 → z_so A t c s but (z_ns A c) = z_mk t g s) : f_X10_farFrom_L40 S R (x + 171) (p : Int) (c : Int) but m K 100 0 I = K (A 0 1) (z_row I (x + 179) (z_mk t (fun s => m * z_fe A p s - g s)) (A 0 1).toNat) := by
  have h1 := hB.1
  have eN : (((A 0 1).toNat : Nat) : Int) = A 0 1 := by omega
  have key := z_loop (fun N i => f_X10_farFrom_L40 S R (x + 171) (p : Int) (c : Int) but m K N ((i : Nat) : Int) (z_row I (x + 179) (z_mk t (fun s => m * z_fe A p s - g s)) i)) (A 0 1).toNat (K (A 0 1) (z_row I (x + 179) (z_mk t (fun s => m * z_fe A p s - g s)) (A 0 1).toNat)) (fun N i hi => ?_) (fun N => ?_) 100 (by omega)
  · rw [z_row_0] at key
    exact key
  · have hLi := hL.u (J := z_row I (x + 179) (z_mk t (fun s => m * z_fe A p s - g s)) i) (w_U.of fun a ha => z_row_ne _ _ ha)
    have q1 := m_sumOf (s := i) hS hB hLi hc (by omega) hb
    rw [hg i (by omega)] at q1
    have e5 : (5 * (p : Int) + (i : Int)).toNat = 5 * p + i := by omega
    have ev : z_row I (x + 179) (z_mk t (fun s => m * z_fe A p s - g s)) i (x + 176) (5 * p + i) = z_mk t (z_fe A p) i := hLi.2.1 p h87 hp i (by omega)
    have fb := z_fB A p i
    have rg : r_i (z_mk t (z_fe A p) i) := by
      unfold z_mk
      split
      · exact r_iE (by omega) (by omega)
      · exact r_iE (by omega) (by omega)
    have em : m * z_mk t (z_fe A p) i - z_mk t g i = z_mk t (fun s => m * z_fe A p s - g s) i := by
      unfold z_mk
      cases t i
      · simp
      · simp
    show f_X10_farFrom_L40 _ _ _ _ _ _ _ _ (N + 1) _ _ = _
    rw [f_X10_farFrom_L40]
    simp only [k_171 hS, hLi.1.f1, r_171_21 hS, k_179 hS, n_179 hS, r_171_16 hS, k_176 hS, n_176 hS, e5, ev, Int.toNat_natCast]
    simp (disch := (first | trivial | assumption | omega | (refine r_iE ?_ ?_ <;> omega) | (refine r_lE ?_ ?_ <;> omega) | fail)) only [↓q_gdT, ↓q_ltE, ↓if_pos, ↓if_neg, ↓q_bdE q1, em, z_row_up]
    rfl
  · have hLi := hL.u (J := z_row I (x + 179) (z_mk t (fun s => m * z_fe A p s - g s)) (A 0 1).toNat) (w_U.of fun a ha => z_row_ne _ _ ha)
    show f_X10_farFrom_L40 _ _ _ _ _ _ _ _ (N + 1) _ _ = _
    rw [f_X10_farFrom_L40]
    simp only [k_171 hS, hLi.1.f1, eN]
    simp (disch := (first | trivial | assumption | omega | (refine r_iE ?_ ?_ <;> omega) | (refine r_lE ?_ ?_ <;> omega) | fail)) only [↓q_gdT, ↓q_ltE, ↓if_pos, ↓if_neg]
theorem z_cs0 {A : q_A} (hB : z_B A) {c s : Nat} (hc : c < z_nk A) (hs : s < 5) (h1 : (A 0 1).toNat ≤ s) : z_cs A c s = 0 := z_sm0 (fun k hk => z_fe0 hB (z_vs hc hk) hs h1)
theorem m_farFrom {x : Nat} {S : q_S} {R : q_HR} {I : q_HI} {A : q_A} {t : Nat → Bool} {p c : Nat} (hS : w_Sh x S R) (hB : z_B A) (hL : w_L x I A t) (hp : z_u A p) (h87 : p < 87) (hc : c < z_nk A) : ∃ J, f_X10_farFrom S R I (x + 171) (p : Int) (c : Int) (-1) = some (z_dp A t p c, J) ∧ ∀ a, a ≠ x + 179 → J a = I a := by
  have hk := hB.nk
  have hn := hB.ns hc
  unfold f_X10_farFrom z_dp z_dg
  simp only [k_171 hS, r_171_13 hS, k_175 hS, n_175 hS, hL.1.d4, Int.toNat_natCast, q_ltE]
  by_cases c0 : A 4 c ≤ 0
  · refine ⟨I, ?_, fun _ _ => rfl⟩
    rw [if_pos c0]
    simp (disch := (first | trivial | assumption | omega | (refine r_iE ?_ ?_ <;> omega) | (refine r_lE ?_ ?_ <;> omega) | fail)) only [↓q_gdT, ↓q_ltE, ↓if_pos, ↓if_neg]
  · refine ⟨z_row I (x + 179) (z_mk t (fun s => A 4 c * z_fe A p s - z_cs A c s)) (A 0 1).toNat, ?_, fun a ha => z_row_ne _ _ ha⟩
    rw [if_neg c0]
    have q1 := m_farLoop (K := fun w25 I26 => q_bd (f_X10_far S R I26 (x + 171) (A 4 c)) fun r27 => some (r27, I26)) (m := A 4 c) (but := -1) (g := z_cs A c) hS hB hL hp h87 hc (r_iE (by omega) (by omega)) (fun s hs => z_soN)
    have q2 := m_far (I := z_row I (x + 179) (z_mk t (fun s => A 4 c * z_fe A p s - z_cs A c s)) (A 0 1).toNat) (v := fun s => A 4 c * z_fe A p s - z_cs A c s) (n := A 4 c) hS hB (hL.u (w_U.of fun a ha => z_row_ne _ _ ha)) (fun s hs => z_row_at _ (by omega)) (fun s hs h => by rw [z_fe0 hB hp.v hs h, z_cs0 hB hc hs h]; simp) (by omega) (fun s hs => by
      have f1 := z_fB A p s
      have f2 := z_csB hB hc s
      have f3 := z_mulB (M := A 4 c) (N := 4000) (a := A 4 c) (b := z_fe A p s) (by omega) f1
      omega)
    simp (disch := (first | trivial | assumption | omega | (refine r_iE ?_ ?_ <;> omega) | (refine r_lE ?_ ?_ <;> omega) | fail)) only [↓q_gdT, ↓q_ltE, ↓if_pos, ↓if_neg]
    rw [q1, q_bdE q2]
theorem m_farBut {x : Nat} {S : q_S} {R : q_HR} {I : q_HI} {A : q_A} {t : Nat → Bool} {p c k : Nat} (hS : w_Sh x S R) (hB : z_B A) (hL : w_L x I A t) (hp : z_u A p) (h87 : p < 87) (hc : c < z_nk A) (hk : k < z_ns A c) : ∃ J, f_X10_farFrom S R I (x + 171) (p : Int) (c : Int) (k : Int) = some (z_dg A t (z_fe A p) (z_lg A c k c) (z_lm A c c), J) ∧ ∀ a, a ≠ x + 179 → J a = I a := by
  have hkk := hB.nk
  have hn := hB.ns hc
  have el : z_lm A c c = A 4 c - 1 := if_pos rfl
  have eg : z_lg A c k c = fun s => z_cs A c s - z_fe A (23 + 8 * c + k) s := funext fun s => if_pos rfl
  unfold f_X10_farFrom z_dg
  rw [el, eg]
  simp only [k_171 hS, r_171_13 hS, k_175 hS, n_175 hS, hL.1.d4, Int.toNat_natCast, q_ltE]
  by_cases c0 : A 4 c - 1 ≤ 0
  · refine ⟨I, ?_, fun _ _ => rfl⟩
    rw [if_pos c0]
    simp (disch := (first | trivial | assumption | omega | (refine r_iE ?_ ?_ <;> omega) | (refine r_lE ?_ ?_ <;> omega) | fail)) only [↓q_gdT, ↓q_ltE, ↓if_pos, ↓if_neg]
  · refine ⟨z_row I (x + 179) (z_mk t (fun s => (A 4 c - 1) * z_fe A p s - (z_cs A c s - z_fe A (23 + 8 * c + k) s))) (A 0 1).toNat, ?_, fun a ha => z_row_ne _ _ ha⟩
    rw [if_neg c0]
    have q1 := m_farLoop (K := fun w38 I39 => q_bd (f_X10_far S R I39 (x + 171) (A 4 c - 1)) fun r40 => some (r40, I39)) (m := A 4 c - 1) (but := (k : Int)) (g := fun s => z_cs A c s - z_fe A (23 + 8 * c + k) s) hS hB hL hp h87 hc (r_iE (by omega) (by omega)) (fun s hs => z_soK hk)
    have q2 := m_far (I := z_row I (x + 179) (z_mk t (fun s => (A 4 c - 1) * z_fe A p s - (z_cs A c s - z_fe A (23 + 8 * c + k) s))) (A 0 1).toNat) (v := fun s => (A 4 c - 1) * z_fe A p s - (z_cs A c s - z_fe A (23 + 8 * c + k) s)) (n := A 4 c - 1) hS hB (hL.u (w_U.of fun a ha => z_row_ne _ _ ha)) (fun s hs => z_row_at _ (by omega)) (fun s hs h => by rw [z_fe0 hB hp.v hs h, z_cs0 hB hc hs h, z_fe0 hB (z_vs hc hk) hs h]; simp) (by omega) (fun s hs => by
      have f1 := z_fB A p s
      have f2 := z_lgB hB (s := s) hc hk hc
      rw [eg, el] at f2
      dsimp only at f2
      have f3 := z_mulB (M := A 4 c - 1) (N := 4000) (a := A 4 c - 1) (b := z_fe A p s) (by omega) f1
      omega)
    simp (disch := (first | trivial | assumption | omega | (refine r_iE ?_ ?_ <;> omega) | (refine r_lE ?_ ?_ <;> omega) | fail)) only [↓q_gdT, ↓q_ltE, ↓if_pos, ↓if_neg]
    rw [q1, q_bdE q2]
