/-! THE REFERENCE: its frame, what it asks first -/
def w_tm (x a j : Nat) : Prop := (a = x + 171 ∧ (j = 0 ∨ 10 ≤ j)) ∨ (x + 176 ≤ a ∧ a ≤ x + 182)
def w_T (x : Nat) (I I' : q_HI) : Prop := ∀ a j, ¬ w_tm x a j → I' a j = I a j
theorem w_T.rf {x : Nat} {I : q_HI} : w_T x I I := fun _ _ _ => rfl
theorem w_T.tr {x : Nat} {I I' I'' : q_HI} (h1 : w_T x I I') (h2 : w_T x I' I'') : w_T x I I'' := fun a j h => (h2 a j h).trans (h1 a j h)
theorem w_T.up {x : Nat} {I : q_HI} {a j : Nat} {v : Int} (h : w_tm x a j) : w_T x I (q_up I a j v) := fun b i hb => by
  unfold q_up
  rw [if_neg (fun q => hb (by rw [q.1, q.2]; exact h))]
theorem w_T.up2 {x : Nat} {I I' : q_HI} {a j : Nat} {v : Int} (h1 : w_T x I I') (h : w_tm x a j) : w_T x I (q_up I' a j v) := h1.tr (w_T.up h)
theorem w_D.t {x : Nat} {I I' : q_HI} {A : q_A} (h : w_D x I A) (hT : w_T x I I') : w_D x I' A :=
  ⟨fun j h1 h2 => by rw [hT _ _ (by unfold w_tm; omega)]; exact h.1 j h1 h2, fun d h1 h2 j => by rw [hT _ _ (by unfold w_tm; omega)]; exact h.2 d h1 h2 j⟩
/-- nothing but the reference's own cells -/
def w_mc (x : Nat) (I I' : q_HI) : Prop := ∀ a, (a < x + 171 ∨ x + 183 ≤ a) → I' a = I a
theorem w_mc.tr {x : Nat} {I I' I'' : q_HI} (h1 : w_mc x I I') (h2 : w_mc x I' I'') : w_mc x I I'' := fun a h => (h2 a h).trans (h1 a h)
theorem w_mc.up {x : Nat} {I I' : q_HI} {a j : Nat} {v : Int} (h1 : w_mc x I I') (h : x + 171 ≤ a ∧ a < x + 183) : w_mc x I (q_up I' a j v) := fun b hb => by
  rw [q_up_ne _ _ _ (by omega)]; exact h1 b hb
theorem w_T.mc {x : Nat} {I I' : q_HI} (h : w_T x I I') : w_mc x I I' := fun a ha => funext fun j => h a j (by unfold w_tm; omega)
theorem w_P.mc {x : Nat} {S : q_S} {R : q_HR} {I I' : q_HI} {A : q_A} {m p : Nat} (h : w_P x S R I A m p) (hc : w_mc x I I') : w_P x S R I' A m p := w_M.fr h (fun a ha => hc a (by unfold w_fr at ha; omega))
theorem w_C.mc {x : Nat} {S : q_S} {R : q_HR} {I I' : q_HI} {A : q_A} (h : w_C x S R I A) (hB : z_B A) (hc : w_mc x I I') : w_C x S R I' A := by
  have hk := hB.nk
  obtain ⟨⟨s1, s2, s3, s4, s5, s6, s7, s8, s9⟩, bl, n, ca, re, sa, cu, ⟨bl1, bl2⟩, t1, t2⟩ := h
  refine ⟨⟨?_, ?_, ?_, ?_, ?_, ?_, ?_, ?_, ?_⟩, fun s hs => ?_, fun d hd => ?_, fun l hl => ?_, fun l hl => ⟨?_, ?_⟩, fun d l hd hl => ?_, ?_, ⟨?_, fun s hs => ?_⟩, fun s hs => ?_, ?_⟩
  · rw [hc _ (by omega)]; exact s1
  · rw [hc _ (by omega)]; exact s2
  · rw [hc _ (by omega)]; exact s3
  · rw [hc _ (by omega)]; exact s4
  · rw [hc _ (by omega)]; exact s5
  · rw [hc _ (by omega)]; exact s6
  · rw [hc _ (by omega)]; exact s7
  · rw [hc _ (by omega)]; exact s8
  · rw [hc _ (by omega)]; exact s9
  · rw [hc _ (by omega)]; exact bl s hs
  · rw [hc _ (by omega)]; exact n d hd
  · exact (ca l hl).mc hc
  · exact (re l hl).1.mc hc
  · rw [hc _ (by omega)]; exact (re l hl).2
  · exact (sa d l hd hl).mc hc
  · split
    · next h7 => rw [if_pos h7] at cu; exact cu.mc hc
    · next h7 => rw [if_neg h7] at cu; exact cu
  · rw [hc _ (by omega)]; exact bl1
  · rw [hc _ (by omega)]; exact bl2 s hs
  · rw [hc _ (by omega)]; exact t1 s hs
  · rw [hc _ (by omega)]; exact t2
theorem w_D.d1 {x : Nat} {I : q_HI} {A : q_A} (h : w_D x I A) (j : Nat) : I (x + 172) j = A 1 j := h.2 1 (by omega) (by omega) j
theorem w_D.d2 {x : Nat} {I : q_HI} {A : q_A} (h : w_D x I A) (j : Nat) : I (x + 173) j = A 2 j := h.2 2 (by omega) (by omega) j
theorem w_D.d3 {x : Nat} {I : q_HI} {A : q_A} (h : w_D x I A) (j : Nat) : I (x + 174) j = A 3 j := h.2 3 (by omega) (by omega) j
theorem w_D.d4 {x : Nat} {I : q_HI} {A : q_A} (h : w_D x I A) (j : Nat) : I (x + 175) j = A 4 j := h.2 4 (by omega) (by omega) j
theorem w_D.f1 {x : Nat} {I : q_HI} {A : q_A} (h : w_D x I A) : I (x + 171) 1 = A 0 1 := h.1 1 (by omega) (by omega)
theorem w_D.f2 {x : Nat} {I : q_HI} {A : q_A} (h : w_D x I A) : I (x + 171) 2 = A 0 2 := h.1 2 (by omega) (by omega)
theorem w_D.f3 {x : Nat} {I : q_HI} {A : q_A} (h : w_D x I A) : I (x + 171) 3 = A 0 3 := h.1 3 (by omega) (by omega)
theorem w_D.f4 {x : Nat} {I : q_HI} {A : q_A} (h : w_D x I A) : I (x + 171) 4 = A 0 4 := h.1 4 (by omega) (by omega)
theorem w_D.f5 {x : Nat} {I : q_HI} {A : q_A} (h : w_D x I A) : I (x + 171) 5 = A 0 5 := h.1 5 (by omega) (by omega)
theorem w_D.f6 {x : Nat} {I : q_HI} {A : q_A} (h : w_D x I A) : I (x + 171) 6 = A 0 6 := h.1 6 (by omega) (by omega)
theorem w_D.f7 {x : Nat} {I : q_HI} {A : q_A} (h : w_D x I A) : I (x + 171) 7 = A 0 7 := h.1 7 (by omega) (by omega)
theorem w_D.f8 {x : Nat} {I : q_HI} {A : q_A} (h : w_D x I A) : I (x + 171) 8 = A 0 8 := h.1 8 (by omega) (by omega)
theorem w_D.f9 {x : Nat} {I : q_HI} {A : q_A} (h : w_D x I A) : I (x + 171) 9 = A 0 9 := h.1 9 (by omega) (by omega)
/-- each call begins with a 0 -/
theorem w_T.z {x : Nat} {I : q_HI} : w_T x I (q_up I (x + 171) 0 0) := w_T.up (Or.inl ⟨rfl, Or.inl rfl⟩)
theorem w_D.z {x : Nat} {I : q_HI} {A : q_A} (h : w_D x I A) : w_D x (q_up I (x + 171) 0 0) A := h.t w_T.z
theorem m_isSensor {x : Nat} {S : q_S} {R : q_HR} {I : q_HI} {A : q_A} {a : Int} (hS : w_Sh x S R) (hB : z_B A) (hD : w_D x I A) (ha : r_i a) : f_X10_isSensor S R I (x + 171) a = some (if 0 ≤ a ∧ a < A 0 1 then 1 else 0) := by
  have h1 := hB.1
  have ha2 := ha.2
  have ha1 := ha.1
  have q := e_isIn (a := a) (b := 0) (c := A 0 1 - 1) (r_lE (by omega) (by omega)) (r_lE (by omega) (by omega)) (r_lE (by omega) (by omega))
  unfold f_X10_isSensor
  simp only [k_171 hS, hD.f1]
  by_cases c : 0 ≤ a ∧ a < A 0 1
  · rw [if_pos (by omega)] at q
    rw [if_pos c]
    simp (disch := (first | trivial | assumption | omega | (refine r_iE ?_ ?_ <;> omega) | (refine r_lE ?_ ?_ <;> omega) | fail)) only [↓q_gdT, ↓q_ltE, ↓if_pos, ↓if_neg, ↓q_bdE q]
  · rw [if_neg (by omega)] at q
    rw [if_neg c]
    simp (disch := (first | trivial | assumption | omega | (refine r_iE ?_ ?_ <;> omega) | (refine r_lE ?_ ?_ <;> omega) | fail)) only [↓q_gdT, ↓q_ltE, ↓if_pos, ↓if_neg, ↓q_bdE q]
theorem m_isClass {x : Nat} {S : q_S} {R : q_HR} {I : q_HI} {A : q_A} {a : Int} (hS : w_Sh x S R) (hB : z_B A) (hD : w_D x I A) (ha : r_i a) : f_X10_isClass S R I (x + 171) a = some (if 0 ≤ a ∧ a < A 0 4 then 1 else 0) := by
  have h1 := hB.nk
  have ha2 := ha.2
  have ha1 := ha.1
  have q := e_isIn (a := a) (b := 0) (c := A 0 4 - 1) (r_lE (by omega) (by omega)) (r_lE (by omega) (by omega)) (r_lE (by omega) (by omega))
  unfold f_X10_isClass
  simp only [k_171 hS, hD.f4]
  by_cases c : 0 ≤ a ∧ a < A 0 4
  · rw [if_pos (by omega)] at q
    rw [if_pos c]
    simp (disch := (first | trivial | assumption | omega | (refine r_iE ?_ ?_ <;> omega) | (refine r_lE ?_ ?_ <;> omega) | fail)) only [↓q_gdT, ↓q_ltE, ↓if_pos, ↓if_neg, ↓q_bdE q]
  · rw [if_neg (by omega)] at q
    rw [if_neg c]
    simp (disch := (first | trivial | assumption | omega | (refine r_iE ?_ ?_ <;> omega) | (refine r_lE ?_ ?_ <;> omega) | fail)) only [↓q_gdT, ↓q_ltE, ↓if_pos, ↓if_neg, ↓q_bdE q]
theorem m_isSample {x : Nat} {S : q_S} {R : q_HR} {I : q_HI} {A : q_A} {a b : Int} (hS : w_Sh x S R) (hB : z_B A) (hD : w_D x I A) (ha : r_i a) (hb : r_i b) : ∃ r : Int, f_X10_isSample S R I (x + 171) a b = some r ∧ ((r = 0 ∧ ¬ z_hv A a b) ∨ (r = 1 ∧ z_hv A a b)) := by
  have h1 := hB.nk
  have hb2 := hb.2
  have hb1 := hb.1
  have q0 := m_isClass hS hB hD ha
  unfold f_X10_isSample z_hv
  simp only [k_171 hS, r_171_13 hS, k_175 hS, n_175 hS, hD.d4]
  by_cases c : 0 ≤ a ∧ a < A 0 4
  · rw [if_pos c] at q0
    obtain ⟨k, rfl⟩ : ∃ k : Nat, a = (k : Int) := ⟨a.toNat, by omega⟩
    have hn := (hB.ns (show k < z_nk A by omega)).1
    have q := e_isIn (a := b) (b := 0) (c := A 4 k - 1) (r_lE (by omega) (by omega)) (r_lE (by omega) (by omega)) (r_lE (by omega) (by omega))
    simp only [Int.toNat_natCast]
    by_cases c2 : 0 ≤ b ∧ b < A 4 k
    · rw [if_pos (by omega)] at q
      refine ⟨1, ?_, Or.inr ⟨rfl, c, c2⟩⟩
      simp (disch := (first | trivial | assumption | omega | (refine r_iE ?_ ?_ <;> omega) | (refine r_lE ?_ ?_ <;> omega) | fail)) only [↓q_gdT, ↓q_ltE, ↓if_pos, ↓if_neg, ↓q_bdE q0, ↓q_bdE q]
    · rw [if_neg (by omega)] at q
      refine ⟨0, ?_, Or.inl ⟨rfl, fun h => c2 h.2⟩⟩
      simp (disch := (first | trivial | assumption | omega | (refine r_iE ?_ ?_ <;> omega) | (refine r_lE ?_ ?_ <;> omega) | fail)) only [↓q_gdT, ↓q_ltE, ↓if_pos, ↓if_neg, ↓q_bdE q0, ↓q_bdE q]
  · rw [if_neg c] at q0
    refine ⟨0, ?_, Or.inl ⟨rfl, fun q => c q.1⟩⟩
    simp (disch := (first | trivial | assumption | omega | (refine r_iE ?_ ?_ <;> omega) | (refine r_lE ?_ ?_ <;> omega) | fail)) only [↓q_gdT, ↓q_ltE, ↓if_pos, ↓if_neg, ↓q_bdE q0]
theorem m_placeOf (a b : Int) : f_X10_placeOf a b = some (23 + 8 * a + b) := rfl
/-- ratios, fits, features -/
theorem m_ratioOf {x : Nat} {S : q_S} {R : q_HR} {I : q_HI} {A : q_A} {p s : Nat} (hS : w_Sh x S R) (hB : z_B A) (hD : w_D x I A) (hp : z_v A p) (h87 : p < 87) (hs : s < 5) : f_X10_ratioOf S R I (x + 171) (p : Int) (s : Int) = some (z_rat A p s) := by
  have b1 := hB.base s hs
  have b2 := ((hB.data p hp).2 s hs).1
  have e2 : ((6 * (p : Int) + 1 + (s : Int))).toNat = 6 * p + 1 + s := by omega
  have e3 : A 2 (6 * p + 1 + s) = z_rd A p s := rfl
  have q2 : 0 ≤ 1000 * z_rd A p s / A 1 s := Int.ediv_nonneg (by omega) (by omega)
  have q3 : 1000 * z_rd A p s / A 1 s ≤ 1000 * z_rd A p s := Int.ediv_le_self _ (by omega)
  have e4 : Int.tdiv (1000 * z_rd A p s) (A 1 s) = 1000 * z_rd A p s / A 1 s := Int.tdiv_eq_ediv_of_nonneg (by omega)
  unfold f_X10_ratioOf
  simp only [k_171 hS, r_171_11 hS, k_173 hS, n_173 hS, r_171_10 hS, k_172 hS, n_172 hS, hD.d2, hD.d1, Int.toNat_natCast, e2, e3, e4]
  unfold z_rat z_ratv q_mn
  by_cases c : 1000 * z_rd A p s / A 1 s ≤ 2000
  · rw [if_neg (show ¬ (2000 < 1000 * z_rd A p s / A 1 s) by omega)]
    simp (disch := (first | trivial | assumption | omega | (refine r_iE ?_ ?_ <;> omega) | (refine r_lE ?_ ?_ <;> omega) | fail)) only [↓q_gdT, ↓q_ltE, ↓if_pos, ↓if_neg]
  · rw [if_pos (show 2000 < 1000 * z_rd A p s / A 1 s by omega)]
    simp (disch := (first | trivial | assumption | omega | (refine r_iE ?_ ?_ <;> omega) | (refine r_lE ?_ ?_ <;> omega) | fail)) only [↓q_gdT, ↓q_ltE, ↓if_pos, ↓if_neg]
theorem z_B.c12 {A : q_A} (h : z_B A) : (0 ≤ A 0 2 ∧ A 0 2 ≤ 12) ∧ (z_nc A : Int) = A 0 2 := by
  have := h.2.1
  unfold z_nc
  omega
theorem m_fits {x : Nat} {S : q_S} {R : q_HR} {I : q_HI} {A : q_A} {s : Nat} (hS : w_Sh x S R) (hB : z_B A) (hD : w_D x I A) (hs : s < 5) : f_X10_fits S R I (x + 171) (s : Int) = some (q_up (q_up I (x + 171) 14 (z_sxy A s)) (x + 171) 15 (z_sxx A)) := by
  have hn := hB.c12
  unfold f_X10_fits
  refine z_loop (fun n i => f_X10_fits_L14 S R I (x + 171) (s : Int) (fun w22 w23 w24 w25 w26 => q_gd (S.1 (x + 171) = 11) (q_gd (r_i (I (x + 171) 2)) (q_lt (q_up I (x + 171) 14 (((I (x + 171) 2) * w24) - (w22 * w23))) fun I29 => q_gd (r_i (I29 (x + 171) 2)) (q_lt (q_up I29 (x + 171) 15 (((I29 (x + 171) 2) * w25) - (w22 * w22))) fun I32 => some I32)))) n (z_sm (fun k => z_hu A (1 + k)) i) (z_sm (fun k => z_rat A (1 + k) s) i) (z_sm (fun k => z_hu A (1 + k) * z_rat A (1 + k) s) i) (z_sm (fun k => z_hu A (1 + k) * z_hu A (1 + k)) i) ((i : Nat) : Int)) (z_nc A) _ (fun n i hi => ?_) (fun n => ?_) 100 (by omega)
  · have hv := z_vc hi
    have q := m_ratioOf (p := 1 + i) hS hB hD hv (by omega) hs
    have b1 := (hB.data _ hv).1
    have b2 := hB.rat hv hs
    have ep : ((1 + i : Nat) : Int) = 1 + (i : Int) := by omega
    rw [ep] at q
    have e2 : (6 * (1 + (i : Int))).toNat = 6 * (1 + i) := by omega
    have e3 : A 2 (6 * (1 + i)) = z_hu A (1 + i) := rfl
    show f_X10_fits_L14 _ _ _ _ _ _ (n + 1) _ _ _ _ _ = _
    rw [f_X10_fits_L14]
    simp only [k_171 hS, r_171_11 hS, k_173 hS, n_173 hS, hD.f2, hD.d2, e2, e3]
    simp (disch := (first | trivial | assumption | omega | (refine r_iE ?_ ?_ <;> omega) | (refine r_lE ?_ ?_ <;> omega) | fail)) only [↓q_gdT, ↓q_ltE, ↓if_pos, ↓if_neg, ↓q_bdE q]
    rfl
  · show f_X10_fits_L14 _ _ _ _ _ _ (n + 1) _ _ _ _ _ = _
    rw [f_X10_fits_L14]
    have u : ∀ v : Int, q_up I (x + 171) 14 v (x + 171) 2 = A 0 2 := fun v => by rw [q_up_nj (by omega)]; exact hD.f2
    simp only [k_171 hS, hD.f2]
    simp (disch := (first | trivial | assumption | omega | (refine r_iE ?_ ?_ <;> omega) | (refine r_lE ?_ ?_ <;> omega) | fail)) only [↓q_gdT, ↓q_ltE, ↓if_pos, ↓if_neg, u]
    rfl
theorem m_featureOf {x : Nat} {S : q_S} {R : q_HR} {I : q_HI} {A : q_A} {p s : Nat} (hS : w_Sh x S R) (hB : z_B A) (hD : w_D x I A) (hp : z_v A p) (h87 : p < 87) (hs : s < 5) : ∃ I', f_X10_featureOf S R I (x + 171) (p : Int) (s : Int) = some (z_fe A p s, I') ∧ ∀ a j, ¬ (a = x + 171 ∧ (j = 14 ∨ j = 15)) → I' a j = I a j := by
  have q1 := m_ratioOf hS hB hD hp h87 hs
  have b1 := hB.rat hp hs
  have b2 := (hB.data p hp).1
  have q2 := m_fits (s := s) hS hB hD hs
  obtain ⟨c0, c1, c2⟩ := z_sxB hB
  have c0 := c0 s hs
  have h8 := hB.2.2.2.2.2.2.2.1
  have cl : ∀ v : Int, q_mx (-4000) (q_mn v 4000) = if v ≤ 4000 then (if -4000 ≤ v then v else -4000) else 4000 := fun v => by
    unfold q_mx q_mn
    repeat' split
    all_goals omega
  have fe : z_fe A p s = if z_rat A p s - z_cor A (z_hu A p) s ≤ 4000 then (if -4000 ≤ z_rat A p s - z_cor A (z_hu A p) s then z_rat A p s - z_cor A (z_hu A p) s else -4000) else 4000 := cl _
  rw [fe]
  unfold f_X10_featureOf
  by_cases e8 : A 0 8 = 0
  · have ec : z_cor A (z_hu A p) s = 0 := by unfold z_cor; rw [if_pos (Or.inl e8)]
    rw [ec, Int.sub_zero, if_pos (show z_rat A p s ≤ 4000 by omega), if_pos (show -4000 ≤ z_rat A p s by omega)]
    refine ⟨I, ?_, fun _ _ _ => rfl⟩
    simp only [k_171 hS, hD.f8, e8]
    simp (disch := (first | trivial | assumption | omega | (refine r_iE ?_ ?_ <;> omega) | (refine r_lE ?_ ?_ <;> omega) | fail)) only [↓q_gdT, ↓q_ltE, ↓if_pos, ↓if_neg, ↓q_bdE q1]
  · generalize hI2 : q_up (q_up I (x + 171) 14 (z_sxy A s)) (x + 171) 15 (z_sxx A) = I2 at q2
    have f2 : ∀ a j, ¬ (a = x + 171 ∧ (j = 14 ∨ j = 15)) → I2 a j = I a j := fun a j h => by
      rw [← hI2]
      unfold q_up
      rw [if_neg (by omega), if_neg (by omega)]
    have u15 : I2 (x + 171) 15 = z_sxx A := by rw [← hI2, q_up_at]
    have u14 : I2 (x + 171) 14 = z_sxy A s := by rw [← hI2, q_up_nj (by omega), q_up_at]
    refine ⟨I2, ?_, f2⟩
    by_cases ex : z_sxx A = 0
    · have ec : z_cor A (z_hu A p) s = 0 := by unfold z_cor; rw [if_pos (Or.inr ex)]
      rw [ec, Int.sub_zero, if_pos (show z_rat A p s ≤ 4000 by omega), if_pos (show -4000 ≤ z_rat A p s by omega)]
      simp only [k_171 hS, hD.f8]
      simp (disch := (first | trivial | assumption | omega | (refine r_iE ?_ ?_ <;> omega) | (refine r_lE ?_ ?_ <;> omega) | fail)) only [↓q_gdT, ↓q_ltE, ↓if_pos, ↓if_neg, ↓q_bdE q1, ↓q_bdE q2, u15]
    · have ec : z_cor A (z_hu A p) s = z_sxy A s * (z_hu A p - 50) / z_sxx A := by unfold z_cor; rw [if_neg (by omega)]
      have h3 := z_mulB (M := 30000000) (N := 50) c0 (b := z_hu A p - 50) (by omega)
      have q3 := e_down (a := z_sxy A s * (z_hu A p - 50)) (b := z_sxx A) (r_lE (by omega) (by omega)) (r_lE (by omega) (by omega)) (by omega)
      have h4 := z_divA (b := z_sxx A) (M := 1500000000) (by omega) (a := z_sxy A s * (z_hu A p - 50)) (by omega) (by omega) (by omega)
      rw [ec]
      have e2 : (6 * (p : Int)).toNat = 6 * p := by omega
      have u173 : I2 (x + 173) (6 * p) = z_hu A p := by rw [f2 _ _ (by omega)]; exact hD.d2 _
      simp only [k_171 hS, hD.f8, r_171_11 hS, k_173 hS, n_173 hS, e2, u173]
      generalize z_sxy A s * (z_hu A p - 50) / z_sxx A = w at *
      by_cases g1 : z_rat A p s - w ≤ 4000
      · rw [if_pos g1]
        by_cases g2 : -4000 ≤ z_rat A p s - w
        · rw [if_pos g2]
          simp (disch := (first | trivial | assumption | omega | (refine r_iE ?_ ?_ <;> omega) | (refine r_lE ?_ ?_ <;> omega) | fail)) only [↓q_gdT, ↓q_ltE, ↓if_pos, ↓if_neg, ↓q_bdE q1, ↓q_bdE q2, u15, u14, u173, ↓q_bdE q3]
        · rw [if_neg g2]
          simp (disch := (first | trivial | assumption | omega | (refine r_iE ?_ ?_ <;> omega) | (refine r_lE ?_ ?_ <;> omega) | fail)) only [↓q_gdT, ↓q_ltE, ↓if_pos, ↓if_neg, ↓q_bdE q1, ↓q_bdE q2, u15, u14, u173, ↓q_bdE q3]
      · rw [if_neg g1]
        simp (disch := (first | trivial | assumption | omega | (refine r_iE ?_ ?_ <;> omega) | (refine r_lE ?_ ?_ <;> omega) | fail)) only [↓q_gdT, ↓q_ltE, ↓if_pos, ↓if_neg, ↓q_bdE q1, ↓q_bdE q2, u15, u14, u173, ↓q_bdE q3]
