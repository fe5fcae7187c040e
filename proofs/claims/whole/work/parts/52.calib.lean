/-! THE CLASS: stores, calibrations -/
theorem e_isFull {S : q_S} {R : q_HR} {I : q_HI} {sa hd n : Nat} (h1 : S.1 sa = 9) (h2 : R sa 0 = hd) (h3 : S.1 hd = 16) (hc : I sa 2 = (n : Int)) (hn : n ≤ 100) (hl : S.2.1 hd ≤ 100) : f_X8_isFull S R I sa = some (if (n : Int) < (S.2.1 hd : Int) then 0 else 1) := by
  subst h2
  unfold f_X8_isFull
  simp only [h1, h3, hc]
  by_cases c : (n : Int) < (S.2.1 (R sa 0) : Int)
  · rw [if_pos (show (n : Int) < (S.2.1 (R sa 0) : Int) from c)]
    simp (disch := (first | trivial | assumption | omega | (refine r_iE ?_ ?_ <;> omega) | (refine r_lE ?_ ?_ <;> omega) | fail)) only [↓q_gdT, ↓q_ltE, ↓if_pos, ↓if_neg]
  · rw [if_neg (show ¬ (n : Int) < (S.2.1 (R sa 0) : Int) from c)]
    simp (disch := (first | trivial | assumption | omega | (refine r_iE ?_ ?_ <;> omega) | (refine r_lE ?_ ?_ <;> omega) | fail)) only [↓q_gdT, ↓q_ltE, ↓if_pos, ↓if_neg]
theorem e_append {S : q_S} {R : q_HR} {I : q_HI} {sa hd n m : Nat} (h1 : S.1 sa = 9) (h2 : R sa 0 = hd) (h3 : S.1 hd = 16) (hc : I sa 2 = (n : Int)) (hn : n < S.2.1 hd) (hl : S.2.1 hd ≤ 100) (hm : S.1 m = 6) : f_X8_append S R I sa m = some (q_up R hd n m, q_up I sa 2 ((n : Int) + 1)) := by
  subst h2
  unfold f_X8_append
  simp only [h1, h3, hc, hm, Int.toNat_natCast]
  simp (disch := (first | trivial | assumption | omega | (refine r_iE ?_ ?_ <;> omega) | (refine r_lE ?_ ?_ <;> omega) | fail)) only [↓q_gdT, ↓q_ltE, ↓if_pos, ↓if_neg]
theorem e_removeAt {S : q_S} {R : q_HR} {I : q_HI} {sa hd n k : Nat} (h1 : S.1 sa = 9) (h2 : R sa 0 = hd) (hne : sa ≠ hd) (h3 : S.1 hd = 16) (hc : I sa 2 = (n : Int)) (hn : n ≤ S.2.1 hd) (hl : S.2.1 hd ≤ 90) (hk : k < n) (hm : ∀ j, j < n → S.1 (R hd j) = 6) : ∃ R', f_X8_removeAt S R I sa (k : Int) = some (R', q_up I sa 2 ((n : Int) - 1)) ∧ (∀ a, a ≠ hd → R' a = R a) ∧ ∀ j, j + 1 < n → R' hd j = if k ≤ j then R hd (j + 1) else R hd j := by
  unfold f_X8_removeAt
  simp only [h1, hc]
  simp (disch := (first | trivial | assumption | omega | (refine r_iE ?_ ?_ <;> omega) | (refine r_lE ?_ ?_ <;> omega) | fail)) only [↓q_gdT, ↓q_ltE, ↓if_pos, ↓if_neg, q_ltE]
  have key := z_loopR (σ := Int × q_HR) (fun N s => f_X8_removeAt_L17 S I sa (fun w18 R19 => some (R19, q_up I sa 2 ((n : Int) - 1))) N s.1 s.2) (fun i s => k < i ∧ s.1 = (i : Int) ∧ (∀ a, a ≠ hd → s.2 a = R a) ∧ ∀ j, s.2 hd j = if k ≤ j ∧ j + 1 < i then R hd (j + 1) else R hd j) n (fun s => some (s.2, q_up I sa 2 ((n : Int) - 1))) (fun N i s hi hP => ?_) (fun N s hP => ?_) 100 (k + 1) (((k + 1 : Nat) : Int), R) (by omega) (by omega) ⟨by omega, rfl, fun _ _ => rfl, fun j => by rw [if_neg (by omega)]⟩
  · obtain ⟨s', ⟨g0, g1, g2, g3⟩, g4⟩ := key
    refine ⟨s'.2, g4, g2, fun j hj => ?_⟩
    rw [g3 j]
    by_cases c : k ≤ j
    · rw [if_pos ⟨c, hj⟩, if_pos c]
    · rw [if_neg (fun q => c q.1), if_neg c]
  · obtain ⟨v, R'⟩ := s
    obtain ⟨g0, rfl, g2, g3⟩ := hP
    dsimp only at g2 g3
    show ∃ s' : Int × q_HR, _ ∧ f_X8_removeAt_L17 _ _ _ _ (N + 1) _ _ = _
    rw [f_X8_removeAt_L17]
    have e0 : R' sa 0 = hd := by rw [g2 sa hne]; exact h2
    have ei : R' hd i = R hd i := by rw [g3 i, if_neg (by omega)]
    have e6 := hm i hi
    have ev : (i : Int) - 1 = ((i - 1 : Nat) : Int) := by omega
    simp only [h1, hc, e0, h3, Int.toNat_natCast, ei, e6, ev]
    refine ⟨(((i + 1 : Nat) : Int), q_up R' hd (i - 1) (R hd i)), ⟨by omega, rfl, fun a ha => by dsimp only; rw [q_up_ne _ _ _ ha]; exact g2 a ha, fun j => ?_⟩, ?_⟩
    · dsimp only
      unfold q_up
      by_cases e : j = i - 1
      · rw [if_pos ⟨rfl, e⟩, if_pos (by omega), show j + 1 = i by omega]
      · rw [if_neg (fun q => e q.2), g3 j]
        by_cases c : k ≤ j ∧ j + 1 < i
        · rw [if_pos c, if_pos (by omega)]
        · rw [if_neg c, if_neg (by omega)]
    · simp (disch := (first | trivial | assumption | omega | (refine r_iE ?_ ?_ <;> omega) | (refine r_lE ?_ ?_ <;> omega) | fail)) only [↓q_gdT, ↓q_ltE, ↓if_pos, ↓if_neg, q_ltE]
      rfl
  · obtain ⟨v, R'⟩ := s
    obtain ⟨g0, rfl, g2, g3⟩ := hP
    show f_X8_removeAt_L17 _ _ _ _ (N + 1) _ _ = _
    rw [f_X8_removeAt_L17]
    simp only [h1, hc]
    simp (disch := (first | trivial | assumption | omega | (refine r_iE ?_ ?_ <;> omega) | (refine r_lE ?_ ?_ <;> omega) | fail)) only [↓q_gdT, ↓q_ltE, ↓if_pos, ↓if_neg]
/-- the data after a copy -/
theorem z_dataC {A A' : q_A} {p0 q : Nat} (hB : z_B A) (h0 : z_v A p0) (e2 : ∀ j, A' 2 j = z_cp A p0 q 2 j) (e1 : A' 0 1 = A 0 1) (hv : ∀ p, z_v A' p → p = q ∨ z_v A p) : ∀ p, z_v A' p → (0 ≤ z_hu A' p ∧ z_hu A' p ≤ 100) ∧ ∀ s, s < 5 → (0 ≤ z_rd A' p s ∧ z_rd A' p s ≤ 9999) ∧ ((A' 0 1).toNat ≤ s → z_rd A' p s = 0) := by
  intro p hp
  have u1 : z_hu A' p = if p = q then z_hu A p0 else z_hu A p := by
    rw [← z_cp_hu]
    exact e2 _
  have u2 : ∀ s, s < 5 → z_rd A' p s = if p = q then z_rd A p0 s else z_rd A p s := fun s hs => by
    rw [← z_cp_rd A p0 q p s hs]
    exact e2 _
  have d0 := hB.data p0 h0
  rw [e1, u1]
  by_cases e : p = q
  · rw [if_pos e]
    refine ⟨d0.1, fun s hs => ?_⟩
    rw [u2 s hs, if_pos e]
    exact d0.2 s hs
  · rw [if_neg e]
    have d := hB.data p ((hv p hp).resolve_left e)
    refine ⟨d.1, fun s hs => ?_⟩
    rw [u2 s hs, if_neg e]
    exact d.2 s hs
/-! calibrations -/
def o_addCalibration (A : q_A) : Int × q_A := if A 0 7 = 0 then (-5, A) else if A 0 2 < 12 then (A 0 2 + 1, q_up (z_cp A 0 (1 + z_nc A)) 0 2 (A 0 2 + 1)) else (-4, A)
theorem z_B.addC {A : q_A} (hB : z_B A) (h7 : A 0 7 = 1) (h : A 0 2 < 12) : z_B (q_up (z_cp A 0 (1 + z_nc A)) 0 2 (A 0 2 + 1)) ∧ z_nc (q_up (z_cp A 0 (1 + z_nc A)) 0 2 (A 0 2 + 1)) = z_nc A + 1 := by
  have h2 := hB.2.1
  have ec : z_nc (q_up (z_cp A 0 (1 + z_nc A)) 0 2 (A 0 2 + 1)) = z_nc A + 1 := by
    show (A 0 2 + 1).toNat = _
    unfold z_nc
    omega
  refine ⟨⟨hB.1, by show 0 ≤ A 0 2 + 1 ∧ A 0 2 + 1 ≤ 12; omega, hB.2.2.1, hB.2.2.2.1, hB.2.2.2.2.1, hB.2.2.2.2.2.1, hB.2.2.2.2.2.2.1, hB.2.2.2.2.2.2.2.1, hB.2.2.2.2.2.2.2.2.1, hB.2.2.2.2.2.2.2.2.2.1, z_dataC (q := 1 + z_nc A) hB (Or.inl ⟨rfl, h7⟩) (fun j => rfl) rfl (fun p hp => ?_), hB.time, hB.2.2.2.2.2.2.2.2.2.2.2.2.1, hB.2.2.2.2.2.2.2.2.2.2.2.2.2⟩, ec⟩
  rcases hp with q | q | q | q
  · exact Or.inr (Or.inl q)
  · rw [ec] at q
    by_cases e : p = 1 + z_nc A
    · exact Or.inl e
    · exact Or.inr (Or.inr (Or.inl (by omega)))
  · exact Or.inr (Or.inr (Or.inr (Or.inl q)))
  · exact Or.inr (Or.inr (Or.inr (Or.inr q)))
