/-! THE CLASS: its linkage -/
def w_lk (x : Nat) (I : q_HI) (v : Int) : Prop := (v = -1 ∧ I (x + 37) 2 = -1) ∨ (0 ≤ v ∧ (0 ≤ I (x + 37) 2 ∧ I (x + 37) 2 < 8) ∧ (0 ≤ I (x + 37) 3 ∧ I (x + 37) 3 < 8) ∧ (0 ≤ I (x + 37) 4 ∧ I (x + 37) 4 ≤ 320000000) ∧ v = 100 * I (x + 37) 4 + 10 * I (x + 37) 2 + I (x + 37) 3)
theorem e_consider {x : Nat} {S : q_S} {R : q_HR} {I : q_HI} {a b d v : Int} (hS : w_Sh x S R) (ha : 0 ≤ a ∧ a < 8) (hb : 0 ≤ b ∧ b < 8) (hd : 0 ≤ d ∧ d ≤ 320000000) (hl : w_lk x I v) : ∃ I', f_X4_consider S R I (x + 37) a b d = some I' ∧ (∀ c, c ≠ x + 37 → I' c = I c) ∧ w_lk x I' (if v ≠ -1 ∧ v ≤ z_key d a b then v else z_key d a b) := by
  have hm := z_mm (a := a) (b := b)
  unfold f_X4_consider z_key
  generalize q_mn a b = lo at *
  generalize q_mx a b = hi at *
  have up : ∀ v' : Int, v' = 100 * d + 10 * lo + hi → (∀ c, c ≠ x + 37 → q_up (q_up (q_up I (x + 37) 2 lo) (x + 37) 3 hi) (x + 37) 4 d c = I c) ∧ w_lk x (q_up (q_up (q_up I (x + 37) 2 lo) (x + 37) 3 hi) (x + 37) 4 d) v' := fun v' e => by
    refine ⟨fun c hc => by rw [q_up_ne _ _ _ hc, q_up_ne _ _ _ hc, q_up_ne _ _ _ hc], Or.inr ?_⟩
    have e2 : q_up (q_up (q_up I (x + 37) 2 lo) (x + 37) 3 hi) (x + 37) 4 d (x + 37) 2 = lo := by unfold q_up; simp
    have e3 : q_up (q_up (q_up I (x + 37) 2 lo) (x + 37) 3 hi) (x + 37) 4 d (x + 37) 3 = hi := by unfold q_up; simp
    have e4 : q_up (q_up (q_up I (x + 37) 2 lo) (x + 37) 3 hi) (x + 37) 4 d (x + 37) 4 = d := by unfold q_up; simp
    rw [e2, e3, e4]
    omega
  simp only [k_37 hS, q_ltE]
  rcases hl with ⟨h1, h2⟩ | ⟨h1, h2, h3, h4, h5⟩
  · rw [if_neg (show ¬ (v ≠ -1 ∧ v ≤ 100 * d + 10 * lo + hi) by omega)]
    refine ⟨q_up (q_up (q_up I (x + 37) 2 lo) (x + 37) 3 hi) (x + 37) 4 d, ?_, up _ rfl⟩
    rw [h2]
    simp (disch := (first | trivial | assumption | omega | (refine r_iE ?_ ?_ <;> omega) | (refine r_lE ?_ ?_ <;> omega) | fail)) only [↓q_gdT, ↓q_ltE, ↓if_pos, ↓if_neg]
  · have q : f_X4_comesFirst S R I (x + 37) lo hi d = some (if v ≤ 100 * d + 10 * lo + hi then 0 else 1) := by
      unfold f_X4_comesFirst
      simp only [k_37 hS]
      generalize I (x + 37) 2 = p2 at *
      generalize I (x + 37) 3 = p3 at *
      generalize I (x + 37) 4 = p4 at *
      by_cases c1 : d = p4
      · by_cases c2 : lo = p2
        · by_cases c3 : p3 ≤ hi
          · rw [if_pos (show v ≤ 100 * d + 10 * lo + hi by omega)]
            simp (disch := (first | trivial | assumption | omega | (refine r_iE ?_ ?_ <;> omega) | (refine r_lE ?_ ?_ <;> omega) | fail)) only [↓q_gdT, ↓q_ltE, ↓if_pos, ↓if_neg]
          · rw [if_neg (show ¬ v ≤ 100 * d + 10 * lo + hi by omega)]
            simp (disch := (first | trivial | assumption | omega | (refine r_iE ?_ ?_ <;> omega) | (refine r_lE ?_ ?_ <;> omega) | fail)) only [↓q_gdT, ↓q_ltE, ↓if_pos, ↓if_neg]
        · by_cases c3 : p2 ≤ lo
          · rw [if_pos (show v ≤ 100 * d + 10 * lo + hi by omega)]
            simp (disch := (first | trivial | assumption | omega | (refine r_iE ?_ ?_ <;> omega) | (refine r_lE ?_ ?_ <;> omega) | fail)) only [↓q_gdT, ↓q_ltE, ↓if_pos, ↓if_neg]
          · rw [if_neg (show ¬ v ≤ 100 * d + 10 * lo + hi by omega)]
            simp (disch := (first | trivial | assumption | omega | (refine r_iE ?_ ?_ <;> omega) | (refine r_lE ?_ ?_ <;> omega) | fail)) only [↓q_gdT, ↓q_ltE, ↓if_pos, ↓if_neg]
      · by_cases c3 : p4 ≤ d
        · rw [if_pos (show v ≤ 100 * d + 10 * lo + hi by omega)]
          simp (disch := (first | trivial | assumption | omega | (refine r_iE ?_ ?_ <;> omega) | (refine r_lE ?_ ?_ <;> omega) | fail)) only [↓q_gdT, ↓q_ltE, ↓if_pos, ↓if_neg]
        · rw [if_neg (show ¬ v ≤ 100 * d + 10 * lo + hi by omega)]
          simp (disch := (first | trivial | assumption | omega | (refine r_iE ?_ ?_ <;> omega) | (refine r_lE ?_ ?_ <;> omega) | fail)) only [↓q_gdT, ↓q_ltE, ↓if_pos, ↓if_neg]
    by_cases c : v ≤ 100 * d + 10 * lo + hi
    · rw [if_pos (show v ≠ -1 ∧ v ≤ 100 * d + 10 * lo + hi from ⟨by omega, c⟩)]
      rw [if_pos c] at q
      refine ⟨I, ?_, fun _ _ => rfl, Or.inr ⟨h1, h2, h3, h4, h5⟩⟩
      simp (disch := (first | trivial | assumption | omega | (refine r_iE ?_ ?_ <;> omega) | (refine r_lE ?_ ?_ <;> omega) | fail)) only [↓q_gdT, ↓q_ltE, ↓if_pos, ↓if_neg, ↓q_bdE q]
    · rw [if_neg (show ¬ (v ≠ -1 ∧ v ≤ 100 * d + 10 * lo + hi) from fun q => c q.2)]
      rw [if_neg c] at q
      refine ⟨q_up (q_up (q_up I (x + 37) 2 lo) (x + 37) 3 hi) (x + 37) 4 d, ?_, up _ rfl⟩
      simp (disch := (first | trivial | assumption | omega | (refine r_iE ?_ ?_ <;> omega) | (refine r_lE ?_ ?_ <;> omega) | fail)) only [↓q_gdT, ↓q_ltE, ↓if_pos, ↓if_neg, ↓q_bdE q]
theorem z_m1Lo {P : Nat → Int} {m0 : Int} : ∀ {n : Nat}, (∀ j, j < n → P j = -1) → z_m1 P m0 n = m0
  | 0, _ => rfl
  | n + 1, h => by
    unfold z_m1
    rw [if_pos (Or.inl (h n (by omega))), z_m1Lo (fun j hj => h j (by omega))]
/-- the heads and the gaps of the linkage -/
def w_li (x : Nat) (I : q_HI) (H : Nat → Int) (D : Nat → Nat → Int) : Prop := (∀ i, i < 8 → I (x + 47) i = H i) ∧ ∀ i j, i < j → j < 8 → H i ≠ -1 → H j ≠ -1 → I (x + 39 + i) j = D i j
theorem e_findPair {x : Nat} {S : q_S} {R : q_HR} {I : q_HI} {H : Nat → Int} {D : Nat → Nat → Int} (hS : w_Sh x S R) (hH : z_ok H) (hD : z_dk H D) (hl : w_li x I H D) : ∃ I', f_X4_findPair S R I (x + 37) = some (if z_bp H D = -1 then 0 else 1, I') ∧ (∀ c, c ≠ x + 37 → I' c = I c) ∧ w_lk x I' (z_bp H D) := by
  unfold f_X4_findPair
  simp only [k_37 hS]
  simp (disch := (first | trivial | assumption | omega | (refine r_iE ?_ ?_ <;> omega) | (refine r_lE ?_ ?_ <;> omega) | fail)) only [↓q_gdT, ↓q_ltE, ↓if_pos, ↓if_neg]
  have key := z_loopR (σ := Int × q_HI) (fun n s => f_X4_findPair_L7 S R (x + 37) (fun w29 I30 => q_gd (r_i (I30 (x + 37) 2)) (if I30 (x + 37) 2 = (-1) then some (0, I30) else some (1, I30))) n s.1 s.2) (fun i s => s.1 = (i : Int) ∧ (∀ c, c ≠ x + 37 → s.2 c = I c) ∧ w_lk x s.2 (z_m2 (z_lp H D) 8 i)) 8 (fun s => q_gd (r_i (s.2 (x + 37) 2)) (if s.2 (x + 37) 2 = (-1) then some (0, s.2) else some (1, s.2))) (fun n i s hi hP => ?_) (fun n s hP => ?_) 100 0 (0, q_up I (x + 37) 2 (-1)) (by omega) (by omega) ⟨rfl, fun c hc => q_up_ne _ _ _ hc, Or.inl ⟨rfl, by unfold q_up; simp⟩⟩
  · obtain ⟨s', ⟨h1, h2, h3⟩, h4⟩ := key
    refine ⟨s'.2, ?_, h2, h3⟩
    rw [h4]
    rcases h3 with ⟨p1, p2⟩ | ⟨p1, p2, p3, p4, p5⟩
    · have p1' : z_bp H D = -1 := p1
      rw [if_pos p1']
      simp (disch := (first | trivial | assumption | omega | (refine r_iE ?_ ?_ <;> omega) | (refine r_lE ?_ ?_ <;> omega) | fail)) only [↓q_gdT, ↓q_ltE, ↓if_pos, ↓if_neg]
    · have p1' : 0 ≤ z_bp H D := p1
      rw [if_neg (show ¬ z_bp H D = -1 by omega)]
      simp (disch := (first | trivial | assumption | omega | (refine r_iE ?_ ?_ <;> omega) | (refine r_lE ?_ ?_ <;> omega) | fail)) only [↓q_gdT, ↓q_ltE, ↓if_pos, ↓if_neg]
  · obtain ⟨v, J⟩ := s
    obtain ⟨rfl, hF, hm⟩ := hP
    dsimp only at hF hm
    show ∃ s' : Int × q_HI, _ ∧ f_X4_findPair_L7 _ _ _ _ (n + 1) _ _ = _
    rw [f_X4_findPair_L7]
    simp (disch := (first | trivial | assumption | omega | (refine r_iE ?_ ?_ <;> omega) | (refine r_lE ?_ ?_ <;> omega) | fail)) only [↓q_gdT, ↓q_ltE, ↓if_pos, ↓if_neg, q_ltE]
    have key := z_loopR (σ := Int × q_HI) (fun m s => f_X4_findPair_L17 S R (x + 37) (i : Int) (fun w27 I28 => f_X4_findPair_L7 S R (x + 37) (fun w29 I30 => q_gd (r_i (I30 (x + 37) 2)) (if I30 (x + 37) 2 = (-1) then some (0, I30) else some (1, I30))) n ((i : Int) + 1) I28) m s.1 s.2) (fun j s => i < j ∧ s.1 = (j : Int) ∧ (∀ c, c ≠ x + 37 → s.2 c = I c) ∧ w_lk x s.2 (z_m1 (z_lp H D i) (z_m2 (z_lp H D) 8 i) j)) 8 (fun s => f_X4_findPair_L7 S R (x + 37) (fun w29 I30 => q_gd (r_i (I30 (x + 37) 2)) (if I30 (x + 37) 2 = (-1) then some (0, I30) else some (1, I30))) n ((i : Int) + 1) s.2) (fun m j s hj hP => ?_) (fun m s hP => ?_) 100 (i + 1) (((i + 1 : Nat) : Int), J) (by omega) (by omega) ⟨by omega, rfl, hF, by
      rw [z_m1Lo (fun j hj => by unfold z_lp; rw [if_neg (by omega)])]
      exact hm⟩
    · obtain ⟨s', ⟨h0, h1, h2, h3⟩, h4⟩ := key
      exact ⟨(((i + 1 : Nat) : Int), s'.2), ⟨rfl, h2, h3⟩, h4⟩
    · obtain ⟨v, J'⟩ := s
      obtain ⟨hij, rfl, hF', hm'⟩ := hP
      dsimp only at hF' hm'
      show ∃ s' : Int × q_HI, _ ∧ f_X4_findPair_L17 _ _ _ _ _ (m + 1) _ _ = _
      rw [f_X4_findPair_L17]
      have e1 : J' (x + 47) i = H i := by rw [hF' _ (by omega)]; exact hl.1 i hi
      have e2 : J' (x + 47) j = H j := by rw [hF' _ (by omega)]; exact hl.1 j hj
      obtain ⟨kr, nr⟩ := k_row39 hS hi
      have b1 : -1 ≤ H i ∧ H i < 8 := by rcases hH i hi with q | q <;> omega
      have b2 : -1 ≤ H j ∧ H j < 8 := by rcases hH j hj with q | q <;> omega
      simp only [k_37 hS, r_37_0 hS, r_37_1 hS, k_38 hS, n_38 hS, k_47 hS, n_47 hS, Int.toNat_natCast, r_38 hS hi, kr, nr, e1, e2]
      have skip : z_lp H D i j = -1 → ∃ s' : Int × q_HI, (i < j + 1 ∧ s'.1 = ((j + 1 : Nat) : Int) ∧ (∀ c, c ≠ x + 37 → s'.2 c = I c) ∧ w_lk x s'.2 (z_m1 (z_lp H D i) (z_m2 (z_lp H D) 8 i) (j + 1))) ∧ f_X4_findPair_L17 S R (x + 37) (i : Int) (fun w27 I28 => f_X4_findPair_L7 S R (x + 37) (fun w29 I30 => q_gd (r_i (I30 (x + 37) 2)) (if I30 (x + 37) 2 = (-1) then some (0, I30) else some (1, I30))) n ((i : Int) + 1) I28) m ((j : Int) + 1) J' = f_X4_findPair_L17 S R (x + 37) (i : Int) (fun w27 I28 => f_X4_findPair_L7 S R (x + 37) (fun w29 I30 => q_gd (r_i (I30 (x + 37) 2)) (if I30 (x + 37) 2 = (-1) then some (0, I30) else some (1, I30))) n ((i : Int) + 1) I28) m s'.1 s'.2 := fun hq =>
        ⟨(((j + 1 : Nat) : Int), J'), ⟨by omega, rfl, hF', by unfold z_m1; rw [if_pos (Or.inl hq)]; exact hm'⟩, rfl⟩
      by_cases c1 : H i = H j
      · have := skip (by unfold z_lp; rw [if_neg (by omega)])
        simp (disch := (first | trivial | assumption | omega | (refine r_iE ?_ ?_ <;> omega) | (refine r_lE ?_ ?_ <;> omega) | fail)) only [↓q_gdT, ↓q_ltE, ↓if_pos, ↓if_neg]
        exact this
      · by_cases c2 : H i = -1
        · have := skip (by unfold z_lp; rw [if_neg (by omega)])
          simp (disch := (first | trivial | assumption | omega | (refine r_iE ?_ ?_ <;> omega) | (refine r_lE ?_ ?_ <;> omega) | fail)) only [↓q_gdT, ↓q_ltE, ↓if_pos, ↓if_neg]
          exact this
        · by_cases c3 : H j = -1
          · have := skip (by unfold z_lp; rw [if_neg (by omega)])
            simp (disch := (first | trivial | assumption | omega | (refine r_iE ?_ ?_ <;> omega) | (refine r_lE ?_ ?_ <;> omega) | fail)) only [↓q_gdT, ↓q_ltE, ↓if_pos, ↓if_neg]
            exact this
          · have e3 : J' (x + 39 + i) j = D i j := by rw [hF' _ (by omega)]; exact hl.2 i j hij hj c2 c3
            have dB := hD i j hi hj c2 c3
            obtain ⟨J2, q, f2, l2⟩ := e_consider (a := H i) (b := H j) (d := D i j) hS (by omega) (by omega) dB hm'
            rw [e3]
            simp (disch := (first | trivial | assumption | omega | (refine r_iE ?_ ?_ <;> omega) | (refine r_lE ?_ ?_ <;> omega) | fail)) only [↓q_gdT, ↓q_ltE, ↓if_pos, ↓if_neg, ↓q_bdE q]
            refine ⟨(((j + 1 : Nat) : Int), J2), ⟨by omega, rfl, fun c hc => by dsimp only; rw [f2 c hc]; exact hF' c hc, ?_⟩, rfl⟩
            have ek : z_lp H D i j = z_key (D i j) (H i) (H j) := by unfold z_lp; rw [if_pos ⟨hij, c2, c3, c1⟩]
            have kn : z_key (D i j) (H i) (H j) ≠ -1 := by
              unfold z_key
              have := z_mm (a := H i) (b := H j)
              omega
            show w_lk x J2 _
            unfold z_m1
            rw [ek]
            by_cases c5 : z_m1 (z_lp H D i) (z_m2 (z_lp H D) 8 i) j ≠ -1 ∧ z_m1 (z_lp H D i) (z_m2 (z_lp H D) 8 i) j ≤ z_key (D i j) (H i) (H j)
            · rw [if_pos (Or.inr c5)]
              rw [if_pos c5] at l2
              exact l2
            · rw [if_neg (by omega)]
              rw [if_neg c5] at l2
              exact l2
    · obtain ⟨v, J'⟩ := s
      obtain ⟨hij, rfl, hF', hm'⟩ := hP
      show f_X4_findPair_L17 _ _ _ _ _ (m + 1) _ _ = _
      rw [f_X4_findPair_L17]
      simp (disch := (first | trivial | assumption | omega | (refine r_iE ?_ ?_ <;> omega) | (refine r_lE ?_ ?_ <;> omega) | fail)) only [↓q_gdT, ↓q_ltE, ↓if_pos, ↓if_neg]
  · obtain ⟨v, J⟩ := s
    obtain ⟨rfl, hF, hm⟩ := hP
    show f_X4_findPair_L7 _ _ _ _ (n + 1) _ _ = _
    rw [f_X4_findPair_L7]
    simp (disch := (first | trivial | assumption | omega | (refine r_iE ?_ ?_ <;> omega) | (refine r_lE ?_ ?_ <;> omega) | fail)) only [↓q_gdT, ↓q_ltE, ↓if_pos, ↓if_neg]
theorem e_joinPair {x : Nat} {S : q_S} {R : q_HR} {I : q_HI} {H : Nat → Int} {lo hi : Int} (hS : w_Sh x S R) (hH : ∀ i, i < 8 → -1 ≤ H i ∧ H i < 8) (h2 : I (x + 37) 2 = lo) (h3 : I (x + 37) 3 = hi) (hb : (0 ≤ lo ∧ lo < 8) ∧ (0 ≤ hi ∧ hi < 8)) (hl : ∀ i, i < 8 → I (x + 47) i = H i) : ∃ I', f_X4_joinPair S R I (x + 37) = some I' ∧ (∀ c, c ≠ x + 47 → I' c = I c) ∧ ∀ i, i < 8 → I' (x + 47) i = if H i = hi then lo else H i := by
  unfold f_X4_joinPair
  have key := z_loopR (σ := Int × q_HI) (fun n s => f_X4_joinPair_L2 S R (x + 37) (fun w11 I12 => some I12) n s.1 s.2) (fun i s => s.1 = (i : Int) ∧ (∀ c, c ≠ x + 47 → s.2 c = I c) ∧ ∀ k, k < 8 → s.2 (x + 47) k = if k < i ∧ H k = hi then lo else H k) 8 (fun s => some s.2) (fun n i s hi' hP => ?_) (fun n s hP => ?_) 100 0 (0, I) (by omega) (by omega) ⟨rfl, fun _ _ => rfl, fun k hk => by rw [if_neg (by omega)]; exact hl k hk⟩
  · obtain ⟨s', ⟨h1, h2, h3⟩, h4⟩ := key
    refine ⟨s'.2, h4, h2, fun i hi9 => ?_⟩
    rw [h3 i hi9]
    by_cases c : H i = hi
    · rw [if_pos ⟨hi9, c⟩, if_pos c]
    · rw [if_neg (fun q => c q.2), if_neg c]
  · obtain ⟨v, J⟩ := s
    obtain ⟨rfl, hF, hr⟩ := hP
    dsimp only at hF hr
    show ∃ s' : Int × q_HI, _ ∧ f_X4_joinPair_L2 _ _ _ _ (n + 1) _ _ = _
    rw [f_X4_joinPair_L2]
    have e1 : J (x + 47) i = H i := by rw [hr i hi', if_neg (by omega)]
    have e2 : J (x + 37) 2 = lo := by rw [hF _ (by omega)]; exact h2
    have e3 : J (x + 37) 3 = hi := by rw [hF _ (by omega)]; exact h3
    have hb2 := hH i hi'
    simp only [k_37 hS, r_37_1 hS, k_47 hS, n_47 hS, Int.toNat_natCast, e1, e2, e3]
    by_cases c : H i = hi
    · refine ⟨(((i + 1 : Nat) : Int), q_up J (x + 47) i lo), ⟨rfl, fun c hc => by dsimp only; rw [q_up_ne _ _ _ hc]; exact hF c hc, fun k hk => ?_⟩, ?_⟩
      · dsimp only
        unfold q_up
        by_cases e : k = i
        · rw [if_pos ⟨rfl, e⟩, if_pos ⟨by omega, by rw [e]; exact c⟩]
        · rw [if_neg (fun q => e q.2), hr k hk]
          by_cases c2 : k < i ∧ H k = hi
          · rw [if_pos c2, if_pos ⟨by omega, c2.2⟩]
          · rw [if_neg c2, if_neg (by omega)]
      · simp (disch := (first | trivial | assumption | omega | (refine r_iE ?_ ?_ <;> omega) | (refine r_lE ?_ ?_ <;> omega) | fail)) only [↓q_gdT, ↓q_ltE, ↓if_pos, ↓if_neg]
        rfl
    · refine ⟨(((i + 1 : Nat) : Int), J), ⟨rfl, hF, fun k hk => ?_⟩, ?_⟩
      · dsimp only
        rw [hr k hk]
        by_cases c2 : k < i ∧ H k = hi
        · rw [if_pos c2, if_pos ⟨by omega, c2.2⟩]
        · rw [if_neg c2, if_neg (fun q => c2 ⟨by by_cases e : k = i; (· subst e; exact absurd q.2 c); omega, q.2⟩)]
      · simp (disch := (first | trivial | assumption | omega | (refine r_iE ?_ ?_ <;> omega) | (refine r_lE ?_ ?_ <;> omega) | fail)) only [↓q_gdT, ↓q_ltE, ↓if_pos, ↓if_neg]
        rfl
  · obtain ⟨v, J⟩ := s
    obtain ⟨rfl, hF, hm⟩ := hP
    show f_X4_joinPair_L2 _ _ _ _ (n + 1) _ _ = _
    rw [f_X4_joinPair_L2]
    simp (disch := (first | trivial | assumption | omega | (refine r_iE ?_ ?_ <;> omega) | (refine r_lE ?_ ?_ <;> omega) | fail)) only [↓q_gdT, ↓q_ltE, ↓if_pos, ↓if_neg]
/-- up to a number of joinings -/
def z_upto (a : Int) : Nat := if a < 8 then a.toNat else 8
theorem e_runTo {x : Nat} {S : q_S} {R : q_HR} {I : q_HI} {H : Nat → Int} {D : Nat → Nat → Int} {a : Int} (hS : w_Sh x S R) (hH : z_ok H) (hD : z_dk H D) (hl : w_li x I H D) (ha : r_i a) (h0 : 0 ≤ a) : ∃ I', f_X4_runTo S R I (x + 37) a = some (if z_bp (z_hs D H (z_upto a)) D = -1 then 0 else 1, I') ∧ (∀ c, c ≠ x + 37 → c ≠ x + 47 → I' c = I c) ∧ (z_bp (z_hs D H (z_upto a)) D ≠ -1 → w_lk x I' (z_bp (z_hs D H (z_upto a)) D)) := by
  unfold f_X4_runTo z_upto
  by_cases h8 : a < 8
  · simp only [if_pos h8]
    obtain ⟨m, rfl⟩ : ∃ m : Nat, a = (m : Int) := ⟨a.toNat, by omega⟩
    rw [Int.toNat_natCast]
    simp only [k_37 hS]
    simp (disch := (first | trivial | assumption | omega | (refine r_iE ?_ ?_ <;> omega) | (refine r_lE ?_ ?_ <;> omega) | fail)) only [↓q_gdT, ↓q_ltE, ↓if_pos, ↓if_neg]
    -- by the number of joinings still to come
    have key : ∀ (d i N : Nat) (J : q_HI), i + d = m → d < N → (∀ c, c ≠ x + 37 → c ≠ x + 47 → J c = I c) → w_li x J (z_hs D H i) D → ∃ I', f_X4_runTo_L10 S R (x + 37) (m : Int) (fun w14 I15 => q_bd2 (f_X4_findPair S R I15 (x + 37)) fun r17 I18 => q_gd (r17 = 0 ∨ r17 = 1) (some (r17, I18))) N (i : Int) J = some (if z_bp (z_hs D H m) D = -1 then 0 else 1, I') ∧ (∀ c, c ≠ x + 37 → c ≠ x + 47 → I' c = I c) ∧ (z_bp (z_hs D H m) D ≠ -1 → w_lk x I' (z_bp (z_hs D H m) D)) := by
      intro d
      induction d with
      | zero =>
        intro i N J hi hN hF hw
        obtain ⟨n, rfl⟩ : ∃ n, N = n + 1 := ⟨N - 1, by omega⟩
        have hi' : i = m := by omega
        subst hi'
        obtain ⟨o1, o2, o3⟩ := z_hsO hH hD i
        obtain ⟨J2, q, f2, l2⟩ := e_findPair hS o1 o2 hw
        refine ⟨J2, ?_, fun c h1 h2 => by rw [f2 c h1]; exact hF c h1 h2, fun _ => l2⟩
        rw [f_X4_runTo_L10]
        simp only [k_37 hS]
        by_cases c : z_bp (z_hs D H i) D = -1
        · rw [if_pos c] at q ⊢
          simp (disch := (first | trivial | assumption | omega | (refine r_iE ?_ ?_ <;> omega) | (refine r_lE ?_ ?_ <;> omega) | fail)) only [↓q_gdT, ↓q_ltE, ↓if_pos, ↓if_neg, ↓q_bd2E q]
        · rw [if_neg c] at q ⊢
          simp (disch := (first | trivial | assumption | omega | (refine r_iE ?_ ?_ <;> omega) | (refine r_lE ?_ ?_ <;> omega) | fail)) only [↓q_gdT, ↓q_ltE, ↓if_pos, ↓if_neg, ↓q_bd2E q]
      | succ d ih =>
        intro i N J hi hN hF hw
        obtain ⟨n, rfl⟩ : ∃ n, N = n + 1 := ⟨N - 1, by omega⟩
        obtain ⟨o1, o2, o3⟩ := z_hsO hH hD i
        obtain ⟨J2, q, f2, l2⟩ := e_findPair hS o1 o2 hw
        rw [f_X4_runTo_L10]
        simp only [k_37 hS]
        by_cases c : z_bp (z_hs D H i) D = -1
        · rw [if_pos c] at q
          have st : z_hs D H m = z_hs D H i := by
            have := z_hsStay c (d + 1)
            rwa [show i + (d + 1) = m by omega] at this
          rw [st, if_pos c]
          refine ⟨J2, ?_, fun c h1 h2 => by rw [f2 c h1]; exact hF c h1 h2, fun q => absurd c q⟩
          simp (disch := (first | trivial | assumption | omega | (refine r_iE ?_ ?_ <;> omega) | (refine r_lE ?_ ?_ <;> omega) | fail)) only [↓q_gdT, ↓q_ltE, ↓if_pos, ↓if_neg, ↓q_bd2E q]
        · rw [if_neg c] at q
          rcases l2 with l2 | ⟨p1, p2, p3, p4, p5⟩
          · exact absurd l2.1 c
          have hw2 : ∀ k, k < 8 → J2 (x + 47) k = z_hs D H i k := fun k hk => by rw [f2 _ (by omega)]; exact hw.1 k hk
          obtain ⟨J3, q3, f3, l3⟩ := e_joinPair (lo := J2 (x + 37) 2) (hi := J2 (x + 37) 3) hS (fun k hk => by rcases o1 k hk with q | q <;> omega) rfl rfl ⟨p2, p3⟩ hw2
          have es : z_hs D H (i + 1) = z_jn (z_hs D H i) (z_bp (z_hs D H i) D) := by
            show (if _ then _ else _) = _
            rw [if_neg c]
          have ej : ∀ k, z_hs D H (i + 1) k = if z_hs D H i k = J2 (x + 37) 3 then J2 (x + 37) 2 else z_hs D H i k := fun k => by
            rw [es]
            unfold z_jn
            rw [show z_bp (z_hs D H i) D % 10 = J2 (x + 37) 3 by omega, show z_bp (z_hs D H i) D / 10 % 10 = J2 (x + 37) 2 by omega]
          have o4 := (z_hsO hH hD (i + 1)).2.2
          obtain ⟨I', r1, r2, r3⟩ := ih (i + 1) n J3 (by omega) (by omega) (fun c h1 h2 => by rw [f3 c h2, f2 c h1]; exact hF c h1 h2) ⟨fun k hk => by rw [l3 k hk, ej k], fun a b h1 h2 n1 n2 => by
            rw [f3 _ (by omega), f2 _ (by omega)]
            exact hw.2 a b h1 h2 (fun q => n1 ((o4 a).2 ((o3 a).1 q))) (fun q => n2 ((o4 b).2 ((o3 b).1 q)))⟩
          refine ⟨I', ?_, r2, r3⟩
          simp (disch := (first | trivial | assumption | omega | (refine r_iE ?_ ?_ <;> omega) | (refine r_lE ?_ ?_ <;> omega) | fail)) only [↓q_gdT, ↓q_ltE, ↓if_pos, ↓if_neg, ↓q_bd2E q, ↓q_bdE q3]
          exact r1
    obtain ⟨I', r1, r2, r3⟩ := key m 0 100 I (by omega) (by omega) (fun _ _ _ => rfl) hl
    exact ⟨I', r1, r2, r3⟩
  · simp only [if_neg h8]
    have := z_hs8 hH hD
    simp only [if_pos this]
    refine ⟨I, ?_, fun _ _ _ => rfl, fun q => absurd this q⟩
    simp (disch := (first | trivial | assumption | omega | (refine r_iE ?_ ?_ <;> omega) | (refine r_lE ?_ ?_ <;> omega) | fail)) only [↓q_gdT, ↓q_ltE, ↓if_pos, ↓if_neg]
