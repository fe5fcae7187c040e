/-! THE CLASS: groups, and all that distances rest on -/
theorem z_row_hi {I : q_HI} {rw n j : Nat} (f : Nat → Int) (h : n ≤ j) : z_row I rw f n rw j = I rw j := by
  unfold z_row
  rw [if_neg (by omega)]
theorem z_row_arg {I : q_HI} {rw : Nat} {f g : Nat → Int} {n : Nat} (h : ∀ j, j < n → f j = g j) : z_row I rw f n = z_row I rw g n := by
  funext a j
  unfold z_row
  by_cases hc : a = rw ∧ j < n
  · rw [if_pos hc, if_pos hc]; exact h j hc.2
  · rw [if_neg hc, if_neg hc]
theorem e_weigh {x : Nat} {S : q_S} {R : q_HR} {I : q_HI} {c k : Nat} {sg : Int} (hS : w_Sh x S R) (hc : c < 8) (hk : k < 8) : f_X2_weigh S R I (x + 51 + 15 * c) (k : Int) sg = some (z_row (q_up I (x + 51 + 15 * c) 3 (I (x + 51 + 15 * c) 3 + sg)) (x + 51 + 15 * c + 14) (fun s => I (x + 51 + 15 * c + 14) s + sg * I (x + 51 + 15 * c + 6 + k) s) 5) := by
  unfold f_X2_weigh
  simp only [kg_0 hS hc]
  simp (disch := (first | trivial | assumption | omega | (refine r_iE ?_ ?_ <;> omega) | (refine r_lE ?_ ?_ <;> omega) | fail)) only [↓q_gdT, ↓q_ltE, ↓if_pos, ↓if_neg]
  generalize hJ : q_up I (x + 51 + 15 * c) 3 (I (x + 51 + 15 * c) 3 + sg) = J
  have frJ : ∀ a, a ≠ x + 51 + 15 * c → J a = I a := fun a ha => by rw [← hJ]; exact q_up_ne _ _ _ ha
  obtain ⟨kr, nr⟩ := kg_row hS hc hk
  have key := z_loop (fun n i => f_X2_weigh_L12 S R (x + 51 + 15 * c) (k : Int) sg (fun w15 I16 => some I16) n ((i : Nat) : Int) (z_row J (x + 51 + 15 * c + 14) (fun s => I (x + 51 + 15 * c + 14) s + sg * I (x + 51 + 15 * c + 6 + k) s) i)) 5 (some (z_row J (x + 51 + 15 * c + 14) (fun s => I (x + 51 + 15 * c + 14) s + sg * I (x + 51 + 15 * c + 6 + k) s) 5)) (fun n i hi => ?_) (fun n => ?_) 100 (by decide)
  · rw [z_row_0] at key
    exact key
  · show f_X2_weigh_L12 _ _ _ _ _ _ (n + 1) _ _ = _
    rw [f_X2_weigh_L12]
    have e1 : z_row J (x + 51 + 15 * c + 14) (fun s => I (x + 51 + 15 * c + 14) s + sg * I (x + 51 + 15 * c + 6 + k) s) i (x + 51 + 15 * c + 14) i = I (x + 51 + 15 * c + 14) i := by rw [z_row_hi _ (Nat.le_refl i), frJ _ (by omega)]
    have e2 : z_row J (x + 51 + 15 * c + 14) (fun s => I (x + 51 + 15 * c + 14) s + sg * I (x + 51 + 15 * c + 6 + k) s) i (x + 51 + 15 * c + 6 + k) i = I (x + 51 + 15 * c + 6 + k) i := by rw [z_row_ne _ _ (by omega), frJ _ (by omega)]
    simp only [kg_0 hS hc, rg_0_2 hS hc, kg_14 hS hc, ng_14 hS hc, rg_0_1 hS hc, kg_5 hS hc, ng_5 hS hc, Int.toNat_natCast, rg_5 hS hc hk, kr, nr, e1, e2]
    simp (disch := (first | trivial | assumption | omega | (refine r_iE ?_ ?_ <;> omega) | (refine r_lE ?_ ?_ <;> omega) | fail)) only [↓q_gdT, ↓q_ltE, ↓if_pos, ↓if_neg]
    rw [z_row_up J (x + 51 + 15 * c + 14) (fun s => I (x + 51 + 15 * c + 14) s + sg * I (x + 51 + 15 * c + 6 + k) s) i]
    rfl
  · show f_X2_weigh_L12 _ _ _ _ _ _ (n + 1) _ _ = _
    rw [f_X2_weigh_L12]
    simp (disch := (first | trivial | assumption | omega | (refine r_iE ?_ ?_ <;> omega) | (refine r_lE ?_ ?_ <;> omega) | fail)) only [↓q_gdT, ↓q_ltE, ↓if_pos, ↓if_neg]
/-- a group, prepared -/
def z_cs (A : q_A) (c s : Nat) : Int := z_sm (fun k => z_fe A (23 + 8 * c + k) s) (z_ns A c)
def w_gp (x : Nat) (I : q_HI) (A : q_A) (c : Nat) : Prop := (∀ k, k < z_ns A c → ∀ s, s < 5 → I (x + 51 + 15 * c + 6 + k) s = z_fe A (23 + 8 * c + k) s) ∧ (∀ s, s < 5 → I (x + 51 + 15 * c + 14) s = z_cs A c s) ∧ I (x + 51 + 15 * c) 3 = A 4 c
theorem z_B.ns {A : q_A} (h : z_B A) {c : Nat} (hc : c < z_nk A) : (0 ≤ A 4 c ∧ A 4 c ≤ 8) ∧ (z_ns A c : Int) = A 4 c := by
  have := h.2.2.2.2.2.2.2.2.2.2.2.2.2 c hc
  exact ⟨this, by unfold z_ns; omega⟩
theorem z_B.nk {A : q_A} (h : z_B A) : (0 ≤ A 0 4 ∧ A 0 4 ≤ 8) ∧ (z_nk A : Int) = A 0 4 := by
  have := h.2.2.2.1
  exact ⟨this, by unfold z_nk; omega⟩
def w_sa (x : Nat) (S : q_S) (R : q_HR) (I : q_HI) (A : q_A) (c : Nat) : Prop := I (x + 51 + 15 * c + 1) 2 = A 4 c ∧ ∀ k, k < z_ns A c → w_P x S R I A (R (x + 51 + 15 * c + 2) k) (23 + 8 * c + k)
theorem e_refreshG {x : Nat} {S : q_S} {R : q_HR} {I : q_HI} {A : q_A} {c : Nat} (hS : w_Sh x S R) (hB : z_B A) (hv : w_cv x I A) (hcn : c < z_nk A) (hs : w_sa x S R I A c) : ∃ I', f_X2_refresh S R I (x + 51 + 15 * c) (x + 1) = some I' ∧ (∀ a, ¬ (a = x + 51 + 15 * c ∨ (x + 51 + 15 * c + 6 ≤ a ∧ a ≤ x + 51 + 15 * c + 14)) → I' a = I a) ∧ w_gp x I' A c := by
  obtain ⟨hk1, hk2⟩ := hB.nk
  obtain ⟨hn1, hn2⟩ := hB.ns hcn
  have hc : c < 8 := by omega
  unfold f_X2_refresh
  simp only [kg_0 hS hc]
  simp (disch := (first | trivial | assumption | omega | (refine r_iE ?_ ?_ <;> omega) | (refine r_lE ?_ ?_ <;> omega) | fail)) only [↓q_gdT, ↓q_ltE, ↓if_pos, ↓if_neg]
  -- the sums cleared
  have k1 := z_loop (fun n i => f_X2_refresh_L7 S R (x + 51 + 15 * c) (x + 1) (fun w11 I12 => f_X2_refresh_L27 S R (x + 51 + 15 * c) (x + 1) (fun w28 I29 => some I29) 100 0 I12) n ((i : Nat) : Int) (z_row (q_up I (x + 51 + 15 * c) 3 0) (x + 51 + 15 * c + 14) (fun _ => 0) i)) 5 (f_X2_refresh_L27 S R (x + 51 + 15 * c) (x + 1) (fun w28 I29 => some I29) 100 0 (z_row (q_up I (x + 51 + 15 * c) 3 0) (x + 51 + 15 * c + 14) (fun _ => 0) 5)) (fun n i hi => ?_) (fun n => ?_) 100 (by decide)
  · rw [z_row_0] at k1
    have k1' : f_X2_refresh_L7 S R (x + 51 + 15 * c) (x + 1) (fun w11 I12 => f_X2_refresh_L27 S R (x + 51 + 15 * c) (x + 1) (fun w28 I29 => some I29) 100 0 I12) 100 0 (q_up I (x + 51 + 15 * c) 3 0) = _ := k1
    rw [k1']
    have key := z_loopR (σ := Int × q_HI) (fun n s => f_X2_refresh_L27 S R (x + 51 + 15 * c) (x + 1) (fun w28 I29 => some I29) n s.1 s.2) (fun i s => s.1 = (i : Int) ∧ (∀ a, ¬ (a = x + 51 + 15 * c ∨ (x + 51 + 15 * c + 6 ≤ a ∧ a ≤ x + 51 + 15 * c + 14)) → s.2 a = I a) ∧ (∀ k, k < i → ∀ s', s' < 5 → s.2 (x + 51 + 15 * c + 6 + k) s' = z_fe A (23 + 8 * c + k) s') ∧ (∀ s', s' < 5 → s.2 (x + 51 + 15 * c + 14) s' = z_sm (fun k => z_fe A (23 + 8 * c + k) s') i) ∧ s.2 (x + 51 + 15 * c) 3 = (i : Int)) (z_ns A c) (fun s => some s.2) (fun n i s hi hP => ?_) (fun n s hP => ?_) 100 0 (0, z_row (q_up I (x + 51 + 15 * c) 3 0) (x + 51 + 15 * c + 14) (fun _ => 0) 5) (by omega) (by omega) ⟨rfl, fun a ha => by dsimp only; rw [z_row_ne _ _ (by omega), q_up_ne _ _ _ (by omega)], fun k hk => absurd hk (by omega), fun s' hs' => by dsimp only; rw [z_row_at _ hs']; rfl, by dsimp only; rw [z_row_ne _ _ (by omega)]; unfold q_up; rw [if_pos ⟨rfl, rfl⟩]; rfl⟩
    · obtain ⟨s', ⟨h1, h2, h3, h4, h5⟩, h6⟩ := key
      exact ⟨s'.2, h6, h2, h3, h4, by rw [h5]; exact hn2⟩
    · obtain ⟨v, J⟩ := s
      obtain ⟨rfl, hF, hr, hsm, hw⟩ := hP
      dsimp only at hF hr hsm hw
      show ∃ s' : Int × q_HI, _ ∧ f_X2_refresh_L27 _ _ _ _ _ (n + 1) _ _ = _
      rw [f_X2_refresh_L27]
      obtain ⟨s1, s2⟩ := hs
      have hP := s2 i hi
      have b := hB.data _ (z_vs hcn hi)
      have e1 : J (x + 51 + 15 * c + 1) 2 = A 4 c := by rw [hF _ (by omega)]; exact s1
      have hP' : w_P x S R J A (R (x + 51 + 15 * c + 2) i) (23 + 8 * c + i) := hP.fr (fun a ha => hF a (by unfold w_fr at ha; omega))
      have q1 := e_at (S := S) (R := R) (I := J) (sa := x + 51 + 15 * c + 1) (hd := x + 51 + 15 * c + 2) (k := i) (kg_1 hS hc) (rg_1_0 hS hc) (kg_2 hS hc) (by rw [e1]; omega) (by rw [e1]; omega) (by rw [ng_2 hS hc]; omega) hP.1
      obtain ⟨kr, nr⟩ := kg_row hS hc (show i < 8 by omega)
      have q2 := e_fill (I := J) (rw := x + 51 + 15 * c + 6 + i) hS (hv.fr (hF _ (by omega)) (hF _ (by omega)) (hF _ (by omega))) hB hP' b.1 (fun t ht => (b.2 t ht).1) kr nr (by omega)
      generalize hJ2 : z_row J (x + 51 + 15 * c + 6 + i) (fun s => z_fev A (z_hu A (23 + 8 * c + i)) (z_rd A (23 + 8 * c + i) s) s) 5 = J2 at q2
      have fr2 : ∀ a, a ≠ x + 51 + 15 * c + 6 + i → J2 a = J a := fun a ha => by rw [← hJ2]; exact z_row_ne _ _ ha
      have at2 : ∀ s, s < 5 → J2 (x + 51 + 15 * c + 6 + i) s = z_fe A (23 + 8 * c + i) s := fun s h => by rw [← hJ2]; exact z_row_at _ h
      have q3 := e_weigh (I := J2) (c := c) (k := i) (sg := 1) hS hc (by omega)
      simp only [kg_0 hS hc, rg_0_0 hS hc, kg_1 hS hc, rg_0_1 hS hc, kg_5 hS hc, ng_5 hS hc, Int.toNat_natCast, rg_5 hS hc (show i < 8 by omega), kr, k_1 hS, e1]
      simp (disch := (first | trivial | assumption | omega | (refine r_iE ?_ ?_ <;> omega) | (refine r_lE ?_ ?_ <;> omega) | fail)) only [↓q_gdT, ↓q_ltE, ↓if_pos, ↓if_neg, ↓q_bdE q1, ↓q_bdE q2, ↓q_bdE q3]
      refine ⟨(((i + 1 : Nat) : Int), z_row (q_up J2 (x + 51 + 15 * c) 3 (J2 (x + 51 + 15 * c) 3 + 1)) (x + 51 + 15 * c + 14) (fun s => J2 (x + 51 + 15 * c + 14) s + 1 * J2 (x + 51 + 15 * c + 6 + i) s) 5), ⟨rfl, fun a ha => ?_, fun k hk t ht => ?_, fun t ht => ?_, ?_⟩, rfl⟩
      · dsimp only
        rw [z_row_ne _ _ (by omega), q_up_ne _ _ _ (by omega), fr2 _ (by omega)]
        exact hF a ha
      · dsimp only
        rw [z_row_ne _ _ (by omega), q_up_ne _ _ _ (by omega)]
        by_cases e : k = i
        · subst e; exact at2 t ht
        · rw [fr2 _ (by omega)]; exact hr k (by omega) t ht
      · dsimp only
        rw [z_row_at _ ht, fr2 _ (by omega), hsm t ht, at2 t ht, Int.one_mul]
        rfl
      · dsimp only
        rw [z_row_ne _ _ (by omega)]
        unfold q_up
        rw [if_pos ⟨rfl, rfl⟩, fr2 _ (by omega), hw]
        omega
    · obtain ⟨v, J⟩ := s
      obtain ⟨rfl, hF, hr, hsm, hw⟩ := hP
      dsimp only at hF
      show f_X2_refresh_L27 _ _ _ _ _ (n + 1) _ _ = _
      rw [f_X2_refresh_L27]
      have e1 : J (x + 51 + 15 * c + 1) 2 = A 4 c := by rw [hF _ (by omega)]; exact hs.1
      simp only [kg_0 hS hc, rg_0_0 hS hc, kg_1 hS hc, e1]
      simp (disch := (first | trivial | assumption | omega | (refine r_iE ?_ ?_ <;> omega) | (refine r_lE ?_ ?_ <;> omega) | fail)) only [↓q_gdT, ↓q_ltE, ↓if_pos, ↓if_neg]
  · show f_X2_refresh_L7 _ _ _ _ _ (n + 1) _ _ = _
    rw [f_X2_refresh_L7]
    simp only [kg_0 hS hc, rg_0_2 hS hc, kg_14 hS hc, ng_14 hS hc, Int.toNat_natCast]
    simp (disch := (first | trivial | assumption | omega | (refine r_iE ?_ ?_ <;> omega) | (refine r_lE ?_ ?_ <;> omega) | fail)) only [↓q_gdT, ↓q_ltE, ↓if_pos, ↓if_neg]
    rw [z_row_up (q_up I (x + 51 + 15 * c) 3 0) (x + 51 + 15 * c + 14) (fun _ => 0) i]
    rfl
  · show f_X2_refresh_L7 _ _ _ _ _ (n + 1) _ _ = _
    rw [f_X2_refresh_L7]
    simp (disch := (first | trivial | assumption | omega | (refine r_iE ?_ ?_ <;> omega) | (refine r_lE ?_ ?_ <;> omega) | fail)) only [↓q_gdT, ↓q_ltE, ↓if_pos, ↓if_neg]
/-! scratch: what calls may leave behind -/
def w_sc (x a j : Nat) : Prop := a = x + 7 ∨ a = x + 15 ∨ (x + 17 ≤ a ∧ a ≤ x + 31) ∨ (x + 33 ≤ a ∧ a ≤ x + 37) ∨ (x + 39 ≤ a ∧ a ≤ x + 47) ∨ a = x + 50 ∨ (a = x + 9 ∧ j = 6) ∨ ∃ c, c < 8 ∧ (a = x + 51 + 15 * c ∨ (x + 51 + 15 * c + 6 ≤ a ∧ a ≤ x + 51 + 15 * c + 14))
def w_Q (x : Nat) (I I' : q_HI) : Prop := ∀ a j, ¬ w_sc x a j → I' a j = I a j
theorem w_Q.rf {x : Nat} {I : q_HI} : w_Q x I I := fun _ _ _ => rfl
theorem w_Q.tr {x : Nat} {I I' I'' : q_HI} (h1 : w_Q x I I') (h2 : w_Q x I' I'') : w_Q x I I'' := fun a j h => (h2 a j h).trans (h1 a j h)
theorem w_nsc {x a j : Nat} (h : a = x ∨ a = x + 1 ∨ a = x + 2 ∨ a = x + 3 ∨ a = x + 8 ∨ (a = x + 9 ∧ j ≠ 6) ∨ a = x + 10 ∨ a = x + 14 ∨ a = x + 48 ∨ a = x + 49 ∨ x + 171 ≤ a ∨ ∃ c, c < 8 ∧ a = x + 51 + 15 * c + 1) : ¬ w_sc x a j := by
  intro hs
  unfold w_sc at hs
  rcases h with h | h | h | h | h | h | h | h | h | h | h | ⟨c, h1, h2⟩
  all_goals
    rcases hs with q | q | q | q | q | q | q | ⟨c', q1, q2⟩ <;> omega
theorem w_M.q {x : Nat} {S : q_S} {R : q_HR} {I I' : q_HI} {h : Int} {r : Nat → Int} {m : Nat} (hM : w_M x S R I h r m) (hQ : w_Q x I I') : w_M x S R I' h r m := by
  refine hM.fr (fun a ha => funext fun j => hQ a j (w_nsc ?_))
  unfold w_fr at ha
  rcases ha with h | h | h
  · exact Or.inr (Or.inr (Or.inr (Or.inr (Or.inr (Or.inr (Or.inr (Or.inr (Or.inr (Or.inr (Or.inl (by omega)))))))))))
  · exact Or.inr (Or.inr (Or.inr (Or.inr (Or.inr (Or.inr (Or.inr (Or.inr (Or.inl h))))))))
  · exact Or.inr (Or.inr (Or.inr (Or.inr (Or.inr (Or.inr (Or.inr (Or.inr (Or.inr (Or.inl h)))))))))
theorem w_C.q {x : Nat} {S : q_S} {R : q_HR} {I I' : q_HI} {A : q_A} (h : w_C x S R I A) (hQ : w_Q x I I') : w_C x S R I' A := by
  obtain ⟨⟨s1, s2, s3, s4, s5, s6, s7, s8, s9⟩, b, n, ca, re, sa, cu, ⟨bl1, bl2⟩, f1, f2⟩ := h
  have e : ∀ a j, (a = x ∨ a = x + 1 ∨ a = x + 2 ∨ a = x + 3 ∨ a = x + 8 ∨ (a = x + 9 ∧ j ≠ 6) ∨ a = x + 10 ∨ a = x + 14 ∨ a = x + 48 ∨ a = x + 49 ∨ x + 171 ≤ a ∨ ∃ c, c < 8 ∧ a = x + 51 + 15 * c + 1) → I' a j = I a j := fun a j h => hQ a j (w_nsc h)
  refine ⟨⟨?_, ?_, ?_, ?_, ?_, ?_, ?_, ?_, ?_⟩, fun s hs => ?_, fun c hc => ?_, fun k hk => (ca k hk).q hQ, fun k hk => ⟨(re k hk).1.q hQ, ?_⟩, fun c k hc hk => (sa c k hc hk).q hQ, ?_, ⟨?_, fun s hs => ?_⟩, fun s hs => ?_, ?_⟩
  · rw [e _ _ (by omega)]; exact s1
  · rw [e _ _ (by omega)]; exact s2
  · rw [e _ _ (by omega)]; exact s3
  · rw [e _ _ (by omega)]; exact s4
  · rw [e _ _ (by omega)]; exact s5
  · rw [e _ _ (by omega)]; exact s6
  · rw [e _ _ (by omega)]; exact s7
  · rw [e _ _ (by omega)]; exact s8
  · rw [e _ _ (by omega)]; exact s9
  · rw [e _ _ (by omega)]; exact b s hs
  · rw [e _ _ (Or.inr (Or.inr (Or.inr (Or.inr (Or.inr (Or.inr (Or.inr (Or.inr (Or.inr (Or.inr (Or.inr ⟨c, hc, rfl⟩)))))))))))]; exact n c hc
  · rw [e _ _ (by omega)]; exact (re k hk).2
  · split
    · next h7 => rw [if_pos h7] at cu; exact cu.q hQ
    · next h7 => rw [if_neg h7] at cu; exact cu
  · rw [e _ _ (by omega)]; exact bl1
  · rw [e _ _ (by omega)]; exact bl2 s hs
  · rw [e _ _ (by omega)]; exact f1 s hs
  · rw [e _ _ (by omega)]; exact f2
theorem w_D.q {x : Nat} {I I' : q_HI} {A : q_A} (h : w_D x I A) (hQ : w_Q x I I') : w_D x I' A :=
  ⟨fun j h1 h2 => by rw [hQ _ _ (w_nsc (by omega))]; exact h.1 j h1 h2, fun d h1 h2 j => by rw [hQ _ _ (w_nsc (by omega))]; exact h.2 d h1 h2 j⟩
theorem w_C.cv {x : Nat} {S : q_S} {R : q_HR} {I : q_HI} {A : q_A} (h : w_C x S R I A) : w_cv x I A := ⟨h.2.1, h.1.2.1, h.2.2.2.2.2.2.2.2.1, h.2.2.2.2.2.2.2.2.2⟩
theorem w_C.re {x : Nat} {S : q_S} {R : q_HR} {I : q_HI} {A : q_A} (h : w_C x S R I A) : w_re x S R I A := ⟨h.1.2.2.2.2.2.2.2.2, h.2.2.2.2.1⟩
theorem w_C.ca {x : Nat} {S : q_S} {R : q_HR} {I : q_HI} {A : q_A} (h : w_C x S R I A) : w_ca x S R I A := ⟨h.1.2.2.2.2.2.2.2.1, h.2.1, h.2.2.2.1⟩
theorem w_C.sa {x : Nat} {S : q_S} {R : q_HR} {I : q_HI} {A : q_A} (h : w_C x S R I A) (hB : z_B A) {c : Nat} (hc : c < z_nk A) : w_sa x S R I A c := ⟨by rw [h.2.2.1 c (by have := hB.nk; omega), if_pos hc], fun k hk => h.2.2.2.2.2.1 c k hc hk⟩
/-- the current measurement, or the blank one -/
theorem w_C.cu {x : Nat} {S : q_S} {R : q_HR} {I : q_HI} {A : q_A} (h : w_C x S R I A) (hS : w_Sh x S R) (hB : z_B A) : ∃ (hu : Int) (rd : Nat → Int), w_M x S R I hu rd (R x 8) ∧ (0 ≤ hu ∧ hu ≤ 100) ∧ (∀ s, s < 5 → 0 ≤ rd s ∧ rd s ≤ 9999) ∧ (A 0 7 = 1 → hu = z_hu A 0 ∧ rd = z_rd A 0) := by
  have cu := h.2.2.2.2.2.2.1
  by_cases h7 : A 0 7 = 1
  · rw [if_pos h7] at cu
    have b := hB.data 0 (Or.inl ⟨rfl, h7⟩)
    exact ⟨_, _, cu, b.1, fun s hs => (b.2 s hs).1, fun _ => ⟨rfl, rfl⟩⟩
  · rw [if_neg h7] at cu
    obtain ⟨bl1, bl2⟩ := h.2.2.2.2.2.2.2.1
    refine ⟨0, fun _ => 0, ?_, by omega, fun s hs => by show (0 : Int) ≤ 0 ∧ (0 : Int) ≤ 9999; omega, fun q => absurd q h7⟩
    rw [cu]
    refine ⟨k_48 hS, ?_, ?_, Or.inr (Or.inl rfl), ?_, bl1, fun s hs => ?_⟩
    · rw [r_48_1 hS]; exact k_49 hS
    · rw [r_48_1 hS]; exact n_49 hS
    · rw [r_48_1 hS]; exact Or.inr (Or.inr rfl)
    · rw [r_48_1 hS]; exact bl2 s hs
/-- prepared: features, drift, metric, groups -/
def w_pr (x : Nat) (I : q_HI) (A : q_A) (t : Nat → Bool) : Prop := (A 0 7 = 1 → ∀ s, s < 5 → I (x + 50) s = z_fe A 0 s) ∧ (∀ s, s < 5 → I (x + 28) s = z_dc A s) ∧ (I (x + 9) 6 = if z_gm A = 0 then 0 else 1) ∧ w_rw x I A (z_nr A) ∧ w_me x I A t ∧ ∀ c, c < z_nk A → w_gp x I A c
theorem e_prepare {x : Nat} {S : q_S} {R : q_HR} {I : q_HI} {A : q_A} (hS : w_Sh x S R) (hB : z_B A) (hC : w_C x S R I A) : ∃ I', f_X9_prepare S R I x = some I' ∧ w_Q x I I' ∧ w_pr x I' A (z_bit 31) := by
  obtain ⟨hu, rd, cM, cB1, cB2, cE⟩ := hC.cu hS hB
  obtain ⟨hk1, hk2⟩ := hB.nk
  have q1 := e_fill (I := I) (rw := x + 50) hS hC.cv hB cM cB1 cB2 (k_50 hS) (n_50 hS) (by omega)
  generalize hI1 : z_row I (x + 50) (fun s => z_fev A hu (rd s) s) 5 = I1 at q1
  have Q1 : w_Q x I I1 := fun a j h => by
    rw [← hI1, z_row_ne _ _ (fun e => h (by unfold w_sc; omega))]
  have hC1 := hC.q Q1
  obtain ⟨I2, q2, f2, f29, c2, x2, w2⟩ := e_refresh hS hB hC1.cv hC1.re
  have Q2 : w_Q x I1 I2 := fun a j h => by
    by_cases e : a = x + 9
    · subst e
      exact f29 j (fun q => h (by unfold w_sc; omega))
    · rw [f2 a (fun q => h (by unfold w_sc; omega))]
  have hC2 := hC1.q Q2
  obtain ⟨I3, q3, f3, m3⟩ := e_aim (set := 31) hS hB hC2.1.2.2.2.2.2.2.1 c2
  have Q3 : w_Q x I2 I3 := fun a j h => by
    rw [f3 a (fun q => h (by unfold w_sc; omega)) (fun q => h (by unfold w_sc; omega)) (fun q => h (by unfold w_sc; omega))]
  have hC3 := hC2.q Q3
  unfold f_X9_prepare
  simp only [k_0 hS, r_0_0 hS, k_1 hS, cM.1, r_0_7 hS, k_50 hS, r_0_1 hS, k_9 hS, r_0_2 hS, k_29 hS]
  simp (disch := (first | trivial | assumption | omega | (refine r_iE ?_ ?_ <;> omega) | (refine r_lE ?_ ?_ <;> omega) | fail)) only [↓q_gdT, ↓q_ltE, ↓if_pos, ↓if_neg, ↓q_bdE q1, ↓q_bdE q2, ↓q_bdE q3]
  have key := z_loopR (σ := Int × q_HI) (fun n s => f_X9_prepare_L41 S R x (fun w23 I24 => some I24) n s.1 s.2) (fun i s => s.1 = (i : Int) ∧ w_Q x I3 s.2 ∧ (∀ a, a < x + 51 → s.2 a = I3 a) ∧ ∀ c, c < i → w_gp x s.2 A c) (z_nk A) (fun s => some s.2) (fun n i s hi hP => ?_) (fun n s hP => ?_) 100 0 (0, I3) (by omega) (by omega) ⟨rfl, w_Q.rf, fun _ _ => rfl, fun k hk => absurd hk (by omega)⟩
  · obtain ⟨s', ⟨h1, h2, h3, h4⟩, h6⟩ := key
    refine ⟨s'.2, h6, ((Q1.tr Q2).tr Q3).tr h2, fun h7 s hs => ?_, fun s hs => ?_, ?_, ?_, ⟨fun s hs => ?_, fun s hs => ?_, ?_⟩, h4⟩
    · rw [h3 _ (by omega), f3 _ (by omega) (by omega) (by omega), f2 _ (by omega), ← hI1, z_row_at _ hs, (cE h7).1, (cE h7).2]
      rfl
    · rw [h3 _ (by omega), f3 _ (by omega) (by omega) (by omega)]; exact c2 s hs
    · rw [h3 _ (by omega), f3 _ (by omega) (by omega) (by omega)]; exact x2
    · refine w2.fr (fun k hk => ?_)
      have := hB.2.2.1
      have en : (z_nr A : Int) = A 0 3 := by unfold z_nr; omega
      rw [h3 _ (by omega), f3 _ (by omega) (by omega) (by omega)]
    · rw [h3 _ (by omega)]; exact m3.1 s hs
    · rw [h3 _ (by omega)]; exact m3.2.1 s hs
    · rw [h3 _ (by omega)]; exact m3.2.2
  · obtain ⟨v, J⟩ := s
    obtain ⟨rfl, hQ, hF, hg⟩ := hP
    dsimp only at hQ hF hg
    show ∃ s' : Int × q_HI, _ ∧ f_X9_prepare_L41 _ _ _ _ (n + 1) _ _ = _
    rw [f_X9_prepare_L41]
    have hCJ := hC3.q hQ
    have hi8 : i < 8 := by omega
    obtain ⟨J2, q4, f4, g4⟩ := e_refreshG (c := i) hS hB hCJ.cv hi (hCJ.sa hB hi)
    have e10 : J x 10 = A 0 4 := hCJ.1.2.2.2.1
    simp only [k_0 hS, r_0_3 hS, k_32 hS, n_32 hS, Int.toNat_natCast, r_32 hS hi8, kg_0 hS hi8, r_0_0 hS, k_1 hS, e10]
    simp (disch := (first | trivial | assumption | omega | (refine r_iE ?_ ?_ <;> omega) | (refine r_lE ?_ ?_ <;> omega) | fail)) only [↓q_gdT, ↓q_ltE, ↓if_pos, ↓if_neg, ↓q_bdE q4]
    refine ⟨(((i + 1 : Nat) : Int), J2), ⟨rfl, hQ.tr (fun a j h => ?_), fun a ha => ?_, fun c hc => ?_⟩, rfl⟩
    · show J2 a j = J a j
      rw [f4 a (fun q => h (Or.inr (Or.inr (Or.inr (Or.inr (Or.inr (Or.inr (Or.inr ⟨i, hi8, q⟩))))))))]
    · show J2 a = _
      rw [f4 a (by omega)]; exact hF a ha
    · by_cases e : c = i
      · subst e; exact g4
      · obtain ⟨g1, g2, g3⟩ := hg c (by omega)
        have hn := hB.ns (show c < z_nk A by omega)
        refine ⟨fun k hk s hs => ?_, fun s hs => ?_, ?_⟩
        · show J2 _ _ = _
          rw [f4 _ (by omega)]; exact g1 k hk s hs
        · show J2 _ _ = _
          rw [f4 _ (by omega)]; exact g2 s hs
        · show J2 _ _ = _
          rw [f4 _ (by omega)]; exact g3
  · obtain ⟨v, J⟩ := s
    obtain ⟨rfl, hQ, hF, hg⟩ := hP
    dsimp only at hQ
    show f_X9_prepare_L41 _ _ _ _ (n + 1) _ _ = _
    rw [f_X9_prepare_L41]
    have e10 : J x 10 = A 0 4 := (hC3.q hQ).1.2.2.2.1
    simp only [k_0 hS, e10]
    simp (disch := (first | trivial | assumption | omega | (refine r_iE ?_ ?_ <;> omega) | (refine r_lE ?_ ?_ <;> omega) | fail)) only [↓q_gdT, ↓q_ltE, ↓if_pos, ↓if_neg]
