/-! THE CLASS: settings -/
theorem w_P.up {x a b : Nat} {S : q_S} {R : q_HR} {I : q_HI} {A : q_A} {m p : Nat} {v : Int} (h : w_P x S R I A m p) (ha : a < x + 48) : w_P x S R (q_up I a b v) A m p := w_M.fr h (fun c hc => q_up_ne _ _ _ (by unfold w_fr at hc; omega))
/-- one number of the class and one of the abstract state -/
theorem w_C.set {x a b : Nat} {S : q_S} {R : q_HR} {I : q_HI} {A : q_A} {v : Int} (h : w_C x S R I A) (hab : (a = x ∧ 11 ≤ b) ∨ (a = x + 1 ∧ b = 5) ∨ (a = x + 9 ∧ b = 7)) : (∀ s, s < 5 → q_up I a b v (x + 2) s = A 1 s) ∧ (∀ c, c < 8 → q_up I a b v (x + 51 + 15 * c + 1) 2 = if c < z_nk A then A 4 c else 0) ∧
  (∀ k, k < z_nc A → w_P x S R (q_up I a b v) A (R (x + 4) k) (1 + k)) ∧ (∀ k, k < z_nr A → w_P x S R (q_up I a b v) A (R (x + 11) k) (13 + k) ∧ q_up I a b v (x + 14) k = A 3 k) ∧ (∀ c k, c < z_nk A → k < z_ns A c → w_P x S R (q_up I a b v) A (R (x + 51 + 15 * c + 2) k) (23 + 8 * c + k)) ∧
  (if A 0 7 = 1 then w_P x S R (q_up I a b v) A (R x 8) 0 else R x 8 = x + 48) ∧ (q_up I a b v (x + 48) 0 = 0 ∧ ∀ s, s < 5 → q_up I a b v (x + 49) s = 0) ∧ (∀ s, s < 5 → q_up I a b v (x + 8) s = z_sxy A s) ∧ q_up I a b v (x + 1) 4 = z_sxx A := by
  obtain ⟨sc, bl, n, ca, re, sa, cu, ⟨bl1, bl2⟩, f1, f2⟩ := h
  refine ⟨fun s hs => ?_, fun c hc => ?_, fun k hk => (ca k hk).up (by omega), fun k hk => ⟨(re k hk).1.up (by omega), ?_⟩, fun c k hc hk => (sa c k hc hk).up (by omega), ?_, ⟨?_, fun s hs => ?_⟩, fun s hs => ?_, ?_⟩
  · rw [q_up_ne _ _ _ (by omega)]; exact bl s hs
  · rw [q_up_ne _ _ _ (by omega)]; exact n c hc
  · rw [q_up_ne _ _ _ (by omega)]; exact (re k hk).2
  · split
    · next h7 => rw [if_pos h7] at cu; exact cu.up (by omega)
    · next h7 => rw [if_neg h7] at cu; exact cu
  · rw [q_up_ne _ _ _ (by omega)]; exact bl1
  · rw [q_up_ne _ _ _ (by omega)]; exact bl2 s hs
  · rw [q_up_ne _ _ _ (by omega)]; exact f1 s hs
  · unfold q_up
    rw [if_neg (by omega)]
    exact f2
theorem z_B.m5 {A : q_A} {v : Int} (hB : z_B A) (hv : 0 ≤ v ∧ v ≤ 400) : z_B (q_up A 0 5 v) := ⟨hB.1, hB.2.1, hB.2.2.1, hB.2.2.2.1, hv, hB.2.2.2.2.2⟩
theorem z_B.m6 {A : q_A} {v : Int} (hB : z_B A) (hv : 0 ≤ v ∧ v ≤ 1000000) : z_B (q_up A 0 6 v) := ⟨hB.1, hB.2.1, hB.2.2.1, hB.2.2.2.1, hB.2.2.2.2.1, hv, hB.2.2.2.2.2.2⟩
theorem z_B.m8 {A : q_A} {v : Int} (hB : z_B A) (hv : v = 0 ∨ v = 1) : z_B (q_up A 0 8 v) := ⟨hB.1, hB.2.1, hB.2.2.1, hB.2.2.2.1, hB.2.2.2.2.1, hB.2.2.2.2.2.1, hB.2.2.2.2.2.2.1, hv, hB.2.2.2.2.2.2.2.2⟩
theorem z_B.m9 {A : q_A} {v : Int} (hB : z_B A) (hv : v = 0 ∨ v = 1) : z_B (q_up A 0 9 v) := ⟨hB.1, hB.2.1, hB.2.2.1, hB.2.2.2.1, hB.2.2.2.2.1, hB.2.2.2.2.2.1, hB.2.2.2.2.2.2.1, hB.2.2.2.2.2.2.2.1, hv, hB.2.2.2.2.2.2.2.2.2⟩
theorem w_C.m5 {x : Nat} {S : q_S} {R : q_HR} {I : q_HI} {A : q_A} {v : Int} (h : w_C x S R I A) : w_C x S R (q_up I x 11 v) (q_up A 0 5 v) := by
  have q := h.set (a := x) (b := 11) (v := v) (by omega)
  obtain ⟨⟨s1, s2, s3, s4, s5, s6, s7, s8, s9⟩, _⟩ := h
  refine ⟨⟨?_, ?_, ?_, ?_, ?_, ?_, ?_, ?_, ?_⟩, q⟩
  · rw [q_up_ne _ _ _ (by omega)]; exact s1
  · rw [q_up_ne _ _ _ (by omega)]; exact s2
  · unfold q_up; rw [if_neg (by omega), if_neg (by omega)]; exact s3
  · unfold q_up; rw [if_neg (by omega), if_neg (by omega)]; exact s4
  · unfold q_up; rw [if_pos ⟨rfl, rfl⟩, if_pos ⟨rfl, rfl⟩]
  · unfold q_up; rw [if_neg (by omega), if_neg (by omega)]; exact s6
  · rw [q_up_ne _ _ _ (by omega)]; exact s7
  · rw [q_up_ne _ _ _ (by omega)]; exact s8
  · rw [q_up_ne _ _ _ (by omega)]; exact s9
theorem w_C.m6 {x : Nat} {S : q_S} {R : q_HR} {I : q_HI} {A : q_A} {v : Int} (h : w_C x S R I A) : w_C x S R (q_up I x 12 v) (q_up A 0 6 v) := by
  have q := h.set (a := x) (b := 12) (v := v) (by omega)
  obtain ⟨⟨s1, s2, s3, s4, s5, s6, s7, s8, s9⟩, _⟩ := h
  refine ⟨⟨?_, ?_, ?_, ?_, ?_, ?_, ?_, ?_, ?_⟩, q⟩
  · rw [q_up_ne _ _ _ (by omega)]; exact s1
  · rw [q_up_ne _ _ _ (by omega)]; exact s2
  · unfold q_up; rw [if_neg (by omega), if_neg (by omega)]; exact s3
  · unfold q_up; rw [if_neg (by omega), if_neg (by omega)]; exact s4
  · unfold q_up; rw [if_neg (by omega), if_neg (by omega)]; exact s5
  · unfold q_up; rw [if_pos ⟨rfl, rfl⟩, if_pos ⟨rfl, rfl⟩]
  · rw [q_up_ne _ _ _ (by omega)]; exact s7
  · rw [q_up_ne _ _ _ (by omega)]; exact s8
  · rw [q_up_ne _ _ _ (by omega)]; exact s9
theorem w_C.m8 {x : Nat} {S : q_S} {R : q_HR} {I : q_HI} {A : q_A} {v : Int} (h : w_C x S R I A) : w_C x S R (q_up I (x + 1) 5 v) (q_up A 0 8 v) := by
  have q := h.set (a := x + 1) (b := 5) (v := v) (by omega)
  obtain ⟨⟨s1, s2, s3, s4, s5, s6, s7, s8, s9⟩, _⟩ := h
  refine ⟨⟨?_, ?_, ?_, ?_, ?_, ?_, ?_, ?_, ?_⟩, q⟩
  · unfold q_up; rw [if_neg (by omega), if_neg (by omega)]; exact s1
  · unfold q_up; rw [if_pos ⟨rfl, rfl⟩, if_pos ⟨rfl, rfl⟩]
  · rw [q_up_ne _ _ _ (by omega)]; exact s3
  · rw [q_up_ne _ _ _ (by omega)]; exact s4
  · rw [q_up_ne _ _ _ (by omega)]; exact s5
  · rw [q_up_ne _ _ _ (by omega)]; exact s6
  · rw [q_up_ne _ _ _ (by omega)]; exact s7
  · rw [q_up_ne _ _ _ (by omega)]; exact s8
  · rw [q_up_ne _ _ _ (by omega)]; exact s9
theorem w_C.m9 {x : Nat} {S : q_S} {R : q_HR} {I : q_HI} {A : q_A} {v : Int} (h : w_C x S R I A) : w_C x S R (q_up I (x + 9) 7 v) (q_up A 0 9 v) := by
  have q := h.set (a := x + 9) (b := 7) (v := v) (by omega)
  obtain ⟨⟨s1, s2, s3, s4, s5, s6, s7, s8, s9⟩, _⟩ := h
  refine ⟨⟨?_, ?_, ?_, ?_, ?_, ?_, ?_, ?_, ?_⟩, q⟩
  · rw [q_up_ne _ _ _ (by omega)]; exact s1
  · rw [q_up_ne _ _ _ (by omega)]; exact s2
  · rw [q_up_ne _ _ _ (by omega)]; exact s3
  · rw [q_up_ne _ _ _ (by omega)]; exact s4
  · rw [q_up_ne _ _ _ (by omega)]; exact s5
  · rw [q_up_ne _ _ _ (by omega)]; exact s6
  · unfold q_up; rw [if_pos ⟨rfl, rfl⟩, if_pos ⟨rfl, rfl⟩]
  · rw [q_up_ne _ _ _ (by omega)]; exact s8
  · rw [q_up_ne _ _ _ (by omega)]; exact s9
/-- what a call may change besides: nothing of the reference, nothing of the measurements -/
def w_ch (x : Nat) (I I' : q_HI) : Prop := ∀ a, x + 171 ≤ a → I' a = I a
theorem w_D.ch {x : Nat} {I I' : q_HI} {A : q_A} (h : w_D x I A) (hc : w_ch x I I') : w_D x I' A := ⟨fun j h1 h2 => by rw [hc _ (by omega)]; exact h.1 j h1 h2, fun d h1 h2 j => by rw [hc _ (by omega)]; exact h.2 d h1 h2 j⟩
theorem w_Q.ch {x : Nat} {I I' : q_HI} (h : w_Q x I I') : w_ch x I I' := fun a ha => funext fun j => h a j (w_nsc (by omega))
def o_setMargin (A : q_A) (v : Int) : Int × q_A := if 0 ≤ v ∧ v ≤ 400 then (A 0 5, q_up A 0 5 v) else (-3, A)
theorem g_setMargin {x : Nat} {S : q_S} {R : q_HR} {I : q_HI} {A : q_A} {v : Int} (hS : w_Sh x S R) (hB : z_B A) (hC : w_C x S R I A) (hv : r_i v) : z_B (o_setMargin A v).2 ∧ ∃ I', f_X9_setMargin S R I x v = some ((o_setMargin A v).1, I') ∧ w_C x S R I' (o_setMargin A v).2 ∧ w_ch x I I' := by
  have q1 := e_isWithin (a := v) (b := 0) (c := 400) hv (r_iE (by omega) (by omega)) (r_iE (by omega) (by omega))
  have e := hC.1.2.2.2.2.1
  unfold f_X9_setMargin o_setMargin
  simp only [k_0 hS, e, q_ltE]
  by_cases c : 0 ≤ v ∧ v ≤ 400
  · rw [if_pos c] at q1 ⊢
    refine ⟨hB.m5 c, q_up I x 11 v, ?_, hC.m5, fun a ha => q_up_ne _ _ _ (by omega)⟩
    simp (disch := (first | trivial | assumption | omega | (refine r_iE ?_ ?_ <;> omega) | (refine r_lE ?_ ?_ <;> omega) | fail)) only [↓q_gdT, ↓q_ltE, ↓if_pos, ↓if_neg, ↓q_bdE q1]
  · rw [if_neg c] at q1 ⊢
    refine ⟨hB, I, ?_, hC, fun _ _ => rfl⟩
    simp (disch := (first | trivial | assumption | omega | (refine r_iE ?_ ?_ <;> omega) | (refine r_lE ?_ ?_ <;> omega) | fail)) only [↓q_gdT, ↓q_ltE, ↓if_pos, ↓if_neg, ↓q_bdE q1]
def o_setSlack (A : q_A) (v : Int) : Int × q_A := if 0 ≤ v ∧ v ≤ 1000000 then (A 0 6, q_up A 0 6 v) else (-3, A)
theorem g_setSlack {x : Nat} {S : q_S} {R : q_HR} {I : q_HI} {A : q_A} {v : Int} (hS : w_Sh x S R) (hB : z_B A) (hC : w_C x S R I A) (hv : r_i v) : z_B (o_setSlack A v).2 ∧ ∃ I', f_X9_setSlack S R I x v = some ((o_setSlack A v).1, I') ∧ w_C x S R I' (o_setSlack A v).2 ∧ w_ch x I I' := by
  have q1 := e_isWithin (a := v) (b := 0) (c := 1000000) hv (r_iE (by omega) (by omega)) (r_iE (by omega) (by omega))
  have e := hC.1.2.2.2.2.2.1
  unfold f_X9_setSlack o_setSlack
  simp only [k_0 hS, e, q_ltE]
  by_cases c : 0 ≤ v ∧ v ≤ 1000000
  · rw [if_pos c] at q1 ⊢
    refine ⟨hB.m6 c, q_up I x 12 v, ?_, hC.m6, fun a ha => q_up_ne _ _ _ (by omega)⟩
    simp (disch := (first | trivial | assumption | omega | (refine r_iE ?_ ?_ <;> omega) | (refine r_lE ?_ ?_ <;> omega) | fail)) only [↓q_gdT, ↓q_ltE, ↓if_pos, ↓if_neg, ↓q_bdE q1]
  · rw [if_neg c] at q1 ⊢
    refine ⟨hB, I, ?_, hC, fun _ _ => rfl⟩
    simp (disch := (first | trivial | assumption | omega | (refine r_iE ?_ ?_ <;> omega) | (refine r_lE ?_ ?_ <;> omega) | fail)) only [↓q_gdT, ↓q_ltE, ↓if_pos, ↓if_neg, ↓q_bdE q1]
theorem g_useHumidity {x : Nat} {S : q_S} {R : q_HR} {I : q_HI} {A : q_A} {v : Int} (hS : w_Sh x S R) (hB : z_B A) (hC : w_C x S R I A) (hv : v = 0 ∨ v = 1) : z_B (q_up A 0 8 v) ∧ ∃ I', f_X9_useHumidity S R I x v = some (A 0 8, I') ∧ w_C x S R I' (q_up A 0 8 v) ∧ w_ch x I I' := by
  have h8 := hB.2.2.2.2.2.2.2.1
  have e := hC.1.2.1
  refine ⟨hB.m8 hv, q_up I (x + 1) 5 v, ?_, hC.m8, fun a ha => q_up_ne _ _ _ (by omega)⟩
  unfold f_X9_useHumidity
  simp only [k_0 hS, r_0_0 hS, k_1 hS, e]
  by_cases c : A 0 8 = 0
  · rw [c]
    simp (disch := (first | trivial | assumption | omega | (refine r_iE ?_ ?_ <;> omega) | (refine r_lE ?_ ?_ <;> omega) | fail)) only [↓q_gdT, ↓q_ltE, ↓if_pos, ↓if_neg]
  · have c1 : A 0 8 = 1 := by omega
    rw [c1]
    simp (disch := (first | trivial | assumption | omega | (refine r_iE ?_ ?_ <;> omega) | (refine r_lE ?_ ?_ <;> omega) | fail)) only [↓q_gdT, ↓q_ltE, ↓if_pos, ↓if_neg]
theorem g_useDrift {x : Nat} {S : q_S} {R : q_HR} {I : q_HI} {A : q_A} {v : Int} (hS : w_Sh x S R) (hB : z_B A) (hC : w_C x S R I A) (hv : v = 0 ∨ v = 1) : z_B (q_up A 0 9 v) ∧ ∃ I', f_X9_useDrift S R I x v = some (A 0 9, I') ∧ w_C x S R I' (q_up A 0 9 v) ∧ w_ch x I I' := by
  have h8 := hB.2.2.2.2.2.2.2.2.1
  have e := hC.1.2.2.2.2.2.2.1
  refine ⟨hB.m9 hv, q_up I (x + 9) 7 v, ?_, hC.m9, fun a ha => q_up_ne _ _ _ (by omega)⟩
  unfold f_X9_useDrift
  simp only [k_0 hS, r_0_1 hS, k_9 hS, e]
  by_cases c : A 0 9 = 0
  · rw [c]
    simp (disch := (first | trivial | assumption | omega | (refine r_iE ?_ ?_ <;> omega) | (refine r_lE ?_ ?_ <;> omega) | fail)) only [↓q_gdT, ↓q_ltE, ↓if_pos, ↓if_neg]
  · have c1 : A 0 9 = 1 := by omega
    rw [c1]
    simp (disch := (first | trivial | assumption | omega | (refine r_iE ?_ ?_ <;> omega) | (refine r_lE ?_ ?_ <;> omega) | fail)) only [↓q_gdT, ↓q_ltE, ↓if_pos, ↓if_neg]
