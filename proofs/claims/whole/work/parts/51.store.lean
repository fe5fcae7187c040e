/-! THE CLASS: what it holds -/
theorem w_Sh.up {x a j v : Nat} {S : q_S} {R : q_HR} (h : w_Sh x S R) (ha : a = x + 4 ∨ a = x + 11 ∨ (a = x ∧ j = 8) ∨ ∃ c, c < 8 ∧ a = x + 51 + 15 * c + 2) : w_Sh x S (q_up R a j v) := by
  obtain ⟨h1, h2, h3, h4, h5, h6, h7, h8⟩ := h
  have L1 : ∀ q ∈ w_rA, (q.1 < 51 ∨ q.1 = 171) ∧ q.1 ≠ 4 ∧ q.1 ≠ 11 ∧ ¬ (q.1 = 0 ∧ q.2.1 = 8) := by decide
  have L2 : ∀ q ∈ w_rG, q.1 < 15 ∧ q.1 ≠ 2 := by decide
  refine ⟨h1, fun q hq => ?_, fun i hi q hq => ?_, fun j' hj => ?_, fun j' hj => ?_, fun j' hj => ?_, fun i hi j' hj => ?_, h8⟩
  · have := L1 q hq
    unfold q_up
    rw [if_neg (by rcases ha with e | e | e | ⟨c, e1, e2⟩ <;> omega)]
    exact h2 q hq
  · have := L2 q hq
    unfold q_up
    rw [if_neg (by rcases ha with e | e | e | ⟨c, e1, e2⟩ <;> omega)]
    exact h3 i hi q hq
  · rw [q_up_ne _ _ _ (by rcases ha with e | e | e | ⟨c, e1, e2⟩ <;> omega)]; exact h4 j' hj
  · rw [q_up_ne _ _ _ (by rcases ha with e | e | e | ⟨c, e1, e2⟩ <;> omega)]; exact h5 j' hj
  · rw [q_up_ne _ _ _ (by rcases ha with e | e | e | ⟨c, e1, e2⟩ <;> omega)]; exact h6 j' hj
  · rw [q_up_ne _ _ _ (by rcases ha with e | e | e | ⟨c, e1, e2⟩ <;> omega)]; exact h7 i hi j' hj
/-- a place copied to a place -/
def z_cp (A : q_A) (p q : Nat) : q_A := fun d j => if d = 2 ∧ 6 * q ≤ j ∧ j < 6 * q + 6 then A 2 (6 * p + (j - 6 * q)) else A d j
theorem z_cp_hu (A : q_A) (p q r : Nat) : z_hu (z_cp A p q) r = if r = q then z_hu A p else z_hu A r := by
  unfold z_hu z_cp
  by_cases h : r = q
  · subst h
    rw [if_pos ⟨rfl, by omega, by omega⟩, if_pos rfl]
    rw [show 6 * p + (6 * r - 6 * r) = 6 * p by omega]
  · rw [if_neg (by omega), if_neg h]
theorem z_cp_rd (A : q_A) (p q r s : Nat) (hs : s < 5) : z_rd (z_cp A p q) r s = if r = q then z_rd A p s else z_rd A r s := by
  unfold z_rd z_cp
  by_cases h : r = q
  · subst h
    rw [if_pos ⟨rfl, by omega, by omega⟩, if_pos rfl]
    rw [show 6 * p + (6 * r + 1 + s - 6 * r) = 6 * p + 1 + s by omega]
  · rw [if_neg (by omega), if_neg h]
theorem z_cp_d {A : q_A} {p q d j : Nat} (h : d ≠ 2) : z_cp A p q d j = A d j := by
  unfold z_cp
  rw [if_neg (by omega)]
theorem w_P.tr {x : Nat} {S : q_S} {R R' : q_HR} {I I' : q_HI} {A A' : q_A} {m p p' : Nat} (h : w_P x S R I A m p) (hI : ∀ a, w_fr x a → I' a = I a) (hR : ∀ a, w_fr x a → R' a = R a) (e1 : z_hu A' p' = z_hu A p) (e2 : ∀ s, s < 5 → z_rd A' p' s = z_rd A p s) : w_P x S R' I' A' m p' := by
  obtain ⟨m1, m2, m3, m4, m5, m6, m7⟩ := h
  have er : R' m 1 = R m 1 := by rw [hR m m4]
  refine ⟨m1, ?_, ?_, m4, ?_, ?_, fun s hs => ?_⟩
  · rw [er]; exact m2
  · rw [er]; exact m3
  · rw [er]; exact m5
  · rw [hI m m4, e1]; exact m6
  · rw [er, hI _ m5, e2 s hs]; exact m7 s hs
/-! addClass -/
def o_addClass (A : q_A) : Int × q_A := if A 0 4 < 8 then (A 0 4, q_up (q_up A 4 (z_nk A) 0) 0 4 (A 0 4 + 1)) else (-4, A)
theorem g_addClass {x : Nat} {S : q_S} {R : q_HR} {I : q_HI} {A : q_A} (hS : w_Sh x S R) (hB : z_B A) (hC : w_C x S R I A) : z_B (o_addClass A).2 ∧ ∃ I', f_X9_addClass S R I x = some ((o_addClass A).1, I') ∧ w_C x S R I' (o_addClass A).2 ∧ w_ch x I I' := by
  obtain ⟨hk1, hk2⟩ := hB.nk
  have e10 := hC.1.2.2.2.1
  unfold f_X9_addClass o_addClass
  simp only [k_0 hS, e10]
  by_cases c : A 0 4 < 8
  · rw [if_pos c]
    dsimp only
    have ek : z_nk (q_up (q_up A 4 (z_nk A) 0) 0 4 (A 0 4 + 1)) = z_nk A + 1 := by
      show (A 0 4 + 1).toNat = _
      unfold z_nk
      omega
    have e4 : ∀ c, q_up (q_up A 4 (z_nk A) 0) 0 4 (A 0 4 + 1) 4 c = if c = z_nk A then 0 else A 4 c := fun c => by
      show q_up A 4 (z_nk A) 0 4 c = _
      unfold q_up
      by_cases e : c = z_nk A
      · rw [if_pos ⟨rfl, e⟩, if_pos e]
      · rw [if_neg (fun q => e q.2), if_neg e]
    have en : ∀ c, z_ns (q_up (q_up A 4 (z_nk A) 0) 0 4 (A 0 4 + 1)) c = if c = z_nk A then 0 else z_ns A c := fun c => by
      unfold z_ns
      rw [e4 c]
      split <;> rfl
    have ev : ∀ p, z_v (q_up (q_up A 4 (z_nk A) 0) 0 4 (A 0 4 + 1)) p → z_v A p := fun p hp => by
      rcases hp with q | q | q | ⟨c, k, q1, q2, q3⟩
      · exact Or.inl q
      · exact Or.inr (Or.inl q)
      · exact Or.inr (Or.inr (Or.inl q))
      · rw [ek] at q1
        rw [en c] at q2
        by_cases e : c = z_nk A
        · rw [if_pos e] at q2
          exact absurd q2 (by omega)
        · rw [if_neg e] at q2
          exact Or.inr (Or.inr (Or.inr ⟨c, k, by omega, q2, q3⟩))
    refine ⟨⟨hB.1, hB.2.1, hB.2.2.1, by show 0 ≤ A 0 4 + 1 ∧ A 0 4 + 1 ≤ 8; omega, hB.2.2.2.2.1, hB.2.2.2.2.2.1, hB.2.2.2.2.2.2.1, hB.2.2.2.2.2.2.2.1, hB.2.2.2.2.2.2.2.2.1, hB.2.2.2.2.2.2.2.2.2.1, fun p hp => hB.data p (ev p hp), hB.time, hB.2.2.2.2.2.2.2.2.2.2.2.2.1, fun c hc => ?_⟩, q_up I x 10 (A 0 4 + 1), ?_, ?_, fun a ha => q_up_ne _ _ _ (by omega)⟩
    · rw [e4 c]
      rw [ek] at hc
      by_cases e : c = z_nk A
      · rw [if_pos e]; omega
      · rw [if_neg e]; exact (hB.ns (by omega)).1
    · have u : q_up I x 10 (A 0 4 + 1) x 10 = A 0 4 + 1 := by unfold q_up; rw [if_pos ⟨rfl, rfl⟩]
      simp (disch := (first | trivial | assumption | omega | (refine r_iE ?_ ?_ <;> omega) | (refine r_lE ?_ ?_ <;> omega) | fail)) only [↓q_gdT, ↓q_ltE, ↓if_pos, ↓if_neg, u, q_ltE]
      rw [show A 0 4 + 1 - 1 = A 0 4 by omega]
    · obtain ⟨⟨s1, s2, s3, s4, s5, s6, s7, s8, s9⟩, bl, n, ca, re, sa, cu, ⟨bl1, bl2⟩, f1, f2⟩ := hC
      refine ⟨⟨?_, ?_, ?_, ?_, ?_, ?_, ?_, ?_, ?_⟩, fun s hs => ?_, fun c hc => ?_, fun k hk => (ca k hk).up (by omega), fun k hk => ⟨(re k hk).1.up (by omega), ?_⟩, fun c k hc hk => ?_, ?_, ⟨?_, fun s hs => ?_⟩, fun s hs => ?_, ?_⟩
      · rw [q_up_ne _ _ _ (by omega)]; exact s1
      · rw [q_up_ne _ _ _ (by omega)]; exact s2
      · show q_up I x 10 _ x 9 = A 0 7
        unfold q_up; rw [if_neg (by omega)]; exact s3
      · show q_up I x 10 _ x 10 = A 0 4 + 1
        unfold q_up; rw [if_pos ⟨rfl, rfl⟩]
      · show q_up I x 10 _ x 11 = A 0 5
        unfold q_up; rw [if_neg (by omega)]; exact s5
      · show q_up I x 10 _ x 12 = A 0 6
        unfold q_up; rw [if_neg (by omega)]; exact s6
      · rw [q_up_ne _ _ _ (by omega)]; exact s7
      · rw [q_up_ne _ _ _ (by omega)]; exact s8
      · rw [q_up_ne _ _ _ (by omega)]; exact s9
      · rw [q_up_ne _ _ _ (by omega)]; exact bl s hs
      · rw [q_up_ne _ _ _ (by omega), ek, e4 c, n c hc]
        by_cases e : c = z_nk A
        · rw [if_pos e, if_neg (by omega)]
          split <;> rfl
        · rw [if_neg e]
          by_cases e2 : c < z_nk A
          · rw [if_pos e2, if_pos (by omega)]
          · rw [if_neg e2, if_neg (by omega)]
      · rw [q_up_ne _ _ _ (by omega)]; exact (re k hk).2
      · rw [ek] at hc
        rw [en c] at hk
        by_cases e : c = z_nk A
        · rw [if_pos e] at hk
          exact absurd hk (by omega)
        · rw [if_neg e] at hk
          exact (sa c k (by omega) hk).up (by omega)
      · show if A 0 7 = 1 then _ else _
        split
        · next h7 => rw [if_pos h7] at cu; exact cu.up (by omega)
        · next h7 => rw [if_neg h7] at cu; exact cu
      · rw [q_up_ne _ _ _ (by omega)]; exact bl1
      · rw [q_up_ne _ _ _ (by omega)]; exact bl2 s hs
      · rw [q_up_ne _ _ _ (by omega)]; exact f1 s hs
      · rw [q_up_ne _ _ _ (by omega)]; exact f2
  · rw [if_neg c]
    refine ⟨hB, I, ?_, hC, fun _ _ => rfl⟩
    simp (disch := (first | trivial | assumption | omega | (refine r_iE ?_ ?_ <;> omega) | (refine r_lE ?_ ?_ <;> omega) | fail)) only [↓q_gdT, ↓q_ltE, ↓if_pos, ↓if_neg]
