/-! THE CLASS: references removed, samples -/
def o_removeReference (A : q_A) : Int × q_A := if A 0 3 = 0 then (-2, A) else (A 0 3 - 1, q_up A 0 3 (A 0 3 - 1))
theorem g_removeReference {x : Nat} {S : q_S} {R : q_HR} {I : q_HI} {A : q_A} (hS : w_Sh x S R) (hB : z_B A) (hC : w_C x S R I A) : z_B (o_removeReference A).2 ∧ ∃ R' I', f_X9_removeReference S R I x = some ((o_removeReference A).1, R', I') ∧ w_C x S R' I' (o_removeReference A).2 ∧ w_ch x I I' ∧ w_cr x R R' := by
  have h3 := hB.2.2.1
  have en : (z_nr A : Int) = A 0 3 := by unfold z_nr; omega
  have e10 := hC.1.2.2.2.2.2.2.2.2
  unfold f_X9_removeReference o_removeReference
  simp only [k_0 hS, r_0_1 hS, k_9 hS, r_9_0 hS, k_10 hS, e10]
  by_cases c2 : A 0 3 = 0
  · rw [if_pos c2]
    refine ⟨hB, R, I, ?_, hC, fun _ _ => rfl, fun _ _ _ => rfl⟩
    simp (disch := (first | trivial | assumption | omega | (refine r_iE ?_ ?_ <;> omega) | (refine r_lE ?_ ?_ <;> omega) | fail)) only [↓q_gdT, ↓q_ltE, ↓if_pos, ↓if_neg]
  rw [if_neg c2]
  dsimp only
  have ec : z_nr (q_up A 0 3 (A 0 3 - 1)) = z_nr A - 1 := by
    show (A 0 3 - 1).toNat = _
    unfold z_nr
    omega
  have hB' : z_B (q_up A 0 3 (A 0 3 - 1)) := ⟨hB.1, hB.2.1, by show 0 ≤ A 0 3 - 1 ∧ A 0 3 - 1 ≤ 10; omega, hB.2.2.2.1, hB.2.2.2.2.1, hB.2.2.2.2.2.1, hB.2.2.2.2.2.2.1, hB.2.2.2.2.2.2.2.1, hB.2.2.2.2.2.2.2.2.1, hB.2.2.2.2.2.2.2.2.2.1, fun p hp => hB.data p (by
    rcases hp with q | q | q | q
    · exact Or.inl q
    · exact Or.inr (Or.inl q)
    · rw [ec] at q; exact Or.inr (Or.inr (Or.inl (by omega)))
    · exact Or.inr (Or.inr (Or.inr q))), fun k hk => hB.time k (by rw [ec] at hk; omega), fun k l hkl hl => hB.2.2.2.2.2.2.2.2.2.2.2.2.1 k l hkl (by rw [ec] at hl; omega), hB.2.2.2.2.2.2.2.2.2.2.2.2.2⟩
  obtain ⟨R1, q1, f1, g1⟩ := e_removeAt (I := I) (sa := x + 10) (hd := x + 11) (n := z_nr A) (k := z_nr A - 1) (k_10 hS) (r_10_0 hS) (by omega) (k_11 hS) (by rw [e10, en]) (by rw [n_11 hS]; omega) (by rw [n_11 hS]; omega) (by omega) (fun j hj => (hC.2.2.2.2.1 j hj).1.1)
  have ev : ((z_nr A - 1 : Nat) : Int) = A 0 3 - 1 := by omega
  rw [ev, en] at q1
  have cr : w_cr x R R1 := fun a j h => by rw [f1 a (fun e => h (Or.inr (Or.inl e)))]
  have hS' := hS.fr cr
  have fI : ∀ a, w_fr x a → q_up I (x + 10) 2 (A 0 3 - 1) a = I a := fun a ha => q_up_ne _ _ _ (by unfold w_fr at ha; omega)
  have fR : ∀ a, w_fr x a → R1 a = R a := fun a ha => f1 a (by unfold w_fr at ha; omega)
  have C' : w_C x S R1 (q_up I (x + 10) 2 (A 0 3 - 1)) (q_up A 0 3 (A 0 3 - 1)) := by
    obtain ⟨⟨s1, s2, s3, s4, s5, s6, s7, s8, s9⟩, bl, n, ca, re, sa, cu, ⟨bl1, bl2⟩, t1, t2⟩ := hC
    refine ⟨⟨?_, ?_, ?_, ?_, ?_, ?_, ?_, ?_, ?_⟩, fun s hs => ?_, fun c hc => ?_, fun k hk => ?_, fun k hk => ⟨?_, ?_⟩, fun c k hc hk => ?_, ?_, ⟨?_, fun s hs => ?_⟩, fun s hs => ?_, ?_⟩
    · rw [q_up_ne _ _ _ (by omega)]; exact s1
    · rw [q_up_ne _ _ _ (by omega)]; exact s2
    · rw [q_up_ne _ _ _ (by omega)]; exact s3
    · rw [q_up_ne _ _ _ (by omega)]; exact s4
    · rw [q_up_ne _ _ _ (by omega)]; exact s5
    · rw [q_up_ne _ _ _ (by omega)]; exact s6
    · rw [q_up_ne _ _ _ (by omega)]; exact s7
    · rw [q_up_ne _ _ _ (by omega)]; exact s8
    · show q_up I (x + 10) 2 (A 0 3 - 1) (x + 10) 2 = A 0 3 - 1
      unfold q_up; rw [if_pos ⟨rfl, rfl⟩]
    · rw [q_up_ne _ _ _ (by omega)]; exact bl s hs
    · rw [q_up_ne _ _ _ (by omega)]; exact n c hc
    · rw [f1 _ (by omega)]
      exact (ca k hk).tr fI fR rfl (fun _ _ => rfl)
    · rw [ec] at hk
      rw [g1 k (by omega), if_neg (by omega)]
      exact (re k (by omega)).1.tr fI fR rfl (fun _ _ => rfl)
    · rw [ec] at hk
      rw [q_up_ne _ _ _ (by omega)]; exact (re k (by omega)).2
    · rw [f1 _ (by omega)]
      exact (sa c k hc hk).tr fI fR rfl (fun _ _ => rfl)
    · show if A 0 7 = 1 then _ else _
      rw [f1 x (by omega)]
      split
      · next h7 => rw [if_pos h7] at cu; exact cu.tr fI fR rfl (fun _ _ => rfl)
      · next h7 => rw [if_neg h7] at cu; exact cu
    · rw [q_up_ne _ _ _ (by omega)]; exact bl1
    · rw [q_up_ne _ _ _ (by omega)]; exact bl2 s hs
    · rw [q_up_ne _ _ _ (by omega)]; exact t1 s hs
    · rw [q_up_ne _ _ _ (by omega)]; exact t2
  have u : q_up I (x + 10) 2 (A 0 3 - 1) (x + 10) 2 = A 0 3 - 1 := by unfold q_up; rw [if_pos ⟨rfl, rfl⟩]
  refine ⟨hB', R1, q_up I (x + 10) 2 (A 0 3 - 1), ?_, C', fun a ha => q_up_ne _ _ _ (by omega), cr⟩
  simp (disch := (first | trivial | assumption | omega | (refine r_iE ?_ ?_ <;> omega) | (refine r_lE ?_ ?_ <;> omega) | fail)) only [↓q_gdT, ↓q_ltE, ↓if_pos, ↓if_neg, ↓q_bd2E q1, r_0_1 hS', k_9 hS, r_9_0 hS', k_10 hS, u]
/-! samples -/
def z_pl (c k : Nat) : Nat := 23 + 8 * c + k
def o_addSample (A : q_A) (a : Int) : Int × q_A := if 0 ≤ a ∧ a < A 0 4 then (if A 0 7 = 0 then (-5, A) else if A 4 a.toNat < 8 then (A 4 a.toNat, q_up (z_cp A 0 (23 + 8 * a.toNat + z_ns A a.toNat)) 4 a.toNat (A 4 a.toNat + 1)) else (-4, A)) else (-2, A)
theorem z_B.addS {A : q_A} {c : Nat} (hB : z_B A) (h7 : A 0 7 = 1) (hc : c < z_nk A) (h : A 4 c < 8) : z_B (q_up (z_cp A 0 (23 + 8 * c + z_ns A c)) 4 c (A 4 c + 1)) ∧ (∀ d, q_up (z_cp A 0 (23 + 8 * c + z_ns A c)) 4 c (A 4 c + 1) 4 d = if d = c then A 4 c + 1 else A 4 d) ∧ ∀ d, z_ns (q_up (z_cp A 0 (23 + 8 * c + z_ns A c)) 4 c (A 4 c + 1)) d = if d = c then z_ns A c + 1 else z_ns A d := by
  obtain ⟨hn1, hn2⟩ := hB.ns hc
  have e4 : ∀ d, q_up (z_cp A 0 (23 + 8 * c + z_ns A c)) 4 c (A 4 c + 1) 4 d = if d = c then A 4 c + 1 else A 4 d := fun d => by
    unfold q_up
    by_cases e : d = c
    · rw [if_pos ⟨rfl, e⟩, if_pos e]
    · rw [if_neg (fun q => e q.2), if_neg e]; exact z_cp_d (by omega)
  have en : ∀ d, z_ns (q_up (z_cp A 0 (23 + 8 * c + z_ns A c)) 4 c (A 4 c + 1)) d = if d = c then z_ns A c + 1 else z_ns A d := fun d => by
    show (q_up (z_cp A 0 (23 + 8 * c + z_ns A c)) 4 c (A 4 c + 1) 4 d).toNat = _
    rw [e4 d]
    split
    · omega
    · rfl
  refine ⟨⟨hB.1, hB.2.1, hB.2.2.1, hB.2.2.2.1, hB.2.2.2.2.1, hB.2.2.2.2.2.1, hB.2.2.2.2.2.2.1, hB.2.2.2.2.2.2.2.1, hB.2.2.2.2.2.2.2.2.1, hB.2.2.2.2.2.2.2.2.2.1, z_dataC (q := 23 + 8 * c + z_ns A c) hB (Or.inl ⟨rfl, h7⟩) (fun j => rfl) rfl (fun p hp => ?_), hB.time, hB.2.2.2.2.2.2.2.2.2.2.2.2.1, fun d hd => ?_⟩, e4, en⟩
  · rcases hp with q | q | q | ⟨d, k, q1, q2, q3⟩
    · exact Or.inr (Or.inl q)
    · exact Or.inr (Or.inr (Or.inl q))
    · exact Or.inr (Or.inr (Or.inr (Or.inl q)))
    · rw [en d] at q2
      by_cases e : d = c
      · rw [if_pos e] at q2
        by_cases e2 : k = z_ns A c
        · exact Or.inl (by rw [q3, e, e2])
        · exact Or.inr (Or.inr (Or.inr (Or.inr ⟨d, k, q1, by rw [e]; omega, q3⟩)))
      · rw [if_neg e] at q2
        exact Or.inr (Or.inr (Or.inr (Or.inr ⟨d, k, q1, q2, q3⟩)))
  · rw [e4 d]
    by_cases e : d = c
    · rw [if_pos e]; omega
    · rw [if_neg e]; exact (hB.ns hd).1
theorem g_addSample {x : Nat} {S : q_S} {R : q_HR} {I : q_HI} {A : q_A} {a : Int} (hS : w_Sh x S R) (hB : z_B A) (hC : w_C x S R I A) (ha : r_i a) : z_B (o_addSample A a).2 ∧ ∃ R' I', f_X9_addSample S R I x a = some ((o_addSample A a).1, R', I') ∧ w_C x S R' I' (o_addSample A a).2 ∧ w_ch x I I' ∧ w_cr x R R' := by
  have hk := hB.nk
  have h7 := hB.2.2.2.2.2.2.1
  have e9 := hC.1.2.2.1
  have q0 := e_hasClass hS hB hC ha
  unfold f_X9_addSample o_addSample
  simp only [k_0 hS, e9]
  by_cases cc : 0 ≤ a ∧ a < A 0 4
  · rw [if_pos cc] at q0 ⊢
    obtain ⟨c, rfl⟩ : ∃ c : Nat, a = (c : Int) := ⟨a.toNat, by omega⟩
    simp only [Int.toNat_natCast]
    by_cases c7 : A 0 7 = 0
    · rw [if_pos c7]
      refine ⟨hB, R, I, ?_, hC, fun _ _ => rfl, fun _ _ _ => rfl⟩
      simp (disch := (first | trivial | assumption | omega | (refine r_iE ?_ ?_ <;> omega) | (refine r_lE ?_ ?_ <;> omega) | fail)) only [↓q_gdT, ↓q_ltE, ↓if_pos, ↓if_neg, ↓q_bdE q0]
    rw [if_neg c7]
    have hc : c < z_nk A := by omega
    have hc8 : c < 8 := by omega
    obtain ⟨hn1, hn2⟩ := hB.ns hc
    have e2 := (hC.sa hB hc).1
    have q1 := e_isFull (I := I) (n := z_ns A c) (kg_1 hS hc8) (rg_1_0 hS hc8) (kg_2 hS hc8) (by rw [e2, hn2]) (by omega) (by rw [ng_2 hS hc8]; omega)
    rw [ng_2 hS hc8, hn2] at q1
    simp only [r_0_3 hS, k_32 hS, n_32 hS, Int.toNat_natCast, r_32 hS hc8, kg_0 hS hc8, rg_0_0 hS hc8, kg_1 hS hc8, q_ltE]
    by_cases c2 : A 4 c < 8
    · rw [if_pos (show A 4 c < ((8 : Nat) : Int) by omega)] at q1
      rw [if_pos c2]
      dsimp only
      obtain ⟨hB', e4, ens⟩ := hB.addS (c := c) (by omega) hc c2
      have cu := hC.2.2.2.2.2.2.1
      rw [if_pos (show A 0 7 = 1 by omega)] at cu
      have k6 := cu.1
      have q2 := e_append (I := I) (n := z_ns A c) (m := R x 8) (kg_1 hS hc8) (rg_1_0 hS hc8) (kg_2 hS hc8) (by rw [e2, hn2]) (by rw [ng_2 hS hc8]; omega) (by rw [ng_2 hS hc8]; omega) k6
      rw [hn2] at q2
      have cr : w_cr x R (q_up R (x + 51 + 15 * c + 2) (z_ns A c) (R x 8)) := fun b j h => q_up_ne _ _ _ (fun e => h (Or.inr (Or.inr (Or.inr ⟨c, hc8, e⟩)))) ▸ rfl
      have fI : ∀ b, w_fr x b → q_up I (x + 51 + 15 * c + 1) 2 (A 4 c + 1) b = I b := fun b hb => q_up_ne _ _ _ (by unfold w_fr at hb; omega)
      have fR : ∀ b, w_fr x b → q_up R (x + 51 + 15 * c + 2) (z_ns A c) (R x 8) b = R b := fun b hb => q_up_ne _ _ _ (by unfold w_fr at hb; omega)
      have hu : ∀ r, r ≠ 23 + 8 * c + z_ns A c → z_hu (q_up (z_cp A 0 (23 + 8 * c + z_ns A c)) 4 c (A 4 c + 1)) r = z_hu A r := fun r hr => by
        have := z_cp_hu A 0 (23 + 8 * c + z_ns A c) r
        rw [if_neg hr] at this
        exact this
      have rd : ∀ r, r ≠ 23 + 8 * c + z_ns A c → ∀ s, s < 5 → z_rd (q_up (z_cp A 0 (23 + 8 * c + z_ns A c)) 4 c (A 4 c + 1)) r s = z_rd A r s := fun r hr s hs => by
        have := z_cp_rd A 0 (23 + 8 * c + z_ns A c) r s hs
        rw [if_neg hr] at this
        exact this
      have C' : w_C x S (q_up R (x + 51 + 15 * c + 2) (z_ns A c) (R x 8)) (q_up I (x + 51 + 15 * c + 1) 2 (A 4 c + 1)) (q_up (z_cp A 0 (23 + 8 * c + z_ns A c)) 4 c (A 4 c + 1)) := by
        have h2 := hB.2.1
        have en2 : (z_nc A : Int) = A 0 2 := by unfold z_nc; omega
        have h3 := hB.2.2.1
        have en3 : (z_nr A : Int) = A 0 3 := by unfold z_nr; omega
        obtain ⟨⟨s1, s2, s3, s4, s5, s6, s7, s8, s9⟩, bl, n, ca, re, sa, _, ⟨bl1, bl2⟩, f1, f2⟩ := hC
        refine ⟨⟨?_, ?_, ?_, ?_, ?_, ?_, ?_, ?_, ?_⟩, fun s hs => ?_, fun d hd => ?_, fun k hk => ?_, fun k hk => ⟨?_, ?_⟩, fun d k hd hk => ?_, ?_, ⟨?_, fun s hs => ?_⟩, fun s hs => ?_, ?_⟩
        · rw [q_up_ne _ _ _ (by omega)]; exact s1
        · rw [q_up_ne _ _ _ (by omega)]; exact s2
        · rw [q_up_ne _ _ _ (by omega)]; exact s3
        · rw [q_up_ne _ _ _ (by omega)]; exact s4
        · rw [q_up_ne _ _ _ (by omega)]; exact s5
        · rw [q_up_ne _ _ _ (by omega)]; exact s6
        · rw [q_up_ne _ _ _ (by omega)]; exact s7
        · rw [q_up_ne _ _ _ (by omega)]; exact s8
        · rw [q_up_ne _ _ _ (by omega)]; exact s9
        · rw [q_up_ne _ _ _ (by omega)]; exact bl s hs
        · rw [e4 d]
          show _ = if d < z_nk A then _ else 0
          by_cases e : d = c
          · subst e
            unfold q_up
            rw [if_pos ⟨rfl, rfl⟩, if_pos hc, if_pos rfl]
          · rw [q_up_ne _ _ _ (by omega), if_neg e]; exact n d hd
        · have hk' : k < z_nc A := hk
          rw [q_up_ne _ _ _ (by omega)]
          exact (ca k hk').tr fI fR (hu _ (by omega)) (rd _ (by omega))
        · have hk' : k < z_nr A := hk
          rw [q_up_ne _ _ _ (by omega)]
          exact (re k hk').1.tr fI fR (hu _ (by omega)) (rd _ (by omega))
        · rw [q_up_ne _ _ _ (by omega)]; exact (re k hk).2
        · have hd' : d < z_nk A := hd
          have hnd := hB.ns hd'
          rw [ens d] at hk
          by_cases e : d = c
          · subst e
            rw [if_pos rfl] at hk
            by_cases e2 : k = z_ns A d
            · subst e2
              have er : q_up R (x + 51 + 15 * d + 2) (z_ns A d) (R x 8) (x + 51 + 15 * d + 2) (z_ns A d) = R x 8 := by unfold q_up; rw [if_pos ⟨rfl, rfl⟩]
              rw [er]
              refine cu.tr fI fR ?_ (fun s hs => ?_)
              · have := z_cp_hu A 0 (23 + 8 * d + z_ns A d) (23 + 8 * d + z_ns A d)
                rw [if_pos rfl] at this
                exact this
              · have := z_cp_rd A 0 (23 + 8 * d + z_ns A d) (23 + 8 * d + z_ns A d) s hs
                rw [if_pos rfl] at this
                exact this
            · have er : q_up R (x + 51 + 15 * d + 2) (z_ns A d) (R x 8) (x + 51 + 15 * d + 2) k = R (x + 51 + 15 * d + 2) k := by unfold q_up; rw [if_neg (fun q => e2 q.2)]
              rw [er]
              exact (sa d k hd' (by omega)).tr fI fR (hu _ (by omega)) (rd _ (by omega))
          · rw [if_neg e] at hk
            rw [q_up_ne _ _ _ (by omega)]
            exact (sa d k hd' hk).tr fI fR (hu _ (by omega)) (rd _ (by omega))
        · show if A 0 7 = 1 then _ else _
          rw [if_pos (by omega), q_up_ne _ _ _ (by omega)]
          exact cu.tr fI fR (hu _ (by omega)) (rd _ (by omega))
        · rw [q_up_ne _ _ _ (by omega)]; exact bl1
        · rw [q_up_ne _ _ _ (by omega)]; exact bl2 s hs
        · rw [q_up_ne _ _ _ (by omega), f1 s hs]
          exact z_sxyE rfl rfl (fun k hk => hu _ (by omega)) (fun k hk => rd _ (by omega) s hs)
        · rw [q_up_ne _ _ _ (by omega), f2]
          exact z_sxxE rfl (fun k hk => hu _ (by omega))
      have u : q_up I (x + 51 + 15 * c + 1) 2 (A 4 c + 1) (x + 51 + 15 * c + 1) 2 = A 4 c + 1 := by unfold q_up; rw [if_pos ⟨rfl, rfl⟩]
      refine ⟨hB', q_up R (x + 51 + 15 * c + 2) (z_ns A c) (R x 8), q_up I (x + 51 + 15 * c + 1) 2 (A 4 c + 1), ?_, C', fun b hb => q_up_ne _ _ _ (by omega), cr⟩
      simp (disch := (first | trivial | assumption | omega | (refine r_iE ?_ ?_ <;> omega) | (refine r_lE ?_ ?_ <;> omega) | fail)) only [↓q_gdT, ↓q_ltE, ↓if_pos, ↓if_neg, ↓q_bdE q0, ↓q_bdE q1, k6, ↓q_bd2E q2, u]
      rw [show A 4 c + 1 - 1 = A 4 c by omega]
    · rw [if_neg (show ¬ A 4 c < ((8 : Nat) : Int) by omega)] at q1
      rw [if_neg c2]
      refine ⟨hB, R, I, ?_, hC, fun _ _ => rfl, fun _ _ _ => rfl⟩
      simp (disch := (first | trivial | assumption | omega | (refine r_iE ?_ ?_ <;> omega) | (refine r_lE ?_ ?_ <;> omega) | fail)) only [↓q_gdT, ↓q_ltE, ↓if_pos, ↓if_neg, ↓q_bdE q0, ↓q_bdE q1]
  · rw [if_neg cc] at q0 ⊢
    refine ⟨hB, R, I, ?_, hC, fun _ _ => rfl, fun _ _ _ => rfl⟩
    simp (disch := (first | trivial | assumption | omega | (refine r_iE ?_ ?_ <;> omega) | (refine r_lE ?_ ?_ <;> omega) | fail)) only [↓q_gdT, ↓q_ltE, ↓if_pos, ↓if_neg, ↓q_bdE q0]
