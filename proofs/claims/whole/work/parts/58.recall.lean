/-! THE CLASS: a sample recalled -/
def o_recall (A : q_A) (a b : Int) : Int × q_A := if z_hv A a b then (z_hu A (23 + 8 * a.toNat + b.toNat), q_up (z_cp A (23 + 8 * a.toNat + b.toNat) 0) 0 7 1) else (-2, A)
theorem z_B.rec {A : q_A} {p0 : Nat} (hB : z_B A) (h0 : z_v A p0) : z_B (q_up (z_cp A p0 0) 0 7 1) :=
  ⟨hB.1, hB.2.1, hB.2.2.1, hB.2.2.2.1, hB.2.2.2.2.1, hB.2.2.2.2.2.1, Or.inr rfl, hB.2.2.2.2.2.2.2.1, hB.2.2.2.2.2.2.2.2.1, hB.2.2.2.2.2.2.2.2.2.1, z_dataC (q := 0) hB h0 (fun j => rfl) rfl (fun p hp => by
    rcases hp with q | q | q | q
    · exact Or.inl q.1
    · exact Or.inr (Or.inr (Or.inl q))
    · exact Or.inr (Or.inr (Or.inr (Or.inl q)))
    · exact Or.inr (Or.inr (Or.inr (Or.inr q)))), hB.time, hB.2.2.2.2.2.2.2.2.2.2.2.2.1, hB.2.2.2.2.2.2.2.2.2.2.2.2.2⟩
/-- another measurement becomes the current one -/
theorem w_C.now {x m p0 : Nat} {S : q_S} {R : q_HR} {I : q_HI} {A : q_A} (hC : w_C x S R I A) (hm : w_P x S R I A m p0) : w_C x S (q_up R x 8 m) (q_up I x 9 1) (q_up (z_cp A p0 0) 0 7 1) := by
  have fI : ∀ b, w_fr x b → q_up I x 9 1 b = I b := fun b hb => q_up_ne _ _ _ (by unfold w_fr at hb; omega)
  have fR : ∀ b, w_fr x b → q_up R x 8 m b = R b := fun b hb => q_up_ne _ _ _ (by unfold w_fr at hb; omega)
  have hu : ∀ r, r ≠ 0 → z_hu (q_up (z_cp A p0 0) 0 7 1) r = z_hu A r := fun r hr => by
    have := z_cp_hu A p0 0 r
    rw [if_neg hr] at this
    exact this
  have rd : ∀ r, r ≠ 0 → ∀ s, s < 5 → z_rd (q_up (z_cp A p0 0) 0 7 1) r s = z_rd A r s := fun r hr s hs => by
    have := z_cp_rd A p0 0 r s hs
    rw [if_neg hr] at this
    exact this
  obtain ⟨⟨s1, s2, s3, s4, s5, s6, s7, s8, s9⟩, bl, n, ca, re, sa, cu, ⟨bl1, bl2⟩, t1, t2⟩ := hC
  refine ⟨⟨?_, ?_, ?_, ?_, ?_, ?_, ?_, ?_, ?_⟩, fun s hs => ?_, fun d hd => ?_, fun l hl => ?_, fun l hl => ⟨?_, ?_⟩, fun d l hd hl => ?_, ?_, ⟨?_, fun s hs => ?_⟩, fun s hs => ?_, ?_⟩
  · rw [q_up_ne _ _ _ (by omega)]; exact s1
  · rw [q_up_ne _ _ _ (by omega)]; exact s2
  · show q_up I x 9 1 x 9 = 1
    unfold q_up; rw [if_pos ⟨rfl, rfl⟩]
  · show q_up I x 9 1 x 10 = A 0 4
    unfold q_up; rw [if_neg (by omega)]; exact s4
  · show q_up I x 9 1 x 11 = A 0 5
    unfold q_up; rw [if_neg (by omega)]; exact s5
  · show q_up I x 9 1 x 12 = A 0 6
    unfold q_up; rw [if_neg (by omega)]; exact s6
  · rw [q_up_ne _ _ _ (by omega)]; exact s7
  · rw [q_up_ne _ _ _ (by omega)]; exact s8
  · rw [q_up_ne _ _ _ (by omega)]; exact s9
  · rw [q_up_ne _ _ _ (by omega)]; exact bl s hs
  · rw [q_up_ne _ _ _ (by omega)]; exact n d hd
  · rw [q_up_ne _ _ _ (by omega)]
    exact (ca l hl).tr fI fR (hu _ (by omega)) (rd _ (by omega))
  · rw [q_up_ne _ _ _ (by omega)]
    exact (re l hl).1.tr fI fR (hu _ (by omega)) (rd _ (by omega))
  · rw [q_up_ne _ _ _ (by omega)]; exact (re l hl).2
  · rw [q_up_ne _ _ _ (by omega)]
    exact (sa d l hd hl).tr fI fR (hu _ (by omega)) (rd _ (by omega))
  · have e : q_up R x 8 m x 8 = m := by unfold q_up; rw [if_pos ⟨rfl, rfl⟩]
    show if (1 : Int) = 1 then _ else _
    rw [if_pos rfl, e]
    refine hm.tr fI fR ?_ (fun s hs => ?_)
    · have := z_cp_hu A p0 0 0
      rw [if_pos rfl] at this
      exact this
    · have := z_cp_rd A p0 0 0 s hs
      rw [if_pos rfl] at this
      exact this
  · rw [q_up_ne _ _ _ (by omega)]; exact bl1
  · rw [q_up_ne _ _ _ (by omega)]; exact bl2 s hs
  · rw [q_up_ne _ _ _ (by omega), t1 s hs]
    exact z_sxyE rfl rfl (fun l hl => hu _ (by omega)) (fun l hl => rd _ (by omega) s hs)
  · rw [q_up_ne _ _ _ (by omega), t2]
    exact z_sxxE rfl (fun l hl => hu _ (by omega))
theorem g_recall {x : Nat} {S : q_S} {R : q_HR} {I : q_HI} {A : q_A} {a b : Int} (hS : w_Sh x S R) (hB : z_B A) (hC : w_C x S R I A) (ha : r_i a) (hb : r_i b) : z_B (o_recall A a b).2 ∧ ∃ R' I', f_X9_recall S R I x a b = some ((o_recall A a b).1, R', I') ∧ w_C x S R' I' (o_recall A a b).2 ∧ w_ch x I I' ∧ w_cr x R R' := by
  have hk := hB.nk
  obtain ⟨r, q0, hr⟩ := e_hasSample hS hB hC ha hb
  unfold f_X9_recall o_recall
  simp only [k_0 hS]
  rcases hr with ⟨r0, hv⟩ | ⟨r1, hv⟩
  · rw [if_neg hv]
    subst r0
    refine ⟨hB, R, I, ?_, hC, fun _ _ => rfl, fun _ _ _ => rfl⟩
    simp (disch := (first | trivial | assumption | omega | (refine r_iE ?_ ?_ <;> omega) | (refine r_lE ?_ ?_ <;> omega) | fail)) only [↓q_gdT, ↓q_ltE, ↓if_pos, ↓if_neg, ↓q_bdE q0]
  rw [if_pos hv]
  dsimp only
  subst r1
  obtain ⟨v1, v2⟩ := hv
  obtain ⟨c, rfl⟩ : ∃ c : Nat, a = (c : Int) := ⟨a.toNat, by omega⟩
  obtain ⟨k, rfl⟩ : ∃ k : Nat, b = (k : Int) := ⟨b.toNat, by omega⟩
  rw [Int.toNat_natCast] at v2 ⊢
  rw [Int.toNat_natCast]
  have hc : c < z_nk A := by omega
  have hc8 : c < 8 := by omega
  obtain ⟨hn1, hn2⟩ := hB.ns hc
  have hkn : k < z_ns A c := by omega
  have hP := (hC.sa hB hc).2 k hkn
  have e2 := (hC.sa hB hc).1
  have q1 := e_at (S := S) (R := R) (I := I) (sa := x + 51 + 15 * c + 1) (hd := x + 51 + 15 * c + 2) (k := k) (kg_1 hS hc8) (rg_1_0 hS hc8) (kg_2 hS hc8) (by rw [e2]; omega) (by rw [e2]; omega) (by rw [ng_2 hS hc8]; omega) hP.1
  have k6 := hP.1
  have wf := hP.2.2.2.1
  have m6 : I (R (x + 51 + 15 * c + 2) k) 0 = z_hu A (23 + 8 * c + k) := hP.2.2.2.2.2.1
  have u : q_up R x 8 (R (x + 51 + 15 * c + 2) k) x 8 = R (x + 51 + 15 * c + 2) k := by unfold q_up; rw [if_pos ⟨rfl, rfl⟩]
  have u2 : q_up I x 9 1 (R (x + 51 + 15 * c + 2) k) 0 = z_hu A (23 + 8 * c + k) := by
    rw [q_up_ne _ _ _ (by unfold w_fr at wf; omega)]
    exact m6
  refine ⟨hB.rec (z_vs hc hkn), q_up R x 8 (R (x + 51 + 15 * c + 2) k), q_up I x 9 1, ?_, hC.now hP, fun b hb => q_up_ne _ _ _ (by omega), fun b j h => ?_⟩
  · simp only [r_0_3 hS, k_32 hS, n_32 hS, Int.toNat_natCast, r_32 hS hc8, kg_0 hS hc8, rg_0_0 hS hc8, kg_1 hS hc8, q_ltE]
    simp (disch := (first | trivial | assumption | omega | (refine r_iE ?_ ?_ <;> omega) | (refine r_lE ?_ ?_ <;> omega) | fail)) only [↓q_gdT, ↓q_ltE, ↓if_pos, ↓if_neg, ↓q_bdE q0, ↓q_bdE q1, k6, u, u2]
  · unfold q_up
    rw [if_neg (fun q => h (Or.inr (Or.inr (Or.inl q))))]
