/-! THE CLASS: measuring -/
theorem w_P.at {x : Nat} {S : q_S} {R : q_HR} {I : q_HI} {A : q_A} {m p : Nat} {h : Int} {r : Nat → Int} (hM : w_M x S R I h r m) (e1 : z_hu A p = h) (e2 : ∀ s, s < 5 → z_rd A p s = r s) : w_P x S R I A m p :=
  ⟨hM.1, hM.2.1, hM.2.2.1, hM.2.2.2.1, hM.2.2.2.2.1, by rw [e1]; exact hM.2.2.2.2.2.1, fun s hs => by rw [e2 s hs]; exact hM.2.2.2.2.2.2 s hs⟩
theorem w_C.now2 {x m : Nat} {S : q_S} {R : q_HR} {I : q_HI} {A A' : q_A} {h : Int} {r : Nat → Int} (hC : w_C x S R I A) (hm : w_M x S R I h r m) (e0 : ∀ j, j ≠ 7 → A' 0 j = A 0 j) (e7 : A' 0 7 = 1) (ed : ∀ d, d ≠ 0 → d ≠ 2 → ∀ j, A' d j = A d j) (e2 : ∀ j, 6 ≤ j → A' 2 j = A 2 j) (eh : z_hu A' 0 = h) (er : ∀ s, s < 5 → z_rd A' 0 s = r s) : w_C x S (q_up R x 8 m) (q_up I x 9 1) A' := by
  have fI : ∀ b, w_fr x b → q_up I x 9 1 b = I b := fun b hb => q_up_ne _ _ _ (by unfold w_fr at hb; omega)
  have fR : ∀ b, w_fr x b → q_up R x 8 m b = R b := fun b hb => q_up_ne _ _ _ (by unfold w_fr at hb; omega)
  have hu : ∀ q, q ≠ 0 → z_hu A' q = z_hu A q := fun q hq => e2 _ (by omega)
  have rd : ∀ q, q ≠ 0 → ∀ s, s < 5 → z_rd A' q s = z_rd A q s := fun q hq s hs => e2 _ (by omega)
  have ek : z_nk A' = z_nk A := by unfold z_nk; rw [e0 4 (by omega)]
  have en : z_nr A' = z_nr A := by unfold z_nr; rw [e0 3 (by omega)]
  have ec : z_nc A' = z_nc A := by unfold z_nc; rw [e0 2 (by omega)]
  have es : ∀ c, z_ns A' c = z_ns A c := fun c => by unfold z_ns; rw [ed 4 (by omega) (by omega)]
  obtain ⟨⟨s1, s2, s3, s4, s5, s6, s7, s8, s9⟩, bl, n, ca, re, sa, cu, ⟨bl1, bl2⟩, t1, t2⟩ := hC
  refine ⟨⟨?_, ?_, ?_, ?_, ?_, ?_, ?_, ?_, ?_⟩, fun s hs => ?_, fun d hd => ?_, fun l hl => ?_, fun l hl => ⟨?_, ?_⟩, fun d l hd hl => ?_, ?_, ⟨?_, fun s hs => ?_⟩, fun s hs => ?_, ?_⟩
  · rw [q_up_ne _ _ _ (by omega), e0 _ (by omega)]; exact s1
  · rw [q_up_ne _ _ _ (by omega), e0 _ (by omega)]; exact s2
  · rw [e7]
    unfold q_up; rw [if_pos ⟨rfl, rfl⟩]
  · rw [e0 _ (by omega)]
    unfold q_up; rw [if_neg (by omega)]; exact s4
  · rw [e0 _ (by omega)]
    unfold q_up; rw [if_neg (by omega)]; exact s5
  · rw [e0 _ (by omega)]
    unfold q_up; rw [if_neg (by omega)]; exact s6
  · rw [q_up_ne _ _ _ (by omega), e0 _ (by omega)]; exact s7
  · rw [q_up_ne _ _ _ (by omega), e0 _ (by omega)]; exact s8
  · rw [q_up_ne _ _ _ (by omega), e0 _ (by omega)]; exact s9
  · rw [q_up_ne _ _ _ (by omega), ed 1 (by omega) (by omega)]; exact bl s hs
  · rw [q_up_ne _ _ _ (by omega), ek, ed 4 (by omega) (by omega)]; exact n d hd
  · rw [ec] at hl
    rw [q_up_ne _ _ _ (by omega)]
    exact (ca l hl).tr fI fR (hu _ (by omega)) (rd _ (by omega))
  · rw [en] at hl
    rw [q_up_ne _ _ _ (by omega)]
    exact (re l hl).1.tr fI fR (hu _ (by omega)) (rd _ (by omega))
  · rw [en] at hl
    rw [q_up_ne _ _ _ (by omega), ed 3 (by omega) (by omega)]; exact (re l hl).2
  · rw [ek] at hd
    rw [es] at hl
    rw [q_up_ne _ _ _ (by omega)]
    exact (sa d l hd hl).tr fI fR (hu _ (by omega)) (rd _ (by omega))
  · have e : q_up R x 8 m x 8 = m := by unfold q_up; rw [if_pos ⟨rfl, rfl⟩]
    rw [e7, if_pos rfl, e]
    have : w_P x S R I A' m 0 := w_P.at hm eh er
    exact this.tr fI fR rfl (fun _ _ => rfl)
  · rw [q_up_ne _ _ _ (by omega)]; exact bl1
  · rw [q_up_ne _ _ _ (by omega)]; exact bl2 s hs
  · rw [q_up_ne _ _ _ (by omega), t1 s hs]
    exact z_sxyE (e0 2 (by omega)) (ed 1 (by omega) (by omega) s) (fun l hl => hu _ (by omega)) (fun l hl => rd _ (by omega) s hs)
  · rw [q_up_ne _ _ _ (by omega), t2]
    exact z_sxxE (e0 2 (by omega)) (fun l hl => hu _ (by omega))
/-- new cells beyond the old ones -/
def w_gr (S S' : q_S) (R R' : q_HR) (I I' : q_HI) : Prop := (∀ a, a < S.2.2 → S'.1 a = S.1 a ∧ S'.2.1 a = S.2.1 a ∧ R' a = R a ∧ I' a = I a) ∧ S.2.2 ≤ S'.2.2
def w_zz (S : q_S) : Prop := ∀ a, S.2.2 ≤ a → S.1 a = 0
theorem w_Sh.gr {x : Nat} {S S' : q_S} {R R' : q_HR} {I I' : q_HI} (h : w_Sh x S R) (hg : w_gr S S' R R' I I') : w_Sh x S' R' := by
  obtain ⟨h1, h2, h3, h4, h5, h6, h7, h8, h9⟩ := h
  obtain ⟨g1, g2⟩ := hg
  have L1 : ∀ q ∈ w_rA, q.1 < 183 := by decide
  have L2 : ∀ q ∈ w_rG, q.1 < 15 := by decide
  refine ⟨fun d hd => ?_, fun q hq => ?_, fun i hi q hq => ?_, fun j' hj => ?_, fun j' hj => ?_, fun j' hj => ?_, fun i hi j' hj => ?_, by omega, h9⟩
  · rw [(g1 (x + d) (by omega)).1, (g1 (x + d) (by omega)).2.1]; exact h1 d hd
  · have := L1 q hq
    rw [(g1 _ (by omega)).2.2.1]; exact h2 q hq
  · have := L2 q hq
    rw [(g1 _ (by omega)).2.2.1]; exact h3 i hi q hq
  · rw [(g1 _ (by omega)).2.2.1]; exact h4 j' hj
  · rw [(g1 _ (by omega)).2.2.1]; exact h5 j' hj
  · rw [(g1 _ (by omega)).2.2.1]; exact h6 j' hj
  · rw [(g1 _ (by omega)).2.2.1]; exact h7 i hi j' hj
theorem w_P.gr {x : Nat} {S S' : q_S} {R R' : q_HR} {I I' : q_HI} {A : q_A} {m p : Nat} (h : w_P x S R I A m p) (hz : w_zz S) (hg : w_gr S S' R R' I I') : w_P x S' R' I' A m p := by
  obtain ⟨m1, m2, m3, m4, m5, m6, m7⟩ := h
  obtain ⟨g1, g2⟩ := hg
  have l1 : m < S.2.2 := by
    rcases Nat.lt_or_ge m S.2.2 with q | q
    · exact q
    · have := hz m q; omega
  have l2 : R m 1 < S.2.2 := by
    rcases Nat.lt_or_ge (R m 1) S.2.2 with q | q
    · exact q
    · have := hz (R m 1) q; omega
  have er : R' m 1 = R m 1 := by rw [(g1 m l1).2.2.1]
  refine ⟨?_, ?_, ?_, m4, ?_, ?_, fun s hs => ?_⟩
  · rw [(g1 m l1).1]; exact m1
  · rw [er, (g1 _ l2).1]; exact m2
  · rw [er, (g1 _ l2).2.1]; exact m3
  · rw [er]; exact m5
  · rw [(g1 m l1).2.2.2]; exact m6
  · rw [er, (g1 _ l2).2.2.2]; exact m7 s hs
theorem w_C.gr {x : Nat} {S S' : q_S} {R R' : q_HR} {I I' : q_HI} {A : q_A} (h : w_C x S R I A) (hB : z_B A) (hS : w_Sh x S R) (hz : w_zz S) (hg : w_gr S S' R R' I I') : w_C x S' R' I' A := by
  have g := hg.1
  have hx := hS.2.2.2.2.2.2.2.1
  obtain ⟨⟨s1, s2, s3, s4, s5, s6, s7, s8, s9⟩, bl, n, ca, re, sa, cu, ⟨bl1, bl2⟩, t1, t2⟩ := h
  refine ⟨⟨?_, ?_, ?_, ?_, ?_, ?_, ?_, ?_, ?_⟩, fun s hs => ?_, fun d hd => ?_, fun l hl => ?_, fun l hl => ⟨?_, ?_⟩, fun d l hd hl => ?_, ?_, ⟨?_, fun s hs => ?_⟩, fun s hs => ?_, ?_⟩
  · rw [(g _ (by omega)).2.2.2]; exact s1
  · rw [(g _ (by omega)).2.2.2]; exact s2
  · rw [(g _ (by omega)).2.2.2]; exact s3
  · rw [(g _ (by omega)).2.2.2]; exact s4
  · rw [(g _ (by omega)).2.2.2]; exact s5
  · rw [(g _ (by omega)).2.2.2]; exact s6
  · rw [(g _ (by omega)).2.2.2]; exact s7
  · rw [(g _ (by omega)).2.2.2]; exact s8
  · rw [(g _ (by omega)).2.2.2]; exact s9
  · rw [(g _ (by omega)).2.2.2]; exact bl s hs
  · rw [(g _ (by omega)).2.2.2]; exact n d hd
  · rw [(g _ (by omega)).2.2.1]; exact (ca l hl).gr hz hg
  · rw [(g _ (by omega)).2.2.1]; exact (re l hl).1.gr hz hg
  · rw [(g _ (by omega)).2.2.2]; exact (re l hl).2
  · have := hB.nk
    rw [(g _ (by omega)).2.2.1]; exact (sa d l hd hl).gr hz hg
  · rw [(g _ (by omega)).2.2.1]
    split
    · next h7 => rw [if_pos h7] at cu; exact cu.gr hz hg
    · next h7 => rw [if_neg h7] at cu; exact cu
  · rw [(g _ (by omega)).2.2.2]; exact bl1
  · rw [(g _ (by omega)).2.2.2]; exact bl2 s hs
  · rw [(g _ (by omega)).2.2.2]; exact t1 s hs
  · rw [(g _ (by omega)).2.2.2]; exact t2
