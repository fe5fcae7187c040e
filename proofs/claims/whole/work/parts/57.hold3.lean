/-! THE CLASS: samples removed and recalled -/
def z_rm (A : q_A) (b : Nat) : Nat → q_A
  | 0 => A
  | i + 1 => z_cp (z_rm A b i) (b + i + 1) (b + i)
theorem z_rm_d {A : q_A} {b d j : Nat} (h : d ≠ 2) : ∀ i, z_rm A b i d j = A d j
  | 0 => rfl
  | i + 1 => by
    show z_cp (z_rm A b i) _ _ d j = _
    rw [z_cp_d h]
    exact z_rm_d h i
theorem z_rm_hu (A : q_A) (b r : Nat) : ∀ i, z_hu (z_rm A b i) r = if b ≤ r ∧ r < b + i then z_hu A (r + 1) else z_hu A r
  | 0 => by rw [if_neg (by omega)]; rfl
  | i + 1 => by
    show z_hu (z_cp (z_rm A b i) (b + i + 1) (b + i)) r = _
    rw [z_cp_hu, z_rm_hu A b (b + i + 1) i, z_rm_hu A b r i]
    by_cases e : r = b + i
    · rw [if_pos e, if_neg (by omega), if_pos (by omega), e]
    · rw [if_neg e]
      by_cases c : b ≤ r ∧ r < b + i
      · rw [if_pos c, if_pos (by omega)]
      · rw [if_neg c, if_neg (by omega)]
theorem z_rm_rd (A : q_A) (b r s : Nat) (hs : s < 5) : ∀ i, z_rd (z_rm A b i) r s = if b ≤ r ∧ r < b + i then z_rd A (r + 1) s else z_rd A r s
  | 0 => by rw [if_neg (by omega)]; rfl
  | i + 1 => by
    show z_rd (z_cp (z_rm A b i) (b + i + 1) (b + i)) r s = _
    rw [z_cp_rd _ _ _ _ _ hs, z_rm_rd A b (b + i + 1) s hs i, z_rm_rd A b r s hs i]
    by_cases e : r = b + i
    · rw [if_pos e, if_neg (by omega), if_pos (by omega), e]
    · rw [if_neg e]
      by_cases c : b ≤ r ∧ r < b + i
      · rw [if_pos c, if_pos (by omega)]
      · rw [if_neg c, if_neg (by omega)]
/-- class c without its sample k -/
def z_wo (A : q_A) (c k : Nat) : q_A := q_up (z_rm A (23 + 8 * c + k) (z_ns A c - 1 - k)) 4 c (A 4 c - 1)
def o_removeSample (A : q_A) (a b : Int) : Int × q_A := if z_hv A a b then (A 4 a.toNat - 1, z_wo A a.toNat b.toNat) else (-2, A)
theorem z_wo4 {A : q_A} (c k d : Nat) : z_wo A c k 4 d = if d = c then A 4 c - 1 else A 4 d := by
  unfold z_wo q_up
  by_cases e : d = c
  · rw [if_pos ⟨rfl, e⟩, if_pos e]
  · rw [if_neg (fun q => e q.2), if_neg e]; exact z_rm_d (by omega) _
theorem z_wod {A : q_A} (c k : Nat) {d j : Nat} (h2 : d ≠ 2) (h4 : d ≠ 4) : z_wo A c k d j = A d j := by
  unfold z_wo q_up
  rw [if_neg (by omega)]
  exact z_rm_d h2 _
theorem z_wons {A : q_A} (c k d : Nat) : z_ns (z_wo A c k) d = if d = c then (A 4 c - 1).toNat else z_ns A d := by
  show (z_wo A c k 4 d).toNat = _
  rw [z_wo4]
  split <;> rfl
theorem z_wohu {A : q_A} (c k r : Nat) : z_hu (z_wo A c k) r = if 23 + 8 * c + k ≤ r ∧ r < 23 + 8 * c + k + (z_ns A c - 1 - k) then z_hu A (r + 1) else z_hu A r := z_rm_hu A (23 + 8 * c + k) r (z_ns A c - 1 - k)
theorem z_word {A : q_A} (c k r s : Nat) (hs : s < 5) : z_rd (z_wo A c k) r s = if 23 + 8 * c + k ≤ r ∧ r < 23 + 8 * c + k + (z_ns A c - 1 - k) then z_rd A (r + 1) s else z_rd A r s := z_rm_rd A (23 + 8 * c + k) r s hs (z_ns A c - 1 - k)
theorem z_B.wo {A : q_A} {c k : Nat} (hB : z_B A) (hc : c < z_nk A) (hk : k < z_ns A c) : z_B (z_wo A c k) := by
  obtain ⟨hn1, hn2⟩ := hB.ns hc
  have e0 : ∀ j, z_wo A c k 0 j = A 0 j := fun j => z_wod c k (by omega) (by omega)
  have ek : z_nk (z_wo A c k) = z_nk A := by unfold z_nk; rw [e0]
  have er : z_nr (z_wo A c k) = z_nr A := by unfold z_nr; rw [e0]
  have ecn : z_nc (z_wo A c k) = z_nc A := by unfold z_nc; rw [e0]
  have e3 : ∀ j, z_wo A c k 3 j = A 3 j := fun j => z_wod c k (by omega) (by omega)
  have e1 : ∀ j, z_wo A c k 1 j = A 1 j := fun j => z_wod c k (by omega) (by omega)
  -- a place in use had, before, its data at it or at the next
  have hv : ∀ p, z_v (z_wo A c k) p → z_v A (if 23 + 8 * c + k ≤ p ∧ p < 23 + 8 * c + k + (z_ns A c - 1 - k) then p + 1 else p) := fun p hp => by
    have h2 := hB.2.1
    have h3 := hB.2.2.1
    have en2 : (z_nc A : Int) = A 0 2 := by unfold z_nc; omega
    have en3 : (z_nr A : Int) = A 0 3 := by unfold z_nr; omega
    rcases hp with q | q | q | ⟨d, l, q1, q2, q3⟩
    · rw [if_neg (by omega)]; exact Or.inl ⟨q.1, by rw [← e0 7]; exact q.2⟩
    · rw [ecn] at q
      rw [if_neg (by omega)]; exact Or.inr (Or.inl q)
    · rw [er] at q
      rw [if_neg (by omega)]; exact Or.inr (Or.inr (Or.inl q))
    · rw [ek] at q1
      rw [z_wons] at q2
      by_cases e : d = c
      · rw [if_pos e] at q2
        subst e
        by_cases e2 : k ≤ l
        · rw [if_pos (by omega)]
          exact Or.inr (Or.inr (Or.inr ⟨d, l + 1, q1, by omega, by omega⟩))
        · rw [if_neg (by omega)]
          exact Or.inr (Or.inr (Or.inr ⟨d, l, q1, by omega, q3⟩))
      · rw [if_neg e] at q2
        have hnd := hB.ns q1
        rw [if_neg (by omega)]
        exact Or.inr (Or.inr (Or.inr ⟨d, l, q1, q2, q3⟩))
  refine ⟨by rw [e0]; exact hB.1, by rw [e0]; exact hB.2.1, by rw [e0]; exact hB.2.2.1, by rw [e0]; exact hB.2.2.2.1, by rw [e0]; exact hB.2.2.2.2.1, by rw [e0]; exact hB.2.2.2.2.2.1, by rw [e0]; exact hB.2.2.2.2.2.2.1, by rw [e0]; exact hB.2.2.2.2.2.2.2.1, by rw [e0]; exact hB.2.2.2.2.2.2.2.2.1, fun s hs => by rw [e1]; exact hB.base s hs, fun p hp => ?_, fun l hl => by rw [e3]; exact hB.time l (by rw [er] at hl; exact hl), fun l m hlm hm => by rw [e3, e3]; exact hB.2.2.2.2.2.2.2.2.2.2.2.2.1 l m hlm (by rw [er] at hm; exact hm), fun d hd => ?_⟩
  · have d := hB.data _ (hv p hp)
    rw [z_wohu, e0]
    by_cases e : 23 + 8 * c + k ≤ p ∧ p < 23 + 8 * c + k + (z_ns A c - 1 - k)
    · rw [if_pos e] at d ⊢
      refine ⟨d.1, fun s hs => ?_⟩
      rw [z_word _ _ _ _ hs, if_pos e]
      exact d.2 s hs
    · rw [if_neg e] at d ⊢
      refine ⟨d.1, fun s hs => ?_⟩
      rw [z_word _ _ _ _ hs, if_neg e]
      exact d.2 s hs
  · rw [z_wo4]
    rw [ek] at hd
    by_cases e : d = c
    · rw [if_pos e]; omega
    · rw [if_neg e]; exact (hB.ns hd).1
theorem g_removeSample {x : Nat} {S : q_S} {R : q_HR} {I : q_HI} {A : q_A} {a b : Int} (hS : w_Sh x S R) (hB : z_B A) (hC : w_C x S R I A) (ha : r_i a) (hb : r_i b) : z_B (o_removeSample A a b).2 ∧ ∃ R' I', f_X9_removeSample S R I x a b = some ((o_removeSample A a b).1, R', I') ∧ w_C x S R' I' (o_removeSample A a b).2 ∧ w_ch x I I' ∧ w_cr x R R' := by
  have hk := hB.nk
  obtain ⟨r, q0, hr⟩ := e_hasSample hS hB hC ha hb
  unfold f_X9_removeSample o_removeSample
  simp only [k_0 hS]
  rcases hr with ⟨r0, hv⟩ | ⟨r1, hv⟩
  · rw [if_neg hv]
    subst r0
    refine ⟨hB, R, I, ?_, hC, fun _ _ => rfl, fun _ _ _ => rfl⟩
    simp (disch := (first | trivial | assumption | omega | (refine r_iE ?_ ?_ <;> omega) | (refine r_lE ?_ ?_ <;> omega) | fail)) only [↓q_gdT, ↓q_ltE, ↓if_pos, ↓if_neg, ↓q_bdE q0]
  rw [if_pos hv]
  dsimp only
  subst r1
  obtain ⟨v1, v2⟩ := hv
  obtain ⟨c, rfl⟩ : ∃ c : Nat, a = (c : Int) := ⟨a.toNat, by omega⟩
  obtain ⟨k, rfl⟩ : ∃ k : Nat, b = (k : Int) := ⟨b.toNat, by omega⟩
  rw [Int.toNat_natCast] at v2 ⊢
  rw [Int.toNat_natCast]
  have hc : c < z_nk A := by omega
  have hc8 : c < 8 := by omega
  obtain ⟨hn1, hn2⟩ := hB.ns hc
  have hkn : k < z_ns A c := by omega
  have hB' := hB.wo hc hkn
  have e2 := (hC.sa hB hc).1
  obtain ⟨R1, q1, f1, g1⟩ := e_removeAt (I := I) (sa := x + 51 + 15 * c + 1) (hd := x + 51 + 15 * c + 2) (n := z_ns A c) (k := k) (kg_1 hS hc8) (rg_1_0 hS hc8) (by omega) (kg_2 hS hc8) (by rw [e2, hn2]) (by rw [ng_2 hS hc8]; omega) (by rw [ng_2 hS hc8]; omega) hkn (fun j hj => ((hC.sa hB hc).2 j hj).1)
  rw [hn2] at q1
  have cr : w_cr x R R1 := fun b j h => by rw [f1 b (fun e => h (Or.inr (Or.inr (Or.inr ⟨c, hc8, e⟩))))]
  have fI : ∀ b, w_fr x b → q_up I (x + 51 + 15 * c + 1) 2 (A 4 c - 1) b = I b := fun b hb => q_up_ne _ _ _ (by unfold w_fr at hb; omega)
  have fR : ∀ b, w_fr x b → R1 b = R b := fun b hb => f1 b (by unfold w_fr at hb; omega)
  have e0 : ∀ j, z_wo A c k 0 j = A 0 j := fun j => z_wod c k (by omega) (by omega)
  have ek : z_nk (z_wo A c k) = z_nk A := by unfold z_nk; rw [e0]
  have er : z_nr (z_wo A c k) = z_nr A := by unfold z_nr; rw [e0]
  have ecn : z_nc (z_wo A c k) = z_nc A := by unfold z_nc; rw [e0]
  have hu : ∀ r, ¬ (23 + 8 * c + k ≤ r ∧ r < 23 + 8 * c + k + (z_ns A c - 1 - k)) → z_hu (z_wo A c k) r = z_hu A r := fun r hr => by rw [z_wohu, if_neg hr]
  have rd : ∀ r, ¬ (23 + 8 * c + k ≤ r ∧ r < 23 + 8 * c + k + (z_ns A c - 1 - k)) → ∀ s, s < 5 → z_rd (z_wo A c k) r s = z_rd A r s := fun r hr s hs => by rw [z_word _ _ _ _ hs, if_neg hr]
  have C' : w_C x S R1 (q_up I (x + 51 + 15 * c + 1) 2 (A 4 c - 1)) (z_wo A c k) := by
    have h2 := hB.2.1
    have en2 : (z_nc A : Int) = A 0 2 := by unfold z_nc; omega
    have h3 := hB.2.2.1
    have en3 : (z_nr A : Int) = A 0 3 := by unfold z_nr; omega
    obtain ⟨⟨s1, s2, s3, s4, s5, s6, s7, s8, s9⟩, bl, n, ca, re, sa, cu, ⟨bl1, bl2⟩, t1, t2⟩ := hC
    refine ⟨⟨?_, ?_, ?_, ?_, ?_, ?_, ?_, ?_, ?_⟩, fun s hs => ?_, fun d hd => ?_, fun l hl => ?_, fun l hl => ⟨?_, ?_⟩, fun d l hd hl => ?_, ?_, ⟨?_, fun s hs => ?_⟩, fun s hs => ?_, ?_⟩
    · rw [q_up_ne _ _ _ (by omega), e0]; exact s1
    · rw [q_up_ne _ _ _ (by omega), e0]; exact s2
    · rw [q_up_ne _ _ _ (by omega), e0]; exact s3
    · rw [q_up_ne _ _ _ (by omega), e0]; exact s4
    · rw [q_up_ne _ _ _ (by omega), e0]; exact s5
    · rw [q_up_ne _ _ _ (by omega), e0]; exact s6
    · rw [q_up_ne _ _ _ (by omega), e0]; exact s7
    · rw [q_up_ne _ _ _ (by omega), e0]; exact s8
    · rw [q_up_ne _ _ _ (by omega), e0]; exact s9
    · rw [q_up_ne _ _ _ (by omega), z_wod c k (by omega) (by omega)]; exact bl s hs
    · rw [z_wo4, ek]
      by_cases e : d = c
      · subst e
        unfold q_up
        rw [if_pos ⟨rfl, rfl⟩, if_pos hc, if_pos rfl]
      · rw [q_up_ne _ _ _ (by omega), if_neg e]; exact n d hd
    · rw [ecn] at hl
      rw [f1 _ (by omega)]
      exact (ca l hl).tr fI fR (hu _ (by omega)) (rd _ (by omega))
    · rw [er] at hl
      rw [f1 _ (by omega)]
      exact (re l hl).1.tr fI fR (hu _ (by omega)) (rd _ (by omega))
    · rw [er] at hl
      rw [q_up_ne _ _ _ (by omega), z_wod c k (by omega) (by omega)]; exact (re l hl).2
    · rw [ek] at hd
      rw [z_wons] at hl
      have hnd := hB.ns hd
      by_cases e : d = c
      · subst e
        rw [if_pos rfl] at hl
        rw [g1 l (by omega)]
        by_cases e2 : k ≤ l
        · rw [if_pos e2]
          have := sa d (l + 1) hd (by omega)
          refine this.tr fI fR ?_ (fun s hs => ?_)
          · rw [z_wohu, if_pos (by omega)]
            rfl
          · rw [z_word _ _ _ _ hs, if_pos (by omega)]
            rfl
        · rw [if_neg e2]
          exact (sa d l hd (by omega)).tr fI fR (hu _ (by omega)) (rd _ (by omega))
      · rw [if_neg e] at hl
        rw [f1 _ (by omega)]
        exact (sa d l hd hl).tr fI fR (hu _ (by omega)) (rd _ (by omega))
    · rw [e0, f1 x (by omega)]
      split
      · next h7 => rw [if_pos h7] at cu; exact cu.tr fI fR (hu _ (by omega)) (rd _ (by omega))
      · next h7 => rw [if_neg h7] at cu; exact cu
    · rw [q_up_ne _ _ _ (by omega)]; exact bl1
    · rw [q_up_ne _ _ _ (by omega)]; exact bl2 s hs
    · rw [q_up_ne _ _ _ (by omega), t1 s hs]
      exact z_sxyE (e0 2) (z_wod c k (by omega) (by omega)) (fun l hl => hu _ (by omega)) (fun l hl => rd _ (by omega) s hs)
    · rw [q_up_ne _ _ _ (by omega), t2]
      exact z_sxxE (e0 2) (fun l hl => hu _ (by omega))
  have u : q_up I (x + 51 + 15 * c + 1) 2 (A 4 c - 1) (x + 51 + 15 * c + 1) 2 = A 4 c - 1 := by unfold q_up; rw [if_pos ⟨rfl, rfl⟩]
  refine ⟨hB', R1, q_up I (x + 51 + 15 * c + 1) 2 (A 4 c - 1), ?_, C', fun b hb => q_up_ne _ _ _ (by omega), cr⟩
  simp only [r_0_3 hS, k_32 hS, n_32 hS, Int.toNat_natCast, r_32 hS hc8, kg_0 hS hc8, rg_0_0 hS hc8, kg_1 hS hc8, q_ltE]
  simp (disch := (first | trivial | assumption | omega | (refine r_iE ?_ ?_ <;> omega) | (refine r_lE ?_ ?_ <;> omega) | fail)) only [↓q_gdT, ↓q_ltE, ↓if_pos, ↓if_neg, ↓q_bdE q0, ↓q_bd2E q1, u]
