/-! THE REFERENCE: joining -/
theorem z_smNeg (f : Nat → Int) : ∀ n : Nat, z_sm (fun k => -f k) n = -z_sm f n
  | 0 => rfl
  | n + 1 => by
    show z_sm (fun k => -f k) n + -f n = -(z_sm f n + f n)
    rw [z_smNeg f n]
    omega
theorem z_diN {A : q_A} {t : Nat → Bool} {u : Nat → Int} {n : Int} : z_di A t (fun s => -u s) n = z_di A t u n := by
  have e1 : z_uu t (fun s => -u s) = z_uu t u := by
    unfold z_uu
    refine z_smE fun s _ => ?_
    rw [Int.neg_mul_neg]
  have e2 : z_ud A t (fun s => -u s) = -z_ud A t u := by
    unfold z_ud
    rw [← z_smNeg]
    refine z_smE fun s _ => ?_
    split
    · rw [Int.neg_mul]
    · rfl
  unfold z_di
  rw [e1, e2, Int.neg_mul_neg]
theorem z_ccS (A : q_A) (t : Nat → Bool) (c d : Nat) : z_cc A t c d = z_cc A t d c := by
  unfold z_cc
  by_cases h : A 4 c ≤ 0 ∨ A 4 d ≤ 0
  · rw [if_pos h, if_pos (by omega)]
  · rw [if_neg h, if_neg (by omega), Int.mul_comm (A 4 d) (A 4 c)]
    rw [← z_diN (u := fun s => A 4 c * z_cs A d s - A 4 d * z_cs A c s)]
    refine z_diE (fun s _ => ?_) rfl
    omega
/-- the least distance of two groups -/
def z_ag (H : Nat → Int) (D : Nat → Nat → Int) (a b : Int) (c d : Nat) : Int := if H c = a ∧ H d = b then D c d else -1
def z_ap (H : Nat → Int) (D : Nat → Nat → Int) (n : Nat) (a b : Int) : Int := z_m2 (z_ag H D a b) n n
/-- the pairs of heads -/
def z_lq (H : Nat → Int) (D : Nat → Nat → Int) (n : Nat) (a b : Nat) : Int := if a < b ∧ H a = (a : Int) ∧ H b = (b : Int) then 100 * z_ap H D n (a : Int) (b : Int) + 10 * (a : Int) + (b : Int) else -1
theorem z_apB {H : Nat → Int} {D : Nat → Nat → Int} {n : Nat} (hn : n ≤ 8) (hD : z_dk H D) {a b : Nat} (ha : a < n) (hb : b < n) (ea : H a = (a : Int)) (eb : H b = (b : Int)) : (0 ≤ z_ap H D n (a : Int) (b : Int) ∧ z_ap H D n (a : Int) (b : Int) ≤ 320000000) ∧ (∀ c d, c < n → d < n → H c = (a : Int) → H d = (b : Int) → z_ap H D n (a : Int) (b : Int) ≤ D c d) ∧ ∃ c d, c < n ∧ d < n ∧ H c = (a : Int) ∧ H d = (b : Int) ∧ z_ap H D n (a : Int) (b : Int) = D c d := by
  obtain ⟨h1, h2⟩ := z_m2C (P := z_ag H D (a : Int) (b : Int)) (n := n) (m := n)
  have pos : ∀ c d, c < n → d < n → H c = (a : Int) → H d = (b : Int) → z_ag H D (a : Int) (b : Int) c d = D c d ∧ 0 ≤ D c d ∧ D c d ≤ 320000000 := fun c d hc hd e1 e2 => by
    have := hD c d (by omega) (by omega) (by omega) (by omega)
    exact ⟨if_pos ⟨e1, e2⟩, this⟩
  obtain ⟨p1, p2, p3⟩ := pos a b ha hb ea eb
  have q := h1 a b ha hb (by omega)
  unfold z_ap
  rcases h2 with h2 | ⟨c, d, hc, hd, h3, h4⟩
  · exact absurd h2 q.1
  · have e : H c = (a : Int) ∧ H d = (b : Int) := by
      by_cases e : H c = (a : Int) ∧ H d = (b : Int)
      · exact e
      · exact absurd (if_neg e) h3
    obtain ⟨r1, r2, r3⟩ := pos c d hc hd e.1 e.2
    rw [r1] at h4
    refine ⟨by omega, fun c' d' hc' hd' e1 e2 => ?_, c, d, hc, hd, e.1, e.2, h4⟩
    obtain ⟨s1, s2, s3⟩ := pos c' d' hc' hd' e1 e2
    have := (h1 c' d' hc' hd' (by omega)).2
    omega
/-- the least pair, over classes or over heads -/
theorem z_bpQ {H : Nat → Int} {D : Nat → Nat → Int} {n : Nat} (hn : n ≤ 8) (hH : z_ok H) (hD : z_dk H D) (hs : ∀ c d, D c d = D d c) (hz : ∀ i, i < 8 → n ≤ i → H i = -1) : z_m2 (z_lq H D n) n n = z_bp H D := by
  refine z_m2U (fun a b ha hb hp => ?_) (fun i j hi hj hp => ?_)
  · have e : a < b ∧ H a = (a : Int) ∧ H b = (b : Int) := by
      by_cases e : a < b ∧ H a = (a : Int) ∧ H b = (b : Int)
      · exact e
      · exact absurd (if_neg e) hp
    obtain ⟨e1, e2, e3⟩ := e
    have ev : z_lq H D n a b = 100 * z_ap H D n (a : Int) (b : Int) + 10 * (a : Int) + (b : Int) := if_pos ⟨e1, e2, e3⟩
    obtain ⟨b1, b2, c, d, hc, hd, h1, h2, h3⟩ := z_apB hn hD ha hb e2 e3
    have hcd : c ≠ d := fun q => by rw [q] at h1; omega
    have mm := z_mm (a := (a : Int)) (b := (b : Int))
    by_cases lt : c < d
    · have ek : z_lp H D c d = 100 * D c d + 10 * (a : Int) + (b : Int) := by
        unfold z_lp z_key
        rw [if_pos ⟨lt, by omega, by omega, by omega⟩, h1, h2]
        omega
      exact ⟨c, d, by omega, by omega, by omega, by omega⟩
    · have ek : z_lp H D d c = 100 * D c d + 10 * (a : Int) + (b : Int) := by
        have mm2 := z_mm (a := (b : Int)) (b := (a : Int))
        unfold z_lp z_key
        rw [if_pos ⟨by omega, by omega, by omega, by omega⟩, h1, h2, hs d c]
        omega
      exact ⟨d, c, by omega, by omega, by omega, by omega⟩
  · have e : i < j ∧ H i ≠ -1 ∧ H j ≠ -1 ∧ H i ≠ H j := by
      by_cases e : i < j ∧ H i ≠ -1 ∧ H j ≠ -1 ∧ H i ≠ H j
      · exact e
      · exact absurd (if_neg e) hp
    obtain ⟨e1, e2, e3, e4⟩ := e
    have ev : z_lp H D i j = z_key (D i j) (H i) (H j) := if_pos ⟨e1, e2, e3, e4⟩
    have hi' : i < n := by
      rcases Nat.lt_or_ge i n with q | q
      · exact q
      · exact absurd (hz i hi q) e2
    have hj' : j < n := by
      rcases Nat.lt_or_ge j n with q | q
      · exact q
      · exact absurd (hz j hj q) e3
    rcases hH i hi with q | ⟨g1, g2⟩
    · exact absurd q e2
    rcases hH j hj with q | ⟨k1, k2⟩
    · exact absurd q e3
    obtain ⟨g, hg⟩ : ∃ g : Nat, H i = (g : Int) := ⟨(H i).toNat, by omega⟩
    obtain ⟨k, hk⟩ : ∃ k : Nat, H j = (k : Int) := ⟨(H j).toNat, by omega⟩
    rw [hg, Int.toNat_natCast] at g2
    rw [hk, Int.toNat_natCast] at k2
    have hgn : g < n := by
      rcases Nat.lt_or_ge g n with q | q
      · exact q
      · have := hz g (by omega) q; omega
    have hkn : k < n := by
      rcases Nat.lt_or_ge k n with q | q
      · exact q
      · have := hz k (by omega) q; omega
    have mm := z_mm (a := (g : Int)) (b := (k : Int))
    unfold z_key at ev
    rw [hg, hk] at ev
    by_cases lt : g < k
    · obtain ⟨b1, b2, _⟩ := z_apB hn hD hgn hkn g2 k2
      have := b2 i j hi' hj' hg hk
      have ek : z_lq H D n g k = 100 * z_ap H D n (g : Int) (k : Int) + 10 * (g : Int) + (k : Int) := if_pos ⟨lt, g2, k2⟩
      exact ⟨g, k, hgn, hkn, by omega, by omega⟩
    · obtain ⟨b1, b2, _⟩ := z_apB hn hD hkn hgn k2 g2
      have := b2 j i hj' hi' hk hg
      rw [hs j i] at this
      have ek : z_lq H D n k g = 100 * z_ap H D n (k : Int) (g : Int) + 10 * (k : Int) + (g : Int) := if_pos ⟨by omega, k2, g2⟩
      exact ⟨k, g, hkn, hgn, by omega, by omega⟩
theorem z_m1B {P : Nat → Int} {m0 lo hi : Int} (h0 : m0 = -1 ∨ (lo ≤ m0 ∧ m0 ≤ hi)) : ∀ {n : Nat}, (∀ j, j < n → P j = -1 ∨ (lo ≤ P j ∧ P j ≤ hi)) → z_m1 P m0 n = -1 ∨ (lo ≤ z_m1 P m0 n ∧ z_m1 P m0 n ≤ hi)
  | 0, _ => h0
  | n + 1, h => by
    have h1 := z_m1B h0 (n := n) (fun j hj => h j (by omega))
    unfold z_m1
    split
    · exact h1
    · exact h n (by omega)
/-- heads of groups, as the reference keeps them -/
def w_hd (x : Nat) (I : q_HI) (H : Nat → Int) (n : Nat) : Prop := ∀ c, c < n → I (x + 182) c = H c
theorem m_apart {x : Nat} {S : q_S} {R : q_HR} {I : q_HI} {A : q_A} {t : Nat → Bool} {H : Nat → Int} {a b : Nat} (hS : w_Sh x S R) (hB : z_B A) (hL : w_L x I A t) (hH : w_hd x I H (z_nk A)) (hb8 : ∀ c, c < z_nk A → -1 ≤ H c ∧ H c < 8) (h0 : ∀ c, c < z_nk A → H c ≠ -1 → A 4 c ≠ 0) (ha8 : a < 8) (hbb8 : b < 8) : ∃ J, f_X10_apart S R I (x + 171) (a : Int) (b : Int) = some (z_ap H (z_cc A t) (z_nk A) (a : Int) (b : Int), J) ∧ ∀ i, i ≠ x + 179 → J i = I i := by
  have hk := hB.nk
  unfold f_X10_apart z_ap
  generalize hP : z_ag H (z_cc A t) (a : Int) (b : Int) = P
  have pb : ∀ c d, c < z_nk A → d < z_nk A → P c d = -1 ∨ (0 ≤ P c d ∧ P c d ≤ 320000000) := fun c d hc hd => by
    rw [← hP]
    unfold z_ag
    split
    · next h =>
      have := z_ccB hB t hc hd
      exact Or.inr ⟨this.2.2 (h0 c hc (by omega)) (h0 d hd (by omega)), this.2.1⟩
    · exact Or.inl rfl
  have m2b : ∀ c, c ≤ z_nk A → z_m2 P (z_nk A) c = -1 ∨ (0 ≤ z_m2 P (z_nk A) c ∧ z_m2 P (z_nk A) c ≤ 320000000) := by
    intro c
    induction c with
    | zero => exact fun _ => Or.inl rfl
    | succ c ih => exact fun h => z_m1B (ih (by omega)) (fun j hj => pb c j (by omega) hj)
  have key := z_loopR (fun n (u : Nat × q_HI) => f_X10_apart_L7 S R (x + 171) (a : Int) (b : Int) (fun w28 w29 I30 => some (w28, I30)) n (z_m2 P (z_nk A) u.1) ((u.1 : Nat) : Int) u.2) (fun i u => u.1 = i ∧ ∀ i, i ≠ x + 179 → u.2 i = I i) (z_nk A) (fun u => some (z_m2 P (z_nk A) (z_nk A), u.2)) ?_ ?_ 100 0 (0, I) (by omega) (by omega) ⟨rfl, fun _ _ => rfl⟩
  · obtain ⟨⟨i, J⟩, ⟨_, f⟩, e⟩ := key
    exact ⟨J, e, f⟩
  · rintro n c ⟨c', J⟩ hc ⟨rfl, hJ⟩
    dsimp only at hJ hc ⊢
    have hLJ := hL.u (w_U.of hJ)
    have key2 := z_loopR (fun m (u : Nat × q_HI) => f_X10_apart_L19 S R (x + 171) (a : Int) (b : Int) (c' : Int) (fun w25 w26 I27 => f_X10_apart_L7 S R (x + 171) (a : Int) (b : Int) (fun w28 w29 I30 => some (w28, I30)) n w25 ((c' : Int) + 1) I27) m (z_m1 (P c') (z_m2 P (z_nk A) c') u.1) ((u.1 : Nat) : Int) u.2) (fun i u => u.1 = i ∧ ∀ i, i ≠ x + 179 → u.2 i = I i) (z_nk A) (fun u => f_X10_apart_L7 S R (x + 171) (a : Int) (b : Int) (fun w28 w29 I30 => some (w28, I30)) n (z_m2 P (z_nk A) (c' + 1)) ((c' : Int) + 1) u.2) ?_ ?_ 100 0 (0, J) (by omega) (by omega) ⟨rfl, hJ⟩
    · obtain ⟨⟨i, J3⟩, ⟨_, f3⟩, e⟩ := key2
      refine ⟨(c' + 1, J3), ⟨rfl, f3⟩, ?_⟩
      rw [f_X10_apart_L7]
      simp only [k_171 hS, hLJ.1.f4]
      rw [q_gdT trivial, q_gdT (r_iE (by omega) (by omega)), q_gdT (r_iE (by omega) (by omega)), if_neg (by omega)]
      exact e
    · rintro m d ⟨d', J4⟩ hd ⟨rfl, hJ4⟩
      dsimp only at hJ4 hd ⊢
      have hL4 := hL.u (w_U.of hJ4)
      have e1 : J4 (x + 182) c' = H c' := by rw [hJ4 _ (by omega)]; exact hH c' hc
      have e2 : J4 (x + 182) d' = H d' := by rw [hJ4 _ (by omega)]; exact hH d' hd
      have b1 := hb8 c' hc
      have b2 := hb8 d' hd
      have mb := z_m1B (m2b c' (by omega)) (P := P c') (n := d') (fun j hj => pb c' j hc (by omega))
      have es : z_m1 (P c') (z_m2 P (z_nk A) c') (d' + 1) = if P c' d' = -1 ∨ (z_m1 (P c') (z_m2 P (z_nk A) c') d' ≠ -1 ∧ z_m1 (P c') (z_m2 P (z_nk A) c') d' ≤ P c' d') then z_m1 (P c') (z_m2 P (z_nk A) c') d' else P c' d' := rfl
      generalize z_m1 (P c') (z_m2 P (z_nk A) c') d' = w at *
      by_cases g1 : H c' = (a : Int)
      · by_cases g2 : H d' = (b : Int)
        · have eP : P c' d' = z_cc A t c' d' := by rw [← hP]; exact if_pos ⟨g1, g2⟩
          obtain ⟨J5, q5, f5⟩ := m_between hS hB hL4 hc hd (h0 c' hc (by omega)) (h0 d' hd (by omega))
          have cb := z_ccB hB t hc hd
          have cb2 := cb.2.2 (h0 c' hc (by omega)) (h0 d' hd (by omega))
          rw [eP] at es
          refine ⟨(d' + 1, J5), ⟨rfl, fun i hi => (f5 i hi).trans (hJ4 i hi)⟩, ?_⟩
          rw [f_X10_apart_L19]
          simp only [k_171 hS, hL4.1.f4, r_171_25 hS, k_182 hS, n_182 hS, Int.toNat_natCast, e1, e2]
          by_cases g3 : w = -1
          · rw [if_neg (by omega)] at es
            rw [es]
            simp (disch := (first | trivial | assumption | omega | (refine r_iE ?_ ?_ <;> omega) | (refine r_lE ?_ ?_ <;> omega) | fail)) only [↓q_gdT, ↓q_ltE, ↓if_pos, ↓if_neg, ↓q_bd2E q5]
            rfl
          · by_cases g4 : w ≤ z_cc A t c' d'
            · rw [if_pos (Or.inr ⟨g3, g4⟩)] at es
              rw [es]
              simp (disch := (first | trivial | assumption | omega | (refine r_iE ?_ ?_ <;> omega) | (refine r_lE ?_ ?_ <;> omega) | fail)) only [↓q_gdT, ↓q_ltE, ↓if_pos, ↓if_neg, ↓q_bd2E q5]
              rfl
            · rw [if_neg (by omega)] at es
              rw [es]
              simp (disch := (first | trivial | assumption | omega | (refine r_iE ?_ ?_ <;> omega) | (refine r_lE ?_ ?_ <;> omega) | fail)) only [↓q_gdT, ↓q_ltE, ↓if_pos, ↓if_neg, ↓q_bd2E q5]
              rfl
        · have eP : P c' d' = -1 := by rw [← hP]; exact if_neg (fun q => g2 q.2)
          rw [if_pos (Or.inl eP)] at es
          refine ⟨(d' + 1, J4), ⟨rfl, hJ4⟩, ?_⟩
          rw [f_X10_apart_L19]
          simp only [k_171 hS, hL4.1.f4, r_171_25 hS, k_182 hS, n_182 hS, Int.toNat_natCast, e1, e2, es]
          simp (disch := (first | trivial | assumption | omega | (refine r_iE ?_ ?_ <;> omega) | (refine r_lE ?_ ?_ <;> omega) | fail)) only [↓q_gdT, ↓q_ltE, ↓if_pos, ↓if_neg]
          rfl
      · have eP : P c' d' = -1 := by rw [← hP]; exact if_neg (fun q => g1 q.1)
        rw [if_pos (Or.inl eP)] at es
        refine ⟨(d' + 1, J4), ⟨rfl, hJ4⟩, ?_⟩
        rw [f_X10_apart_L19]
        simp only [k_171 hS, hL4.1.f4, r_171_25 hS, k_182 hS, n_182 hS, Int.toNat_natCast, e1, e2, es]
        simp (disch := (first | trivial | assumption | omega | (refine r_iE ?_ ?_ <;> omega) | (refine r_lE ?_ ?_ <;> omega) | fail)) only [↓q_gdT, ↓q_ltE, ↓if_pos, ↓if_neg]
        rfl
    · rintro m ⟨d, J4⟩ ⟨e, hJ4⟩
      dsimp only at e hJ4 ⊢
      subst e
      have hL4 := hL.u (w_U.of hJ4)
      rw [f_X10_apart_L19]
      simp only [k_171 hS, hL4.1.f4]
      rw [q_gdT trivial, q_gdT (r_iE (by omega) (by omega)), q_gdT (r_iE (by omega) (by omega)), if_pos (by omega)]
      rfl
  · rintro n ⟨c, J⟩ ⟨e, hJ⟩
    dsimp only at e hJ ⊢
    subst e
    have hLJ := hL.u (w_U.of hJ)
    rw [f_X10_apart_L7]
    simp only [k_171 hS, hLJ.1.f4]
    simp (disch := (first | trivial | assumption | omega | (refine r_iE ?_ ?_ <;> omega) | (refine r_lE ?_ ?_ <;> omega) | fail)) only [↓q_gdT, ↓q_ltE, ↓if_pos, ↓if_neg]
