/-! THE CLASS: measuring, the call -/
abbrev z_k1 (A : q_A) (i v : Int) : Prop := 0 ≤ v ∧ v ≤ if 0 ≤ i ∧ i < A 0 1 then 9999 else 0
theorem e_isReading {x : Nat} {S : q_S} {R : q_HR} {I : q_HI} {A : q_A} {i v : Int} (hS : w_Sh x S R) (hB : z_B A) (hC : w_C x S R I A) (hi : r_i i) (hv : r_i v) : ∃ r : Int, f_X9_isReading S R I x i v = some r ∧ ((r = 0 ∧ ¬ z_k1 A i v) ∨ (r = 1 ∧ z_k1 A i v)) := by
  have q0 := e_hasSensor hS hB hC hi
  unfold f_X9_isReading z_k1
  simp only [k_0 hS]
  by_cases c : 0 ≤ i ∧ i < A 0 1
  · rw [if_pos c] at q0
    simp only [if_pos c]
    have q1 := e_isWithin (a := v) (b := 0) (c := 9999) hv (r_iE (by omega) (by omega)) (r_iE (by omega) (by omega))
    by_cases cv : 0 ≤ v ∧ v ≤ 9999
    · rw [if_pos cv] at q1
      refine ⟨1, ?_, Or.inr ⟨rfl, cv⟩⟩
      simp (disch := (first | trivial | assumption | omega | (refine r_iE ?_ ?_ <;> omega) | (refine r_lE ?_ ?_ <;> omega) | fail)) only [↓q_gdT, ↓q_ltE, ↓if_pos, ↓if_neg, ↓q_bdE q0, ↓q_bdE q1]
    · rw [if_neg cv] at q1
      refine ⟨0, ?_, Or.inl ⟨rfl, cv⟩⟩
      simp (disch := (first | trivial | assumption | omega | (refine r_iE ?_ ?_ <;> omega) | (refine r_lE ?_ ?_ <;> omega) | fail)) only [↓q_gdT, ↓q_ltE, ↓if_pos, ↓if_neg, ↓q_bdE q0, ↓q_bdE q1]
  · rw [if_neg c] at q0
    simp only [if_neg c]
    have q1 := e_isWithin (a := v) (b := 0) (c := 0) hv (r_iE (by omega) (by omega)) (r_iE (by omega) (by omega))
    by_cases cv : 0 ≤ v ∧ v ≤ 0
    · rw [if_pos cv] at q1
      refine ⟨1, ?_, Or.inr ⟨rfl, cv⟩⟩
      simp (disch := (first | trivial | assumption | omega | (refine r_iE ?_ ?_ <;> omega) | (refine r_lE ?_ ?_ <;> omega) | fail)) only [↓q_gdT, ↓q_ltE, ↓if_pos, ↓if_neg, ↓q_bdE q0, ↓q_bdE q1]
    · rw [if_neg cv] at q1
      refine ⟨0, ?_, Or.inl ⟨rfl, cv⟩⟩
      simp (disch := (first | trivial | assumption | omega | (refine r_iE ?_ ?_ <;> omega) | (refine r_lE ?_ ?_ <;> omega) | fail)) only [↓q_gdT, ↓q_ltE, ↓if_pos, ↓if_neg, ↓q_bdE q0, ↓q_bdE q1]
abbrev z_km (A : q_A) (h a b c d e : Int) : Prop := (0 ≤ h ∧ h ≤ 100) ∧ z_k1 A 0 a ∧ z_k1 A 1 b ∧ z_k1 A 2 c ∧ z_k1 A 3 d ∧ z_k1 A 4 e
def z_me (A : q_A) (h a b c d e : Int) : q_A := q_up (q_up (q_up (q_up (q_up (q_up (q_up A 0 7 1) 2 0 h) 2 1 a) 2 2 b) 2 3 c) 2 4 d) 2 5 e
theorem z_me0 {A : q_A} {h a b c d e : Int} (j : Nat) : z_me A h a b c d e 0 j = if j = 7 then 1 else A 0 j := by
  show q_up A 0 7 1 0 j = _
  unfold q_up
  by_cases q : j = 7
  · rw [if_pos ⟨rfl, q⟩, if_pos q]
  · rw [if_neg (fun w => q w.2), if_neg q]
theorem z_med {A : q_A} {h a b c d e : Int} {i : Nat} (h0 : i ≠ 0) (h2 : i ≠ 2) (j : Nat) : z_me A h a b c d e i j = A i j := by
  unfold z_me
  rw [q_up_ne _ _ _ h2, q_up_ne _ _ _ h2, q_up_ne _ _ _ h2, q_up_ne _ _ _ h2, q_up_ne _ _ _ h2, q_up_ne _ _ _ h2, q_up_ne _ _ _ h0]
theorem z_me2 {A : q_A} {h a b c d e : Int} {j : Nat} (hj : 6 ≤ j) : z_me A h a b c d e 2 j = A 2 j := by
  unfold z_me q_up
  rw [if_neg (by omega), if_neg (by omega), if_neg (by omega), if_neg (by omega), if_neg (by omega), if_neg (by omega), if_neg (by omega)]
theorem z_mehu {A : q_A} {h a b c d e : Int} : z_hu (z_me A h a b c d e) 0 = h := rfl
theorem z_merd {A : q_A} {h a b c d e : Int} : ∀ s, s < 5 → z_rd (z_me A h a b c d e) 0 s = z_5 a b c d e s
  | 0, _ => rfl
  | 1, _ => rfl
  | 2, _ => rfl
  | 3, _ => rfl
  | 4, _ => rfl
theorem z_k1B {A : q_A} {i v : Int} (h : z_k1 A i v) : (0 ≤ v ∧ v ≤ 9999) ∧ (A 0 1 ≤ i → v = 0) := by
  unfold z_k1 at h
  split at h
  · exact ⟨h, fun q => by omega⟩
  · exact ⟨by omega, fun _ => by omega⟩
theorem z_B.me {A : q_A} {h a b c d e : Int} (hB : z_B A) (hm : z_km A h a b c d e) : z_B (z_me A h a b c d e) := by
  obtain ⟨m0, m1, m2, m3, m4, m5⟩ := hm
  have h1 := hB.1
  have b1 := z_k1B m1
  have b2 := z_k1B m2
  have b3 := z_k1B m3
  have b4 := z_k1B m4
  have b5 := z_k1B m5
  have rb : ∀ s, s < 5 → (0 ≤ z_5 a b c d e s ∧ z_5 a b c d e s ≤ 9999) ∧ ((A 0 1).toNat ≤ s → z_5 a b c d e s = 0)
    | 0, _ => ⟨b1.1, fun q => b1.2 (by omega)⟩
    | 1, _ => ⟨b2.1, fun q => b2.2 (by omega)⟩
    | 2, _ => ⟨b3.1, fun q => b3.2 (by omega)⟩
    | 3, _ => ⟨b4.1, fun q => b4.2 (by omega)⟩
    | 4, _ => ⟨b5.1, fun q => b5.2 (by omega)⟩
  refine ⟨hB.1, hB.2.1, hB.2.2.1, hB.2.2.2.1, hB.2.2.2.2.1, hB.2.2.2.2.2.1, Or.inr rfl, hB.2.2.2.2.2.2.2.1, hB.2.2.2.2.2.2.2.2.1, hB.2.2.2.2.2.2.2.2.2.1, fun p hp => ?_, hB.time, hB.2.2.2.2.2.2.2.2.2.2.2.2.1, hB.2.2.2.2.2.2.2.2.2.2.2.2.2⟩
  by_cases e0 : p = 0
  · subst e0
    refine ⟨m0, fun s hs => ?_⟩
    rw [z_merd s hs]
    exact rb s hs
  · have hv : z_v A p := by
      rcases hp with q | q | q | q
      · exact absurd q.1 e0
      · exact Or.inr (Or.inl q)
      · exact Or.inr (Or.inr (Or.inl q))
      · exact Or.inr (Or.inr (Or.inr q))
    have dd := hB.data p hv
    have eh : z_hu (z_me A h a b c d e) p = z_hu A p := z_me2 (by omega)
    rw [eh]
    refine ⟨dd.1, fun s hs => ?_⟩
    have er : z_rd (z_me A h a b c d e) p s = z_rd A p s := z_me2 (by omega)
    rw [er]
    exact dd.2 s hs
/-- a measurement is made -/
theorem e_made {S : q_S} {R : q_HR} {I : q_HI} {h a b c d e : Int} : ∃ S' R' I', f_X5_init (q_nw S 6 0) (q_zr R S.2.2 0) (q_zr I S.2.2 0) S.2.2 h a b c d e = some (S', R', I') ∧ S' = q_nw (q_nw S 6 0) 12 5 ∧ w_gr S S' R R' I I' ∧ R' S.2.2 1 = S.2.2 + 1 ∧ I' S.2.2 0 = h ∧ ∀ s, s < 5 → I' (S.2.2 + 1) s = z_5 a b c d e s := by
  have e1 : (q_nw S 6 0).2.2 = S.2.2 + 1 := rfl
  have k1 : (q_nw S 6 0).1 S.2.2 = 6 := by show (if S.2.2 = S.2.2 then 6 else _) = 6; rw [if_pos rfl]
  have k2 : (q_nw (q_nw S 6 0) 12 5).1 (S.2.2 + 1) = 12 := by show (if S.2.2 + 1 = S.2.2 + 1 then 12 else _) = 12; rw [if_pos rfl]
  have n2 : (q_nw (q_nw S 6 0) 12 5).2.1 (S.2.2 + 1) = 5 := by show (if S.2.2 + 1 = S.2.2 + 1 then 5 else _) = 5; rw [if_pos rfl]
  have k3 : (q_nw (q_nw S 6 0) 12 5).1 S.2.2 = 6 := by show (if S.2.2 = S.2.2 + 1 then 12 else _) = 6; rw [if_neg (by omega)]; exact k1
  refine ⟨q_nw (q_nw S 6 0) 12 5, q_up (q_zr (q_zr R S.2.2 0) (S.2.2 + 1) 0) S.2.2 1 (S.2.2 + 1), q_up (q_up (q_up (q_up (q_up (q_zr (q_up (q_zr I S.2.2 0) S.2.2 0 h) (S.2.2 + 1) 0) (S.2.2 + 1) 0 a) (S.2.2 + 1) 1 b) (S.2.2 + 1) 2 c) (S.2.2 + 1) 3 d) (S.2.2 + 1) 4 e, ?_, rfl, ⟨fun q hq => ⟨?_, ?_, ?_, ?_⟩, ?_⟩, ?_, ?_, ?_⟩
  · unfold f_X5_init
    have t0 : Int.toNat 0 = 0 := rfl
    have t1 : Int.toNat 1 = 1 := rfl
    have t2 : Int.toNat 2 = 2 := rfl
    have t3 : Int.toNat 3 = 3 := rfl
    have t4 : Int.toNat 4 = 4 := rfl
    have t5 : Int.toNat 5 = 5 := rfl
    simp only [e1, k1, t5, k2, n2, k3, t0, t1, t2, t3, t4]
    simp (disch := (first | trivial | assumption | omega | (refine r_iE ?_ ?_ <;> omega) | (refine r_lE ?_ ?_ <;> omega) | fail)) only [↓q_gdT, ↓q_ltE, ↓if_pos, ↓if_neg]
  · show (if q = S.2.2 + 1 then 12 else if q = S.2.2 then 6 else S.1 q) = S.1 q
    rw [if_neg (by omega), if_neg (by omega)]
  · show (if q = S.2.2 + 1 then 5 else if q = S.2.2 then 0 else S.2.1 q) = S.2.1 q
    rw [if_neg (by omega), if_neg (by omega)]
  · rw [q_up_ne _ _ _ (by omega), q_zr_ne _ _ (by omega), q_zr_ne _ _ (by omega)]
  · rw [q_up_ne _ _ _ (by omega), q_up_ne _ _ _ (by omega), q_up_ne _ _ _ (by omega), q_up_ne _ _ _ (by omega), q_up_ne _ _ _ (by omega), q_zr_ne _ _ (by omega), q_up_ne _ _ _ (by omega), q_zr_ne _ _ (by omega)]
  · show S.2.2 ≤ S.2.2 + 1 + 1
    omega
  · unfold q_up
    rw [if_pos ⟨rfl, rfl⟩]
  · rw [q_up_ne _ _ _ (by omega), q_up_ne _ _ _ (by omega), q_up_ne _ _ _ (by omega), q_up_ne _ _ _ (by omega), q_up_ne _ _ _ (by omega), q_zr_ne _ _ (by omega)]
    unfold q_up
    rw [if_pos ⟨rfl, rfl⟩]
  · intro s hs
    unfold q_up
    have : s = 0 ∨ s = 1 ∨ s = 2 ∨ s = 3 ∨ s = 4 := by omega
    rcases this with q | q | q | q | q <;> subst q <;> simp [z_5]
def o_measure (A : q_A) (h a b c d e : Int) : Int × q_A := if z_km A h a b c d e then (a + b + c + d + e, z_me A h a b c d e) else (-3, A)
theorem g_measure {x : Nat} {S : q_S} {R : q_HR} {I : q_HI} {A : q_A} {h a b c d e : Int} (hS : w_Sh x S R) (hz : w_zz S) (hB : z_B A) (hC : w_C x S R I A) (hh : r_i h) (ha : r_i a) (hb : r_i b) (hc : r_i c) (hd : r_i d) (he : r_i e) : z_B (o_measure A h a b c d e).2 ∧ ∃ S' R' I', f_X9_measure S R I x h a b c d e = some ((o_measure A h a b c d e).1, S', R', I') ∧ w_Sh x S' R' ∧ w_zz S' ∧ w_C x S' R' I' (o_measure A h a b c d e).2 ∧ (∀ i, x + 171 ≤ i → i < S.2.2 → I' i = I i) ∧ S'.2.2 ≤ S.2.2 + 2 ∧ S.2.2 ≤ S'.2.2 := by
  have q0 := e_isWithin (a := h) (b := 0) (c := 100) hh (r_iE (by omega) (by omega)) (r_iE (by omega) (by omega))
  obtain ⟨r1, q1, w1⟩ := e_isReading (i := 0) (v := a) hS hB hC (r_iE (by omega) (by omega)) ha
  obtain ⟨r2, q2, w2⟩ := e_isReading (i := 1) (v := b) hS hB hC (r_iE (by omega) (by omega)) hb
  obtain ⟨r3, q3, w3⟩ := e_isReading (i := 2) (v := c) hS hB hC (r_iE (by omega) (by omega)) hc
  obtain ⟨r4, q4, w4⟩ := e_isReading (i := 3) (v := d) hS hB hC (r_iE (by omega) (by omega)) hd
  obtain ⟨r5, q5, w5⟩ := e_isReading (i := 4) (v := e) hS hB hC (r_iE (by omega) (by omega)) he
  unfold f_X9_measure o_measure
  simp only [k_0 hS]
  have stay : z_B A ∧ ∃ S' R' I', some ((-3 : Int), S, R, I) = some ((-3 : Int), S', R', I') ∧ w_Sh x S' R' ∧ w_zz S' ∧ w_C x S' R' I' A ∧ (∀ i, x + 171 ≤ i → i < S.2.2 → I' i = I i) ∧ S'.2.2 ≤ S.2.2 + 2 ∧ S.2.2 ≤ S'.2.2 :=
    ⟨hB, S, R, I, rfl, hS, hz, hC, fun _ _ _ => rfl, by omega, by omega⟩
  by_cases c0 : 0 ≤ h ∧ h ≤ 100
  · rw [if_pos c0] at q0
    rcases w1 with ⟨rfl, w1⟩ | ⟨rfl, w1⟩
    · have := stay
      simp (disch := (first | trivial | assumption | omega | (refine r_iE ?_ ?_ <;> omega) | (refine r_lE ?_ ?_ <;> omega) | fail)) only [↓q_gdT, ↓q_ltE, ↓if_pos, ↓if_neg, ↓q_bdE q0, ↓q_bdE q1]
      exact this
    rcases w2 with ⟨rfl, w2⟩ | ⟨rfl, w2⟩
    · have := stay
      simp (disch := (first | trivial | assumption | omega | (refine r_iE ?_ ?_ <;> omega) | (refine r_lE ?_ ?_ <;> omega) | fail)) only [↓q_gdT, ↓q_ltE, ↓if_pos, ↓if_neg, ↓q_bdE q0, ↓q_bdE q1, ↓q_bdE q2]
      exact this
    rcases w3 with ⟨rfl, w3⟩ | ⟨rfl, w3⟩
    · have := stay
      simp (disch := (first | trivial | assumption | omega | (refine r_iE ?_ ?_ <;> omega) | (refine r_lE ?_ ?_ <;> omega) | fail)) only [↓q_gdT, ↓q_ltE, ↓if_pos, ↓if_neg, ↓q_bdE q0, ↓q_bdE q1, ↓q_bdE q2, ↓q_bdE q3]
      exact this
    rcases w4 with ⟨rfl, w4⟩ | ⟨rfl, w4⟩
    · have := stay
      simp (disch := (first | trivial | assumption | omega | (refine r_iE ?_ ?_ <;> omega) | (refine r_lE ?_ ?_ <;> omega) | fail)) only [↓q_gdT, ↓q_ltE, ↓if_pos, ↓if_neg, ↓q_bdE q0, ↓q_bdE q1, ↓q_bdE q2, ↓q_bdE q3, ↓q_bdE q4]
      exact this
    rcases w5 with ⟨rfl, w5⟩ | ⟨rfl, w5⟩
    · have := stay
      simp (disch := (first | trivial | assumption | omega | (refine r_iE ?_ ?_ <;> omega) | (refine r_lE ?_ ?_ <;> omega) | fail)) only [↓q_gdT, ↓q_ltE, ↓if_pos, ↓if_neg, ↓q_bdE q0, ↓q_bdE q1, ↓q_bdE q2, ↓q_bdE q3, ↓q_bdE q4, ↓q_bdE q5]
      exact this
    have hm : z_km A h a b c d e := ⟨c0, w1, w2, w3, w4, w5⟩
    rw [if_pos hm]
    dsimp only
    obtain ⟨S', R', I', q6, eS, hg, m1, m2, m3⟩ := e_made (S := S) (R := R) (I := I) (h := h) (a := a) (b := b) (c := c) (d := d) (e := e)
    have hx := hS.2.2.2.2.2.2.2.1
    have hS' := hS.gr hg
    have hC' := hC.gr hB hS hz hg
    have k1 : S'.1 x = 10 := k_0 hS'
    have k2 : S'.1 S.2.2 = 6 := by
      rw [eS]
      show (if S.2.2 = S.2.2 + 1 then 12 else if S.2.2 = S.2.2 then 6 else _) = 6
      rw [if_neg (by omega), if_pos rfl]
    have k3 : S'.1 (S.2.2 + 1) = 12 := by
      rw [eS]
      show (if S.2.2 + 1 = S.2.2 + 1 then 12 else _) = 12
      rw [if_pos rfl]
    have n3 : S'.2.1 (S.2.2 + 1) = 5 := by
      rw [eS]
      show (if S.2.2 + 1 = S.2.2 + 1 then 5 else _) = 5
      rw [if_pos rfl]
    have s2 : S'.2.2 = S.2.2 + 2 := by rw [eS]; rfl
    have hM : w_M x S' R' I' h (z_5 a b c d e) S.2.2 := ⟨k2, by rw [m1]; exact k3, by rw [m1]; exact n3, Or.inl hx, by rw [m1]; exact Or.inl (by omega), m2, fun s hs => by rw [m1]; exact m3 s hs⟩
    refine ⟨hB.me hm, S', q_up R' x 8 S.2.2, q_up I' x 9 1, ?_, hS'.up (Or.inr (Or.inr (Or.inl ⟨rfl, rfl⟩))), fun i hi => ?_, hC'.now2 hM (fun j hj => by rw [z_me0, if_neg hj]) rfl (fun i h0 h2 j => z_med h0 h2 j) (fun j hj => z_me2 hj) rfl z_merd, fun i h1 h2 => ?_, by omega, by omega⟩
    · simp (disch := (first | trivial | assumption | omega | (refine r_iE ?_ ?_ <;> omega) | (refine r_lE ?_ ?_ <;> omega) | fail)) only [↓q_gdT, ↓q_ltE, ↓if_pos, ↓if_neg, ↓q_bdE q0, ↓q_bdE q1, ↓q_bdE q2, ↓q_bdE q3, ↓q_bdE q4, ↓q_bdE q5, ↓q_bd3E q6, k1, k2]
    · rw [eS]
      show (if i = S.2.2 + 1 then 12 else if i = S.2.2 then 6 else S.1 i) = 0
      rw [if_neg (by omega), if_neg (by omega)]
      exact hz i (by omega)
    · rw [q_up_ne _ _ _ (by omega)]
      exact (hg.1 i h2).2.2.2
  · rw [if_neg c0] at q0
    have := stay
    simp (disch := (first | trivial | assumption | omega | (refine r_iE ?_ ?_ <;> omega) | (refine r_lE ?_ ?_ <;> omega) | fail)) only [↓q_gdT, ↓q_ltE, ↓if_pos, ↓if_neg, ↓q_bdE q0]
    exact this
