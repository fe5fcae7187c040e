/-! THE CLASS: ranking -/
def z_ip (g : Nat → Int) (d : Int) : Nat → Nat
  | 0 => 0
  | n + 1 => if g n ≤ d then n + 1 else z_ip g d n
theorem z_ipE {g h : Nat → Int} {d : Int} : ∀ {n : Nat}, (∀ i, i < n → g i = h i) → z_ip g d n = z_ip h d n
  | 0, _ => rfl
  | n + 1, e => by
    unfold z_ip
    rw [e n (by omega), z_ipE (fun i hi => e i (by omega))]
theorem z_ipB (g : Nat → Int) (d : Int) : ∀ n : Nat, z_ip g d n ≤ n
  | 0 => Nat.le_refl 0
  | n + 1 => by
    unfold z_ip
    have := z_ipB g d n
    split <;> omega
def z_sh (c : Nat → Int) (p : Nat) (v : Int) (i : Nat) : Int := if i < p then c i else if i = p then v else c (i - 1)
theorem e_insert {x : Nat} {S : q_S} {R : q_HR} {I : q_HI} {n : Nat} {c g : Nat → Int} {code d : Int} (hS : w_Sh x S R) (hn : n < 64) (h3 : I (x + 33) 3 = (n : Int)) (hc : ∀ i, i < n → I (x + 34) i = c i) (hg : ∀ i, i < n → I (x + 35) i = g i) (hgB : ∀ i, i < n → 0 ≤ g i ∧ g i ≤ 320000000) (hd : 0 ≤ d ∧ d ≤ 320000000) :
    ∃ I', f_X7_insert S R I (x + 33) code d = some I' ∧ (∀ a, a ≠ x + 33 → a ≠ x + 34 → a ≠ x + 35 → I' a = I a) ∧ I' (x + 33) 3 = ((n + 1 : Nat) : Int) ∧ (∀ i, i < n + 1 → I' (x + 34) i = z_sh c (z_ip g d n) code i) ∧ ∀ i, i < n + 1 → I' (x + 35) i = z_sh g (z_ip g d n) d i := by
  have key : ∀ (v N : Nat) (J : q_HI) (K : Int → q_HI → Option q_HI), v ≤ n → v < N → (∀ a, a ≠ x + 34 → a ≠ x + 35 → J a = I a) → (∀ i, i < v → J (x + 34) i = c i ∧ J (x + 35) i = g i) → (∀ i, v < i → i ≤ n → J (x + 34) i = c (i - 1) ∧ J (x + 35) i = g (i - 1)) → z_ip g d n = z_ip g d v →
      ∃ J', f_X7_insert_L18 S R (x + 33) code d K N (v : Int) J = K (z_ip g d n : Nat) J' ∧ (∀ a, a ≠ x + 34 → a ≠ x + 35 → J' a = I a) ∧ (∀ i, i < z_ip g d n → J' (x + 34) i = c i ∧ J' (x + 35) i = g i) ∧ (∀ i, z_ip g d n < i → i ≤ n → J' (x + 34) i = c (i - 1) ∧ J' (x + 35) i = g (i - 1)) := by
    intro v
    induction v with
    | zero =>
      intro N J K hv hN hF hl hr he
      obtain ⟨m, rfl⟩ : ∃ m, N = m + 1 := ⟨N - 1, by omega⟩
      have e0 : z_ip g d n = 0 := he
      rw [e0]
      refine ⟨J, ?_, hF, hl, hr⟩
      rw [f_X7_insert_L18]
      simp (disch := (first | trivial | assumption | omega | (refine r_iE ?_ ?_ <;> omega) | (refine r_lE ?_ ?_ <;> omega) | fail)) only [↓q_gdT, ↓q_ltE, ↓if_pos, ↓if_neg]
    | succ v ih =>
      intro N J K hv hN hF hl hr he
      obtain ⟨m, rfl⟩ : ∃ m, N = m + 1 := ⟨N - 1, by omega⟩
      have ev : ((v + 1 : Nat) : Int) - 1 = (v : Int) := by omega
      have ev2 : ((v + 1 : Nat) : Int) + -1 = (v : Int) := by omega
      have ev3 : Int.toNat ((v + 1 : Nat) : Int) = v + 1 := by omega
      obtain ⟨l1, l2⟩ := hl v (by omega)
      have gb := hgB v (by omega)
      rw [f_X7_insert_L18]
      simp only [ev, ev2, ev3, k_33 hS, r_33_0 hS, r_33_1 hS, k_34 hS, n_34 hS, k_35 hS, n_35 hS, Int.toNat_natCast, l2]
      by_cases hle : g v ≤ d
      · have e1 : z_ip g d n = v + 1 := by rw [he]; unfold z_ip; rw [if_pos hle]
        rw [e1]
        refine ⟨J, ?_, hF, hl, hr⟩
        simp (disch := (first | trivial | assumption | omega | (refine r_iE ?_ ?_ <;> omega) | (refine r_lE ?_ ?_ <;> omega) | fail)) only [↓q_gdT, ↓q_ltE, ↓if_pos, ↓if_neg]
      · have e1 : z_ip g d (v + 1) = z_ip g d v := by
          show (if _ then _ else _) = _
          rw [if_neg hle]
        have r1 : q_up J (x + 34) (v + 1) (c v) (x + 35) v = g v := by rw [q_up_ne _ _ _ (by omega)]; exact l2
        obtain ⟨J', p1, p2, p3, p4⟩ := ih m (q_up (q_up J (x + 34) (v + 1) (c v)) (x + 35) (v + 1) (g v)) K (by omega) (by omega) (fun a h1 h2 => by rw [q_up_ne _ _ _ h2, q_up_ne _ _ _ h1]; exact hF a h1 h2) (fun i hi => by
          constructor
          · rw [q_up_ne _ _ _ (by omega)]
            unfold q_up
            rw [if_neg (by omega)]
            exact (hl i (by omega)).1
          · unfold q_up
            rw [if_neg (by omega), if_neg (by omega)]
            exact (hl i (by omega)).2) (fun i h1 h2 => by
          by_cases e : i = v + 1
          · subst e
            constructor
            · rw [q_up_ne _ _ _ (by omega)]
              unfold q_up
              rw [if_pos ⟨rfl, rfl⟩]
              rfl
            · unfold q_up
              rw [if_pos ⟨rfl, rfl⟩]
              rfl
          · constructor
            · rw [q_up_ne _ _ _ (by omega)]
              unfold q_up
              rw [if_neg (by omega)]
              exact (hr i (by omega) h2).1
            · unfold q_up
              rw [if_neg (by omega), if_neg (by omega)]
              exact (hr i (by omega) h2).2) (by rw [he, e1])
        refine ⟨J', ?_, p2, p3, p4⟩
        rw [← p1]
        have c1 : v < 64 := by omega
        simp (disch := (first | trivial | assumption | omega | (refine r_iE ?_ ?_ <;> omega) | (refine r_lE ?_ ?_ <;> omega) | fail)) only [↓q_gdT, ↓q_ltE, ↓if_pos, ↓if_neg, r1, l1]
  obtain ⟨J', p1, p2, p3, p4⟩ := key n 100 I (fun w25 I26 => q_gd ((0 : Int) ≤ w25 ∧ w25 < (64 : Int)) (q_lt (q_up I26 (x + 34) (Int.toNat w25) code) fun I28 => q_gd ((0 : Int) ≤ w25 ∧ w25 < (64 : Int)) (q_lt (q_up I28 (x + 35) (Int.toNat w25) d) fun I32 => q_lt (q_up I32 (x + 33) 3 ((I32 (x + 33) 3) + 1)) fun I34 => some I34))) (by omega) (by omega) (fun _ _ _ => rfl) (fun i hi => ⟨hc i hi, hg i hi⟩) (fun i h1 h2 => absurd h1 (by omega)) rfl
  have pb := z_ipB g d n
  generalize z_ip g d n = p at *
  refine ⟨q_up (q_up (q_up J' (x + 34) p code) (x + 35) p d) (x + 33) 3 ((n + 1 : Nat) : Int), ?_, fun a h1 h2 h3 => ?_, ?_, fun i hi => ?_, fun i hi => ?_⟩
  · have e4 : q_up (q_up J' (x + 34) p code) (x + 35) p d (x + 33) 3 + 1 = ((n + 1 : Nat) : Int) := by
      rw [q_up_ne _ _ _ (by omega), q_up_ne _ _ _ (by omega), p2 _ (by omega) (by omega), h3]
      omega
    unfold f_X7_insert
    have n64 : ((64 : Nat) : Int) = 64 := rfl
    simp only [k_33 hS, r_33_0 hS, r_33_1 hS, k_34 hS, n_34 hS, k_35 hS, n_35 hS, h3, n64]
    simp only [q_ltE, Int.toNat_natCast] at p1
    simp (disch := (first | trivial | assumption | omega | (refine r_iE ?_ ?_ <;> omega) | (refine r_lE ?_ ?_ <;> omega) | fail)) only [↓q_gdT, ↓q_ltE, ↓if_pos, ↓if_neg]
    rw [p1]
    rw [q_gdT (by omega), q_gdT (by omega), e4]
  · rw [q_up_ne _ _ _ h1, q_up_ne _ _ _ h3, q_up_ne _ _ _ h2]
    exact p2 a h2 h3
  · unfold q_up
    rw [if_pos ⟨rfl, rfl⟩]
  · rw [q_up_ne _ _ _ (by omega), q_up_ne _ _ _ (by omega)]
    unfold q_up z_sh
    by_cases e : i = p
    · rw [if_pos ⟨rfl, e⟩, if_neg (by omega), if_pos e]
    · rw [if_neg (by omega)]
      by_cases e2 : i < p
      · rw [if_pos e2]; exact (p3 i e2).1
      · rw [if_neg e2, if_neg e]; exact (p4 i (by omega) (by omega)).1
  · rw [q_up_ne _ _ _ (by omega)]
    unfold z_sh
    by_cases e : i = p
    · unfold q_up
      rw [if_pos ⟨rfl, e⟩, if_neg (by omega), if_pos e]
    · unfold q_up
      rw [if_neg (by omega), if_neg (by omega)]
      by_cases e2 : i < p
      · rw [if_pos e2]; exact (p3 i e2).2
      · rw [if_neg e2, if_neg e]; exact (p4 i (by omega) (by omega)).2
/-! all samples, by their distances -/
abbrev q_Z : Type := Nat × (Nat → Int) × (Nat → Int)
def z_in (Z : q_Z) (code d : Int) : q_Z := (Z.1 + 1, z_sh Z.2.1 (z_ip Z.2.2 d Z.1) code, z_sh Z.2.2 (z_ip Z.2.2 d Z.1) d)
def z_r1 (A : q_A) (t : Nat → Bool) (c : Nat) (Z : q_Z) : Nat → q_Z
  | 0 => Z
  | k + 1 => z_in (z_r1 A t c Z k) (10 * (c : Int) + (k : Int)) (z_pp A t 0 (23 + 8 * c + k))
def z_r2 (A : q_A) (t : Nat → Bool) : Nat → q_Z
  | 0 => (0, fun _ => 0, fun _ => 0)
  | c + 1 => z_r1 A t c (z_r2 A t c) (z_ns A c)
def z_rk (A : q_A) (t : Nat → Bool) : q_Z := z_r2 A t (z_nk A)
def z_ZB (Z : q_Z) (N : Nat) : Prop := Z.1 ≤ N ∧ ∀ i, i < Z.1 → (0 ≤ Z.2.1 i ∧ Z.2.1 i < 80) ∧ 0 ≤ Z.2.2 i ∧ Z.2.2 i ≤ 320000000
theorem z_shP {P : Int → Prop} {c : Nat → Int} {p n : Nat} {v : Int} (hp : p ≤ n) (hc : ∀ i, i < n → P (c i)) (hv : P v) : ∀ i, i < n + 1 → P (z_sh c p v i) := fun i hi => by
  unfold z_sh
  by_cases h1 : i < p
  · rw [if_pos h1]; exact hc i (by omega)
  · rw [if_neg h1]
    by_cases h2 : i = p
    · rw [if_pos h2]; exact hv
    · rw [if_neg h2]; exact hc (i - 1) (by omega)
theorem z_inB {Z : q_Z} {N : Nat} {code d : Int} (h : z_ZB Z N) (hc : 0 ≤ code ∧ code < 80) (hd : 0 ≤ d ∧ d ≤ 320000000) : z_ZB (z_in Z code d) (N + 1) :=
  ⟨Nat.succ_le_succ h.1, fun i hi => ⟨z_shP (P := fun v => 0 ≤ v ∧ v < 80) (z_ipB _ _ _) (fun j hj => (h.2 j hj).1) hc i hi, z_shP (P := fun v => 0 ≤ v ∧ v ≤ 320000000) (z_ipB _ _ _) (fun j hj => (h.2 j hj).2) hd i hi⟩⟩
theorem z_ppB {A : q_A} (hB : z_B A) (t : Nat → Bool) (p q : Nat) : 0 ≤ z_pp A t p q ∧ z_pp A t p q ≤ 320000000 :=
  z_diB hB t (by omega) (fun s _ => by
    have h1 := z_fB A p s
    have h2 := z_fB A q s
    show -(8000 * 1) ≤ z_fe A p s - z_fe A q s ∧ z_fe A p s - z_fe A q s ≤ 8000 * 1
    omega)
theorem z_r1B {A : q_A} (hB : z_B A) (t : Nat → Bool) {c : Nat} (hc : c < 8) {Z : q_Z} {N : Nat} (h : z_ZB Z N) : ∀ {k : Nat}, k ≤ 8 → z_ZB (z_r1 A t c Z k) (N + k)
  | 0, _ => h
  | k + 1, hk => by
    have := z_r1B hB t hc h (k := k) (by omega)
    exact z_inB this (by omega) (z_ppB hB t _ _)
theorem z_r2B {A : q_A} (hB : z_B A) (t : Nat → Bool) : ∀ {c : Nat}, c ≤ z_nk A → z_ZB (z_r2 A t c) (8 * c)
  | 0, _ => ⟨Nat.le_refl 0, fun i hi => absurd hi (by unfold z_r2; omega)⟩
  | c + 1, hc => by
    have h1 := z_r2B hB t (c := c) (by omega)
    have hk := hB.nk
    have hn := hB.ns (show c < z_nk A by omega)
    have h2 := z_r1B hB t (c := c) (by omega) h1 (k := z_ns A c) (by omega)
    exact ⟨by have := h2.1; show (z_r1 A t c (z_r2 A t c) (z_ns A c)).1 ≤ _; omega, h2.2⟩
def w_rk (x : Nat) (I : q_HI) (Z : q_Z) : Prop := I (x + 33) 3 = (Z.1 : Int) ∧ (∀ i, i < Z.1 → I (x + 34) i = Z.2.1 i) ∧ ∀ i, i < Z.1 → I (x + 35) i = Z.2.2 i
theorem e_rankSamples {x : Nat} {S : q_S} {R : q_HR} {I : q_HI} {A : q_A} {t : Nat → Bool} (hS : w_Sh x S R) (hB : z_B A) (hC : w_C x S R I A) (hp : w_pr x I A t) (h7 : A 0 7 = 1) : ∃ I', f_X9_rankSamples S R I x = some I' ∧ (∀ a, a ≠ x + 33 → a ≠ x + 34 → a ≠ x + 35 → I' a = I a) ∧ w_rk x I' (z_rk A t) := by
  obtain ⟨hk1, hk2⟩ := hB.nk
  have q0 : f_X7_clear S R I (x + 33) = some (q_up I (x + 33) 3 0) := by
    unfold f_X7_clear
    simp only [k_33 hS]
    simp (disch := (first | trivial | assumption | omega | (refine r_iE ?_ ?_ <;> omega) | (refine r_lE ?_ ?_ <;> omega) | fail)) only [↓q_gdT, ↓q_ltE, ↓if_pos, ↓if_neg]
  have h10 := hC.1.2.2.2.1
  unfold f_X9_rankSamples
  simp only [k_0 hS, r_0_4 hS, k_33 hS]
  simp (disch := (first | trivial | assumption | omega | (refine r_iE ?_ ?_ <;> omega) | (refine r_lE ?_ ?_ <;> omega) | fail)) only [↓q_gdT, ↓q_ltE, ↓if_pos, ↓if_neg, ↓q_bdE q0]
  have key := z_loopR (σ := Int × q_HI) (fun n s => f_X9_rankSamples_L9 S R x (fun w25 I26 => some I26) n s.1 s.2) (fun i s => s.1 = (i : Int) ∧ (∀ a, a ≠ x + 33 → a ≠ x + 34 → a ≠ x + 35 → s.2 a = I a) ∧ w_rk x s.2 (z_r2 A t i)) (z_nk A) (fun s => some s.2) (fun n i s hi hP => ?_) (fun n s hP => ?_) 100 0 (0, q_up I (x + 33) 3 0) (by omega) (by omega) ⟨rfl, fun a h1 _ _ => q_up_ne _ _ _ h1, by unfold q_up; exact if_pos ⟨rfl, rfl⟩, fun i hi => absurd hi (by unfold z_r2; omega), fun i hi => absurd hi (by unfold z_r2; omega)⟩
  · obtain ⟨s', ⟨h1, h2, h3⟩, h4⟩ := key
    exact ⟨s'.2, h4, h2, h3⟩
  · obtain ⟨v, J⟩ := s
    obtain ⟨rfl, hF, hw⟩ := hP
    dsimp only at hF hw
    show ∃ s' : Int × q_HI, _ ∧ f_X9_rankSamples_L9 _ _ _ _ (n + 1) _ _ = _
    rw [f_X9_rankSamples_L9]
    have e10 : J x 10 = A 0 4 := by rw [hF _ (by omega) (by omega) (by omega)]; exact h10
    have hn := hB.ns hi
    have hi8 : i < 8 := by omega
    simp only [k_0 hS, e10]
    simp (disch := (first | trivial | assumption | omega | (refine r_iE ?_ ?_ <;> omega) | (refine r_lE ?_ ?_ <;> omega) | fail)) only [↓q_gdT, ↓q_ltE, ↓if_pos, ↓if_neg]
    have key := z_loopR (σ := Int × q_HI) (fun m s => f_X9_rankSamples_L19 S R x (i : Int) (fun w23 I24 => f_X9_rankSamples_L9 S R x (fun w25 I26 => some I26) n ((i : Int) + 1) I24) m s.1 s.2) (fun k s => s.1 = (k : Int) ∧ (∀ a, a ≠ x + 33 → a ≠ x + 34 → a ≠ x + 35 → s.2 a = I a) ∧ w_rk x s.2 (z_r1 A t i (z_r2 A t i) k)) (z_ns A i) (fun s => f_X9_rankSamples_L9 S R x (fun w25 I26 => some I26) n ((i : Int) + 1) s.2) (fun m k s hk hP => ?_) (fun m s hP => ?_) 100 0 (0, J) (by omega) (by omega) ⟨rfl, hF, hw⟩
    · obtain ⟨s', ⟨h1, h2, h3⟩, h4⟩ := key
      exact ⟨(((i + 1 : Nat) : Int), s'.2), ⟨rfl, h2, h3⟩, h4⟩
    · obtain ⟨v, J'⟩ := s
      obtain ⟨rfl, hF', hw'⟩ := hP
      dsimp only at hF' hw'
      show ∃ s' : Int × q_HI, _ ∧ f_X9_rankSamples_L19 _ _ _ _ _ (m + 1) _ _ = _
      rw [f_X9_rankSamples_L19]
      have zb := z_r1B hB t hi8 (z_r2B hB t (c := i) (by omega)) (k := k) (by omega)
      have hp' : w_pr x J' A t := hp.fr hB (fun a ha => hF' a (by omega) (by omega) (by omega))
      obtain ⟨q1, q1a, q1b⟩ := e_gapToSample hS hB hp' h7 hi hk
      have e2 : J' (x + 51 + 15 * i + 1) 2 = A 4 i := by rw [hF' _ (by omega) (by omega) (by omega)]; exact (hC.sa hB hi).1
      obtain ⟨J2, q2, f2, g1, g2, g3⟩ := e_insert (I := J') (n := (z_r1 A t i (z_r2 A t i) k).1) (c := (z_r1 A t i (z_r2 A t i) k).2.1) (g := (z_r1 A t i (z_r2 A t i) k).2.2) (code := 10 * (i : Int) + (k : Int)) hS (by have := zb.1; omega) hw'.1 hw'.2.1 hw'.2.2 (fun j hj => (zb.2 j hj).2) ⟨q1a, q1b⟩
      simp only [k_0 hS, r_0_3 hS, k_32 hS, n_32 hS, Int.toNat_natCast, r_32 hS hi8, kg_0 hS hi8, rg_0_0 hS hi8, kg_1 hS hi8, e2, r_0_4 hS, k_33 hS, r_0_7 hS, k_50 hS]
      simp (disch := (first | trivial | assumption | omega | (refine r_iE ?_ ?_ <;> omega) | (refine r_lE ?_ ?_ <;> omega) | fail)) only [↓q_gdT, ↓q_ltE, ↓if_pos, ↓if_neg, ↓q_bdE q1, ↓q_bdE q2]
      exact ⟨(((k + 1 : Nat) : Int), J2), ⟨rfl, fun a h1 h2 h3 => by dsimp only; rw [f2 a h1 h2 h3]; exact hF' a h1 h2 h3, g1, g2, g3⟩, rfl⟩
    · obtain ⟨v, J'⟩ := s
      obtain ⟨rfl, hF', hw'⟩ := hP
      dsimp only at hF'
      show f_X9_rankSamples_L19 _ _ _ _ _ (m + 1) _ _ = _
      rw [f_X9_rankSamples_L19]
      have e2 : J' (x + 51 + 15 * i + 1) 2 = A 4 i := by rw [hF' _ (by omega) (by omega) (by omega)]; exact (hC.sa hB hi).1
      simp only [k_0 hS, r_0_3 hS, k_32 hS, n_32 hS, Int.toNat_natCast, r_32 hS hi8, kg_0 hS hi8, rg_0_0 hS hi8, kg_1 hS hi8, e2]
      simp (disch := (first | trivial | assumption | omega | (refine r_iE ?_ ?_ <;> omega) | (refine r_lE ?_ ?_ <;> omega) | fail)) only [↓q_gdT, ↓q_ltE, ↓if_pos, ↓if_neg]
  · obtain ⟨v, J⟩ := s
    obtain ⟨rfl, hF, hw⟩ := hP
    dsimp only at hF
    show f_X9_rankSamples_L9 _ _ _ _ (n + 1) _ _ = _
    rw [f_X9_rankSamples_L9]
    have e10 : J x 10 = A 0 4 := by rw [hF _ (by omega) (by omega) (by omega)]; exact h10
    simp only [k_0 hS, e10]
    simp (disch := (first | trivial | assumption | omega | (refine r_iE ?_ ?_ <;> omega) | (refine r_lE ?_ ?_ <;> omega) | fail)) only [↓q_gdT, ↓q_ltE, ↓if_pos, ↓if_neg]
/-! votes -/
def z_vt (c : Nat → Int) (m : Nat) (v : Int) : Int := z_sm (fun i => if Int.tdiv (c i) 10 = v then 1 else 0) m
def z_wi (c : Nat → Int) (m : Nat) : Nat → Int × Int
  | 0 => (-1, 0)
  | i + 1 => if z_vt c m (Int.tdiv (c i) 10) ≤ (z_wi c m i).2 then z_wi c m i else (Int.tdiv (c i) 10, z_vt c m (Int.tdiv (c i) 10))
theorem z_vtB (c : Nat → Int) (m : Nat) (v : Int) : 0 ≤ z_vt c m v ∧ z_vt c m v ≤ m := by
  have := z_smB (lo := 0) (hi := 1) (f := fun i => if Int.tdiv (c i) 10 = v then 1 else 0) (n := m) (fun i _ => by split <;> omega)
  unfold z_vt
  omega
theorem z_wiB (c : Nat → Int) (m : Nat) : ∀ i, 0 ≤ (z_wi c m i).2 ∧ (z_wi c m i).2 ≤ m
  | 0 => by simp [z_wi]
  | i + 1 => by
    have h1 := z_wiB c m i
    have h2 := z_vtB c m (Int.tdiv (c i) 10)
    unfold z_wi
    split
    · exact h1
    · exact h2
theorem z_d10 {v : Int} (h : 0 ≤ v ∧ v < 80) : 0 ≤ Int.tdiv v 10 ∧ Int.tdiv v 10 < 8 := by
  rw [Int.tdiv_eq_ediv_of_nonneg h.1]
  omega
theorem e_countVotes {x : Nat} {S : q_S} {R : q_HR} {I : q_HI} {c : Nat → Int} {m : Nat} (hS : w_Sh x S R) (hm : m ≤ 64) (hc : ∀ i, i < m → I (x + 34) i = c i ∧ 0 ≤ c i ∧ c i < 80) : ∃ I', f_X7_countVotes S R I (x + 33) (m : Int) = some I' ∧ (∀ a, a ≠ x + 36 → I' a = I a) ∧ ∀ k, k < 8 → I' (x + 36) k = z_vt c m (k : Int) := by
  unfold f_X7_countVotes
  have k1 := z_loop (fun n i => f_X7_countVotes_L2 S R (x + 33) (m : Int) (fun w8 I9 => f_X7_countVotes_L23 S R (x + 33) (m : Int) (fun w21 I22 => some I22) 100 0 I9) n ((i : Nat) : Int) (z_row I (x + 36) (fun _ => 0) i)) 8 (f_X7_countVotes_L23 S R (x + 33) (m : Int) (fun w21 I22 => some I22) 100 0 (z_row I (x + 36) (fun _ => 0) 8)) (fun n i hi => ?_) (fun n => ?_) 100 (by decide)
  · rw [z_row_0] at k1
    have k1' : f_X7_countVotes_L2 S R (x + 33) (m : Int) (fun w8 I9 => f_X7_countVotes_L23 S R (x + 33) (m : Int) (fun w21 I22 => some I22) 100 0 I9) 100 0 I = _ := k1
    rw [k1']
    have key := z_loopR (σ := Int × q_HI) (fun n s => f_X7_countVotes_L23 S R (x + 33) (m : Int) (fun w21 I22 => some I22) n s.1 s.2) (fun i s => s.1 = (i : Int) ∧ (∀ a, a ≠ x + 36 → s.2 a = I a) ∧ ∀ k, k < 8 → s.2 (x + 36) k = z_sm (fun i => if Int.tdiv (c i) 10 = (k : Int) then 1 else 0) i) m (fun s => some s.2) (fun n i s hi hP => ?_) (fun n s hP => ?_) 100 0 (0, z_row I (x + 36) (fun _ => 0) 8) (by omega) (by omega) ⟨rfl, fun a ha => z_row_ne _ _ ha, fun k hk => by dsimp only; rw [z_row_at _ hk]; rfl⟩
    · obtain ⟨s', ⟨h1, h2, h3⟩, h4⟩ := key
      exact ⟨s'.2, h4, h2, h3⟩
    · obtain ⟨v, J⟩ := s
      obtain ⟨rfl, hF, hr⟩ := hP
      dsimp only at hF hr
      show ∃ s' : Int × q_HI, _ ∧ f_X7_countVotes_L23 _ _ _ _ _ (n + 1) _ _ = _
      rw [f_X7_countVotes_L23]
      obtain ⟨c1, c2⟩ := hc i hi
      have e1 : J (x + 34) i = c i := by rw [hF _ (by omega)]; exact c1
      have e2 := z_d10 c2
      obtain ⟨w, hw⟩ : ∃ w : Nat, Int.tdiv (c i) 10 = (w : Int) := ⟨(Int.tdiv (c i) 10).toNat, by omega⟩
      simp only [k_33 hS, r_33_0 hS, r_33_2 hS, k_34 hS, n_34 hS, k_36 hS, n_36 hS, Int.toNat_natCast, e1, hw]
      simp (disch := (first | trivial | assumption | omega | (refine r_iE ?_ ?_ <;> omega) | (refine r_lE ?_ ?_ <;> omega) | fail)) only [↓q_gdT, ↓q_ltE, ↓if_pos, ↓if_neg]
      refine ⟨(((i + 1 : Nat) : Int), q_up J (x + 36) w (J (x + 36) w + 1)), ⟨rfl, fun a ha => by dsimp only; rw [q_up_ne _ _ _ ha]; exact hF a ha, fun k hk => ?_⟩, rfl⟩
      show q_up J (x + 36) w (J (x + 36) w + 1) (x + 36) k = z_sm _ i + (if Int.tdiv (c i) 10 = (k : Int) then 1 else 0)
      unfold q_up
      rw [hw]
      by_cases e : k = w
      · rw [if_pos ⟨rfl, e⟩, if_pos (by omega), ← e, hr k hk]
      · rw [if_neg (by omega), if_neg (by omega), hr k hk, Int.add_zero]
    · obtain ⟨v, J⟩ := s
      obtain ⟨rfl, hF, hr⟩ := hP
      show f_X7_countVotes_L23 _ _ _ _ _ (n + 1) _ _ = _
      rw [f_X7_countVotes_L23]
      simp (disch := (first | trivial | assumption | omega | (refine r_iE ?_ ?_ <;> omega) | (refine r_lE ?_ ?_ <;> omega) | fail)) only [↓q_gdT, ↓q_ltE, ↓if_pos, ↓if_neg]
  · show f_X7_countVotes_L2 _ _ _ _ _ (n + 1) _ _ = _
    rw [f_X7_countVotes_L2]
    simp only [k_33 hS, r_33_2 hS, k_36 hS, n_36 hS, Int.toNat_natCast]
    simp (disch := (first | trivial | assumption | omega | (refine r_iE ?_ ?_ <;> omega) | (refine r_lE ?_ ?_ <;> omega) | fail)) only [↓q_gdT, ↓q_ltE, ↓if_pos, ↓if_neg]
    rw [z_row_up I (x + 36) (fun _ => 0) i]
    rfl
  · show f_X7_countVotes_L2 _ _ _ _ _ (n + 1) _ _ = _
    rw [f_X7_countVotes_L2]
    simp (disch := (first | trivial | assumption | omega | (refine r_iE ?_ ?_ <;> omega) | (refine r_lE ?_ ?_ <;> omega) | fail)) only [↓q_gdT, ↓q_ltE, ↓if_pos, ↓if_neg]
theorem e_winnerOf {x : Nat} {S : q_S} {R : q_HR} {I : q_HI} {Z : q_Z} {a : Nat} (hS : w_Sh x S R) (hZ : z_ZB Z 64) (hw : w_rk x I Z) (ha : a ≤ 64) : ∃ I', f_X7_winnerOf S R I (x + 33) (a : Int) = some ((z_wi Z.2.1 (min a Z.1) (min a Z.1)).1, I') ∧ (∀ b, b ≠ x + 36 → I' b = I b) := by
  have hz := hZ.1
  have em : q_mn (a : Int) (Z.1 : Int) = ((min a Z.1 : Nat) : Int) := by
    unfold q_mn
    split <;> omega
  have hml : min a Z.1 ≤ Z.1 := Nat.min_le_right _ _
  have hm64 : min a Z.1 ≤ 64 := by omega
  generalize min a Z.1 = m at *
  obtain ⟨I', q1, f1, v1⟩ := e_countVotes (I := I) (c := Z.2.1) (m := m) hS hm64 (fun i hi => ⟨hw.2.1 i (by omega), (hZ.2 i (by omega)).1⟩)
  refine ⟨I', ?_, f1⟩
  unfold f_X7_winnerOf
  simp only [k_33 hS, hw.1, em, q_ltE]
  simp (disch := (first | trivial | assumption | omega | (refine r_iE ?_ ?_ <;> omega) | (refine r_lE ?_ ?_ <;> omega) | fail)) only [↓q_gdT, ↓q_ltE, ↓if_pos, ↓if_neg, ↓q_bdE q1]
  have key := z_loop (fun n i => f_X7_winnerOf_L22 S R I' (x + 33) (m : Int) (fun w25 w26 w27 => some (w25, I')) n (z_wi Z.2.1 m i).1 (z_wi Z.2.1 m i).2 ((i : Nat) : Int)) m (some ((z_wi Z.2.1 m m).1, I')) (fun n i hi => ?_) (fun n => ?_) 100 (by omega)
  · exact key
  · show f_X7_winnerOf_L22 _ _ _ _ _ _ (n + 1) _ _ _ = _
    rw [f_X7_winnerOf_L22]
    have cB := (hZ.2 i (by omega)).1
    have e1 : I' (x + 34) i = Z.2.1 i := by rw [f1 _ (by omega)]; exact hw.2.1 i (by omega)
    have e2 := z_d10 cB
    have wb := z_wiB Z.2.1 m i
    have es : z_wi Z.2.1 m (i + 1) = if z_vt Z.2.1 m (Int.tdiv (Z.2.1 i) 10) ≤ (z_wi Z.2.1 m i).2 then z_wi Z.2.1 m i else (Int.tdiv (Z.2.1 i) 10, z_vt Z.2.1 m (Int.tdiv (Z.2.1 i) 10)) := rfl
    show _ = f_X7_winnerOf_L22 _ _ _ _ _ _ n _ _ ((i + 1 : Nat) : Int)
    rw [es]
    obtain ⟨w, hw'⟩ : ∃ w : Nat, Int.tdiv (Z.2.1 i) 10 = (w : Int) := ⟨(Int.tdiv (Z.2.1 i) 10).toNat, by omega⟩
    have vw := v1 w (by omega)
    have vb := z_vtB Z.2.1 m (w : Int)
    simp only [k_33 hS, r_33_0 hS, r_33_2 hS, k_34 hS, n_34 hS, k_36 hS, n_36 hS, Int.toNat_natCast, e1, hw', q_ltE, vw]
    by_cases h : z_vt Z.2.1 m (w : Int) ≤ (z_wi Z.2.1 m i).2
    · rw [if_pos (show z_vt Z.2.1 m (w : Int) ≤ (z_wi Z.2.1 m i).2 from h)]
      simp (disch := (first | trivial | assumption | omega | (refine r_iE ?_ ?_ <;> omega) | (refine r_lE ?_ ?_ <;> omega) | fail)) only [↓q_gdT, ↓q_ltE, ↓if_pos, ↓if_neg]
      rfl
    · simp only [if_neg h]
      simp (disch := (first | trivial | assumption | omega | (refine r_iE ?_ ?_ <;> omega) | (refine r_lE ?_ ?_ <;> omega) | fail)) only [↓q_gdT, ↓q_ltE, ↓if_pos, ↓if_neg]
      rfl
  · show f_X7_winnerOf_L22 _ _ _ _ _ _ (n + 1) _ _ _ = _
    rw [f_X7_winnerOf_L22]
    simp (disch := (first | trivial | assumption | omega | (refine r_iE ?_ ?_ <;> omega) | (refine r_lE ?_ ?_ <;> omega) | fail)) only [↓q_gdT, ↓q_ltE, ↓if_pos, ↓if_neg]
