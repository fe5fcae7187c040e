/-! THE REFERENCE: all laid out -/
def z_mk (t : Nat → Bool) (f : Nat → Int) (s : Nat) : Int := if t s = true then f s else 0
def w_L (x : Nat) (I : q_HI) (A : q_A) (t : Nat → Bool) : Prop := w_D x I A ∧ w_lf x I A t 87 ∧ (∀ s, s < 5 → I (x + 177) s = z_mk t (z_dc A) s) ∧ (I (x + 171) 18 = if z_dd A t = 0 then 0 else 1) ∧ (I (x + 171) 19 = if z_gm A = 0 then 0 else 1)
theorem m_lays3 {x : Nat} {S : q_S} {R : q_HR} {I : q_HI} {A : q_A} {t : Nat → Bool} {m : Int} {K : Int → q_HI → Option q_HI} (hS : w_Sh x S R) (hB : z_B A) (hD : w_D x I A) (hl : w_lf x I A (fun _ => true) 87) (hd : ∀ s, s < 5 → I (x + 177) s = z_dc A s) (ht : ∀ s : Nat, (s : Int) < A 0 1 → (q_and (q_shr m (s : Int)) 1 = 0 ↔ t s = true)) : ∃ J, f_X10_lays_L72 S R (x + 171) m K 100 0 I = K (A 0 1) J ∧ w_T x I J ∧ J (x + 171) = I (x + 171) ∧ w_lf x J A t 87 ∧ ∀ s, s < 5 → J (x + 177) s = z_mk t (z_dc A) s := by
  have h1 := hB.1
  have eN : (((A 0 1).toNat : Nat) : Int) = A 0 1 := by omega
  have key := z_loopR (fun n (u : Nat × q_HI) => f_X10_lays_L72 S R (x + 171) m K n ((u.1 : Nat) : Int) u.2) (fun i u => u.1 = i ∧ w_T x I u.2 ∧ u.2 (x + 171) = I (x + 171) ∧ (∀ p, p < 87 → z_u A p → ∀ s, s < 5 → u.2 (x + 176) (5 * p + s) = if s < i ∧ t s = false then 0 else z_fe A p s) ∧ ∀ s, s < 5 → u.2 (x + 177) s = if s < i ∧ t s = false then 0 else z_dc A s) (A 0 1).toNat (fun u => K (A 0 1) u.2) ?_ ?_ 100 0 (0, I) (by omega) (by omega) ⟨rfl, w_T.rf, rfl, fun p hp hu s hs => by rw [if_neg (by omega)]; exact hl p hp hu s hs, fun s hs => by rw [if_neg (by omega)]; exact hd s hs⟩
  · obtain ⟨⟨i, J⟩, ⟨_, h2, h3, h4, h5⟩, e⟩ := key
    refine ⟨J, e, h2, h3, fun p hp hu s hs => ?_, fun s hs => ?_⟩
    · rw [show J (x + 176) (5 * p + s) = _ from h4 p hp hu s hs]
      by_cases c : s < (A 0 1).toNat
      · cases hts : t s
        · rw [if_pos ⟨c, rfl⟩, if_neg (by decide)]
        · rw [if_neg (fun q => by cases q.2), if_pos rfl]
      · rw [if_neg (fun q => c q.1), z_fe0 hB hu.v hs (by omega)]
        split <;> rfl
    · rw [show J (x + 177) s = _ from h5 s hs]
      unfold z_mk
      by_cases c : s < (A 0 1).toNat
      · cases hts : t s
        · rw [if_pos ⟨c, rfl⟩, if_neg (by decide)]
        · rw [if_neg (fun q => by cases q.2), if_pos rfl]
      · rw [if_neg (fun q => c q.1), z_dc0 hB hs (by omega)]
        split <;> rfl
  · rintro n i ⟨i', J⟩ hi ⟨rfl, hT, hr, hf, hd'⟩
    dsimp only at hT hr hf hd' hi ⊢
    have hDJ := hD.t hT
    have hti := ht i' (by omega)
    by_cases c : q_and (q_shr m (i' : Int)) 1 = 0
    · have e := hti.mp c
      refine ⟨(i' + 1, J), ⟨rfl, hT, hr, fun p hp hu s hs => ?_, fun s hs => ?_⟩, ?_⟩
      · show J (x + 176) (5 * p + s) = _
        rw [hf p hp hu s hs]
        by_cases e1 : s < i' ∧ t s = false
        · rw [if_pos e1, if_pos ⟨by omega, e1.2⟩]
        · rw [if_neg e1, if_neg (fun q => by
            by_cases e2 : s = i'
            · rw [e2, e] at q; cases q.2
            · exact e1 ⟨by omega, q.2⟩)]
      · show J (x + 177) s = _
        rw [hd' s hs]
        by_cases e1 : s < i' ∧ t s = false
        · rw [if_pos e1, if_pos ⟨by omega, e1.2⟩]
        · rw [if_neg e1, if_neg (fun q => by
            by_cases e2 : s = i'
            · rw [e2, e] at q; cases q.2
            · exact e1 ⟨by omega, q.2⟩)]
      · rw [f_X10_lays_L72]
        simp only [k_171 hS, hDJ.f1, c]
        simp (disch := (first | trivial | assumption | omega | (refine r_iE ?_ ?_ <;> omega) | (refine r_lE ?_ ?_ <;> omega) | fail)) only [↓q_gdT, ↓q_ltE, ↓if_pos, ↓if_neg]
        rfl
    · have e : t i' = false := by
        cases hh : t i'
        · rfl
        · exact absurd (hti.mpr hh) c
      obtain ⟨J2, q2, f2, g2⟩ := m_zero (I := J) (s := i') (w := m) (K := fun w43 I44 => q_gd (S.1 (R (x + 171) 17) = 12) (q_gd ((0 : Int) ≤ ((i' : Nat) : Int) ∧ ((i' : Nat) : Int) < (S.2.1 (R (x + 171) 17) : Int)) (q_lt (q_up I44 (R (x + 171) 17) (Int.toNat ((i' : Nat) : Int)) 0) fun I47 => f_X10_lays_L72 S R (x + 171) m K n (((i' : Nat) : Int) + 1) I47))) hS (by omega)
      have rr := r_and (q_shr m (i' : Int)) 1
      refine ⟨(i' + 1, q_up J2 (x + 177) i' 0), ⟨rfl, hT.tr (fun a j h => ?_), ?_, fun p hp hu s hs => ?_, fun s hs => ?_⟩, ?_⟩
      · show q_up J2 (x + 177) i' 0 a j = J a j
        unfold q_up
        rw [if_neg (fun q => h (by unfold w_tm; omega)), f2 a (fun q => h (by unfold w_tm; omega))]
      · show q_up J2 (x + 177) i' 0 (x + 171) = _
        rw [q_up_ne _ _ _ (by omega), f2 _ (by omega)]
        exact hr
      · show q_up J2 (x + 177) i' 0 (x + 176) (5 * p + s) = _
        rw [q_up_ne _ _ _ (by omega), g2 p hp s hs, hf p hp hu s hs]
        by_cases e2 : s = i'
        · rw [if_pos e2, if_pos ⟨by omega, by rw [e2]; exact e⟩]
        · rw [if_neg e2]
          by_cases e1 : s < i' ∧ t s = false
          · rw [if_pos e1, if_pos ⟨by omega, e1.2⟩]
          · rw [if_neg e1, if_neg (fun q => e1 ⟨by omega, q.2⟩)]
      · show q_up J2 (x + 177) i' 0 (x + 177) s = _
        by_cases e2 : s = i'
        · rw [e2, q_up_at, if_pos ⟨by omega, e⟩]
        · rw [q_up_nj e2, f2 _ (by omega), hd' s hs]
          by_cases e1 : s < i' ∧ t s = false
          · rw [if_pos e1, if_pos ⟨by omega, e1.2⟩]
          · rw [if_neg e1, if_neg (fun q => e1 ⟨by omega, q.2⟩)]
      · rw [f_X10_lays_L72]
        simp only [k_171 hS, hDJ.f1]
        rw [q_gdT trivial, q_gdT (r_iE (by omega) (by omega)), q_gdT (r_iE (by omega) (by omega)), if_neg (by omega), q_gdT rr, if_neg c]
        refine q2.trans ?_
        simp only [r_171_17 hS, k_177 hS, n_177 hS, Int.toNat_natCast]
        simp (disch := (first | trivial | assumption | omega | (refine r_iE ?_ ?_ <;> omega) | (refine r_lE ?_ ?_ <;> omega) | fail)) only [↓q_gdT, ↓q_ltE, ↓if_pos, ↓if_neg]
        rfl
  · rintro n ⟨i, J⟩ ⟨e, hT, _⟩
    dsimp only at e hT ⊢
    subst e
    have hDJ := hD.t hT
    rw [f_X10_lays_L72]
    simp only [k_171 hS, hDJ.f1, eN]
    simp (disch := (first | trivial | assumption | omega | (refine r_iE ?_ ?_ <;> omega) | (refine r_lE ?_ ?_ <;> omega) | fail)) only [↓q_gdT, ↓q_ltE, ↓if_pos, ↓if_neg]
theorem z_ddM {A : q_A} {t : Nat → Bool} (h9 : A 0 9 ≠ 0) : z_dd A t = z_sm (fun s => z_mk t (z_dc A) s * z_mk t (z_dc A) s) 5 := by
  unfold z_dd
  refine z_smE fun s hs => ?_
  have : z_dir A t s = z_mk t (z_dc A) s := by
    unfold z_dir z_mk
    cases t s
    · rw [if_pos (Or.inr rfl), if_neg (by decide)]
    · rw [if_neg (by simp [h9]), if_pos rfl]
  rw [this]
theorem z_dd9 {A : q_A} {t : Nat → Bool} (h9 : A 0 9 = 0) : z_dd A t = 0 := by
  unfold z_dd
  refine z_sm0 fun s hs => ?_
  have : z_dir A t s = 0 := by
    unfold z_dir
    rw [if_pos (Or.inl h9)]
  rw [this, Int.mul_zero]
theorem z_mkB {A : q_A} (hB : z_B A) (t : Nat → Bool) {s : Nat} (hs : s < 5) : -1000 ≤ z_mk t (z_dc A) s ∧ z_mk t (z_dc A) s ≤ 1000 := by
  have := z_dcB hB hs
  unfold z_mk
  split <;> omega
theorem z_mk0 {A : q_A} (hB : z_B A) (t : Nat → Bool) {s : Nat} (hs : s < 5) (h : (A 0 1).toNat ≤ s) : z_mk t (z_dc A) s = 0 := by
  unfold z_mk
  rw [z_dc0 hB hs h]
  split <;> rfl
theorem m_lays {x : Nat} {S : q_S} {R : q_HR} {I : q_HI} {A : q_A} {t : Nat → Bool} {m : Int} (hS : w_Sh x S R) (hB : z_B A) (hD : w_D x I A) (ht : ∀ s : Nat, (s : Int) < A 0 1 → (q_and (q_shr m (s : Int)) 1 = 0 ↔ t s = true)) : ∃ J, f_X10_lays S R I (x + 171) m = some J ∧ w_T x I J ∧ w_L x J A t := by
  have h1 := hB.1
  have h9 := hB.2.2.2.2.2.2.2.2.1
  have eN : (((A 0 1).toNat : Nat) : Int) = A 0 1 := by omega
  unfold f_X10_lays
  obtain ⟨J1, q1, T1, l1⟩ := m_lays2 (w := m) (K := fun w25 I26 => q_gd (S.1 (x + 171) = 11) (q_bd (f_X10_laysDrift S R I26 (x + 171)) fun I28 => f_X10_lays_L72 S R (x + 171) m (fun w49 I50 => f_X10_lays_L134 S R I50 (x + 171) (fun w60 w61 => q_gd (r_i (I50 (x + 171) 9)) (if I50 (x + 171) 9 = 0 then q_lt (q_up I50 (x + 171) 18 0) fun I64 => some I64 else q_gd (r_l w60) (if w60 ≤ 0 then q_lt (q_up I50 (x + 171) 18 0) fun I68 => some I68 else q_lt (q_up I50 (x + 171) 18 1) fun I70 => some I70))) 100 0 0) 100 0 I28)) hS hB hD
  rw [q1]
  have D1 := hD.t T1
  have hr := hB.r10
  obtain ⟨J2, q2, T2, f2, g2, c2⟩ := m_laysDrift hS hB D1 (fun k hk s hs => by
    have := l1 (13 + k) (by omega) (Or.inr (Or.inl ⟨by omega, by omega⟩)) s hs
    rw [if_pos rfl] at this
    exact this)
  have D2 := D1.t T2
  have T12 := T1.tr T2
  obtain ⟨J3, q3, T3, r3, l3, c3⟩ := m_lays3 (I := J2) (m := m) (t := t) (K := fun w49 I50 => f_X10_lays_L134 S R I50 (x + 171) (fun w60 w61 => q_gd (r_i (I50 (x + 171) 9)) (if I50 (x + 171) 9 = 0 then q_lt (q_up I50 (x + 171) 18 0) fun I64 => some I64 else q_gd (r_l w60) (if w60 ≤ 0 then q_lt (q_up I50 (x + 171) 18 0) fun I68 => some I68 else q_lt (q_up I50 (x + 171) 18 1) fun I70 => some I70))) 100 0 0) hS hB D2 (fun p hp hu s hs => by rw [f2]; exact l1 p hp hu s hs) c2 ht
  have D3 := D2.t T3
  have T13 := T12.tr T3
  have sumq : f_X10_lays_L134 S R J3 (x + 171) (fun w60 w61 => q_gd (r_i (J3 (x + 171) 9)) (if J3 (x + 171) 9 = 0 then q_lt (q_up J3 (x + 171) 18 0) fun I64 => some I64 else q_gd (r_l w60) (if w60 ≤ 0 then q_lt (q_up J3 (x + 171) 18 0) fun I68 => some I68 else q_lt (q_up J3 (x + 171) 18 1) fun I70 => some I70))) 100 0 0 = some (q_up J3 (x + 171) 18 (if z_dd A t = 0 then 0 else 1)) := by
    have es : z_sm (fun s => z_mk t (z_dc A) s * z_mk t (z_dc A) s) (A 0 1).toNat = z_sm (fun s => z_mk t (z_dc A) s * z_mk t (z_dc A) s) 5 := z_smT (by omega) (fun k h1 h2 => by rw [z_mk0 hB t h2 h1, Int.mul_zero])
    have eb := z_smB (lo := 0) (hi := 1000000) (f := fun s => z_mk t (z_dc A) s * z_mk t (z_dc A) s) (n := 5) (fun s hs => by
      have b := z_mkB hB t hs
      have := z_mulB (M := 1000) (N := 1000) b b
      have := z_sq (z_mk t (z_dc A) s)
      omega)
    refine z_loop (fun n i => f_X10_lays_L134 S R J3 (x + 171) (fun w60 w61 => q_gd (r_i (J3 (x + 171) 9)) (if J3 (x + 171) 9 = 0 then q_lt (q_up J3 (x + 171) 18 0) fun I64 => some I64 else q_gd (r_l w60) (if w60 ≤ 0 then q_lt (q_up J3 (x + 171) 18 0) fun I68 => some I68 else q_lt (q_up J3 (x + 171) 18 1) fun I70 => some I70))) n (z_sm (fun s => z_mk t (z_dc A) s * z_mk t (z_dc A) s) i) ((i : Nat) : Int)) (A 0 1).toNat _ (fun n i hi => ?_) (fun n => ?_) 100 (by omega)
    · have b := z_mkB hB t (show i < 5 by omega)
      have bb := z_mulB (M := 1000) (N := 1000) b b
      show f_X10_lays_L134 _ _ _ _ _ (n + 1) _ _ = _
      rw [f_X10_lays_L134]
      simp only [k_171 hS, D3.f1, r_171_17 hS, k_177 hS, n_177 hS, Int.toNat_natCast, c3 i (by omega)]
      simp (disch := (first | trivial | assumption | omega | (refine r_iE ?_ ?_ <;> omega) | (refine r_lE ?_ ?_ <;> omega) | fail)) only [↓q_gdT, ↓q_ltE, ↓if_pos, ↓if_neg]
      rfl
    · show f_X10_lays_L134 _ _ _ _ _ (n + 1) _ _ = _
      rw [f_X10_lays_L134]
      simp only [k_171 hS, D3.f1, D3.f9, eN]
      rw [es]
      by_cases c9 : A 0 9 = 0
      · rw [if_pos (z_dd9 c9)]
        simp (disch := (first | trivial | assumption | omega | (refine r_iE ?_ ?_ <;> omega) | (refine r_lE ?_ ?_ <;> omega) | fail)) only [↓q_gdT, ↓q_ltE, ↓if_pos, ↓if_neg]
      · rw [z_ddM c9]
        generalize z_sm (fun s => z_mk t (z_dc A) s * z_mk t (z_dc A) s) 5 = w at *
        by_cases c0 : w = 0
        · rw [if_pos c0]
          simp (disch := (first | trivial | assumption | omega | (refine r_iE ?_ ?_ <;> omega) | (refine r_lE ?_ ?_ <;> omega) | fail)) only [↓q_gdT, ↓q_ltE, ↓if_pos, ↓if_neg]
        · rw [if_neg c0]
          simp (disch := (first | trivial | assumption | omega | (refine r_iE ?_ ?_ <;> omega) | (refine r_lE ?_ ?_ <;> omega) | fail)) only [↓q_gdT, ↓q_ltE, ↓if_pos, ↓if_neg]
  refine ⟨q_up J3 (x + 171) 18 (if z_dd A t = 0 then 0 else 1), ?_, T13.up2 (Or.inl ⟨rfl, Or.inr (by omega)⟩), D3.t (w_T.up (Or.inl ⟨rfl, Or.inr (by omega)⟩)), fun p hp hu s hs => ?_, fun s hs => ?_, ?_, ?_⟩
  · simp only [k_171 hS]
    rw [q_gdT trivial, q_bdE q2]
    exact q3.trans sumq
  · rw [q_up_ne _ _ _ (by omega)]; exact l3 p hp hu s hs
  · rw [q_up_ne _ _ _ (by omega)]; exact c3 s hs
  · rw [q_up_at]
  · rw [q_up_nj (by omega), r3]; exact g2
