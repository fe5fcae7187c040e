noncomputable def f_X2_init (S : q_S) (R : q_HR) (I : q_HI) (a0 : Nat) : Option (q_S × q_HR × q_HI) := q_lt (q_nw S 9 0) fun S1 => q_lt (q_zr R S.2.2 0) fun R3 => q_lt (q_zr I S.2.2 0) fun I5 => q_bd3 (f_X8_init S1 R3 I5 (S.2.2) 8) fun S7 R8 I9 => q_gd (S7.1 a0 = 3) (q_gd (S7.1 (S.2.2) = 9) (q_lt (q_up R8 a0 0 (S.2.2)) fun R13 => q_lt (q_nm S7 8 5) fun S15 => q_lt (q_zm R13 S7.2.2 8) fun R17 => q_lt (q_zi I9 S7.2.2 8) fun I19 => q_gd (S15.1 a0 = 3) (q_gd (S15.1 (S7.2.2) = 17) (q_lt (q_up R17 a0 1 (S7.2.2)) fun R23 => q_lt (q_nw S15 12 (Int.toNat 5)) fun S25 => q_lt (q_zr R23 S15.2.2 0) fun R27 => q_lt (q_zr I19 S15.2.2 0) fun I29 => q_gd (S25.1 a0 = 3) (q_gd (S25.1 (S15.2.2) = 12) (q_lt (q_up R27 a0 2 (S15.2.2)) fun R33 => some (S25, R33, I29)))))))
abbrev rmX2_init : Room := { frames := 3, cells := 14, slots := 75, locals := 60 }
set_option maxRecDepth 20000 in
theorem c_X2_init {S : q_S} {R : q_HR} {I : q_HI} {a0 : Nat} {Sz : q_S} {Rz : q_HR} {Iz : q_HI} (hf : f_X2_init S R I a0 = some (Sz, Rz, Iz)) : ∀ (l : Launch) (D : va_G) (cy : Nat → ClassId) (B : Nat), Met l yX2_init [Cond.code yX2_init cX2_init 1 none] rmX2_init (q_Pc B D cy [.ref a0] S R I) (q_Qc B D cy none Sz Rz Iz) 14 75 (fun q => B ≤ q) := by
  refine q_met (lv := [(0, .ref a0)]) (own := RX2) (nm := "<init>") (by decide) rfl rfl (Nat.le_of_ble_eq_true rfl) rfl (fun X hX hE => ?_)
  unfold f_X2_init at hf
  refine v_aload_n 0 0 hX dX2_init_0 rfl rfl ?_
  refine v_objInit hX wo_RX2_3 wo_inst wo_code (Nat.le_of_ble_eq_true rfl) (Nat.le_of_ble_eq_true rfl) dX2_init_1 ?_
  refine v_aload_n 0 0 hX dX2_init_4 rfl rfl ?_
  refine v_new hX na_RX2_9 (Nat.le_of_ble_eq_true rfl) (Nat.le_of_ble_eq_true rfl) dX2_init_5 ?_
  refine v_cs (k := 1) (n := 3) rfl rfl ?_
  obtain ⟨S1, e2, hf⟩ := q_lt_nm hf
  rw [e2]
  obtain ⟨R3, e4, hf⟩ := q_lt_nm hf
  rw [e4]
  obtain ⟨I5, e6, hf⟩ := q_lt_nm hf
  rw [e6]
  refine v_dup hX dX2_init_8 rfl ?_
  refine v_bipush 8 hX dX2_init_9 (by decide) ?_
  obtain ⟨S7, R8, I9, h10, hf⟩ := q_bd3_some hf
  refine v_callI (As := [.int (q_i 8)]) (rest := [.ref (S.2.2), .ref a0]) hX mi_RX2_11 (c_X8_init h10) ⟨rfl, rfl⟩ ⟨Nat.le_of_ble_eq_true rfl, Nat.le_of_ble_eq_true rfl⟩ rfl rfl (Nat.le_of_ble_eq_true rfl) ⟨Nat.le_of_ble_eq_true rfl, Nat.le_of_ble_eq_true rfl⟩ dX2_init_11 ?_
  refine v_cs (k := 4) (n := 22) rfl rfl ?_
  obtain ⟨g11, hf⟩ := q_gd_some hf
  obtain ⟨g12, hf⟩ := q_gd_some hf
  refine v_putFA hX fa_RX2_14 (fun _ _ => rfl) rfl rfl g11 g12 (by decide) dX2_init_14 ?_
  obtain ⟨R13, e14, hf⟩ := q_lt_nm hf
  rw [e14]
  refine v_aload_n 0 0 hX dX2_init_17 rfl rfl ?_
  refine v_bipush 8 hX dX2_init_18 (by decide) ?_
  refine v_iconst hX dX2_init_20 ?_
  refine v_mna (N := 8) (K := 5) hX wc_RX2_20 rfl rfl (by decide) (by decide) (Nat.le_of_ble_eq_true rfl) (Nat.le_of_ble_eq_true rfl) dX2_init_21 ?_
  refine v_cs (k := 13) (n := 70) rfl rfl ?_
  obtain ⟨S15, e16, hf⟩ := q_lt_nm hf
  rw [e16]
  obtain ⟨R17, e18, hf⟩ := q_lt_nm hf
  rw [e18]
  obtain ⟨I19, e20, hf⟩ := q_lt_nm hf
  rw [e20]
  obtain ⟨g21, hf⟩ := q_gd_some hf
  obtain ⟨g22, hf⟩ := q_gd_some hf
  refine v_putFA hX fa_RX2_22 (fun _ _ => rfl) rfl rfl g21 g22 (by decide) dX2_init_25 ?_
  obtain ⟨R23, e24, hf⟩ := q_lt_nm hf
  rw [e24]
  refine v_aload_n 0 0 hX dX2_init_28 rfl rfl ?_
  refine v_iconst hX dX2_init_29 ?_
  refine v_newarr (k := 12) (N := 5) (t0 := 0) (ty := .int) hX (by decide) wa_int rfl (fun _ => rfl) (fun _ => rfl) (fun _ _ h => h) (by omega) (by decide) (fun M hM => by show M * _ ≤ _; simp only [componentBytes]; omega) (Nat.le_of_ble_eq_true rfl) (Nat.le_of_ble_eq_true rfl) dX2_init_30 ?_
  refine v_cs (k := 14) (n := 75) rfl rfl ?_
  obtain ⟨S25, e26, hf⟩ := q_lt_nm hf
  rw [e26]
  obtain ⟨R27, e28, hf⟩ := q_lt_nm hf
  rw [e28]
  obtain ⟨I29, e30, hf⟩ := q_lt_nm hf
  rw [e30]
  obtain ⟨g31, hf⟩ := q_gd_some hf
  obtain ⟨g32, hf⟩ := q_gd_some hf
  refine v_putFA hX fa_RX2_25 (fun _ _ => rfl) rfl rfl g31 g32 (by decide) dX2_init_32 ?_
  obtain ⟨R33, e34, hf⟩ := q_lt_nm hf
  rw [e34]
  cases hf
  exact v_vret hX hE (Nat.le_of_ble_eq_true rfl) (Nat.le_of_ble_eq_true rfl) dX2_init_35
noncomputable def f_X2_weigh_L12 (S : q_S) (R : q_HR) (p0 : Nat) (p1 : Int) (p2 : Int) (k : Int → q_HI → Option (q_HI)) : Nat → Int → q_HI → Option (q_HI)
  | 0, _, _ => none
  | n + 1, v3, I => q_gd (r_i v3) (if 5 ≤ v3 then k v3 I else q_gd (S.1 p0 = 3) (q_gd (S.1 (R p0 2) = 12) (q_gd ((0 : Int) ≤ v3 ∧ v3 < (S.2.1 (R p0 2) : Int)) (q_gd (S.1 (R p0 1) = 17) (q_gd ((0 : Int) ≤ p1 ∧ p1 < (S.2.1 (R p0 1) : Int)) (q_gd (S.1 (R (R p0 1) (Int.toNat p1)) = 12) (q_gd ((0 : Int) ≤ v3 ∧ v3 < (S.2.1 (R (R p0 1) (Int.toNat p1)) : Int)) (q_lt (q_up I (R p0 2) (Int.toNat v3) ((I (R p0 2) (Int.toNat v3)) + (p2 * (I (R (R p0 1) (Int.toNat p1)) (Int.toNat v3))))) fun I13 => f_X2_weigh_L12 S R p0 p1 p2 k n (v3 + 1) I13))))))))
noncomputable def f_X2_weigh (S : q_S) (R : q_HR) (I : q_HI) (a0 : Nat) (a1 : Int) (a2 : Int) : Option (q_HI) := q_gd (S.1 a0 = 3) (q_lt (q_up I a0 3 ((I a0 3) + a2)) fun I2 => f_X2_weigh_L12 S R a0 a1 a2 (fun w15 I16 => some I16) 100 0 I2)
abbrev rmX2_weigh : Room := { frames := 0, cells := 0, slots := 0, locals := 0 }
set_option maxRecDepth 20000 in
theorem l_X2_weigh_12 {X : q_X} {S : q_S} {R : q_HR} {p0 : Nat} {p1 : Int} {p2 : Int} {Iz : q_HI} (hX : q_C X cX2_weigh 4 RX2 none "weigh") (hE : q_E X 0 0 none S R Iz) {k : Int → q_HI → Option (q_HI)} (hk : ∀ (v3 : Int) (I : q_HI), k v3 I = some Iz → q_V X rmX2_weigh cX2_weigh 4 0 0 42 [] [] S R I) :
    ∀ (n : Nat), ∀ (v3 : Int) (I : q_HI), f_X2_weigh_L12 S R p0 p1 p2 k n v3 I = some Iz → q_V X rmX2_weigh cX2_weigh 4 0 0 12 [(0, .ref p0), (1, .int (q_i p1)), (2, .int (q_i p2)), (3, .int (q_i v3))] [] S R I := by
  intro n
  induction n with
  | zero =>
    intro v3 I hf
    cases (show (none : Option (q_HI)) = some _ from hf)
  | succ n ih =>
    intro v3 I hf
    rw [f_X2_weigh_L12] at hf
    refine v_iload_n 3 3 hX dX2_weigh_12 rfl rfl ?_
    refine v_iconst hX dX2_weigh_13 ?_
    obtain ⟨g4, hf⟩ := q_gd_some hf
    refine v_icmp_ge (tgt := 42) hX g4 (by unfold r_i; omega) dX2_weigh_14 (by decide) (fun c5 => ?_) (fun c5 => ?_)
    · replace hf := q_ifp c5 hf
      refine v_sub (lv' := []) [] rfl ?_
      exact hk _ _ hf
    · replace hf := q_ifn c5 hf
      refine v_aload_n 0 0 hX dX2_weigh_17 rfl rfl ?_
      obtain ⟨g6, hf⟩ := q_gd_some hf
      obtain ⟨g7, hf⟩ := q_gd_some hf
      refine v_getA hX fa_RX2_25 (fun _ _ => rfl) g6 g7 (by decide) dX2_weigh_18 ?_
      refine v_iload_n 3 3 hX dX2_weigh_21 rfl rfl ?_
      refine v_dup2 hX dX2_weigh_22 rfl rfl ?_
      obtain ⟨g8, hf⟩ := q_gd_some hf
      refine v_iaload hX g7 g8 dX2_weigh_23 ?_
      refine v_iload_n 2 2 hX dX2_weigh_24 rfl rfl ?_
      refine v_aload_n 0 0 hX dX2_weigh_25 rfl rfl ?_
      obtain ⟨g9, hf⟩ := q_gd_some hf
      refine v_getA hX fa_RX2_22 (fun _ _ => rfl) g6 g9 (by decide) dX2_weigh_26 ?_
      refine v_iload_n 1 1 hX dX2_weigh_29 rfl rfl ?_
      obtain ⟨g10, hf⟩ := q_gd_some hf
      obtain ⟨g11, hf⟩ := q_gd_some hf
      refine v_aaload (t0 := 5) hX g9 (by decide) (fun _ => rfl) rfl (fun _ _ _ => rfl) g10 g11 (by decide) dX2_weigh_30 ?_
      refine v_iload_n 3 3 hX dX2_weigh_31 rfl rfl ?_
      obtain ⟨g12, hf⟩ := q_gd_some hf
      refine v_iaload hX g11 g12 dX2_weigh_32 ?_
      refine v_imul hX dX2_weigh_33 ?_
      refine v_iadd hX dX2_weigh_34 ?_
      refine v_iastore hX g7 g8 dX2_weigh_35 ?_
      obtain ⟨I13, e14, hf⟩ := q_lt_nm hf
      rw [e14]
      refine v_iinc 3 (lw := [(3, .int (q_i (v3 + 1))), (0, .ref p0), (1, .int (q_i p1)), (2, .int (q_i p2))]) hX dX2_weigh_36 rfl (by decide) rfl ?_
      refine v_goto (tgt := 12) hX dX2_weigh_39 (by decide) ?_
      refine v_sub (lv' := [(0, .ref p0), (1, .int (q_i p1)), (2, .int (q_i p2)), (3, .int (q_i (v3 + 1)))]) [1, 2, 3, 0] rfl ?_
      exact ih _ _ hf
set_option maxRecDepth 20000 in
theorem c_X2_weigh {S : q_S} {R : q_HR} {I : q_HI} {a0 : Nat} {a1 : Int} {a2 : Int} {Iz : q_HI} (hf : f_X2_weigh S R I a0 a1 a2 = some Iz) : ∀ (l : Launch) (D : va_G) (cy : Nat → ClassId) (B : Nat), Met l yX2_weigh [Cond.code yX2_weigh cX2_weigh 4 none] rmX2_weigh (q_Pc B D cy [.ref a0, .int (q_i a1), .int (q_i a2)] S R I) (q_Qc B D cy none S R Iz) 0 0 (fun q => B ≤ q) := by
  refine q_met (lv := [(0, .ref a0), (1, .int (q_i a1)), (2, .int (q_i a2))]) (own := RX2) (nm := "weigh") (by decide) rfl rfl (Nat.le_of_ble_eq_true rfl) rfl (fun X hX hE => ?_)
  unfold f_X2_weigh at hf
  refine v_aload_n 0 0 hX dX2_weigh_0 rfl rfl ?_
  refine v_dup hX dX2_weigh_1 rfl ?_
  obtain ⟨g1, hf⟩ := q_gd_some hf
  refine v_getI hX fa_RX2_29 (fun _ _ => rfl) g1 dX2_weigh_2 ?_
  refine v_iload_n 2 2 hX dX2_weigh_5 rfl rfl ?_
  refine v_iadd hX dX2_weigh_6 ?_
  refine v_putI hX fa_RX2_29 rfl g1 dX2_weigh_7 ?_
  obtain ⟨I2, e3, hf⟩ := q_lt_nm hf
  rw [e3]
  refine v_iconst hX dX2_weigh_10 ?_
  refine v_istore_n 3 (lw := [(3, .int (q_i 0)), (0, .ref a0), (1, .int (q_i a1)), (2, .int (q_i a2))]) hX dX2_weigh_11 rfl (by decide) rfl ?_
  refine v_sub (lv' := [(0, .ref a0), (1, .int (q_i a1)), (2, .int (q_i a2)), (3, .int (q_i 0))]) [1, 2, 3, 0] rfl ?_
  refine l_X2_weigh_12 hX hE (fun w15 I16 hk => ?_) 100 _ _ hf
  clear hf
  have hf := hk
  clear hk
  cases hf
  exact v_vret hX hE (Nat.le_of_ble_eq_true rfl) (Nat.le_of_ble_eq_true rfl) dX2_weigh_42
noncomputable def f_X2_refresh_L7 (S : q_S) (R : q_HR) (p0 : Nat) (p1 : Nat) (k : Int → q_HI → Option (q_HI)) : Nat → Int → q_HI → Option (q_HI)
  | 0, _, _ => none
  | n + 1, v2, I => q_gd (r_i v2) (if 5 ≤ v2 then k v2 I else q_gd (S.1 p0 = 3) (q_gd (S.1 (R p0 2) = 12) (q_gd ((0 : Int) ≤ v2 ∧ v2 < (S.2.1 (R p0 2) : Int)) (q_lt (q_up I (R p0 2) (Int.toNat v2) 0) fun I9 => f_X2_refresh_L7 S R p0 p1 k n (v2 + 1) I9))))
noncomputable def f_X2_refresh_L27 (S : q_S) (R : q_HR) (p0 : Nat) (p1 : Nat) (k : Int → q_HI → Option (q_HI)) : Nat → Int → q_HI → Option (q_HI)
  | 0, _, _ => none
  | n + 1, v2, I => q_gd (S.1 p0 = 3) (q_gd (S.1 (R p0 0) = 9) (q_gd (r_i v2) (q_gd (r_i (I (R p0 0) 2)) (if I (R p0 0) 2 ≤ v2 then k v2 I else q_bd (f_X8_at S R I (R p0 0) v2) fun r18 => q_gd (S.1 (R p0 1) = 17) (q_gd ((0 : Int) ≤ v2 ∧ v2 < (S.2.1 (R p0 1) : Int)) (q_gd (S.1 (R (R p0 1) (Int.toNat v2)) = 12) (q_gd (S.1 p1 = 1) (q_bd (f_X0_fillFeatures S R I p1 r18 (R (R p0 1) (Int.toNat v2))) fun I24 => q_bd (f_X2_weigh S R I24 p0 v2 1) fun I26 => f_X2_refresh_L27 S R p0 p1 k n (v2 + 1) I26))))))))
noncomputable def f_X2_refresh (S : q_S) (R : q_HR) (I : q_HI) (a0 : Nat) (a1 : Nat) : Option (q_HI) := q_gd (S.1 a0 = 3) (q_lt (q_up I a0 3 0) fun I2 => f_X2_refresh_L7 S R a0 a1 (fun w11 I12 => f_X2_refresh_L27 S R a0 a1 (fun w28 I29 => some I29) 100 0 I12) 100 0 I2)
abbrev rmX2_refresh : Room := { frames := 4, cells := 0, slots := 0, locals := 96 }
set_option maxRecDepth 20000 in
theorem l_X2_refresh_7 {X : q_X} {S : q_S} {R : q_HR} {p0 : Nat} {p1 : Nat} {Iz : q_HI} (hX : q_C X cX2_refresh 3 RX2 none "refresh") (hE : q_E X 0 0 none S R Iz) {k : Int → q_HI → Option (q_HI)} (hk : ∀ (v2 : Int) (I : q_HI), k v2 I = some Iz → q_V X rmX2_refresh cX2_refresh 3 0 0 25 [(0, .ref p0), (1, .ref p1)] [] S R I) :
    ∀ (n : Nat), ∀ (v2 : Int) (I : q_HI), f_X2_refresh_L7 S R p0 p1 k n v2 I = some Iz → q_V X rmX2_refresh cX2_refresh 3 0 0 7 [(0, .ref p0), (1, .ref p1), (2, .int (q_i v2))] [] S R I := by
  intro n
  induction n with
  | zero =>
    intro v2 I hf
    cases (show (none : Option (q_HI)) = some _ from hf)
  | succ n ih =>
    intro v2 I hf
    rw [f_X2_refresh_L7] at hf
    refine v_iload_n 2 2 hX dX2_refresh_7 rfl rfl ?_
    refine v_iconst hX dX2_refresh_8 ?_
    obtain ⟨g4, hf⟩ := q_gd_some hf
    refine v_icmp_ge (tgt := 25) hX g4 (by unfold r_i; omega) dX2_refresh_9 (by decide) (fun c5 => ?_) (fun c5 => ?_)
    · replace hf := q_ifp c5 hf
      refine v_sub (lv' := [(0, .ref p0), (1, .ref p1)]) [0, 1] rfl ?_
      exact hk _ _ hf
    · replace hf := q_ifn c5 hf
      refine v_aload_n 0 0 hX dX2_refresh_12 rfl rfl ?_
      obtain ⟨g6, hf⟩ := q_gd_some hf
      obtain ⟨g7, hf⟩ := q_gd_some hf
      refine v_getA hX fa_RX2_25 (fun _ _ => rfl) g6 g7 (by decide) dX2_refresh_13 ?_
      refine v_iload_n 2 2 hX dX2_refresh_16 rfl rfl ?_
      refine v_iconst hX dX2_refresh_17 ?_
      obtain ⟨g8, hf⟩ := q_gd_some hf
      refine v_iastore hX g7 g8 dX2_refresh_18 ?_
      obtain ⟨I9, e10, hf⟩ := q_lt_nm hf
      rw [e10]
      refine v_iinc 2 (lw := [(2, .int (q_i (v2 + 1))), (0, .ref p0), (1, .ref p1)]) hX dX2_refresh_19 rfl (by decide) rfl ?_
      refine v_goto (tgt := 7) hX dX2_refresh_22 (by decide) ?_
      refine v_sub (lv' := [(0, .ref p0), (1, .ref p1), (2, .int (q_i (v2 + 1)))]) [1, 2, 0] rfl ?_
      exact ih _ _ hf
set_option maxRecDepth 20000 in
theorem l_X2_refresh_27 {X : q_X} {S : q_S} {R : q_HR} {p0 : Nat} {p1 : Nat} {Iz : q_HI} (hX : q_C X cX2_refresh 3 RX2 none "refresh") (hE : q_E X 0 0 none S R Iz) {k : Int → q_HI → Option (q_HI)} (hk : ∀ (v2 : Int) (I : q_HI), k v2 I = some Iz → q_V X rmX2_refresh cX2_refresh 3 0 0 68 [] [] S R I) :
    ∀ (n : Nat), ∀ (v2 : Int) (I : q_HI), f_X2_refresh_L27 S R p0 p1 k n v2 I = some Iz → q_V X rmX2_refresh cX2_refresh 3 0 0 27 [(0, .ref p0), (1, .ref p1), (2, .int (q_i v2))] [] S R I := by
  intro n
  induction n with
  | zero =>
    intro v2 I hf
    cases (show (none : Option (q_HI)) = some _ from hf)
  | succ n ih =>
    intro v2 I hf
    rw [f_X2_refresh_L27] at hf
    refine v_iload_n 2 2 hX dX2_refresh_27 rfl rfl ?_
    refine v_aload_n 0 0 hX dX2_refresh_28 rfl rfl ?_
    obtain ⟨g13, hf⟩ := q_gd_some hf
    obtain ⟨g14, hf⟩ := q_gd_some hf
    refine v_getA hX fa_RX2_14 (fun _ _ => rfl) g13 g14 (by decide) dX2_refresh_29 ?_
    refine v_getI hX fa_RX2_33 (fun _ _ => rfl) g14 dX2_refresh_32 ?_
    obtain ⟨g15, hf⟩ := q_gd_some hf
    obtain ⟨g16, hf⟩ := q_gd_some hf
    refine v_icmp_ge (tgt := 68) hX g15 g16 dX2_refresh_35 (by decide) (fun c17 => ?_) (fun c17 => ?_)
    · replace hf := q_ifp c17 hf
      refine v_sub (lv' := []) [] rfl ?_
      exact hk _ _ hf
    · replace hf := q_ifn c17 hf
      refine v_aload_n 1 1 hX dX2_refresh_38 rfl rfl ?_
      refine v_aload_n 0 0 hX dX2_refresh_39 rfl rfl ?_
      refine v_getA hX fa_RX2_14 (fun _ _ => rfl) g13 g14 (by decide) dX2_refresh_40 ?_
      refine v_iload_n 2 2 hX dX2_refresh_43 rfl rfl ?_
      obtain ⟨r18, h19, hf⟩ := q_bd_some hf
      refine v_callV (As := [.int (q_i v2)]) (rest := [.ref p1]) (st1 := [.ref r18, .ref p1]) (some (.ref r18)) hX mv_RX2_36 (c_X8_at h19) ⟨rfl, rfl⟩ ⟨Nat.le_of_ble_eq_true rfl, Nat.le_of_ble_eq_true rfl⟩ g14 rfl rfl (Nat.le_of_ble_eq_true rfl) ⟨Nat.le_of_ble_eq_true rfl, Nat.le_of_ble_eq_true rfl⟩ dX2_refresh_44 rfl ?_
      refine v_aload_n 0 0 hX dX2_refresh_47 rfl rfl ?_
      obtain ⟨g20, hf⟩ := q_gd_some hf
      refine v_getA hX fa_RX2_22 (fun _ _ => rfl) g13 g20 (by decide) dX2_refresh_48 ?_
      refine v_iload_n 2 2 hX dX2_refresh_51 rfl rfl ?_
      obtain ⟨g21, hf⟩ := q_gd_some hf
      obtain ⟨g22, hf⟩ := q_gd_some hf
      refine v_aaload (t0 := 5) hX g20 (by decide) (fun _ => rfl) rfl (fun _ _ _ => rfl) g21 g22 (by decide) dX2_refresh_52 ?_
      obtain ⟨g23, hf⟩ := q_gd_some hf
      obtain ⟨I24, h25, hf⟩ := q_bd_some hf
      refine v_callV (As := [.ref r18, .ref (R (R p0 1) (Int.toNat v2))]) (rest := []) (st1 := []) none hX mv_RX2_40 (c_X0_fillFeatures h25) ⟨rfl, rfl⟩ ⟨Nat.le_of_ble_eq_true rfl, Nat.le_of_ble_eq_true rfl⟩ g23 rfl rfl (Nat.le_of_ble_eq_true rfl) ⟨Nat.le_of_ble_eq_true rfl, Nat.le_of_ble_eq_true rfl⟩ dX2_refresh_53 rfl ?_
      refine v_aload_n 0 0 hX dX2_refresh_56 rfl rfl ?_
      refine v_iload_n 2 2 hX dX2_refresh_57 rfl rfl ?_
      refine v_iconst hX dX2_refresh_58 ?_
      obtain ⟨I26, h27, hf⟩ := q_bd_some hf
      refine v_callV (As := [.int (q_i v2), .int (q_i 1)]) (rest := []) (st1 := []) none hX mv_RX2_46 (c_X2_weigh h27) ⟨rfl, rfl⟩ ⟨Nat.le_of_ble_eq_true rfl, Nat.le_of_ble_eq_true rfl⟩ g13 rfl rfl (Nat.le_of_ble_eq_true rfl) ⟨Nat.le_of_ble_eq_true rfl, Nat.le_of_ble_eq_true rfl⟩ dX2_refresh_59 rfl ?_
      refine v_iinc 2 (lw := [(2, .int (q_i (v2 + 1))), (0, .ref p0), (1, .ref p1)]) hX dX2_refresh_62 rfl (by decide) rfl ?_
      refine v_goto (tgt := 27) hX dX2_refresh_65 (by decide) ?_
      refine v_sub (lv' := [(0, .ref p0), (1, .ref p1), (2, .int (q_i (v2 + 1)))]) [1, 2, 0] rfl ?_
      exact ih _ _ hf
set_option maxRecDepth 20000 in
theorem c_X2_refresh {S : q_S} {R : q_HR} {I : q_HI} {a0 : Nat} {a1 : Nat} {Iz : q_HI} (hf : f_X2_refresh S R I a0 a1 = some Iz) : ∀ (l : Launch) (D : va_G) (cy : Nat → ClassId) (B : Nat), Met l yX2_refresh [Cond.code yX2_refresh cX2_refresh 3 none] rmX2_refresh (q_Pc B D cy [.ref a0, .ref a1] S R I) (q_Qc B D cy none S R Iz) 0 0 (fun q => B ≤ q) := by
  refine q_met (lv := [(0, .ref a0), (1, .ref a1)]) (own := RX2) (nm := "refresh") (by decide) rfl rfl (Nat.le_of_ble_eq_true rfl) rfl (fun X hX hE => ?_)
  unfold f_X2_refresh at hf
  refine v_aload_n 0 0 hX dX2_refresh_0 rfl rfl ?_
  refine v_iconst hX dX2_refresh_1 ?_
  obtain ⟨g1, hf⟩ := q_gd_some hf
  refine v_putI hX fa_RX2_29 rfl g1 dX2_refresh_2 ?_
  obtain ⟨I2, e3, hf⟩ := q_lt_nm hf
  rw [e3]
  refine v_iconst hX dX2_refresh_5 ?_
  refine v_istore_n 2 (lw := [(2, .int (q_i 0)), (0, .ref a0), (1, .ref a1)]) hX dX2_refresh_6 rfl (by decide) rfl ?_
  refine v_sub (lv' := [(0, .ref a0), (1, .ref a1), (2, .int (q_i 0))]) [1, 2, 0] rfl ?_
  refine l_X2_refresh_7 hX hE (fun w11 I12 hk => ?_) 100 _ _ hf
  clear hf
  have hf := hk
  clear hk
  refine v_iconst hX dX2_refresh_25 ?_
  refine v_istore_n 2 (lw := [(2, .int (q_i 0)), (0, .ref a0), (1, .ref a1)]) hX dX2_refresh_26 rfl (by decide) rfl ?_
  refine v_sub (lv' := [(0, .ref a0), (1, .ref a1), (2, .int (q_i 0))]) [1, 2, 0] rfl ?_
  refine l_X2_refresh_27 hX hE (fun w28 I29 hk => ?_) 100 _ _ hf
  clear hf
  have hf := hk
  clear hk
  cases hf
  exact v_vret hX hE (Nat.le_of_ble_eq_true rfl) (Nat.le_of_ble_eq_true rfl) dX2_refresh_68
noncomputable def f_X2_squaresOf_L5 (S : q_S) (R : q_HR) (I : q_HI) (p0 : Nat) (p1 : Int) (k : Int → Int → Option (Int)) : Nat → Int → Int → Option (Int)
  | 0, _, _ => none
  | n + 1, v2, v4 => q_gd (S.1 p0 = 3) (q_gd (S.1 (R p0 0) = 9) (q_gd (r_i v4) (q_gd (r_i (I (R p0 0) 2)) (if I (R p0 0) 2 ≤ v4 then k v2 v4 else q_gd (S.1 (R p0 1) = 17) (q_gd ((0 : Int) ≤ v4 ∧ v4 < (S.2.1 (R p0 1) : Int)) (q_gd (S.1 (R (R p0 1) (Int.toNat v4)) = 12) (q_gd ((0 : Int) ≤ p1 ∧ p1 < (S.2.1 (R (R p0 1) (Int.toNat v4)) : Int)) (q_gd (r_i (I (R (R p0 1) (Int.toNat v4)) (Int.toNat p1))) (q_lt (v2 + ((I (R (R p0 1) (Int.toNat v4)) (Int.toNat p1)) * (I (R (R p0 1) (Int.toNat v4)) (Int.toNat p1)))) fun x11 => f_X2_squaresOf_L5 S R I p0 p1 k n x11 (v4 + 1))))))))))
noncomputable def f_X2_squaresOf (S : q_S) (R : q_HR) (I : q_HI) (a0 : Nat) (a1 : Int) : Option (Int) := f_X2_squaresOf_L5 S R I a0 a1 (fun w13 w14 => some w13) 100 0 0
abbrev rmX2_squaresOf : Room := { frames := 0, cells := 0, slots := 0, locals := 0 }
set_option maxRecDepth 20000 in
theorem l_X2_squaresOf_5 {X : q_X} {S : q_S} {R : q_HR} {I : q_HI} {p0 : Nat} {p1 : Int} {rz : Int} (hX : q_C X cX2_squaresOf 5 RX2 (some .long) "squaresOf") (hE : q_E X 0 0 (some (.long (q_l rz))) S R I) {k : Int → Int → Option (Int)} (hk : ∀ (v2 : Int) (v4 : Int), k v2 v4 = some rz → q_V X rmX2_squaresOf cX2_squaresOf 5 0 0 47 [(2, .long (q_l v2))] [] S R I) :
    ∀ (n : Nat), ∀ (v2 : Int) (v4 : Int), f_X2_squaresOf_L5 S R I p0 p1 k n v2 v4 = some rz → q_V X rmX2_squaresOf cX2_squaresOf 5 0 0 5 [(0, .ref p0), (1, .int (q_i p1)), (2, .long (q_l v2)), (4, .int (q_i v4))] [] S R I := by
  intro n
  induction n with
  | zero =>
    intro v2 v4 hf
    cases (show (none : Option (Int)) = some _ from hf)
  | succ n ih =>
    intro v2 v4 hf
    rw [f_X2_squaresOf_L5] at hf
    refine v_iload 3 hX dX2_squaresOf_5 rfl ?_
    refine v_aload_n 0 0 hX dX2_squaresOf_7 rfl rfl ?_
    obtain ⟨g1, hf⟩ := q_gd_some hf
    obtain ⟨g2, hf⟩ := q_gd_some hf
    refine v_getA hX fa_RX2_14 (fun _ _ => rfl) g1 g2 (by decide) dX2_squaresOf_8 ?_
    refine v_getI hX fa_RX2_33 (fun _ _ => rfl) g2 dX2_squaresOf_11 ?_
    obtain ⟨g3, hf⟩ := q_gd_some hf
    obtain ⟨g4, hf⟩ := q_gd_some hf
    refine v_icmp_ge (tgt := 47) hX g3 g4 dX2_squaresOf_14 (by decide) (fun c5 => ?_) (fun c5 => ?_)
    · replace hf := q_ifp c5 hf
      refine v_sub (lv' := [(2, .long (q_l v2))]) [2] rfl ?_
      exact hk _ _ hf
    · replace hf := q_ifn c5 hf
      refine v_lload_n 2 2 hX dX2_squaresOf_17 rfl rfl ?_
      refine v_aload_n 0 0 hX dX2_squaresOf_18 rfl rfl ?_
      obtain ⟨g6, hf⟩ := q_gd_some hf
      refine v_getA hX fa_RX2_22 (fun _ _ => rfl) g1 g6 (by decide) dX2_squaresOf_19 ?_
      refine v_iload 3 hX dX2_squaresOf_22 rfl ?_
      obtain ⟨g7, hf⟩ := q_gd_some hf
      obtain ⟨g8, hf⟩ := q_gd_some hf
      refine v_aaload (t0 := 5) hX g6 (by decide) (fun _ => rfl) rfl (fun _ _ _ => rfl) g7 g8 (by decide) dX2_squaresOf_24 ?_
      refine v_iload_n 1 1 hX dX2_squaresOf_25 rfl rfl ?_
      obtain ⟨g9, hf⟩ := q_gd_some hf
      refine v_iaload hX g8 g9 dX2_squaresOf_26 ?_
      obtain ⟨g10, hf⟩ := q_gd_some hf
      refine v_i2l hX g10 dX2_squaresOf_27 ?_
      refine v_aload_n 0 0 hX dX2_squaresOf_28 rfl rfl ?_
      refine v_getA hX fa_RX2_22 (fun _ _ => rfl) g1 g6 (by decide) dX2_squaresOf_29 ?_
      refine v_iload 3 hX dX2_squaresOf_32 rfl ?_
      refine v_aaload (t0 := 5) hX g6 (by decide) (fun _ => rfl) rfl (fun _ _ _ => rfl) g7 g8 (by decide) dX2_squaresOf_34 ?_
      refine v_iload_n 1 1 hX dX2_squaresOf_35 rfl rfl ?_
      refine v_iaload hX g8 g9 dX2_squaresOf_36 ?_
      refine v_i2l hX g10 dX2_squaresOf_37 ?_
      refine v_lmul hX dX2_squaresOf_38 ?_
      refine v_ladd hX dX2_squaresOf_39 ?_
      obtain ⟨x11, e12, hf⟩ := q_lt_nm hf
      rw [e12]
      refine v_lstore_n 2 (lw := [(2, .long (q_l x11)), (0, .ref p0), (1, .int (q_i p1)), (4, .int (q_i v4))]) hX dX2_squaresOf_40 rfl (by decide) rfl ?_
      refine v_iinc 3 (lw := [(4, .int (q_i (v4 + 1))), (2, .long (q_l x11)), (0, .ref p0), (1, .int (q_i p1))]) hX dX2_squaresOf_41 rfl (by decide) rfl ?_
      refine v_goto (tgt := 5) hX dX2_squaresOf_44 (by decide) ?_
      refine v_sub (lv' := [(0, .ref p0), (1, .int (q_i p1)), (2, .long (q_l x11)), (4, .int (q_i (v4 + 1)))]) [2, 3, 1, 0] rfl ?_
      exact ih _ _ hf
set_option maxRecDepth 20000 in
theorem c_X2_squaresOf {S : q_S} {R : q_HR} {I : q_HI} {a0 : Nat} {a1 : Int} {rz : Int} (hf : f_X2_squaresOf S R I a0 a1 = some rz) : ∀ (l : Launch) (D : va_G) (cy : Nat → ClassId) (B : Nat), Met l yX2_squaresOf [Cond.code yX2_squaresOf cX2_squaresOf 5 (some .long)] rmX2_squaresOf (q_Pc B D cy [.ref a0, .int (q_i a1)] S R I) (q_Qc B D cy (some (.long (q_l rz))) S R I) 0 0 (fun q => B ≤ q) := by
  refine q_met (lv := [(0, .ref a0), (1, .int (q_i a1))]) (own := RX2) (nm := "squaresOf") (by decide) rfl rfl (Nat.le_of_ble_eq_true rfl) rfl (fun X hX hE => ?_)
  unfold f_X2_squaresOf at hf
  refine v_lconst 0 hX dX2_squaresOf_0 (by decide) ?_
  refine v_lstore_n 2 (lw := [(2, .long (q_l 0)), (0, .ref a0), (1, .int (q_i a1))]) hX dX2_squaresOf_1 rfl (by decide) rfl ?_
  refine v_iconst hX dX2_squaresOf_2 ?_
  refine v_istore (lw := [(4, .int (q_i 0)), (2, .long (q_l 0)), (0, .ref a0), (1, .int (q_i a1))]) hX dX2_squaresOf_3 (by decide) rfl ?_
  refine v_sub (lv' := [(0, .ref a0), (1, .int (q_i a1)), (2, .long (q_l 0)), (4, .int (q_i 0))]) [2, 3, 1, 0] rfl ?_
  refine l_X2_squaresOf_5 hX hE (fun w13 w14 hk => ?_) 100 _ _ hf
  clear hf
  have hf := hk
  clear hk
  refine v_lload_n 2 0 hX dX2_squaresOf_47 rfl rfl ?_
  cases hf
  exact v_lret hX hE (Nat.le_of_ble_eq_true rfl) (Nat.le_of_ble_eq_true rfl) dX2_squaresOf_48
noncomputable def f_X4_init (S : q_S) (R : q_HR) (I : q_HI) (a0 : Nat) : Option (q_S × q_HR × q_HI) := q_lt (q_nm S 8 8) fun S1 => q_lt (q_zm R S.2.2 8) fun R3 => q_lt (q_zi I S.2.2 8) fun I5 => q_gd (S1.1 a0 = 5) (q_gd (S1.1 (S.2.2) = 17) (q_lt (q_up R3 a0 0 (S.2.2)) fun R9 => q_lt (q_nw S1 12 (Int.toNat 8)) fun S11 => q_lt (q_zr R9 S1.2.2 0) fun R13 => q_lt (q_zr I5 S1.2.2 0) fun I15 => q_gd (S11.1 a0 = 5) (q_gd (S11.1 (S1.2.2) = 12) (q_lt (q_up R13 a0 1 (S1.2.2)) fun R19 => some (S11, R19, I15)))))
abbrev rmX4_init : Room := { frames := 1, cells := 10, slots := 80, locals := 12 }
set_option maxRecDepth 20000 in
theorem c_X4_init {S : q_S} {R : q_HR} {I : q_HI} {a0 : Nat} {Sz : q_S} {Rz : q_HR} {Iz : q_HI} (hf : f_X4_init S R I a0 = some (Sz, Rz, Iz)) : ∀ (l : Launch) (D : va_G) (cy : Nat → ClassId) (B : Nat), Met l yX4_init [Cond.code yX4_init cX4_init 1 none] rmX4_init (q_Pc B D cy [.ref a0] S R I) (q_Qc B D cy none Sz Rz Iz) 10 80 (fun q => B ≤ q) := by
  refine q_met (lv := [(0, .ref a0)]) (own := RX4) (nm := "<init>") (by decide) rfl rfl (Nat.le_of_ble_eq_true rfl) rfl (fun X hX hE => ?_)
  unfold f_X4_init at hf
  refine v_aload_n 0 0 hX dX4_init_0 rfl rfl ?_
  refine v_objInit hX wo_RX4_3 wo_inst wo_code (Nat.le_of_ble_eq_true rfl) (Nat.le_of_ble_eq_true rfl) dX4_init_1 ?_
  refine v_aload_n 0 0 hX dX4_init_4 rfl rfl ?_
  refine v_bipush 8 hX dX4_init_5 (by decide) ?_
  refine v_bipush 8 hX dX4_init_7 (by decide) ?_
  refine v_mna (N := 8) (K := 8) hX wc_RX4_9 rfl rfl (by decide) (by decide) (Nat.le_of_ble_eq_true rfl) (Nat.le_of_ble_eq_true rfl) dX4_init_9 ?_
  refine v_cs (k := 9) (n := 72) rfl rfl ?_
  obtain ⟨S1, e2, hf⟩ := q_lt_nm hf
  rw [e2]
  obtain ⟨R3, e4, hf⟩ := q_lt_nm hf
  rw [e4]
  obtain ⟨I5, e6, hf⟩ := q_lt_nm hf
  rw [e6]
  obtain ⟨g7, hf⟩ := q_gd_some hf
  obtain ⟨g8, hf⟩ := q_gd_some hf
  refine v_putFA hX fa_RX4_11 (fun _ _ => rfl) rfl rfl g7 g8 (by decide) dX4_init_13 ?_
  obtain ⟨R9, e10, hf⟩ := q_lt_nm hf
  rw [e10]
  refine v_aload_n 0 0 hX dX4_init_16 rfl rfl ?_
  refine v_bipush 8 hX dX4_init_17 (by decide) ?_
  refine v_newarr (k := 12) (N := 8) (t0 := 0) (ty := .int) hX (by decide) wa_int rfl (fun _ => rfl) (fun _ => rfl) (fun _ _ h => h) (by omega) (by decide) (fun M hM => by show M * _ ≤ _; simp only [componentBytes]; omega) (Nat.le_of_ble_eq_true rfl) (Nat.le_of_ble_eq_true rfl) dX4_init_19 ?_
  refine v_cs (k := 10) (n := 80) rfl rfl ?_
  obtain ⟨S11, e12, hf⟩ := q_lt_nm hf
  rw [e12]
  obtain ⟨R13, e14, hf⟩ := q_lt_nm hf
  rw [e14]
  obtain ⟨I15, e16, hf⟩ := q_lt_nm hf
  rw [e16]
  obtain ⟨g17, hf⟩ := q_gd_some hf
  obtain ⟨g18, hf⟩ := q_gd_some hf
  refine v_putFA hX fa_RX4_16 (fun _ _ => rfl) rfl rfl g17 g18 (by decide) dX4_init_21 ?_
  obtain ⟨R19, e20, hf⟩ := q_lt_nm hf
  rw [e20]
  cases hf
  exact v_vret hX hE (Nat.le_of_ble_eq_true rfl) (Nat.le_of_ble_eq_true rfl) dX4_init_24
noncomputable def f_X4_clear_L2 (S : q_S) (R : q_HR) (p0 : Nat) (k : Int → q_HI → Option (q_HI)) : Nat → Int → q_HI → Option (q_HI)
  | 0, _, _ => none
  | n + 1, v1, I => q_gd (r_i v1) (if 8 ≤ v1 then k v1 I else q_gd (S.1 p0 = 5) (q_gd (S.1 (R p0 1) = 12) (q_gd ((0 : Int) ≤ v1 ∧ v1 < (S.2.1 (R p0 1) : Int)) (q_lt (q_up I (R p0 1) (Int.toNat v1) (-1)) fun I6 => f_X4_clear_L2 S R p0 k n (v1 + 1) I6))))
noncomputable def f_X4_clear (S : q_S) (R : q_HR) (I : q_HI) (a0 : Nat) : Option (q_HI) := f_X4_clear_L2 S R a0 (fun w8 I9 => some I9) 100 0 I
abbrev rmX4_clear : Room := { frames := 0, cells := 0, slots := 0, locals := 0 }
set_option maxRecDepth 20000 in
theorem l_X4_clear_2 {X : q_X} {S : q_S} {R : q_HR} {p0 : Nat} {Iz : q_HI} (hX : q_C X cX4_clear 2 RX4 none "clear") (hE : q_E X 0 0 none S R Iz) {k : Int → q_HI → Option (q_HI)} (hk : ∀ (v1 : Int) (I : q_HI), k v1 I = some Iz → q_V X rmX4_clear cX4_clear 2 0 0 21 [] [] S R I) :
    ∀ (n : Nat), ∀ (v1 : Int) (I : q_HI), f_X4_clear_L2 S R p0 k n v1 I = some Iz → q_V X rmX4_clear cX4_clear 2 0 0 2 [(0, .ref p0), (1, .int (q_i v1))] [] S R I := by
  intro n
  induction n with
  | zero =>
    intro v1 I hf
    cases (show (none : Option (q_HI)) = some _ from hf)
  | succ n ih =>
    intro v1 I hf
    rw [f_X4_clear_L2] at hf
    refine v_iload_n 1 1 hX dX4_clear_2 rfl rfl ?_
    refine v_bipush 8 hX dX4_clear_3 (by decide) ?_
    obtain ⟨g1, hf⟩ := q_gd_some hf
    refine v_icmp_ge (tgt := 21) hX g1 (by unfold r_i; omega) dX4_clear_5 (by decide) (fun c2 => ?_) (fun c2 => ?_)
    · replace hf := q_ifp c2 hf
      refine v_sub (lv' := []) [] rfl ?_
      exact hk _ _ hf
    · replace hf := q_ifn c2 hf
      refine v_aload_n 0 0 hX dX4_clear_8 rfl rfl ?_
      obtain ⟨g3, hf⟩ := q_gd_some hf
      obtain ⟨g4, hf⟩ := q_gd_some hf
      refine v_getA hX fa_RX4_16 (fun _ _ => rfl) g3 g4 (by decide) dX4_clear_9 ?_
      refine v_iload_n 1 1 hX dX4_clear_12 rfl rfl ?_
      refine v_iconst hX dX4_clear_13 ?_
      obtain ⟨g5, hf⟩ := q_gd_some hf
      refine v_iastore hX g4 g5 dX4_clear_14 ?_
      obtain ⟨I6, e7, hf⟩ := q_lt_nm hf
      rw [e7]
      refine v_iinc 1 (lw := [(1, .int (q_i (v1 + 1))), (0, .ref p0)]) hX dX4_clear_15 rfl (by decide) rfl ?_
      refine v_goto (tgt := 2) hX dX4_clear_18 (by decide) ?_
      refine v_sub (lv' := [(0, .ref p0), (1, .int (q_i (v1 + 1)))]) [1, 0] rfl ?_
      exact ih _ _ hf
set_option maxRecDepth 20000 in
theorem c_X4_clear {S : q_S} {R : q_HR} {I : q_HI} {a0 : Nat} {Iz : q_HI} (hf : f_X4_clear S R I a0 = some Iz) : ∀ (l : Launch) (D : va_G) (cy : Nat → ClassId) (B : Nat), Met l yX4_clear [Cond.code yX4_clear cX4_clear 2 none] rmX4_clear (q_Pc B D cy [.ref a0] S R I) (q_Qc B D cy none S R Iz) 0 0 (fun q => B ≤ q) := by
  refine q_met (lv := [(0, .ref a0)]) (own := RX4) (nm := "clear") (by decide) rfl rfl (Nat.le_of_ble_eq_true rfl) rfl (fun X hX hE => ?_)
  unfold f_X4_clear at hf
  refine v_iconst hX dX4_clear_0 ?_
  refine v_istore_n 1 (lw := [(1, .int (q_i 0)), (0, .ref a0)]) hX dX4_clear_1 rfl (by decide) rfl ?_
  refine v_sub (lv' := [(0, .ref a0), (1, .int (q_i 0))]) [1, 0] rfl ?_
  refine l_X4_clear_2 hX hE (fun w8 I9 hk => ?_) 100 _ _ hf
  clear hf
  have hf := hk
  clear hk
  cases hf
  exact v_vret hX hE (Nat.le_of_ble_eq_true rfl) (Nat.le_of_ble_eq_true rfl) dX4_clear_21
noncomputable def f_X4_include (S : q_S) (R : q_HR) (I : q_HI) (a0 : Nat) (a1 : Int) : Option (q_HI) := q_gd (S.1 a0 = 5) (q_gd (S.1 (R a0 1) = 12) (q_gd ((0 : Int) ≤ a1 ∧ a1 < (S.2.1 (R a0 1) : Int)) (q_lt (q_up I (R a0 1) (Int.toNat a1) a1) fun I4 => some I4)))
abbrev rmX4_include : Room := { frames := 0, cells := 0, slots := 0, locals := 0 }
set_option maxRecDepth 20000 in
theorem c_X4_include {S : q_S} {R : q_HR} {I : q_HI} {a0 : Nat} {a1 : Int} {Iz : q_HI} (hf : f_X4_include S R I a0 a1 = some Iz) : ∀ (l : Launch) (D : va_G) (cy : Nat → ClassId) (B : Nat), Met l yX4_include [Cond.code yX4_include cX4_include 2 none] rmX4_include (q_Pc B D cy [.ref a0, .int (q_i a1)] S R I) (q_Qc B D cy none S R Iz) 0 0 (fun q => B ≤ q) := by
  refine q_met (lv := [(0, .ref a0), (1, .int (q_i a1))]) (own := RX4) (nm := "include") (by decide) rfl rfl (Nat.le_of_ble_eq_true rfl) rfl (fun X hX hE => ?_)
  unfold f_X4_include at hf
  refine v_aload_n 0 0 hX dX4_include_0 rfl rfl ?_
  obtain ⟨g1, hf⟩ := q_gd_some hf
  obtain ⟨g2, hf⟩ := q_gd_some hf
  refine v_getA hX fa_RX4_16 (fun _ _ => rfl) g1 g2 (by decide) dX4_include_1 ?_
  refine v_iload_n 1 1 hX dX4_include_4 rfl rfl ?_
  refine v_iload_n 1 1 hX dX4_include_5 rfl rfl ?_
  obtain ⟨g3, hf⟩ := q_gd_some hf
  refine v_iastore hX g2 g3 dX4_include_6 ?_
  obtain ⟨I4, e5, hf⟩ := q_lt_nm hf
  rw [e5]
  cases hf
  exact v_vret hX hE (Nat.le_of_ble_eq_true rfl) (Nat.le_of_ble_eq_true rfl) dX4_include_7
noncomputable def f_X4_setGap (S : q_S) (R : q_HR) (I : q_HI) (a0 : Nat) (a1 : Int) (a2 : Int) (a3 : Int) : Option (q_HI) := q_gd (S.1 a0 = 5) (q_gd (S.1 (R a0 0) = 17) (q_gd ((0 : Int) ≤ a1 ∧ a1 < (S.2.1 (R a0 0) : Int)) (q_gd (S.1 (R (R a0 0) (Int.toNat a1)) = 12) (q_gd ((0 : Int) ≤ a2 ∧ a2 < (S.2.1 (R (R a0 0) (Int.toNat a1)) : Int)) (q_lt (q_up I (R (R a0 0) (Int.toNat a1)) (Int.toNat a2) a3) fun I6 => some I6)))))
abbrev rmX4_setGap : Room := { frames := 0, cells := 0, slots := 0, locals := 0 }
set_option maxRecDepth 20000 in
theorem c_X4_setGap {S : q_S} {R : q_HR} {I : q_HI} {a0 : Nat} {a1 : Int} {a2 : Int} {a3 : Int} {Iz : q_HI} (hf : f_X4_setGap S R I a0 a1 a2 a3 = some Iz) : ∀ (l : Launch) (D : va_G) (cy : Nat → ClassId) (B : Nat), Met l yX4_setGap [Cond.code yX4_setGap cX4_setGap 4 none] rmX4_setGap (q_Pc B D cy [.ref a0, .int (q_i a1), .int (q_i a2), .int (q_i a3)] S R I) (q_Qc B D cy none S R Iz) 0 0 (fun q => B ≤ q) := by
  refine q_met (lv := [(0, .ref a0), (1, .int (q_i a1)), (2, .int (q_i a2)), (3, .int (q_i a3))]) (own := RX4) (nm := "setGap") (by decide) rfl rfl (Nat.le_of_ble_eq_true rfl) rfl (fun X hX hE => ?_)
  unfold f_X4_setGap at hf
  refine v_aload_n 0 0 hX dX4_setGap_0 rfl rfl ?_
  obtain ⟨g1, hf⟩ := q_gd_some hf
  obtain ⟨g2, hf⟩ := q_gd_some hf
  refine v_getA hX fa_RX4_11 (fun _ _ => rfl) g1 g2 (by decide) dX4_setGap_1 ?_
  refine v_iload_n 1 1 hX dX4_setGap_4 rfl rfl ?_
  obtain ⟨g3, hf⟩ := q_gd_some hf
  obtain ⟨g4, hf⟩ := q_gd_some hf
  refine v_aaload (t0 := 5) hX g2 (by decide) (fun _ => rfl) rfl (fun _ _ _ => rfl) g3 g4 (by decide) dX4_setGap_5 ?_
  refine v_iload_n 2 2 hX dX4_setGap_6 rfl rfl ?_
  refine v_iload_n 3 3 hX dX4_setGap_7 rfl rfl ?_
  obtain ⟨g5, hf⟩ := q_gd_some hf
  refine v_iastore hX g4 g5 dX4_setGap_8 ?_
  obtain ⟨I6, e7, hf⟩ := q_lt_nm hf
  rw [e7]
  cases hf
  exact v_vret hX hE (Nat.le_of_ble_eq_true rfl) (Nat.le_of_ble_eq_true rfl) dX4_setGap_9
noncomputable def f_X4_pairCode (S : q_S) (R : q_HR) (I : q_HI) (a0 : Nat) : Option (Int) := q_gd (S.1 a0 = 5) (some ((10 * (I a0 2)) + (I a0 3)))
abbrev rmX4_pairCode : Room := { frames := 0, cells := 0, slots := 0, locals := 0 }
set_option maxRecDepth 20000 in
theorem c_X4_pairCode {S : q_S} {R : q_HR} {I : q_HI} {a0 : Nat} {rz : Int} (hf : f_X4_pairCode S R I a0 = some rz) : ∀ (l : Launch) (D : va_G) (cy : Nat → ClassId) (B : Nat), Met l yX4_pairCode [Cond.code yX4_pairCode cX4_pairCode 1 (some .int)] rmX4_pairCode (q_Pc B D cy [.ref a0] S R I) (q_Qc B D cy (some (.int (q_i rz))) S R I) 0 0 (fun q => B ≤ q) := by
  refine q_met (lv := [(0, .ref a0)]) (own := RX4) (nm := "pairCode") (by decide) rfl rfl (Nat.le_of_ble_eq_true rfl) rfl (fun X hX hE => ?_)
  unfold f_X4_pairCode at hf
  refine v_bipush 10 hX dX4_pairCode_0 (by decide) ?_
  refine v_aload_n 0 0 hX dX4_pairCode_2 rfl rfl ?_
  obtain ⟨g1, hf⟩ := q_gd_some hf
  refine v_getI hX fa_RX4_20 (fun _ _ => rfl) g1 dX4_pairCode_3 ?_
  refine v_imul hX dX4_pairCode_6 ?_
  refine v_aload_n 0 0 hX dX4_pairCode_7 rfl rfl ?_
  refine v_getI hX fa_RX4_24 (fun _ _ => rfl) g1 dX4_pairCode_8 ?_
  refine v_iadd hX dX4_pairCode_11 ?_
  cases hf
  exact v_iret hX hE (Nat.le_of_ble_eq_true rfl) (Nat.le_of_ble_eq_true rfl) dX4_pairCode_12
noncomputable def f_X4_comesFirst (S : q_S) (R : q_HR) (I : q_HI) (a0 : Nat) (a1 : Int) (a2 : Int) (a3 : Int) : Option (Int) := q_gd (S.1 a0 = 5) (q_gd (r_i a3) (q_gd (r_i (I a0 4)) (if a3 = I a0 4 then q_gd (r_i a1) (q_gd (r_i (I a0 2)) (if a1 = I a0 2 then q_gd (r_i a2) (q_gd (r_i (I a0 3)) (if I a0 3 ≤ a2 then some 0 else some 1)) else if I a0 2 ≤ a1 then some 0 else some 1)) else if I a0 4 ≤ a3 then some 0 else some 1)))
abbrev rmX4_comesFirst : Room := { frames := 0, cells := 0, slots := 0, locals := 0 }
set_option maxRecDepth 20000 in
theorem c_X4_comesFirst {S : q_S} {R : q_HR} {I : q_HI} {a0 : Nat} {a1 : Int} {a2 : Int} {a3 : Int} {rz : Int} (hf : f_X4_comesFirst S R I a0 a1 a2 a3 = some rz) : ∀ (l : Launch) (D : va_G) (cy : Nat → ClassId) (B : Nat), Met l yX4_comesFirst [Cond.code yX4_comesFirst cX4_comesFirst 4 (some .boolean)] rmX4_comesFirst (q_Pc B D cy [.ref a0, .int (q_i a1), .int (q_i a2), .int (q_i a3)] S R I) (q_Qc B D cy (some (.int (q_i rz))) S R I) 0 0 (fun q => B ≤ q) := by
  refine q_met (lv := [(0, .ref a0), (1, .int (q_i a1)), (2, .int (q_i a2)), (3, .int (q_i a3))]) (own := RX4) (nm := "comesFirst") (by decide) rfl rfl (Nat.le_of_ble_eq_true rfl) rfl (fun X hX hE => ?_)
  unfold f_X4_comesFirst at hf
  refine v_iload_n 3 3 hX dX4_comesFirst_0 rfl rfl ?_
  refine v_aload_n 0 0 hX dX4_comesFirst_1 rfl rfl ?_
  obtain ⟨g1, hf⟩ := q_gd_some hf
  refine v_getI hX fa_RX4_51 (fun _ _ => rfl) g1 dX4_comesFirst_2 ?_
  obtain ⟨g2, hf⟩ := q_gd_some hf
  obtain ⟨g3, hf⟩ := q_gd_some hf
  refine v_icmp_eq (tgt := 22) hX g2 g3 dX4_comesFirst_5 (by decide) (fun c4 => ?_) (fun c4 => ?_)
  · replace hf := q_ifp c4 hf
    refine v_iload_n 1 1 hX dX4_comesFirst_22 rfl rfl ?_
    refine v_aload_n 0 0 hX dX4_comesFirst_23 rfl rfl ?_
    refine v_getI hX fa_RX4_20 (fun _ _ => rfl) g1 dX4_comesFirst_24 ?_
    obtain ⟨g5, hf⟩ := q_gd_some hf
    obtain ⟨g6, hf⟩ := q_gd_some hf
    refine v_icmp_eq (tgt := 46) hX g5 g6 dX4_comesFirst_27 (by decide) (fun c7 => ?_) (fun c7 => ?_)
    · replace hf := q_ifp c7 hf
      refine v_iload_n 2 2 hX dX4_comesFirst_46 rfl rfl ?_
      refine v_aload_n 0 0 hX dX4_comesFirst_47 rfl rfl ?_
      refine v_getI hX fa_RX4_24 (fun _ _ => rfl) g1 dX4_comesFirst_48 ?_
      obtain ⟨g8, hf⟩ := q_gd_some hf
      obtain ⟨g9, hf⟩ := q_gd_some hf
      refine v_icmp_ge (tgt := 58) hX g8 g9 dX4_comesFirst_51 (by decide) (fun c10 => ?_) (fun c10 => ?_)
      · replace hf := q_ifp c10 hf
        refine v_iconst hX dX4_comesFirst_58 ?_
        cases hf
        exact v_zret hX (Or.inl rfl) hE (Nat.le_of_ble_eq_true rfl) (Nat.le_of_ble_eq_true rfl) dX4_comesFirst_59
      · replace hf := q_ifn c10 hf
        refine v_iconst hX dX4_comesFirst_54 ?_
        refine v_goto (tgt := 59) hX dX4_comesFirst_55 (by decide) ?_
        cases hf
        exact v_zret hX (Or.inr rfl) hE (Nat.le_of_ble_eq_true rfl) (Nat.le_of_ble_eq_true rfl) dX4_comesFirst_59
    · replace hf := q_ifn c7 hf
      refine v_iload_n 1 1 hX dX4_comesFirst_30 rfl rfl ?_
      refine v_aload_n 0 0 hX dX4_comesFirst_31 rfl rfl ?_
      refine v_getI hX fa_RX4_20 (fun _ _ => rfl) g1 dX4_comesFirst_32 ?_
      refine v_icmp_ge (tgt := 42) hX g5 g6 dX4_comesFirst_35 (by decide) (fun c11 => ?_) (fun c11 => ?_)
      · replace hf := q_ifp c11 hf
        refine v_iconst hX dX4_comesFirst_42 ?_
        refine v_goto (tgt := 59) hX dX4_comesFirst_43 (by decide) ?_
        cases hf
        exact v_zret hX (Or.inl rfl) hE (Nat.le_of_ble_eq_true rfl) (Nat.le_of_ble_eq_true rfl) dX4_comesFirst_59
      · replace hf := q_ifn c11 hf
        refine v_iconst hX dX4_comesFirst_38 ?_
        refine v_goto (tgt := 59) hX dX4_comesFirst_39 (by decide) ?_
        cases hf
        exact v_zret hX (Or.inr rfl) hE (Nat.le_of_ble_eq_true rfl) (Nat.le_of_ble_eq_true rfl) dX4_comesFirst_59
  · replace hf := q_ifn c4 hf
    refine v_iload_n 3 3 hX dX4_comesFirst_8 rfl rfl ?_
    refine v_aload_n 0 0 hX dX4_comesFirst_9 rfl rfl ?_
    refine v_getI hX fa_RX4_51 (fun _ _ => rfl) g1 dX4_comesFirst_10 ?_
    refine v_icmp_ge (tgt := 20) hX g2 g3 dX4_comesFirst_13 (by decide) (fun c12 => ?_) (fun c12 => ?_)
    · replace hf := q_ifp c12 hf
      refine v_iconst hX dX4_comesFirst_20 ?_
      cases hf
      exact v_zret hX (Or.inl rfl) hE (Nat.le_of_ble_eq_true rfl) (Nat.le_of_ble_eq_true rfl) dX4_comesFirst_21
    · replace hf := q_ifn c12 hf
      refine v_iconst hX dX4_comesFirst_16 ?_
      refine v_goto (tgt := 21) hX dX4_comesFirst_17 (by decide) ?_
      cases hf
      exact v_zret hX (Or.inr rfl) hE (Nat.le_of_ble_eq_true rfl) (Nat.le_of_ble_eq_true rfl) dX4_comesFirst_21
noncomputable def f_X4_consider (S : q_S) (R : q_HR) (I : q_HI) (a0 : Nat) (a1 : Int) (a2 : Int) (a3 : Int) : Option (q_HI) := q_gd (r_i a1) (q_gd (r_i a2) (q_lt (q_mn a1 a2) fun x3 => q_lt (q_mx a1 a2) fun x5 => q_gd (S.1 a0 = 5) (q_gd (r_i (I a0 2)) (if I a0 2 = (-1) then q_lt (q_up I a0 2 x3) fun I10 => q_lt (q_up I10 a0 3 x5) fun I12 => q_lt (q_up I12 a0 4 a3) fun I14 => some I14 else q_bd (f_X4_comesFirst S R I a0 x3 x5 a3) fun r16 => q_gd (r_i r16) (if r16 = 0 then some I else q_lt (q_up I a0 2 x3) fun I20 => q_lt (q_up I20 a0 3 x5) fun I22 => q_lt (q_up I22 a0 4 a3) fun I24 => some I24)))))
abbrev rmX4_consider : Room := { frames := 1, cells := 0, slots := 0, locals := 23 }
set_option maxRecDepth 20000 in
theorem c_X4_consider {S : q_S} {R : q_HR} {I : q_HI} {a0 : Nat} {a1 : Int} {a2 : Int} {a3 : Int} {Iz : q_HI} (hf : f_X4_consider S R I a0 a1 a2 a3 = some Iz) : ∀ (l : Launch) (D : va_G) (cy : Nat → ClassId) (B : Nat), Met l yX4_consider [Cond.code yX4_consider cX4_consider 6 none] rmX4_consider (q_Pc B D cy [.ref a0, .int (q_i a1), .int (q_i a2), .int (q_i a3)] S R I) (q_Qc B D cy none S R Iz) 0 0 (fun q => B ≤ q) := by
  refine q_met (lv := [(0, .ref a0), (1, .int (q_i a1)), (2, .int (q_i a2)), (3, .int (q_i a3))]) (own := RX4) (nm := "consider") (by decide) rfl rfl (Nat.le_of_ble_eq_true rfl) rfl (fun X hX hE => ?_)
  unfold f_X4_consider at hf
  refine v_iload_n 1 1 hX dX4_consider_0 rfl rfl ?_
  refine v_iload_n 2 2 hX dX4_consider_1 rfl rfl ?_
  obtain ⟨g1, hf⟩ := q_gd_some hf
  obtain ⟨g2, hf⟩ := q_gd_some hf
  refine v_mminI hX g1 g2 wml_RX4_38 (Nat.le_of_ble_eq_true rfl) (Nat.le_of_ble_eq_true rfl) (Nat.le_of_ble_eq_true rfl) (Nat.le_of_ble_eq_true rfl) dX4_consider_2 ?_
  obtain ⟨x3, e4, hf⟩ := q_lt_nm hf
  rw [e4]
  refine v_istore (lw := [(4, .int (q_i x3)), (0, .ref a0), (1, .int (q_i a1)), (2, .int (q_i a2)), (3, .int (q_i a3))]) hX dX4_consider_5 (by decide) rfl ?_
  refine v_iload_n 1 2 hX dX4_consider_7 rfl rfl ?_
  refine v_iload_n 2 3 hX dX4_consider_8 rfl rfl ?_
  refine v_mmaxI hX g1 g2 wml_RX4_44 (Nat.le_of_ble_eq_true rfl) (Nat.le_of_ble_eq_true rfl) (Nat.le_of_ble_eq_true rfl) (Nat.le_of_ble_eq_true rfl) dX4_consider_9 ?_
  obtain ⟨x5, e6, hf⟩ := q_lt_nm hf
  rw [e6]
  refine v_istore (lw := [(5, .int (q_i x5)), (4, .int (q_i x3)), (0, .ref a0), (1, .int (q_i a1)), (2, .int (q_i a2)), (3, .int (q_i a3))]) hX dX4_consider_12 (by decide) rfl ?_
  refine v_aload_n 0 2 hX dX4_consider_14 rfl rfl ?_
  obtain ⟨g7, hf⟩ := q_gd_some hf
  refine v_getI hX fa_RX4_20 (fun _ _ => rfl) g7 dX4_consider_15 ?_
  refine v_iconst hX dX4_consider_18 ?_
  obtain ⟨g8, hf⟩ := q_gd_some hf
  refine v_icmp_eq (tgt := 34) hX g8 (by unfold r_i; omega) dX4_consider_19 (by decide) (fun c9 => ?_) (fun c9 => ?_)
  · replace hf := q_ifp c9 hf
    refine v_aload_n 0 2 hX dX4_consider_34 rfl rfl ?_
    refine v_iload 1 hX dX4_consider_35 rfl ?_
    refine v_putI hX fa_RX4_20 rfl g7 dX4_consider_37 ?_
    obtain ⟨I10, e11, hf⟩ := q_lt_nm hf
    rw [e11]
    refine v_aload_n 0 2 hX dX4_consider_40 rfl rfl ?_
    refine v_iload 0 hX dX4_consider_41 rfl ?_
    refine v_putI hX fa_RX4_24 rfl g7 dX4_consider_43 ?_
    obtain ⟨I12, e13, hf⟩ := q_lt_nm hf
    rw [e13]
    refine v_aload_n 0 2 hX dX4_consider_46 rfl rfl ?_
    refine v_iload_n 3 5 hX dX4_consider_47 rfl rfl ?_
    refine v_putI hX fa_RX4_51 rfl g7 dX4_consider_48 ?_
    obtain ⟨I14, e15, hf⟩ := q_lt_nm hf
    rw [e15]
    cases hf
    exact v_vret hX hE (Nat.le_of_ble_eq_true rfl) (Nat.le_of_ble_eq_true rfl) dX4_consider_51
  · replace hf := q_ifn c9 hf
    refine v_aload_n 0 2 hX dX4_consider_22 rfl rfl ?_
    refine v_iload 1 hX dX4_consider_23 rfl ?_
    refine v_iload 0 hX dX4_consider_25 rfl ?_
    refine v_iload_n 3 5 hX dX4_consider_27 rfl rfl ?_
    obtain ⟨r16, h17, hf⟩ := q_bd_some hf
    refine v_callV (As := [.int (q_i x3), .int (q_i x5), .int (q_i a3)]) (rest := []) (st1 := [.int (q_i r16)]) (some (.int (q_i r16))) hX mv_RX4_47 (c_X4_comesFirst h17) ⟨rfl, rfl⟩ ⟨Nat.le_of_ble_eq_true rfl, Nat.le_of_ble_eq_true rfl⟩ g7 rfl rfl (Nat.le_of_ble_eq_true rfl) ⟨Nat.le_of_ble_eq_true rfl, Nat.le_of_ble_eq_true rfl⟩ dX4_consider_28 rfl ?_
    obtain ⟨g18, hf⟩ := q_gd_some hf
    refine v_if_eq (tgt := 51) hX g18 dX4_consider_31 (by decide) (fun c19 => ?_) (fun c19 => ?_)
    · replace hf := q_ifp c19 hf
      cases hf
      exact v_vret hX hE (Nat.le_of_ble_eq_true rfl) (Nat.le_of_ble_eq_true rfl) dX4_consider_51
    · replace hf := q_ifn c19 hf
      refine v_aload_n 0 2 hX dX4_consider_34 rfl rfl ?_
      refine v_iload 1 hX dX4_consider_35 rfl ?_
      refine v_putI hX fa_RX4_20 rfl g7 dX4_consider_37 ?_
      obtain ⟨I20, e21, hf⟩ := q_lt_nm hf
      rw [e21]
      refine v_aload_n 0 2 hX dX4_consider_40 rfl rfl ?_
      refine v_iload 0 hX dX4_consider_41 rfl ?_
      refine v_putI hX fa_RX4_24 rfl g7 dX4_consider_43 ?_
      obtain ⟨I22, e23, hf⟩ := q_lt_nm hf
      rw [e23]
      refine v_aload_n 0 2 hX dX4_consider_46 rfl rfl ?_
      refine v_iload_n 3 5 hX dX4_consider_47 rfl rfl ?_
      refine v_putI hX fa_RX4_51 rfl g7 dX4_consider_48 ?_
      obtain ⟨I24, e25, hf⟩ := q_lt_nm hf
      rw [e25]
      cases hf
      exact v_vret hX hE (Nat.le_of_ble_eq_true rfl) (Nat.le_of_ble_eq_true rfl) dX4_consider_51
noncomputable def f_X4_findPair_L17 (S : q_S) (R : q_HR) (p0 : Nat) (p1 : Int) (k : Int → q_HI → Option (Int × q_HI)) : Nat → Int → q_HI → Option (Int × q_HI)
  | 0, _, _ => none
  | n + 1, v2, I => q_gd (r_i v2) (if 8 ≤ v2 then k v2 I else q_gd (S.1 p0 = 5) (q_gd (S.1 (R p0 1) = 12) (q_gd ((0 : Int) ≤ p1 ∧ p1 < (S.2.1 (R p0 1) : Int)) (q_gd ((0 : Int) ≤ v2 ∧ v2 < (S.2.1 (R p0 1) : Int)) (q_gd (r_i (I (R p0 1) (Int.toNat p1))) (q_gd (r_i (I (R p0 1) (Int.toNat v2))) (if I (R p0 1) (Int.toNat p1) = I (R p0 1) (Int.toNat v2) then f_X4_findPair_L17 S R p0 p1 k n (v2 + 1) I else if I (R p0 1) (Int.toNat p1) = (-1) then f_X4_findPair_L17 S R p0 p1 k n (v2 + 1) I else if I (R p0 1) (Int.toNat v2) = (-1) then f_X4_findPair_L17 S R p0 p1 k n (v2 + 1) I else q_gd (S.1 (R p0 0) = 17) (q_gd ((0 : Int) ≤ p1 ∧ p1 < (S.2.1 (R p0 0) : Int)) (q_gd (S.1 (R (R p0 0) (Int.toNat p1)) = 12) (q_gd ((0 : Int) ≤ v2 ∧ v2 < (S.2.1 (R (R p0 0) (Int.toNat p1)) : Int)) (q_bd (f_X4_consider S R I p0 (I (R p0 1) (Int.toNat p1)) (I (R p0 1) (Int.toNat v2)) (I (R (R p0 0) (Int.toNat p1)) (Int.toNat v2))) fun I25 => f_X4_findPair_L17 S R p0 p1 k n (v2 + 1) I25)))))))))))
noncomputable def f_X4_findPair_L7 (S : q_S) (R : q_HR) (p0 : Nat) (k : Int → q_HI → Option (Int × q_HI)) : Nat → Int → q_HI → Option (Int × q_HI)
  | 0, _, _ => none
  | n + 1, v1, I => q_gd (r_i v1) (if 8 ≤ v1 then k v1 I else q_lt (v1 + 1) fun x6 => f_X4_findPair_L17 S R p0 v1 (fun w27 I28 => f_X4_findPair_L7 S R p0 k n (v1 + 1) I28) 100 x6 I)
noncomputable def f_X4_findPair (S : q_S) (R : q_HR) (I : q_HI) (a0 : Nat) : Option (Int × q_HI) := q_gd (S.1 a0 = 5) (q_lt (q_up I a0 2 (-1)) fun I2 => f_X4_findPair_L7 S R a0 (fun w29 I30 => q_gd (r_i (I30 a0 2)) (if I30 a0 2 = (-1) then some (0, I30) else some (1, I30))) 100 0 I2)
abbrev rmX4_findPair : Room := { frames := 2, cells := 0, slots := 0, locals := 48 }
set_option maxRecDepth 20000 in
theorem l_X4_findPair_17 {X : q_X} {S : q_S} {R : q_HR} {p0 : Nat} {p1 : Int} {rz : Int} {Iz : q_HI} (hX : q_C X cX4_findPair 4 RX4 (some .boolean) "findPair") (hE : q_E X 0 0 (some (.int (q_i rz))) S R Iz) {k : Int → q_HI → Option (Int × q_HI)} (hk : ∀ (v2 : Int) (I : q_HI), k v2 I = some (rz, Iz) → q_V X rmX4_findPair cX4_findPair 4 0 0 98 [(0, .ref p0), (1, .int (q_i p1))] [] S R I) :
    ∀ (n : Nat), ∀ (v2 : Int) (I : q_HI), f_X4_findPair_L17 S R p0 p1 k n v2 I = some (rz, Iz) → q_V X rmX4_findPair cX4_findPair 4 0 0 17 [(0, .ref p0), (1, .int (q_i p1)), (2, .int (q_i v2))] [] S R I := by
  intro n
  induction n with
  | zero =>
    intro v2 I hf
    cases (show (none : Option (Int × q_HI)) = some _ from hf)
  | succ n ih =>
    intro v2 I hf
    rw [f_X4_findPair_L17] at hf
    refine v_iload_n 2 2 hX dX4_findPair_17 rfl rfl ?_
    refine v_bipush 8 hX dX4_findPair_18 (by decide) ?_
    obtain ⟨g8, hf⟩ := q_gd_some hf
    refine v_icmp_ge (tgt := 98) hX g8 (by unfold r_i; omega) dX4_findPair_20 (by decide) (fun c9 => ?_) (fun c9 => ?_)
    · replace hf := q_ifp c9 hf
      refine v_sub (lv' := [(0, .ref p0), (1, .int (q_i p1))]) [0, 1] rfl ?_
      exact hk _ _ hf
    · replace hf := q_ifn c9 hf
      refine v_aload_n 0 0 hX dX4_findPair_23 rfl rfl ?_
      obtain ⟨g10, hf⟩ := q_gd_some hf
      obtain ⟨g11, hf⟩ := q_gd_some hf
      refine v_getA hX fa_RX4_16 (fun _ _ => rfl) g10 g11 (by decide) dX4_findPair_24 ?_
      refine v_iload_n 1 1 hX dX4_findPair_27 rfl rfl ?_
      obtain ⟨g12, hf⟩ := q_gd_some hf
      refine v_iaload hX g11 g12 dX4_findPair_28 ?_
      refine v_aload_n 0 0 hX dX4_findPair_29 rfl rfl ?_
      refine v_getA hX fa_RX4_16 (fun _ _ => rfl) g10 g11 (by decide) dX4_findPair_30 ?_
      refine v_iload_n 2 2 hX dX4_findPair_33 rfl rfl ?_
      obtain ⟨g13, hf⟩ := q_gd_some hf
      refine v_iaload hX g11 g13 dX4_findPair_34 ?_
      obtain ⟨g14, hf⟩ := q_gd_some hf
      obtain ⟨g15, hf⟩ := q_gd_some hf
      refine v_icmp_eq (tgt := 42) hX g14 g15 dX4_findPair_35 (by decide) (fun c16 => ?_) (fun c16 => ?_)
      · replace hf := q_ifp c16 hf
        refine v_iconst hX dX4_findPair_42 ?_
        refine v_istore_n 3 (lw := [(3, .int (q_i 0)), (0, .ref p0), (1, .int (q_i p1)), (2, .int (q_i v2))]) hX dX4_findPair_43 rfl (by decide) rfl ?_
        refine v_iload_n 3 0 hX dX4_findPair_44 rfl rfl ?_
        refine v_if_eq (tgt := 92) hX (by unfold r_i; omega) dX4_findPair_45 (by decide) (fun _ => ?_) (fun c17 => absurd (by decide) c17)
        refine v_iinc 3 (lw := [(2, .int (q_i (v2 + 1))), (3, .int (q_i 0)), (0, .ref p0), (1, .int (q_i p1))]) hX dX4_findPair_92 rfl (by decide) rfl ?_
        refine v_goto (tgt := 17) hX dX4_findPair_95 (by decide) ?_
        refine v_sub (lv' := [(0, .ref p0), (1, .int (q_i p1)), (2, .int (q_i (v2 + 1)))]) [2, 3, 0] rfl ?_
        exact ih _ _ hf
      · replace hf := q_ifn c16 hf
        refine v_iconst hX dX4_findPair_38 ?_
        refine v_goto (tgt := 43) hX dX4_findPair_39 (by decide) ?_
        refine v_istore_n 3 (lw := [(3, .int (q_i 1)), (0, .ref p0), (1, .int (q_i p1)), (2, .int (q_i v2))]) hX dX4_findPair_43 rfl (by decide) rfl ?_
        refine v_iload_n 3 0 hX dX4_findPair_44 rfl rfl ?_
        refine v_if_eq (tgt := 92) hX (by unfold r_i; omega) dX4_findPair_45 (by decide) (fun c18 => absurd c18 (by decide)) (fun _ => ?_)
        refine v_aload_n 0 1 hX dX4_findPair_48 rfl rfl ?_
        refine v_getA hX fa_RX4_16 (fun _ _ => rfl) g10 g11 (by decide) dX4_findPair_49 ?_
        refine v_iload_n 1 2 hX dX4_findPair_52 rfl rfl ?_
        refine v_iaload hX g11 g12 dX4_findPair_53 ?_
        refine v_iconst hX dX4_findPair_54 ?_
        refine v_icmp_eq (tgt := 92) hX g14 (by unfold r_i; omega) dX4_findPair_55 (by decide) (fun c19 => ?_) (fun c19 => ?_)
        · replace hf := q_ifp c19 hf
          refine v_iinc 3 (lw := [(2, .int (q_i (v2 + 1))), (3, .int (q_i 1)), (0, .ref p0), (1, .int (q_i p1))]) hX dX4_findPair_92 rfl (by decide) rfl ?_
          refine v_goto (tgt := 17) hX dX4_findPair_95 (by decide) ?_
          refine v_sub (lv' := [(0, .ref p0), (1, .int (q_i p1)), (2, .int (q_i (v2 + 1)))]) [2, 3, 0] rfl ?_
          exact ih _ _ hf
        · replace hf := q_ifn c19 hf
          refine v_aload_n 0 1 hX dX4_findPair_58 rfl rfl ?_
          refine v_getA hX fa_RX4_16 (fun _ _ => rfl) g10 g11 (by decide) dX4_findPair_59 ?_
          refine v_iload_n 2 3 hX dX4_findPair_62 rfl rfl ?_
          refine v_iaload hX g11 g13 dX4_findPair_63 ?_
          refine v_iconst hX dX4_findPair_64 ?_
          refine v_icmp_eq (tgt := 92) hX g15 (by unfold r_i; omega) dX4_findPair_65 (by decide) (fun c20 => ?_) (fun c20 => ?_)
          · replace hf := q_ifp c20 hf
            refine v_iinc 3 (lw := [(2, .int (q_i (v2 + 1))), (3, .int (q_i 1)), (0, .ref p0), (1, .int (q_i p1))]) hX dX4_findPair_92 rfl (by decide) rfl ?_
            refine v_goto (tgt := 17) hX dX4_findPair_95 (by decide) ?_
            refine v_sub (lv' := [(0, .ref p0), (1, .int (q_i p1)), (2, .int (q_i (v2 + 1)))]) [2, 3, 0] rfl ?_
            exact ih _ _ hf
          · replace hf := q_ifn c20 hf
            refine v_aload_n 0 1 hX dX4_findPair_68 rfl rfl ?_
            refine v_aload_n 0 1 hX dX4_findPair_69 rfl rfl ?_
            refine v_getA hX fa_RX4_16 (fun _ _ => rfl) g10 g11 (by decide) dX4_findPair_70 ?_
            refine v_iload_n 1 2 hX dX4_findPair_73 rfl rfl ?_
            refine v_iaload hX g11 g12 dX4_findPair_74 ?_
            refine v_aload_n 0 1 hX dX4_findPair_75 rfl rfl ?_
            refine v_getA hX fa_RX4_16 (fun _ _ => rfl) g10 g11 (by decide) dX4_findPair_76 ?_
            refine v_iload_n 2 3 hX dX4_findPair_79 rfl rfl ?_
            refine v_iaload hX g11 g13 dX4_findPair_80 ?_
            refine v_aload_n 0 1 hX dX4_findPair_81 rfl rfl ?_
            obtain ⟨g21, hf⟩ := q_gd_some hf
            refine v_getA hX fa_RX4_11 (fun _ _ => rfl) g10 g21 (by decide) dX4_findPair_82 ?_
            refine v_iload_n 1 2 hX dX4_findPair_85 rfl rfl ?_
            obtain ⟨g22, hf⟩ := q_gd_some hf
            obtain ⟨g23, hf⟩ := q_gd_some hf
            refine v_aaload (t0 := 5) hX g21 (by decide) (fun _ => rfl) rfl (fun _ _ _ => rfl) g22 g23 (by decide) dX4_findPair_86 ?_
            refine v_iload_n 2 3 hX dX4_findPair_87 rfl rfl ?_
            obtain ⟨g24, hf⟩ := q_gd_some hf
            refine v_iaload hX g23 g24 dX4_findPair_88 ?_
            obtain ⟨I25, h26, hf⟩ := q_bd_some hf
            refine v_callV (As := [.int (q_i (I (R p0 1) (Int.toNat p1))), .int (q_i (I (R p0 1) (Int.toNat v2))), .int (q_i (I (R (R p0 0) (Int.toNat p1)) (Int.toNat v2)))]) (rest := []) (st1 := []) none hX mv_RX4_34 (c_X4_consider h26) ⟨rfl, rfl⟩ ⟨Nat.le_of_ble_eq_true rfl, Nat.le_of_ble_eq_true rfl⟩ g10 rfl rfl (Nat.le_of_ble_eq_true rfl) ⟨Nat.le_of_ble_eq_true rfl, Nat.le_of_ble_eq_true rfl⟩ dX4_findPair_89 rfl ?_
            refine v_iinc 3 (lw := [(2, .int (q_i (v2 + 1))), (3, .int (q_i 1)), (0, .ref p0), (1, .int (q_i p1))]) hX dX4_findPair_92 rfl (by decide) rfl ?_
            refine v_goto (tgt := 17) hX dX4_findPair_95 (by decide) ?_
            refine v_sub (lv' := [(0, .ref p0), (1, .int (q_i p1)), (2, .int (q_i (v2 + 1)))]) [2, 3, 0] rfl ?_
            exact ih _ _ hf
set_option maxRecDepth 20000 in
theorem l_X4_findPair_7 {X : q_X} {S : q_S} {R : q_HR} {p0 : Nat} {rz : Int} {Iz : q_HI} (hX : q_C X cX4_findPair 4 RX4 (some .boolean) "findPair") (hE : q_E X 0 0 (some (.int (q_i rz))) S R Iz) {k : Int → q_HI → Option (Int × q_HI)} (hk : ∀ (v1 : Int) (I : q_HI), k v1 I = some (rz, Iz) → q_V X rmX4_findPair cX4_findPair 4 0 0 104 [(0, .ref p0)] [] S R I) :
    ∀ (n : Nat), ∀ (v1 : Int) (I : q_HI), f_X4_findPair_L7 S R p0 k n v1 I = some (rz, Iz) → q_V X rmX4_findPair cX4_findPair 4 0 0 7 [(0, .ref p0), (1, .int (q_i v1))] [] S R I := by
  intro n
  induction n with
  | zero =>
    intro v1 I hf
    cases (show (none : Option (Int × q_HI)) = some _ from hf)
  | succ n ih =>
    intro v1 I hf
    rw [f_X4_findPair_L7] at hf
    refine v_iload_n 1 1 hX dX4_findPair_7 rfl rfl ?_
    refine v_bipush 8 hX dX4_findPair_8 (by decide) ?_
    obtain ⟨g4, hf⟩ := q_gd_some hf
    refine v_icmp_ge (tgt := 104) hX g4 (by unfold r_i; omega) dX4_findPair_10 (by decide) (fun c5 => ?_) (fun c5 => ?_)
    · replace hf := q_ifp c5 hf
      refine v_sub (lv' := [(0, .ref p0)]) [0] rfl ?_
      exact hk _ _ hf
    · replace hf := q_ifn c5 hf
      refine v_iload_n 1 1 hX dX4_findPair_13 rfl rfl ?_
      refine v_iconst hX dX4_findPair_14 ?_
      refine v_iadd hX dX4_findPair_15 ?_
      obtain ⟨x6, e7, hf⟩ := q_lt_nm hf
      rw [e7]
      refine v_istore_n 2 (lw := [(2, .int (q_i x6)), (0, .ref p0), (1, .int (q_i v1))]) hX dX4_findPair_16 rfl (by decide) rfl ?_
      refine v_sub (lv' := [(0, .ref p0), (1, .int (q_i v1)), (2, .int (q_i x6))]) [1, 2, 0] rfl ?_
      refine l_X4_findPair_17 hX hE (fun w27 I28 hk => ?_) 100 _ _ hf
      clear hf
      have hf := hk
      clear hk
      refine v_iinc 1 (lw := [(1, .int (q_i (v1 + 1))), (0, .ref p0)]) hX dX4_findPair_98 rfl (by decide) rfl ?_
      refine v_goto (tgt := 7) hX dX4_findPair_101 (by decide) ?_
      refine v_sub (lv' := [(0, .ref p0), (1, .int (q_i (v1 + 1)))]) [1, 0] rfl ?_
      exact ih _ _ hf
set_option maxRecDepth 20000 in
theorem c_X4_findPair {S : q_S} {R : q_HR} {I : q_HI} {a0 : Nat} {rz : Int} {Iz : q_HI} (hf : f_X4_findPair S R I a0 = some (rz, Iz)) : ∀ (l : Launch) (D : va_G) (cy : Nat → ClassId) (B : Nat), Met l yX4_findPair [Cond.code yX4_findPair cX4_findPair 4 (some .boolean)] rmX4_findPair (q_Pc B D cy [.ref a0] S R I) (q_Qc B D cy (some (.int (q_i rz))) S R Iz) 0 0 (fun q => B ≤ q) := by
  refine q_met (lv := [(0, .ref a0)]) (own := RX4) (nm := "findPair") (by decide) rfl rfl (Nat.le_of_ble_eq_true rfl) rfl (fun X hX hE => ?_)
  unfold f_X4_findPair at hf
  refine v_aload_n 0 0 hX dX4_findPair_0 rfl rfl ?_
  refine v_iconst hX dX4_findPair_1 ?_
  obtain ⟨g1, hf⟩ := q_gd_some hf
  refine v_putI hX fa_RX4_20 rfl g1 dX4_findPair_2 ?_
  obtain ⟨I2, e3, hf⟩ := q_lt_nm hf
  rw [e3]
  refine v_iconst hX dX4_findPair_5 ?_
  refine v_istore_n 1 (lw := [(1, .int (q_i 0)), (0, .ref a0)]) hX dX4_findPair_6 rfl (by decide) rfl ?_
  refine v_sub (lv' := [(0, .ref a0), (1, .int (q_i 0))]) [1, 0] rfl ?_
  refine l_X4_findPair_7 hX hE (fun w29 I30 hk => ?_) 100 _ _ hf
  clear hf
  have hf := hk
  clear hk
  refine v_aload_n 0 0 hX dX4_findPair_104 rfl rfl ?_
  refine v_getI hX fa_RX4_20 (fun _ _ => rfl) g1 dX4_findPair_105 ?_
  refine v_iconst hX dX4_findPair_108 ?_
  obtain ⟨g31, hf⟩ := q_gd_some hf
  refine v_icmp_eq (tgt := 116) hX g31 (by unfold r_i; omega) dX4_findPair_109 (by decide) (fun c32 => ?_) (fun c32 => ?_)
  · replace hf := q_ifp c32 hf
    refine v_iconst hX dX4_findPair_116 ?_
    cases hf
    exact v_zret hX (Or.inl rfl) hE (Nat.le_of_ble_eq_true rfl) (Nat.le_of_ble_eq_true rfl) dX4_findPair_117
  · replace hf := q_ifn c32 hf
    refine v_iconst hX dX4_findPair_112 ?_
    refine v_goto (tgt := 117) hX dX4_findPair_113 (by decide) ?_
    cases hf
    exact v_zret hX (Or.inr rfl) hE (Nat.le_of_ble_eq_true rfl) (Nat.le_of_ble_eq_true rfl) dX4_findPair_117
noncomputable def f_X4_joinPair_L2 (S : q_S) (R : q_HR) (p0 : Nat) (k : Int → q_HI → Option (q_HI)) : Nat → Int → q_HI → Option (q_HI)
  | 0, _, _ => none
  | n + 1, v1, I => q_gd (r_i v1) (if 8 ≤ v1 then k v1 I else q_gd (S.1 p0 = 5) (q_gd (S.1 (R p0 1) = 12) (q_gd ((0 : Int) ≤ v1 ∧ v1 < (S.2.1 (R p0 1) : Int)) (q_gd (r_i (I (R p0 1) (Int.toNat v1))) (q_gd (r_i (I p0 3)) (if I (R p0 1) (Int.toNat v1) = I p0 3 then q_lt (q_up I (R p0 1) (Int.toNat v1) (I p0 2)) fun I9 => f_X4_joinPair_L2 S R p0 k n (v1 + 1) I9 else f_X4_joinPair_L2 S R p0 k n (v1 + 1) I))))))
noncomputable def f_X4_joinPair (S : q_S) (R : q_HR) (I : q_HI) (a0 : Nat) : Option (q_HI) := f_X4_joinPair_L2 S R a0 (fun w11 I12 => some I12) 100 0 I
abbrev rmX4_joinPair : Room := { frames := 0, cells := 0, slots := 0, locals := 0 }
set_option maxRecDepth 20000 in
theorem l_X4_joinPair_2 {X : q_X} {S : q_S} {R : q_HR} {p0 : Nat} {Iz : q_HI} (hX : q_C X cX4_joinPair 2 RX4 none "joinPair") (hE : q_E X 0 0 none S R Iz) {k : Int → q_HI → Option (q_HI)} (hk : ∀ (v1 : Int) (I : q_HI), k v1 I = some Iz → q_V X rmX4_joinPair cX4_joinPair 2 0 0 37 [] [] S R I) :
    ∀ (n : Nat), ∀ (v1 : Int) (I : q_HI), f_X4_joinPair_L2 S R p0 k n v1 I = some Iz → q_V X rmX4_joinPair cX4_joinPair 2 0 0 2 [(0, .ref p0), (1, .int (q_i v1))] [] S R I := by
  intro n
  induction n with
  | zero =>
    intro v1 I hf
    cases (show (none : Option (q_HI)) = some _ from hf)
  | succ n ih =>
    intro v1 I hf
    rw [f_X4_joinPair_L2] at hf
    refine v_iload_n 1 1 hX dX4_joinPair_2 rfl rfl ?_
    refine v_bipush 8 hX dX4_joinPair_3 (by decide) ?_
    obtain ⟨g1, hf⟩ := q_gd_some hf
    refine v_icmp_ge (tgt := 37) hX g1 (by unfold r_i; omega) dX4_joinPair_5 (by decide) (fun c2 => ?_) (fun c2 => ?_)
    · replace hf := q_ifp c2 hf
      refine v_sub (lv' := []) [] rfl ?_
      exact hk _ _ hf
    · replace hf := q_ifn c2 hf
      refine v_aload_n 0 0 hX dX4_joinPair_8 rfl rfl ?_
      obtain ⟨g3, hf⟩ := q_gd_some hf
      obtain ⟨g4, hf⟩ := q_gd_some hf
      refine v_getA hX fa_RX4_16 (fun _ _ => rfl) g3 g4 (by decide) dX4_joinPair_9 ?_
      refine v_iload_n 1 1 hX dX4_joinPair_12 rfl rfl ?_
      obtain ⟨g5, hf⟩ := q_gd_some hf
      refine v_iaload hX g4 g5 dX4_joinPair_13 ?_
      refine v_aload_n 0 0 hX dX4_joinPair_14 rfl rfl ?_
      refine v_getI hX fa_RX4_24 (fun _ _ => rfl) g3 dX4_joinPair_15 ?_
      obtain ⟨g6, hf⟩ := q_gd_some hf
      obtain ⟨g7, hf⟩ := q_gd_some hf
      refine v_icmp_ne (tgt := 31) hX g6 g7 dX4_joinPair_18 (by decide) (fun c8 => ?_) (fun c8 => ?_)
      · replace hf := q_ifp c8 hf
        refine v_aload_n 0 0 hX dX4_joinPair_21 rfl rfl ?_
        refine v_getA hX fa_RX4_16 (fun _ _ => rfl) g3 g4 (by decide) dX4_joinPair_22 ?_
        refine v_iload_n 1 1 hX dX4_joinPair_25 rfl rfl ?_
        refine v_aload_n 0 0 hX dX4_joinPair_26 rfl rfl ?_
        refine v_getI hX fa_RX4_20 (fun _ _ => rfl) g3 dX4_joinPair_27 ?_
        refine v_iastore hX g4 g5 dX4_joinPair_30 ?_
        obtain ⟨I9, e10, hf⟩ := q_lt_nm hf
        rw [e10]
        refine v_iinc 1 (lw := [(1, .int (q_i (v1 + 1))), (0, .ref p0)]) hX dX4_joinPair_31 rfl (by decide) rfl ?_
        refine v_goto (tgt := 2) hX dX4_joinPair_34 (by decide) ?_
        refine v_sub (lv' := [(0, .ref p0), (1, .int (q_i (v1 + 1)))]) [1, 0] rfl ?_
        exact ih _ _ hf
      · replace hf := q_ifn c8 hf
        refine v_iinc 1 (lw := [(1, .int (q_i (v1 + 1))), (0, .ref p0)]) hX dX4_joinPair_31 rfl (by decide) rfl ?_
        refine v_goto (tgt := 2) hX dX4_joinPair_34 (by decide) ?_
        refine v_sub (lv' := [(0, .ref p0), (1, .int (q_i (v1 + 1)))]) [1, 0] rfl ?_
        exact ih _ _ hf
set_option maxRecDepth 20000 in
theorem c_X4_joinPair {S : q_S} {R : q_HR} {I : q_HI} {a0 : Nat} {Iz : q_HI} (hf : f_X4_joinPair S R I a0 = some Iz) : ∀ (l : Launch) (D : va_G) (cy : Nat → ClassId) (B : Nat), Met l yX4_joinPair [Cond.code yX4_joinPair cX4_joinPair 2 none] rmX4_joinPair (q_Pc B D cy [.ref a0] S R I) (q_Qc B D cy none S R Iz) 0 0 (fun q => B ≤ q) := by
  refine q_met (lv := [(0, .ref a0)]) (own := RX4) (nm := "joinPair") (by decide) rfl rfl (Nat.le_of_ble_eq_true rfl) rfl (fun X hX hE => ?_)
  unfold f_X4_joinPair at hf
  refine v_iconst hX dX4_joinPair_0 ?_
  refine v_istore_n 1 (lw := [(1, .int (q_i 0)), (0, .ref a0)]) hX dX4_joinPair_1 rfl (by decide) rfl ?_
  refine v_sub (lv' := [(0, .ref a0), (1, .int (q_i 0))]) [1, 0] rfl ?_
  refine l_X4_joinPair_2 hX hE (fun w11 I12 hk => ?_) 100 _ _ hf
  clear hf
  have hf := hk
  clear hk
  cases hf
  exact v_vret hX hE (Nat.le_of_ble_eq_true rfl) (Nat.le_of_ble_eq_true rfl) dX4_joinPair_37
noncomputable def f_X4_runTo_L10 (S : q_S) (R : q_HR) (p0 : Nat) (p1 : Int) (k : Int → q_HI → Option (Int × q_HI)) : Nat → Int → q_HI → Option (Int × q_HI)
  | 0, _, _ => none
  | n + 1, v2, I => q_gd (r_i v2) (q_gd (r_i p1) (if p1 ≤ v2 then k v2 I else q_gd (S.1 p0 = 5) (q_bd2 (f_X4_findPair S R I p0) fun r7 I8 => q_gd (r_i r7) (if r7 = 0 then some (0, I8) else q_bd (f_X4_joinPair S R I8 p0) fun I12 => f_X4_runTo_L10 S R p0 p1 k n (v2 + 1) I12))))
noncomputable def f_X4_runTo (S : q_S) (R : q_HR) (I : q_HI) (a0 : Nat) (a1 : Int) : Option (Int × q_HI) := q_gd (r_i a1) (if a1 < 8 then f_X4_runTo_L10 S R a0 a1 (fun w14 I15 => q_gd (S.1 a0 = 5) (q_bd2 (f_X4_findPair S R I15 a0) fun r17 I18 => q_gd (r17 = 0 ∨ r17 = 1) (some (r17, I18)))) 100 0 I else some (0, I))
abbrev rmX4_runTo : Room := { frames := 3, cells := 0, slots := 0, locals := 71 }
set_option maxRecDepth 20000 in
theorem l_X4_runTo_10 {X : q_X} {S : q_S} {R : q_HR} {p0 : Nat} {p1 : Int} {rz : Int} {Iz : q_HI} (hX : q_C X cX4_runTo 3 RX4 (some .boolean) "runTo") (hE : q_E X 0 0 (some (.int (q_i rz))) S R Iz) {k : Int → q_HI → Option (Int × q_HI)} (hk : ∀ (v2 : Int) (I : q_HI), k v2 I = some (rz, Iz) → q_V X rmX4_runTo cX4_runTo 3 0 0 34 [(0, .ref p0)] [] S R I) :
    ∀ (n : Nat), ∀ (v2 : Int) (I : q_HI), f_X4_runTo_L10 S R p0 p1 k n v2 I = some (rz, Iz) → q_V X rmX4_runTo cX4_runTo 3 0 0 10 [(0, .ref p0), (1, .int (q_i p1)), (2, .int (q_i v2))] [] S R I := by
  intro n
  induction n with
  | zero =>
    intro v2 I hf
    cases (show (none : Option (Int × q_HI)) = some _ from hf)
  | succ n ih =>
    intro v2 I hf
    rw [f_X4_runTo_L10] at hf
    refine v_iload_n 2 2 hX dX4_runTo_10 rfl rfl ?_
    refine v_iload_n 1 1 hX dX4_runTo_11 rfl rfl ?_
    obtain ⟨g3, hf⟩ := q_gd_some hf
    obtain ⟨g4, hf⟩ := q_gd_some hf
    refine v_icmp_ge (tgt := 34) hX g3 g4 dX4_runTo_12 (by decide) (fun c5 => ?_) (fun c5 => ?_)
    · replace hf := q_ifp c5 hf
      refine v_sub (lv' := [(0, .ref p0)]) [0] rfl ?_
      exact hk _ _ hf
    · replace hf := q_ifn c5 hf
      refine v_aload_n 0 0 hX dX4_runTo_15 rfl rfl ?_
      obtain ⟨g6, hf⟩ := q_gd_some hf
      obtain ⟨r7, I8, h9, hf⟩ := q_bd2_some hf
      refine v_callV (As := []) (rest := []) (st1 := [.int (q_i r7)]) (some (.int (q_i r7))) hX mv_RX4_27 (c_X4_findPair h9) ⟨rfl, rfl⟩ ⟨Nat.le_of_ble_eq_true rfl, Nat.le_of_ble_eq_true rfl⟩ g6 rfl rfl (Nat.le_of_ble_eq_true rfl) ⟨Nat.le_of_ble_eq_true rfl, Nat.le_of_ble_eq_true rfl⟩ dX4_runTo_16 rfl ?_
      obtain ⟨g10, hf⟩ := q_gd_some hf
      refine v_if_ne (tgt := 24) hX g10 dX4_runTo_19 (by decide) (fun c11 => ?_) (fun c11 => ?_)
      · replace hf := q_ifp c11 hf
        refine v_iconst hX dX4_runTo_22 ?_
        cases hf
        exact v_zret hX (Or.inl rfl) hE (Nat.le_of_ble_eq_true rfl) (Nat.le_of_ble_eq_true rfl) dX4_runTo_23
      · replace hf := q_ifn c11 hf
        refine v_aload_n 0 0 hX dX4_runTo_24 rfl rfl ?_
        obtain ⟨I12, h13, hf⟩ := q_bd_some hf
        refine v_callV (As := []) (rest := []) (st1 := []) none hX mv_RX4_31 (c_X4_joinPair h13) ⟨rfl, rfl⟩ ⟨Nat.le_of_ble_eq_true rfl, Nat.le_of_ble_eq_true rfl⟩ g6 rfl rfl (Nat.le_of_ble_eq_true rfl) ⟨Nat.le_of_ble_eq_true rfl, Nat.le_of_ble_eq_true rfl⟩ dX4_runTo_25 rfl ?_
        refine v_iinc 2 (lw := [(2, .int (q_i (v2 + 1))), (0, .ref p0), (1, .int (q_i p1))]) hX dX4_runTo_28 rfl (by decide) rfl ?_
        refine v_goto (tgt := 10) hX dX4_runTo_31 (by decide) ?_
        refine v_sub (lv' := [(0, .ref p0), (1, .int (q_i p1)), (2, .int (q_i (v2 + 1)))]) [1, 2, 0] rfl ?_
        exact ih _ _ hf
set_option maxRecDepth 20000 in
theorem c_X4_runTo {S : q_S} {R : q_HR} {I : q_HI} {a0 : Nat} {a1 : Int} {rz : Int} {Iz : q_HI} (hf : f_X4_runTo S R I a0 a1 = some (rz, Iz)) : ∀ (l : Launch) (D : va_G) (cy : Nat → ClassId) (B : Nat), Met l yX4_runTo [Cond.code yX4_runTo cX4_runTo 3 (some .boolean)] rmX4_runTo (q_Pc B D cy [.ref a0, .int (q_i a1)] S R I) (q_Qc B D cy (some (.int (q_i rz))) S R Iz) 0 0 (fun q => B ≤ q) := by
  refine q_met (lv := [(0, .ref a0), (1, .int (q_i a1))]) (own := RX4) (nm := "runTo") (by decide) rfl rfl (Nat.le_of_ble_eq_true rfl) rfl (fun X hX hE => ?_)
  unfold f_X4_runTo at hf
  refine v_iload_n 1 1 hX dX4_runTo_0 rfl rfl ?_
  refine v_bipush 8 hX dX4_runTo_1 (by decide) ?_
  obtain ⟨g1, hf⟩ := q_gd_some hf
  refine v_icmp_lt (tgt := 8) hX g1 (by unfold r_i; omega) dX4_runTo_3 (by decide) (fun c2 => ?_) (fun c2 => ?_)
  · replace hf := q_ifp c2 hf
    refine v_iconst hX dX4_runTo_8 ?_
    refine v_istore_n 2 (lw := [(2, .int (q_i 0)), (0, .ref a0), (1, .int (q_i a1))]) hX dX4_runTo_9 rfl (by decide) rfl ?_
    refine v_sub (lv' := [(0, .ref a0), (1, .int (q_i a1)), (2, .int (q_i 0))]) [1, 2, 0] rfl ?_
    refine l_X4_runTo_10 hX hE (fun w14 I15 hk => ?_) 100 _ _ hf
    clear hf
    have hf := hk
    clear hk
    refine v_aload_n 0 0 hX dX4_runTo_34 rfl rfl ?_
    obtain ⟨g16, hf⟩ := q_gd_some hf
    obtain ⟨r17, I18, h19, hf⟩ := q_bd2_some hf
    refine v_callV (As := []) (rest := []) (st1 := [.int (q_i r17)]) (some (.int (q_i r17))) hX mv_RX4_27 (c_X4_findPair h19) ⟨rfl, rfl⟩ ⟨Nat.le_of_ble_eq_true rfl, Nat.le_of_ble_eq_true rfl⟩ g16 rfl rfl (Nat.le_of_ble_eq_true rfl) ⟨Nat.le_of_ble_eq_true rfl, Nat.le_of_ble_eq_true rfl⟩ dX4_runTo_35 rfl ?_
    obtain ⟨g20, hf⟩ := q_gd_some hf
    cases hf
    exact v_zret hX g20 hE (Nat.le_of_ble_eq_true rfl) (Nat.le_of_ble_eq_true rfl) dX4_runTo_38
  · replace hf := q_ifn c2 hf
    refine v_iconst hX dX4_runTo_6 ?_
    cases hf
    exact v_zret hX (Or.inl rfl) hE (Nat.le_of_ble_eq_true rfl) (Nat.le_of_ble_eq_true rfl) dX4_runTo_7
noncomputable def f_X6_init (S : q_S) (R : q_HR) (I : q_HI) (a0 : Nat) : Option (q_S × q_HR × q_HI) := q_lt (q_nw S 14 (Int.toNat 5)) fun S1 => q_lt (q_zr R S.2.2 0) fun R3 => q_lt (q_zr I S.2.2 0) fun I5 => q_gd (S1.1 a0 = 7) (q_gd (S1.1 (S.2.2) = 14) (q_lt (q_up R3 a0 0 (S.2.2)) fun R9 => q_lt (q_nw S1 12 (Int.toNat 5)) fun S11 => q_lt (q_zr R9 S1.2.2 0) fun R13 => q_lt (q_zr I5 S1.2.2 0) fun I15 => q_gd (S11.1 a0 = 7) (q_gd (S11.1 (S1.2.2) = 12) (q_lt (q_up R13 a0 1 (S1.2.2)) fun R19 => some (S11, R19, I15)))))
abbrev rmX6_init : Room := { frames := 1, cells := 2, slots := 10, locals := 12 }
set_option maxRecDepth 20000 in
theorem c_X6_init {S : q_S} {R : q_HR} {I : q_HI} {a0 : Nat} {Sz : q_S} {Rz : q_HR} {Iz : q_HI} (hf : f_X6_init S R I a0 = some (Sz, Rz, Iz)) : ∀ (l : Launch) (D : va_G) (cy : Nat → ClassId) (B : Nat), Met l yX6_init [Cond.code yX6_init cX6_init 1 none] rmX6_init (q_Pc B D cy [.ref a0] S R I) (q_Qc B D cy none Sz Rz Iz) 2 10 (fun q => B ≤ q) := by
  refine q_met (lv := [(0, .ref a0)]) (own := RX6) (nm := "<init>") (by decide) rfl rfl (Nat.le_of_ble_eq_true rfl) rfl (fun X hX hE => ?_)
  unfold f_X6_init at hf
  refine v_aload_n 0 0 hX dX6_init_0 rfl rfl ?_
  refine v_objInit hX wo_RX6_3 wo_inst wo_code (Nat.le_of_ble_eq_true rfl) (Nat.le_of_ble_eq_true rfl) dX6_init_1 ?_
  refine v_aload_n 0 0 hX dX6_init_4 rfl rfl ?_
  refine v_iconst hX dX6_init_5 ?_
  refine v_newarr (k := 14) (N := 5) (t0 := 2) (ty := .boolean) hX (by decide) wa_boolean rfl (fun _ => rfl) (fun _ => rfl) (fun _ _ h => h) (by omega) (by decide) (fun M hM => by show M * _ ≤ _; simp only [componentBytes]; omega) (Nat.le_of_ble_eq_true rfl) (Nat.le_of_ble_eq_true rfl) dX6_init_6 ?_
  refine v_cs (k := 1) (n := 5) rfl rfl ?_
  obtain ⟨S1, e2, hf⟩ := q_lt_nm hf
  rw [e2]
  obtain ⟨R3, e4, hf⟩ := q_lt_nm hf
  rw [e4]
  obtain ⟨I5, e6, hf⟩ := q_lt_nm hf
  rw [e6]
  obtain ⟨g7, hf⟩ := q_gd_some hf
  obtain ⟨g8, hf⟩ := q_gd_some hf
  refine v_putFA hX fa_RX6_9 (fun _ _ => rfl) rfl rfl g7 g8 (by decide) dX6_init_8 ?_
  obtain ⟨R9, e10, hf⟩ := q_lt_nm hf
  rw [e10]
  refine v_aload_n 0 0 hX dX6_init_11 rfl rfl ?_
  refine v_iconst hX dX6_init_12 ?_
  refine v_newarr (k := 12) (N := 5) (t0 := 0) (ty := .int) hX (by decide) wa_int rfl (fun _ => rfl) (fun _ => rfl) (fun _ _ h => h) (by omega) (by decide) (fun M hM => by show M * _ ≤ _; simp only [componentBytes]; omega) (Nat.le_of_ble_eq_true rfl) (Nat.le_of_ble_eq_true rfl) dX6_init_13 ?_
  refine v_cs (k := 2) (n := 10) rfl rfl ?_
  obtain ⟨S11, e12, hf⟩ := q_lt_nm hf
  rw [e12]
  obtain ⟨R13, e14, hf⟩ := q_lt_nm hf
  rw [e14]
  obtain ⟨I15, e16, hf⟩ := q_lt_nm hf
  rw [e16]
  obtain ⟨g17, hf⟩ := q_gd_some hf
  obtain ⟨g18, hf⟩ := q_gd_some hf
  refine v_putFA hX fa_RX6_15 (fun _ _ => rfl) rfl rfl g17 g18 (by decide) dX6_init_15 ?_
  obtain ⟨R19, e20, hf⟩ := q_lt_nm hf
  rw [e20]
  cases hf
  exact v_vret hX hE (Nat.le_of_ble_eq_true rfl) (Nat.le_of_ble_eq_true rfl) dX6_init_18
noncomputable def f_X6_aim_L7 (S : q_S) (R : q_HR) (p0 : Nat) (p1 : Nat) (p2 : Int) (k : Int → q_HI → Option (q_HI)) : Nat → Int → q_HI → Option (q_HI)
  | 0, _, _ => none
  | n + 1, v3, I => q_gd (r_i v3) (if 5 ≤ v3 then k v3 I else q_gd (S.1 p0 = 7) (q_gd (S.1 (R p0 0) = 14) (q_gd (r_i (q_and (q_shr p2 v3) 1)) (if q_and (q_shr p2 v3) 1 = 1 then q_gd ((0 : Int) ≤ v3 ∧ v3 < (S.2.1 (R p0 0) : Int)) (q_lt (q_up I (R p0 0) (Int.toNat v3) 1) fun I11 => q_gd (S.1 (R p0 1) = 12) (q_gd (S.1 p1 = 2) (q_gd (r_i (I11 p1 7)) (if I11 p1 7 = 0 then q_gd ((0 : Int) ≤ v3 ∧ v3 < (S.2.1 (R p0 1) : Int)) (q_lt (q_up I11 (R p0 1) (Int.toNat v3) 0) fun I18 => q_gd (r_i (I18 (R p0 1) (Int.toNat v3))) (q_lt (q_up I18 p0 2 ((I18 p0 2) + ((I18 (R p0 1) (Int.toNat v3)) * (I18 (R p0 1) (Int.toNat v3))))) fun I21 => f_X6_aim_L7 S R p0 p1 p2 k n (v3 + 1) I21)) else q_gd (r_i (I11 (R p0 0) (Int.toNat v3))) (if I11 (R p0 0) (Int.toNat v3) = 0 then q_gd ((0 : Int) ≤ v3 ∧ v3 < (S.2.1 (R p0 1) : Int)) (q_lt (q_up I11 (R p0 1) (Int.toNat v3) 0) fun I26 => q_gd (r_i (I26 (R p0 1) (Int.toNat v3))) (q_lt (q_up I26 p0 2 ((I26 p0 2) + ((I26 (R p0 1) (Int.toNat v3)) * (I26 (R p0 1) (Int.toNat v3))))) fun I29 => f_X6_aim_L7 S R p0 p1 p2 k n (v3 + 1) I29)) else q_gd (S.1 (R p1 5) = 12) (q_gd ((0 : Int) ≤ v3 ∧ v3 < (S.2.1 (R p1 5) : Int)) (q_gd ((0 : Int) ≤ v3 ∧ v3 < (S.2.1 (R p0 1) : Int)) (q_lt (q_up I11 (R p0 1) (Int.toNat v3) (I11 (R p1 5) (Int.toNat v3))) fun I34 => q_gd (r_i (I34 (R p0 1) (Int.toNat v3))) (q_lt (q_up I34 p0 2 ((I34 p0 2) + ((I34 (R p0 1) (Int.toNat v3)) * (I34 (R p0 1) (Int.toNat v3))))) fun I37 => f_X6_aim_L7 S R p0 p1 p2 k n (v3 + 1) I37))))))))) else q_gd ((0 : Int) ≤ v3 ∧ v3 < (S.2.1 (R p0 0) : Int)) (q_lt (q_up I (R p0 0) (Int.toNat v3) 0) fun I40 => q_gd (S.1 (R p0 1) = 12) (q_gd (S.1 p1 = 2) (q_gd (r_i (I40 p1 7)) (if I40 p1 7 = 0 then q_gd ((0 : Int) ≤ v3 ∧ v3 < (S.2.1 (R p0 1) : Int)) (q_lt (q_up I40 (R p0 1) (Int.toNat v3) 0) fun I47 => q_gd (r_i (I47 (R p0 1) (Int.toNat v3))) (q_lt (q_up I47 p0 2 ((I47 p0 2) + ((I47 (R p0 1) (Int.toNat v3)) * (I47 (R p0 1) (Int.toNat v3))))) fun I50 => f_X6_aim_L7 S R p0 p1 p2 k n (v3 + 1) I50)) else q_gd (r_i (I40 (R p0 0) (Int.toNat v3))) (if I40 (R p0 0) (Int.toNat v3) = 0 then q_gd ((0 : Int) ≤ v3 ∧ v3 < (S.2.1 (R p0 1) : Int)) (q_lt (q_up I40 (R p0 1) (Int.toNat v3) 0) fun I55 => q_gd (r_i (I55 (R p0 1) (Int.toNat v3))) (q_lt (q_up I55 p0 2 ((I55 p0 2) + ((I55 (R p0 1) (Int.toNat v3)) * (I55 (R p0 1) (Int.toNat v3))))) fun I58 => f_X6_aim_L7 S R p0 p1 p2 k n (v3 + 1) I58)) else q_gd (S.1 (R p1 5) = 12) (q_gd ((0 : Int) ≤ v3 ∧ v3 < (S.2.1 (R p1 5) : Int)) (q_gd ((0 : Int) ≤ v3 ∧ v3 < (S.2.1 (R p0 1) : Int)) (q_lt (q_up I40 (R p0 1) (Int.toNat v3) (I40 (R p1 5) (Int.toNat v3))) fun I63 => q_gd (r_i (I63 (R p0 1) (Int.toNat v3))) (q_lt (q_up I63 p0 2 ((I63 p0 2) + ((I63 (R p0 1) (Int.toNat v3)) * (I63 (R p0 1) (Int.toNat v3))))) fun I66 => f_X6_aim_L7 S R p0 p1 p2 k n (v3 + 1) I66)))))))))))))
noncomputable def f_X6_aim (S : q_S) (R : q_HR) (I : q_HI) (a0 : Nat) (a1 : Nat) (a2 : Int) : Option (q_HI) := q_gd (S.1 a0 = 7) (q_lt (q_up I a0 2 0) fun I2 => f_X6_aim_L7 S R a0 a1 a2 (fun w68 I69 => some I69) 100 0 I2)
abbrev rmX6_aim : Room := { frames := 0, cells := 0, slots := 0, locals := 0 }
set_option maxRecDepth 20000 in
theorem l_X6_aim_7 {X : q_X} {S : q_S} {R : q_HR} {p0 : Nat} {p1 : Nat} {p2 : Int} {Iz : q_HI} (hX : q_C X cX6_aim 4 RX6 none "aim") (hE : q_E X 0 0 none S R Iz) {k : Int → q_HI → Option (q_HI)} (hk : ∀ (v3 : Int) (I : q_HI), k v3 I = some Iz → q_V X rmX6_aim cX6_aim 4 0 0 94 [] [] S R I) :
    ∀ (n : Nat), ∀ (v3 : Int) (I : q_HI), f_X6_aim_L7 S R p0 p1 p2 k n v3 I = some Iz → q_V X rmX6_aim cX6_aim 4 0 0 7 [(0, .ref p0), (1, .ref p1), (2, .int (q_i p2)), (3, .int (q_i v3))] [] S R I := by
  intro n
  induction n with
  | zero =>
    intro v3 I hf
    cases (show (none : Option (q_HI)) = some _ from hf)
  | succ n ih =>
    intro v3 I hf
    rw [f_X6_aim_L7] at hf
    refine v_iload_n 3 3 hX dX6_aim_7 rfl rfl ?_
    refine v_iconst hX dX6_aim_8 ?_
    obtain ⟨g4, hf⟩ := q_gd_some hf
    refine v_icmp_ge (tgt := 94) hX g4 (by unfold r_i; omega) dX6_aim_9 (by decide) (fun c5 => ?_) (fun c5 => ?_)
    · replace hf := q_ifp c5 hf
      refine v_sub (lv' := []) [] rfl ?_
      exact hk _ _ hf
    · replace hf := q_ifn c5 hf
      refine v_aload_n 0 0 hX dX6_aim_12 rfl rfl ?_
      obtain ⟨g6, hf⟩ := q_gd_some hf
      obtain ⟨g7, hf⟩ := q_gd_some hf
      refine v_getA hX fa_RX6_9 (fun _ _ => rfl) g6 g7 (by decide) dX6_aim_13 ?_
      refine v_iload_n 3 3 hX dX6_aim_16 rfl rfl ?_
      refine v_iload_n 2 2 hX dX6_aim_17 rfl rfl ?_
      refine v_iload_n 3 3 hX dX6_aim_18 rfl rfl ?_
      refine v_ishr hX dX6_aim_19 ?_
      refine v_iconst hX dX6_aim_20 ?_
      refine v_iand hX dX6_aim_21 ?_
      refine v_iconst hX dX6_aim_22 ?_
      obtain ⟨g8, hf⟩ := q_gd_some hf
      refine v_icmp_ne (tgt := 30) hX g8 (by unfold r_i; omega) dX6_aim_23 (by decide) (fun c9 => ?_) (fun c9 => ?_)
      · replace hf := q_ifp c9 hf
        refine v_iconst hX dX6_aim_26 ?_
        refine v_goto (tgt := 31) hX dX6_aim_27 (by decide) ?_
        obtain ⟨g10, hf⟩ := q_gd_some hf
        refine v_bastore hX (Or.inr rfl) g7 g10 dX6_aim_31 ?_
        obtain ⟨I11, e12, hf⟩ := q_lt_nm hf
        rw [e12]
        refine v_aload_n 0 0 hX dX6_aim_32 rfl rfl ?_
        obtain ⟨g13, hf⟩ := q_gd_some hf
        refine v_getA hX fa_RX6_15 (fun _ _ => rfl) g6 g13 (by decide) dX6_aim_33 ?_
        refine v_iload_n 3 3 hX dX6_aim_36 rfl rfl ?_
        refine v_aload_n 1 1 hX dX6_aim_37 rfl rfl ?_
        obtain ⟨g14, hf⟩ := q_gd_some hf
        refine v_getI hX fa_RX6_23 (fun _ _ => rfl) g14 dX6_aim_38 ?_
        obtain ⟨g15, hf⟩ := q_gd_some hf
        refine v_if_eq (tgt := 62) hX g15 dX6_aim_41 (by decide) (fun c16 => ?_) (fun c16 => ?_)
        · replace hf := q_ifp c16 hf
          refine v_iconst hX dX6_aim_62 ?_
          obtain ⟨g17, hf⟩ := q_gd_some hf
          refine v_iastore hX g13 g17 dX6_aim_63 ?_
          obtain ⟨I18, e19, hf⟩ := q_lt_nm hf
          rw [e19]
          refine v_aload_n 0 0 hX dX6_aim_64 rfl rfl ?_
          refine v_dup hX dX6_aim_65 rfl ?_
          refine v_getJ hX fa_RX6_19 (fun _ _ => rfl) g6 dX6_aim_66 ?_
          refine v_aload_n 0 0 hX dX6_aim_69 rfl rfl ?_
          refine v_getA hX fa_RX6_15 (fun _ _ => rfl) g6 g13 (by decide) dX6_aim_70 ?_
          refine v_iload_n 3 3 hX dX6_aim_73 rfl rfl ?_
          refine v_iaload hX g13 g17 dX6_aim_74 ?_
          obtain ⟨g20, hf⟩ := q_gd_some hf
          refine v_i2l hX g20 dX6_aim_75 ?_
          refine v_aload_n 0 0 hX dX6_aim_76 rfl rfl ?_
          refine v_getA hX fa_RX6_15 (fun _ _ => rfl) g6 g13 (by decide) dX6_aim_77 ?_
          refine v_iload_n 3 3 hX dX6_aim_80 rfl rfl ?_
          refine v_iaload hX g13 g17 dX6_aim_81 ?_
          refine v_i2l hX g20 dX6_aim_82 ?_
          refine v_lmul hX dX6_aim_83 ?_
          refine v_ladd hX dX6_aim_84 ?_
          refine v_putJ hX fa_RX6_19 rfl g6 dX6_aim_85 ?_
          obtain ⟨I21, e22, hf⟩ := q_lt_nm hf
          rw [e22]
          refine v_iinc 3 (lw := [(3, .int (q_i (v3 + 1))), (0, .ref p0), (1, .ref p1), (2, .int (q_i p2))]) hX dX6_aim_88 rfl (by decide) rfl ?_
          refine v_goto (tgt := 7) hX dX6_aim_91 (by decide) ?_
          refine v_sub (lv' := [(0, .ref p0), (1, .ref p1), (2, .int (q_i p2)), (3, .int (q_i (v3 + 1)))]) [1, 2, 3, 0] rfl ?_
          exact ih _ _ hf
        · replace hf := q_ifn c16 hf
          refine v_aload_n 0 0 hX dX6_aim_44 rfl rfl ?_
          refine v_getA hX fa_RX6_9 (fun _ _ => rfl) g6 g7 (by decide) dX6_aim_45 ?_
          refine v_iload_n 3 3 hX dX6_aim_48 rfl rfl ?_
          refine v_baload hX g7 g10 dX6_aim_49 ?_
          obtain ⟨g23, hf⟩ := q_gd_some hf
          refine v_if_eq (tgt := 62) hX g23 dX6_aim_50 (by decide) (fun c24 => ?_) (fun c24 => ?_)
          · replace hf := q_ifp c24 hf
            refine v_iconst hX dX6_aim_62 ?_
            obtain ⟨g25, hf⟩ := q_gd_some hf
            refine v_iastore hX g13 g25 dX6_aim_63 ?_
            obtain ⟨I26, e27, hf⟩ := q_lt_nm hf
            rw [e27]
            refine v_aload_n 0 0 hX dX6_aim_64 rfl rfl ?_
            refine v_dup hX dX6_aim_65 rfl ?_
            refine v_getJ hX fa_RX6_19 (fun _ _ => rfl) g6 dX6_aim_66 ?_
            refine v_aload_n 0 0 hX dX6_aim_69 rfl rfl ?_
            refine v_getA hX fa_RX6_15 (fun _ _ => rfl) g6 g13 (by decide) dX6_aim_70 ?_
            refine v_iload_n 3 3 hX dX6_aim_73 rfl rfl ?_
            refine v_iaload hX g13 g25 dX6_aim_74 ?_
            obtain ⟨g28, hf⟩ := q_gd_some hf
            refine v_i2l hX g28 dX6_aim_75 ?_
            refine v_aload_n 0 0 hX dX6_aim_76 rfl rfl ?_
            refine v_getA hX fa_RX6_15 (fun _ _ => rfl) g6 g13 (by decide) dX6_aim_77 ?_
            refine v_iload_n 3 3 hX dX6_aim_80 rfl rfl ?_
            refine v_iaload hX g13 g25 dX6_aim_81 ?_
            refine v_i2l hX g28 dX6_aim_82 ?_
            refine v_lmul hX dX6_aim_83 ?_
            refine v_ladd hX dX6_aim_84 ?_
            refine v_putJ hX fa_RX6_19 rfl g6 dX6_aim_85 ?_
            obtain ⟨I29, e30, hf⟩ := q_lt_nm hf
            rw [e30]
            refine v_iinc 3 (lw := [(3, .int (q_i (v3 + 1))), (0, .ref p0), (1, .ref p1), (2, .int (q_i p2))]) hX dX6_aim_88 rfl (by decide) rfl ?_
            refine v_goto (tgt := 7) hX dX6_aim_91 (by decide) ?_
            refine v_sub (lv' := [(0, .ref p0), (1, .ref p1), (2, .int (q_i p2)), (3, .int (q_i (v3 + 1)))]) [1, 2, 3, 0] rfl ?_
            exact ih _ _ hf
          · replace hf := q_ifn c24 hf
            refine v_aload_n 1 1 hX dX6_aim_53 rfl rfl ?_
            obtain ⟨g31, hf⟩ := q_gd_some hf
            refine v_getA hX fa_RX6_29 (fun _ _ => rfl) g14 g31 (by decide) dX6_aim_54 ?_
            refine v_iload_n 3 3 hX dX6_aim_57 rfl rfl ?_
            obtain ⟨g32, hf⟩ := q_gd_some hf
            refine v_iaload hX g31 g32 dX6_aim_58 ?_
            refine v_goto (tgt := 63) hX dX6_aim_59 (by decide) ?_
            obtain ⟨g33, hf⟩ := q_gd_some hf
            refine v_iastore hX g13 g33 dX6_aim_63 ?_
            obtain ⟨I34, e35, hf⟩ := q_lt_nm hf
            rw [e35]
            refine v_aload_n 0 0 hX dX6_aim_64 rfl rfl ?_
            refine v_dup hX dX6_aim_65 rfl ?_
            refine v_getJ hX fa_RX6_19 (fun _ _ => rfl) g6 dX6_aim_66 ?_
            refine v_aload_n 0 0 hX dX6_aim_69 rfl rfl ?_
            refine v_getA hX fa_RX6_15 (fun _ _ => rfl) g6 g13 (by decide) dX6_aim_70 ?_
            refine v_iload_n 3 3 hX dX6_aim_73 rfl rfl ?_
            refine v_iaload hX g13 g33 dX6_aim_74 ?_
            obtain ⟨g36, hf⟩ := q_gd_some hf
            refine v_i2l hX g36 dX6_aim_75 ?_
            refine v_aload_n 0 0 hX dX6_aim_76 rfl rfl ?_
            refine v_getA hX fa_RX6_15 (fun _ _ => rfl) g6 g13 (by decide) dX6_aim_77 ?_
            refine v_iload_n 3 3 hX dX6_aim_80 rfl rfl ?_
            refine v_iaload hX g13 g33 dX6_aim_81 ?_
            refine v_i2l hX g36 dX6_aim_82 ?_
            refine v_lmul hX dX6_aim_83 ?_
            refine v_ladd hX dX6_aim_84 ?_
            refine v_putJ hX fa_RX6_19 rfl g6 dX6_aim_85 ?_
            obtain ⟨I37, e38, hf⟩ := q_lt_nm hf
            rw [e38]
            refine v_iinc 3 (lw := [(3, .int (q_i (v3 + 1))), (0, .ref p0), (1, .ref p1), (2, .int (q_i p2))]) hX dX6_aim_88 rfl (by decide) rfl ?_
            refine v_goto (tgt := 7) hX dX6_aim_91 (by decide) ?_
            refine v_sub (lv' := [(0, .ref p0), (1, .ref p1), (2, .int (q_i p2)), (3, .int (q_i (v3 + 1)))]) [1, 2, 3, 0] rfl ?_
            exact ih _ _ hf
      · replace hf := q_ifn c9 hf
        refine v_iconst hX dX6_aim_30 ?_
        obtain ⟨g39, hf⟩ := q_gd_some hf
        refine v_bastore hX (Or.inl rfl) g7 g39 dX6_aim_31 ?_
        obtain ⟨I40, e41, hf⟩ := q_lt_nm hf
        rw [e41]
        refine v_aload_n 0 0 hX dX6_aim_32 rfl rfl ?_
        obtain ⟨g42, hf⟩ := q_gd_some hf
        refine v_getA hX fa_RX6_15 (fun _ _ => rfl) g6 g42 (by decide) dX6_aim_33 ?_
        refine v_iload_n 3 3 hX dX6_aim_36 rfl rfl ?_
        refine v_aload_n 1 1 hX dX6_aim_37 rfl rfl ?_
        obtain ⟨g43, hf⟩ := q_gd_some hf
        refine v_getI hX fa_RX6_23 (fun _ _ => rfl) g43 dX6_aim_38 ?_
        obtain ⟨g44, hf⟩ := q_gd_some hf
        refine v_if_eq (tgt := 62) hX g44 dX6_aim_41 (by decide) (fun c45 => ?_) (fun c45 => ?_)
        · replace hf := q_ifp c45 hf
          refine v_iconst hX dX6_aim_62 ?_
          obtain ⟨g46, hf⟩ := q_gd_some hf
          refine v_iastore hX g42 g46 dX6_aim_63 ?_
          obtain ⟨I47, e48, hf⟩ := q_lt_nm hf
          rw [e48]
          refine v_aload_n 0 0 hX dX6_aim_64 rfl rfl ?_
          refine v_dup hX dX6_aim_65 rfl ?_
          refine v_getJ hX fa_RX6_19 (fun _ _ => rfl) g6 dX6_aim_66 ?_
          refine v_aload_n 0 0 hX dX6_aim_69 rfl rfl ?_
          refine v_getA hX fa_RX6_15 (fun _ _ => rfl) g6 g42 (by decide) dX6_aim_70 ?_
          refine v_iload_n 3 3 hX dX6_aim_73 rfl rfl ?_
          refine v_iaload hX g42 g46 dX6_aim_74 ?_
          obtain ⟨g49, hf⟩ := q_gd_some hf
          refine v_i2l hX g49 dX6_aim_75 ?_
          refine v_aload_n 0 0 hX dX6_aim_76 rfl rfl ?_
          refine v_getA hX fa_RX6_15 (fun _ _ => rfl) g6 g42 (by decide) dX6_aim_77 ?_
          refine v_iload_n 3 3 hX dX6_aim_80 rfl rfl ?_
          refine v_iaload hX g42 g46 dX6_aim_81 ?_
          refine v_i2l hX g49 dX6_aim_82 ?_
          refine v_lmul hX dX6_aim_83 ?_
          refine v_ladd hX dX6_aim_84 ?_
          refine v_putJ hX fa_RX6_19 rfl g6 dX6_aim_85 ?_
          obtain ⟨I50, e51, hf⟩ := q_lt_nm hf
          rw [e51]
          refine v_iinc 3 (lw := [(3, .int (q_i (v3 + 1))), (0, .ref p0), (1, .ref p1), (2, .int (q_i p2))]) hX dX6_aim_88 rfl (by decide) rfl ?_
          refine v_goto (tgt := 7) hX dX6_aim_91 (by decide) ?_
          refine v_sub (lv' := [(0, .ref p0), (1, .ref p1), (2, .int (q_i p2)), (3, .int (q_i (v3 + 1)))]) [1, 2, 3, 0] rfl ?_
          exact ih _ _ hf
        · replace hf := q_ifn c45 hf
          refine v_aload_n 0 0 hX dX6_aim_44 rfl rfl ?_
          refine v_getA hX fa_RX6_9 (fun _ _ => rfl) g6 g7 (by decide) dX6_aim_45 ?_
          refine v_iload_n 3 3 hX dX6_aim_48 rfl rfl ?_
          refine v_baload hX g7 g39 dX6_aim_49 ?_
          obtain ⟨g52, hf⟩ := q_gd_some hf
          refine v_if_eq (tgt := 62) hX g52 dX6_aim_50 (by decide) (fun c53 => ?_) (fun c53 => ?_)
          · replace hf := q_ifp c53 hf
            refine v_iconst hX dX6_aim_62 ?_
            obtain ⟨g54, hf⟩ := q_gd_some hf
            refine v_iastore hX g42 g54 dX6_aim_63 ?_
            obtain ⟨I55, e56, hf⟩ := q_lt_nm hf
            rw [e56]
            refine v_aload_n 0 0 hX dX6_aim_64 rfl rfl ?_
            refine v_dup hX dX6_aim_65 rfl ?_
            refine v_getJ hX fa_RX6_19 (fun _ _ => rfl) g6 dX6_aim_66 ?_
            refine v_aload_n 0 0 hX dX6_aim_69 rfl rfl ?_
            refine v_getA hX fa_RX6_15 (fun _ _ => rfl) g6 g42 (by decide) dX6_aim_70 ?_
            refine v_iload_n 3 3 hX dX6_aim_73 rfl rfl ?_
            refine v_iaload hX g42 g54 dX6_aim_74 ?_
            obtain ⟨g57, hf⟩ := q_gd_some hf
            refine v_i2l hX g57 dX6_aim_75 ?_
            refine v_aload_n 0 0 hX dX6_aim_76 rfl rfl ?_
            refine v_getA hX fa_RX6_15 (fun _ _ => rfl) g6 g42 (by decide) dX6_aim_77 ?_
            refine v_iload_n 3 3 hX dX6_aim_80 rfl rfl ?_
            refine v_iaload hX g42 g54 dX6_aim_81 ?_
            refine v_i2l hX g57 dX6_aim_82 ?_
            refine v_lmul hX dX6_aim_83 ?_
            refine v_ladd hX dX6_aim_84 ?_
            refine v_putJ hX fa_RX6_19 rfl g6 dX6_aim_85 ?_
            obtain ⟨I58, e59, hf⟩ := q_lt_nm hf
            rw [e59]
            refine v_iinc 3 (lw := [(3, .int (q_i (v3 + 1))), (0, .ref p0), (1, .ref p1), (2, .int (q_i p2))]) hX dX6_aim_88 rfl (by decide) rfl ?_
            refine v_goto (tgt := 7) hX dX6_aim_91 (by decide) ?_
            refine v_sub (lv' := [(0, .ref p0), (1, .ref p1), (2, .int (q_i p2)), (3, .int (q_i (v3 + 1)))]) [1, 2, 3, 0] rfl ?_
            exact ih _ _ hf
          · replace hf := q_ifn c53 hf
            refine v_aload_n 1 1 hX dX6_aim_53 rfl rfl ?_
            obtain ⟨g60, hf⟩ := q_gd_some hf
            refine v_getA hX fa_RX6_29 (fun _ _ => rfl) g43 g60 (by decide) dX6_aim_54 ?_
            refine v_iload_n 3 3 hX dX6_aim_57 rfl rfl ?_
            obtain ⟨g61, hf⟩ := q_gd_some hf
            refine v_iaload hX g60 g61 dX6_aim_58 ?_
            refine v_goto (tgt := 63) hX dX6_aim_59 (by decide) ?_
            obtain ⟨g62, hf⟩ := q_gd_some hf
            refine v_iastore hX g42 g62 dX6_aim_63 ?_
            obtain ⟨I63, e64, hf⟩ := q_lt_nm hf
            rw [e64]
            refine v_aload_n 0 0 hX dX6_aim_64 rfl rfl ?_
            refine v_dup hX dX6_aim_65 rfl ?_
            refine v_getJ hX fa_RX6_19 (fun _ _ => rfl) g6 dX6_aim_66 ?_
            refine v_aload_n 0 0 hX dX6_aim_69 rfl rfl ?_
            refine v_getA hX fa_RX6_15 (fun _ _ => rfl) g6 g42 (by decide) dX6_aim_70 ?_
            refine v_iload_n 3 3 hX dX6_aim_73 rfl rfl ?_
            refine v_iaload hX g42 g62 dX6_aim_74 ?_
            obtain ⟨g65, hf⟩ := q_gd_some hf
            refine v_i2l hX g65 dX6_aim_75 ?_
            refine v_aload_n 0 0 hX dX6_aim_76 rfl rfl ?_
            refine v_getA hX fa_RX6_15 (fun _ _ => rfl) g6 g42 (by decide) dX6_aim_77 ?_
            refine v_iload_n 3 3 hX dX6_aim_80 rfl rfl ?_
            refine v_iaload hX g42 g62 dX6_aim_81 ?_
            refine v_i2l hX g65 dX6_aim_82 ?_
            refine v_lmul hX dX6_aim_83 ?_
            refine v_ladd hX dX6_aim_84 ?_
            refine v_putJ hX fa_RX6_19 rfl g6 dX6_aim_85 ?_
            obtain ⟨I66, e67, hf⟩ := q_lt_nm hf
            rw [e67]
            refine v_iinc 3 (lw := [(3, .int (q_i (v3 + 1))), (0, .ref p0), (1, .ref p1), (2, .int (q_i p2))]) hX dX6_aim_88 rfl (by decide) rfl ?_
            refine v_goto (tgt := 7) hX dX6_aim_91 (by decide) ?_
            refine v_sub (lv' := [(0, .ref p0), (1, .ref p1), (2, .int (q_i p2)), (3, .int (q_i (v3 + 1)))]) [1, 2, 3, 0] rfl ?_
            exact ih _ _ hf
set_option maxRecDepth 20000 in
theorem c_X6_aim {S : q_S} {R : q_HR} {I : q_HI} {a0 : Nat} {a1 : Nat} {a2 : Int} {Iz : q_HI} (hf : f_X6_aim S R I a0 a1 a2 = some Iz) : ∀ (l : Launch) (D : va_G) (cy : Nat → ClassId) (B : Nat), Met l yX6_aim [Cond.code yX6_aim cX6_aim 4 none] rmX6_aim (q_Pc B D cy [.ref a0, .ref a1, .int (q_i a2)] S R I) (q_Qc B D cy none S R Iz) 0 0 (fun q => B ≤ q) := by
  refine q_met (lv := [(0, .ref a0), (1, .ref a1), (2, .int (q_i a2))]) (own := RX6) (nm := "aim") (by decide) rfl rfl (Nat.le_of_ble_eq_true rfl) rfl (fun X hX hE => ?_)
  unfold f_X6_aim at hf
  refine v_aload_n 0 0 hX dX6_aim_0 rfl rfl ?_
  refine v_lconst 0 hX dX6_aim_1 (by decide) ?_
  obtain ⟨g1, hf⟩ := q_gd_some hf
  refine v_putJ hX fa_RX6_19 rfl g1 dX6_aim_2 ?_
  obtain ⟨I2, e3, hf⟩ := q_lt_nm hf
  rw [e3]
  refine v_iconst hX dX6_aim_5 ?_
  refine v_istore_n 3 (lw := [(3, .int (q_i 0)), (0, .ref a0), (1, .ref a1), (2, .int (q_i a2))]) hX dX6_aim_6 rfl (by decide) rfl ?_
  refine v_sub (lv' := [(0, .ref a0), (1, .ref a1), (2, .int (q_i a2)), (3, .int (q_i 0))]) [1, 2, 3, 0] rfl ?_
  refine l_X6_aim_7 hX hE (fun w68 I69 hk => ?_) 100 _ _ hf
  clear hf
  have hf := hk
  clear hk
  cases hf
  exact v_vret hX hE (Nat.le_of_ble_eq_true rfl) (Nat.le_of_ble_eq_true rfl) dX6_aim_94
noncomputable def f_X6_gap_L20 (S : q_S) (R : q_HR) (I : q_HI) (p0 : Nat) (p1 : Nat) (p2 : Int) (p3 : Nat) (p4 : Int) (k : Int → Int → Int → Option (Int)) : Nat → Int → Int → Int → Option (Int)
  | 0, _, _, _ => none
  | n + 1, v5, v7, v9 => q_gd (r_i v9) (if 5 ≤ v9 then k v5 v7 v9 else q_gd (S.1 p0 = 7) (q_gd (S.1 (R p0 0) = 14) (q_gd ((0 : Int) ≤ v9 ∧ v9 < (S.2.1 (R p0 0) : Int)) (q_gd (r_i (I (R p0 0) (Int.toNat v9))) (if I (R p0 0) (Int.toNat v9) = 0 then f_X6_gap_L20 S R I p0 p1 p2 p3 p4 k n v5 v7 (v9 + 1) else q_gd (r_i p4) (q_gd (S.1 p1 = 12) (q_gd ((0 : Int) ≤ v9 ∧ v9 < (S.2.1 p1 : Int)) (q_gd (r_i (I p1 (Int.toNat v9))) (q_gd (r_i p2) (q_gd (S.1 p3 = 12) (q_gd ((0 : Int) ≤ v9 ∧ v9 < (S.2.1 p3 : Int)) (q_gd (r_i (I p3 (Int.toNat v9))) (q_lt ((p4 * (I p1 (Int.toNat v9))) - (p2 * (I p3 (Int.toNat v9)))) fun x20 => q_lt (v5 + (x20 * x20)) fun x22 => q_gd (S.1 (R p0 1) = 12) (q_gd ((0 : Int) ≤ v9 ∧ v9 < (S.2.1 (R p0 1) : Int)) (q_gd (r_i (I (R p0 1) (Int.toNat v9))) (q_lt (v7 + (x20 * (I (R p0 1) (Int.toNat v9)))) fun x27 => f_X6_gap_L20 S R I p0 p1 p2 p3 p4 k n x22 x27 (v9 + 1)))))))))))))))))
noncomputable def f_X6_gap (S : q_S) (R : q_HR) (I : q_HI) (a0 : Nat) (a1 : Nat) (a2 : Int) (a3 : Nat) (a4 : Int) : Option (Int) := q_gd (r_i a2) (if a2 ≤ 0 then some (-1) else q_gd (r_i a4) (if 0 < a4 then f_X6_gap_L20 S R I a0 a1 a2 a3 a4 (fun w29 w30 w31 => q_lt (((a2 * a4) * a2) * a4) fun x32 => q_gd (S.1 a0 = 7) (q_gd (r_l (I a0 2)) (if I a0 2 = 0 then q_gd (r_l w29) (q_gd (r_l x32) (q_gd (x32 ≠ 0) (some (Int.tdiv w29 x32)))) else q_gd (r_l ((w29 * (I a0 2)) - (w30 * w30))) (q_gd (r_l (x32 * (I a0 2))) (q_gd (x32 * (I a0 2) ≠ 0) (some (Int.tdiv ((w29 * (I a0 2)) - (w30 * w30)) (x32 * (I a0 2))))))))) 100 0 0 0 else some (-1)))
abbrev rmX6_gap : Room := { frames := 0, cells := 0, slots := 0, locals := 0 }
set_option maxRecDepth 20000 in
theorem l_X6_gap_20 {X : q_X} {S : q_S} {R : q_HR} {I : q_HI} {p0 : Nat} {p1 : Nat} {p2 : Int} {p3 : Nat} {p4 : Int} {rz : Int} (hX : q_C X cX6_gap 12 RX6 (some .int) "gap") (hE : q_E X 0 0 (some (.int (q_i rz))) S R I) {k : Int → Int → Int → Option (Int)} (hk : ∀ (v5 : Int) (v7 : Int) (v9 : Int), k v5 v7 v9 = some rz → q_V X rmX6_gap cX6_gap 12 0 0 88 [(0, .ref p0), (2, .int (q_i p2)), (4, .int (q_i p4)), (5, .long (q_l v5)), (7, .long (q_l v7))] [] S R I) :
    ∀ (n : Nat), ∀ (v5 : Int) (v7 : Int) (v9 : Int), f_X6_gap_L20 S R I p0 p1 p2 p3 p4 k n v5 v7 v9 = some rz → q_V X rmX6_gap cX6_gap 12 0 0 20 [(0, .ref p0), (1, .ref p1), (2, .int (q_i p2)), (3, .ref p3), (4, .int (q_i p4)), (5, .long (q_l v5)), (7, .long (q_l v7)), (9, .int (q_i v9))] [] S R I := by
  intro n
  induction n with
  | zero =>
    intro v5 v7 v9 hf
    cases (show (none : Option (Int)) = some _ from hf)
  | succ n ih =>
    intro v5 v7 v9 hf
    rw [f_X6_gap_L20] at hf
    refine v_iload 7 hX dX6_gap_20 rfl ?_
    refine v_iconst hX dX6_gap_22 ?_
    obtain ⟨g5, hf⟩ := q_gd_some hf
    refine v_icmp_ge (tgt := 88) hX g5 (by unfold r_i; omega) dX6_gap_23 (by decide) (fun c6 => ?_) (fun c6 => ?_)
    · replace hf := q_ifp c6 hf
      refine v_sub (lv' := [(0, .ref p0), (2, .int (q_i p2)), (4, .int (q_i p4)), (5, .long (q_l v5)), (7, .long (q_l v7))]) [0, 2, 4, 5, 6] rfl ?_
      exact hk _ _ _ hf
    · replace hf := q_ifn c6 hf
      refine v_aload_n 0 0 hX dX6_gap_26 rfl rfl ?_
      obtain ⟨g7, hf⟩ := q_gd_some hf
      obtain ⟨g8, hf⟩ := q_gd_some hf
      refine v_getA hX fa_RX6_9 (fun _ _ => rfl) g7 g8 (by decide) dX6_gap_27 ?_
      refine v_iload 7 hX dX6_gap_30 rfl ?_
      obtain ⟨g9, hf⟩ := q_gd_some hf
      refine v_baload hX g8 g9 dX6_gap_32 ?_
      obtain ⟨g10, hf⟩ := q_gd_some hf
      refine v_if_eq (tgt := 82) hX g10 dX6_gap_33 (by decide) (fun c11 => ?_) (fun c11 => ?_)
      · replace hf := q_ifp c11 hf
        refine v_iinc 7 (lw := [(9, .int (q_i (v9 + 1))), (0, .ref p0), (1, .ref p1), (2, .int (q_i p2)), (3, .ref p3), (4, .int (q_i p4)), (5, .long (q_l v5)), (7, .long (q_l v7))]) hX dX6_gap_82 rfl (by decide) rfl ?_
        refine v_goto (tgt := 20) hX dX6_gap_85 (by decide) ?_
        refine v_sub (lv' := [(0, .ref p0), (1, .ref p1), (2, .int (q_i p2)), (3, .ref p3), (4, .int (q_i p4)), (5, .long (q_l v5)), (7, .long (q_l v7)), (9, .int (q_i (v9 + 1)))]) [1, 2, 3, 4, 5, 6, 7, 0] rfl ?_
        exact ih _ _ _ hf
      · replace hf := q_ifn c11 hf
        refine v_iload 4 hX dX6_gap_36 rfl ?_
        obtain ⟨g12, hf⟩ := q_gd_some hf
        refine v_i2l hX g12 dX6_gap_38 ?_
        refine v_aload_n 1 1 hX dX6_gap_39 rfl rfl ?_
        refine v_iload 7 hX dX6_gap_40 rfl ?_
        obtain ⟨g13, hf⟩ := q_gd_some hf
        obtain ⟨g14, hf⟩ := q_gd_some hf
        refine v_iaload hX g13 g14 dX6_gap_42 ?_
        obtain ⟨g15, hf⟩ := q_gd_some hf
        refine v_i2l hX g15 dX6_gap_43 ?_
        refine v_lmul hX dX6_gap_44 ?_
        refine v_iload_n 2 2 hX dX6_gap_45 rfl rfl ?_
        obtain ⟨g16, hf⟩ := q_gd_some hf
        refine v_i2l hX g16 dX6_gap_46 ?_
        refine v_aload_n 3 3 hX dX6_gap_47 rfl rfl ?_
        refine v_iload 7 hX dX6_gap_48 rfl ?_
        obtain ⟨g17, hf⟩ := q_gd_some hf
        obtain ⟨g18, hf⟩ := q_gd_some hf
        refine v_iaload hX g17 g18 dX6_gap_50 ?_
        obtain ⟨g19, hf⟩ := q_gd_some hf
        refine v_i2l hX g19 dX6_gap_51 ?_
        refine v_lmul hX dX6_gap_52 ?_
        refine v_lsub hX dX6_gap_53 ?_
        obtain ⟨x20, e21, hf⟩ := q_lt_nm hf
        rw [e21]
        refine v_lstore (lw := [(10, .long (q_l x20)), (0, .ref p0), (1, .ref p1), (2, .int (q_i p2)), (3, .ref p3), (4, .int (q_i p4)), (5, .long (q_l v5)), (7, .long (q_l v7)), (9, .int (q_i v9))]) hX dX6_gap_54 (by decide) rfl ?_
        refine v_lload 6 hX dX6_gap_56 rfl ?_
        refine v_lload 0 hX dX6_gap_58 rfl ?_
        refine v_lload 0 hX dX6_gap_60 rfl ?_
        refine v_lmul hX dX6_gap_62 ?_
        refine v_ladd hX dX6_gap_63 ?_
        obtain ⟨x22, e23, hf⟩ := q_lt_nm hf
        rw [e23]
        refine v_lstore (lw := [(5, .long (q_l x22)), (10, .long (q_l x20)), (0, .ref p0), (1, .ref p1), (2, .int (q_i p2)), (3, .ref p3), (4, .int (q_i p4)), (7, .long (q_l v7)), (9, .int (q_i v9))]) hX dX6_gap_64 (by decide) rfl ?_
        refine v_lload 7 hX dX6_gap_66 rfl ?_
        refine v_lload 1 hX dX6_gap_68 rfl ?_
        refine v_aload_n 0 2 hX dX6_gap_70 rfl rfl ?_
        obtain ⟨g24, hf⟩ := q_gd_some hf
        refine v_getA hX fa_RX6_15 (fun _ _ => rfl) g7 g24 (by decide) dX6_gap_71 ?_
        refine v_iload 8 hX dX6_gap_74 rfl ?_
        obtain ⟨g25, hf⟩ := q_gd_some hf
        refine v_iaload hX g24 g25 dX6_gap_76 ?_
        obtain ⟨g26, hf⟩ := q_gd_some hf
        refine v_i2l hX g26 dX6_gap_77 ?_
        refine v_lmul hX dX6_gap_78 ?_
        refine v_ladd hX dX6_gap_79 ?_
        obtain ⟨x27, e28, hf⟩ := q_lt_nm hf
        rw [e28]
        refine v_lstore (lw := [(7, .long (q_l x27)), (5, .long (q_l x22)), (10, .long (q_l x20)), (0, .ref p0), (1, .ref p1), (2, .int (q_i p2)), (3, .ref p3), (4, .int (q_i p4)), (9, .int (q_i v9))]) hX dX6_gap_80 (by decide) rfl ?_
        refine v_iinc 8 (lw := [(9, .int (q_i (v9 + 1))), (7, .long (q_l x27)), (5, .long (q_l x22)), (10, .long (q_l x20)), (0, .ref p0), (1, .ref p1), (2, .int (q_i p2)), (3, .ref p3), (4, .int (q_i p4))]) hX dX6_gap_82 rfl (by decide) rfl ?_
        refine v_goto (tgt := 20) hX dX6_gap_85 (by decide) ?_
        refine v_sub (lv' := [(0, .ref p0), (1, .ref p1), (2, .int (q_i p2)), (3, .ref p3), (4, .int (q_i p4)), (5, .long (q_l x22)), (7, .long (q_l x27)), (9, .int (q_i (v9 + 1)))]) [4, 5, 6, 7, 8, 2, 1, 0] rfl ?_
        exact ih _ _ _ hf
set_option maxRecDepth 20000 in
theorem c_X6_gap {S : q_S} {R : q_HR} {I : q_HI} {a0 : Nat} {a1 : Nat} {a2 : Int} {a3 : Nat} {a4 : Int} {rz : Int} (hf : f_X6_gap S R I a0 a1 a2 a3 a4 = some rz) : ∀ (l : Launch) (D : va_G) (cy : Nat → ClassId) (B : Nat), Met l yX6_gap [Cond.code yX6_gap cX6_gap 12 (some .int)] rmX6_gap (q_Pc B D cy [.ref a0, .ref a1, .int (q_i a2), .ref a3, .int (q_i a4)] S R I) (q_Qc B D cy (some (.int (q_i rz))) S R I) 0 0 (fun q => B ≤ q) := by
  refine q_met (lv := [(0, .ref a0), (1, .ref a1), (2, .int (q_i a2)), (3, .ref a3), (4, .int (q_i a4))]) (own := RX6) (nm := "gap") (by decide) rfl rfl (Nat.le_of_ble_eq_true rfl) rfl (fun X hX hE => ?_)
  unfold f_X6_gap at hf
  refine v_iload_n 2 2 hX dX6_gap_0 rfl rfl ?_
  obtain ⟨g1, hf⟩ := q_gd_some hf
  refine v_if_le (tgt := 9) hX g1 dX6_gap_1 (by decide) (fun c2 => ?_) (fun c2 => ?_)
  · replace hf := q_ifp c2 hf
    refine v_iconst hX dX6_gap_9 ?_
    cases hf
    exact v_iret hX hE (Nat.le_of_ble_eq_true rfl) (Nat.le_of_ble_eq_true rfl) dX6_gap_10
  · replace hf := q_ifn c2 hf
    refine v_iload 4 hX dX6_gap_4 rfl ?_
    obtain ⟨g3, hf⟩ := q_gd_some hf
    refine v_if_gt (tgt := 11) hX g3 dX6_gap_6 (by decide) (fun c4 => ?_) (fun c4 => ?_)
    · replace hf := q_ifp c4 hf
      refine v_lconst 0 hX dX6_gap_11 (by decide) ?_
      refine v_lstore (lw := [(5, .long (q_l 0)), (0, .ref a0), (1, .ref a1), (2, .int (q_i a2)), (3, .ref a3), (4, .int (q_i a4))]) hX dX6_gap_12 (by decide) rfl ?_
      refine v_lconst 0 hX dX6_gap_14 (by decide) ?_
      refine v_lstore (lw := [(7, .long (q_l 0)), (5, .long (q_l 0)), (0, .ref a0), (1, .ref a1), (2, .int (q_i a2)), (3, .ref a3), (4, .int (q_i a4))]) hX dX6_gap_15 (by decide) rfl ?_
      refine v_iconst hX dX6_gap_17 ?_
      refine v_istore (lw := [(9, .int (q_i 0)), (7, .long (q_l 0)), (5, .long (q_l 0)), (0, .ref a0), (1, .ref a1), (2, .int (q_i a2)), (3, .ref a3), (4, .int (q_i a4))]) hX dX6_gap_18 (by decide) rfl ?_
      refine v_sub (lv' := [(0, .ref a0), (1, .ref a1), (2, .int (q_i a2)), (3, .ref a3), (4, .int (q_i a4)), (5, .long (q_l 0)), (7, .long (q_l 0)), (9, .int (q_i 0))]) [3, 4, 5, 6, 7, 2, 1, 0] rfl ?_
      refine l_X6_gap_20 hX hE (fun w29 w30 w31 hk => ?_) 100 _ _ _ hf
      clear hf
      have hf := hk
      clear hk
      refine v_iload_n 2 1 hX dX6_gap_88 rfl rfl ?_
      refine v_i2l hX g1 dX6_gap_89 ?_
      refine v_iload 2 hX dX6_gap_90 rfl ?_
      refine v_i2l hX g3 dX6_gap_92 ?_
      refine v_lmul hX dX6_gap_93 ?_
      refine v_iload_n 2 1 hX dX6_gap_94 rfl rfl ?_
      refine v_i2l hX g1 dX6_gap_95 ?_
      refine v_lmul hX dX6_gap_96 ?_
      refine v_iload 2 hX dX6_gap_97 rfl ?_
      refine v_i2l hX g3 dX6_gap_99 ?_
      refine v_lmul hX dX6_gap_100 ?_
      obtain ⟨x32, e33, hf⟩ := q_lt_nm hf
      rw [e33]
      refine v_lstore (lw := [(9, .long (q_l x32)), (0, .ref a0), (2, .int (q_i a2)), (4, .int (q_i a4)), (5, .long (q_l w29)), (7, .long (q_l w30))]) hX dX6_gap_101 (by decide) rfl ?_
      refine v_aload_n 0 1 hX dX6_gap_103 rfl rfl ?_
      obtain ⟨g34, hf⟩ := q_gd_some hf
      refine v_getJ hX fa_RX6_19 (fun _ _ => rfl) g34 dX6_gap_104 ?_
      refine v_lconst 0 hX dX6_gap_107 (by decide) ?_
      obtain ⟨g35, hf⟩ := q_gd_some hf
      refine v_lcmp hX g35 (by unfold r_l; omega) dX6_gap_108 ?_
      refine v_ifc_ne (tgt := 119) hX dX6_gap_109 (by decide) (fun c36 => ?_) (fun c36 => ?_)
      · replace hf := q_ifp c36 hf
        refine v_lload 4 hX dX6_gap_112 rfl ?_
        refine v_lload 0 hX dX6_gap_114 rfl ?_
        obtain ⟨g37, hf⟩ := q_gd_some hf
        obtain ⟨g38, hf⟩ := q_gd_some hf
        obtain ⟨g39, hf⟩ := q_gd_some hf
        refine v_ldiv hX g37 g38 g39 dX6_gap_116 ?_
        refine v_l2i hX dX6_gap_117 ?_
        cases hf
        exact v_iret hX hE (Nat.le_of_ble_eq_true rfl) (Nat.le_of_ble_eq_true rfl) dX6_gap_118
      · replace hf := q_ifn c36 hf
        refine v_lload 4 hX dX6_gap_119 rfl ?_
        refine v_aload_n 0 1 hX dX6_gap_121 rfl rfl ?_
        refine v_getJ hX fa_RX6_19 (fun _ _ => rfl) g34 dX6_gap_122 ?_
        refine v_lmul hX dX6_gap_125 ?_
        refine v_lload 5 hX dX6_gap_126 rfl ?_
        refine v_lload 5 hX dX6_gap_128 rfl ?_
        refine v_lmul hX dX6_gap_130 ?_
        refine v_lsub hX dX6_gap_131 ?_
        refine v_lload 0 hX dX6_gap_132 rfl ?_
        refine v_aload_n 0 1 hX dX6_gap_134 rfl rfl ?_
        refine v_getJ hX fa_RX6_19 (fun _ _ => rfl) g34 dX6_gap_135 ?_
        refine v_lmul hX dX6_gap_138 ?_
        obtain ⟨g40, hf⟩ := q_gd_some hf
        obtain ⟨g41, hf⟩ := q_gd_some hf
        obtain ⟨g42, hf⟩ := q_gd_some hf
        refine v_ldiv hX g40 g41 g42 dX6_gap_139 ?_
        refine v_l2i hX dX6_gap_140 ?_
        cases hf
        exact v_iret hX hE (Nat.le_of_ble_eq_true rfl) (Nat.le_of_ble_eq_true rfl) dX6_gap_141
    · replace hf := q_ifn c4 hf
      refine v_iconst hX dX6_gap_9 ?_
      cases hf
      exact v_iret hX hE (Nat.le_of_ble_eq_true rfl) (Nat.le_of_ble_eq_true rfl) dX6_gap_10
noncomputable def f_X7_init (S : q_S) (R : q_HR) (I : q_HI) (a0 : Nat) : Option (q_S × q_HR × q_HI) := q_lt (q_nw S 12 (Int.toNat 64)) fun S1 => q_lt (q_zr R S.2.2 0) fun R3 => q_lt (q_zr I S.2.2 0) fun I5 => q_gd (S1.1 a0 = 8) (q_gd (S1.1 (S.2.2) = 12) (q_lt (q_up R3 a0 0 (S.2.2)) fun R9 => q_lt (q_nw S1 12 (Int.toNat 64)) fun S11 => q_lt (q_zr R9 S1.2.2 0) fun R13 => q_lt (q_zr I5 S1.2.2 0) fun I15 => q_gd (S11.1 a0 = 8) (q_gd (S11.1 (S1.2.2) = 12) (q_lt (q_up R13 a0 1 (S1.2.2)) fun R19 => q_lt (q_nw S11 12 (Int.toNat 8)) fun S21 => q_lt (q_zr R19 S11.2.2 0) fun R23 => q_lt (q_zr I15 S11.2.2 0) fun I25 => q_gd (S21.1 a0 = 8) (q_gd (S21.1 (S11.2.2) = 12) (q_lt (q_up R23 a0 2 (S11.2.2)) fun R29 => some (S21, R29, I25)))))))
abbrev rmX7_init : Room := { frames := 1, cells := 3, slots := 136, locals := 12 }
set_option maxRecDepth 20000 in
theorem c_X7_init {S : q_S} {R : q_HR} {I : q_HI} {a0 : Nat} {Sz : q_S} {Rz : q_HR} {Iz : q_HI} (hf : f_X7_init S R I a0 = some (Sz, Rz, Iz)) : ∀ (l : Launch) (D : va_G) (cy : Nat → ClassId) (B : Nat), Met l yX7_init [Cond.code yX7_init cX7_init 1 none] rmX7_init (q_Pc B D cy [.ref a0] S R I) (q_Qc B D cy none Sz Rz Iz) 3 136 (fun q => B ≤ q) := by
  refine q_met (lv := [(0, .ref a0)]) (own := RX7) (nm := "<init>") (by decide) rfl rfl (Nat.le_of_ble_eq_true rfl) rfl (fun X hX hE => ?_)
  unfold f_X7_init at hf
  refine v_aload_n 0 0 hX dX7_init_0 rfl rfl ?_
  refine v_objInit hX wo_RX7_3 wo_inst wo_code (Nat.le_of_ble_eq_true rfl) (Nat.le_of_ble_eq_true rfl) dX7_init_1 ?_
  refine v_aload_n 0 0 hX dX7_init_4 rfl rfl ?_
  refine v_bipush 64 hX dX7_init_5 (by decide) ?_
  refine v_newarr (k := 12) (N := 64) (t0 := 0) (ty := .int) hX (by decide) wa_int rfl (fun _ => rfl) (fun _ => rfl) (fun _ _ h => h) (by omega) (by decide) (fun M hM => by show M * _ ≤ _; simp only [componentBytes]; omega) (Nat.le_of_ble_eq_true rfl) (Nat.le_of_ble_eq_true rfl) dX7_init_7 ?_
  refine v_cs (k := 1) (n := 64) rfl rfl ?_
  obtain ⟨S1, e2, hf⟩ := q_lt_nm hf
  rw [e2]
  obtain ⟨R3, e4, hf⟩ := q_lt_nm hf
  rw [e4]
  obtain ⟨I5, e6, hf⟩ := q_lt_nm hf
  rw [e6]
  obtain ⟨g7, hf⟩ := q_gd_some hf
  obtain ⟨g8, hf⟩ := q_gd_some hf
  refine v_putFA hX fa_RX7_9 (fun _ _ => rfl) rfl rfl g7 g8 (by decide) dX7_init_9 ?_
  obtain ⟨R9, e10, hf⟩ := q_lt_nm hf
  rw [e10]
  refine v_aload_n 0 0 hX dX7_init_12 rfl rfl ?_
  refine v_bipush 64 hX dX7_init_13 (by decide) ?_
  refine v_newarr (k := 12) (N := 64) (t0 := 0) (ty := .int) hX (by decide) wa_int rfl (fun _ => rfl) (fun _ => rfl) (fun _ _ h => h) (by omega) (by decide) (fun M hM => by show M * _ ≤ _; simp only [componentBytes]; omega) (Nat.le_of_ble_eq_true rfl) (Nat.le_of_ble_eq_true rfl) dX7_init_15 ?_
  refine v_cs (k := 2) (n := 128) rfl rfl ?_
  obtain ⟨S11, e12, hf⟩ := q_lt_nm hf
  rw [e12]
  obtain ⟨R13, e14, hf⟩ := q_lt_nm hf
  rw [e14]
  obtain ⟨I15, e16, hf⟩ := q_lt_nm hf
  rw [e16]
  obtain ⟨g17, hf⟩ := q_gd_some hf
  obtain ⟨g18, hf⟩ := q_gd_some hf
  refine v_putFA hX fa_RX7_15 (fun _ _ => rfl) rfl rfl g17 g18 (by decide) dX7_init_17 ?_
  obtain ⟨R19, e20, hf⟩ := q_lt_nm hf
  rw [e20]
  refine v_aload_n 0 0 hX dX7_init_20 rfl rfl ?_
  refine v_bipush 8 hX dX7_init_21 (by decide) ?_
  refine v_newarr (k := 12) (N := 8) (t0 := 0) (ty := .int) hX (by decide) wa_int rfl (fun _ => rfl) (fun _ => rfl) (fun _ _ h => h) (by omega) (by decide) (fun M hM => by show M * _ ≤ _; simp only [componentBytes]; omega) (Nat.le_of_ble_eq_true rfl) (Nat.le_of_ble_eq_true rfl) dX7_init_23 ?_
  refine v_cs (k := 3) (n := 136) rfl rfl ?_
  obtain ⟨S21, e22, hf⟩ := q_lt_nm hf
  rw [e22]
  obtain ⟨R23, e24, hf⟩ := q_lt_nm hf
  rw [e24]
  obtain ⟨I25, e26, hf⟩ := q_lt_nm hf
  rw [e26]
  obtain ⟨g27, hf⟩ := q_gd_some hf
  obtain ⟨g28, hf⟩ := q_gd_some hf
  refine v_putFA hX fa_RX7_18 (fun _ _ => rfl) rfl rfl g27 g28 (by decide) dX7_init_25 ?_
  obtain ⟨R29, e30, hf⟩ := q_lt_nm hf
  rw [e30]
  cases hf
  exact v_vret hX hE (Nat.le_of_ble_eq_true rfl) (Nat.le_of_ble_eq_true rfl) dX7_init_28
noncomputable def f_X7_clear (S : q_S) (R : q_HR) (I : q_HI) (a0 : Nat) : Option (q_HI) := q_gd (S.1 a0 = 8) (q_lt (q_up I a0 3 0) fun I2 => some I2)
abbrev rmX7_clear : Room := { frames := 0, cells := 0, slots := 0, locals := 0 }
set_option maxRecDepth 20000 in
theorem c_X7_clear {S : q_S} {R : q_HR} {I : q_HI} {a0 : Nat} {Iz : q_HI} (hf : f_X7_clear S R I a0 = some Iz) : ∀ (l : Launch) (D : va_G) (cy : Nat → ClassId) (B : Nat), Met l yX7_clear [Cond.code yX7_clear cX7_clear 1 none] rmX7_clear (q_Pc B D cy [.ref a0] S R I) (q_Qc B D cy none S R Iz) 0 0 (fun q => B ≤ q) := by
  refine q_met (lv := [(0, .ref a0)]) (own := RX7) (nm := "clear") (by decide) rfl rfl (Nat.le_of_ble_eq_true rfl) rfl (fun X hX hE => ?_)
  unfold f_X7_clear at hf
  refine v_aload_n 0 0 hX dX7_clear_0 rfl rfl ?_
  refine v_iconst hX dX7_clear_1 ?_
  obtain ⟨g1, hf⟩ := q_gd_some hf
  refine v_putI hX fa_RX7_21 rfl g1 dX7_clear_2 ?_
  obtain ⟨I2, e3, hf⟩ := q_lt_nm hf
  rw [e3]
  cases hf
  exact v_vret hX hE (Nat.le_of_ble_eq_true rfl) (Nat.le_of_ble_eq_true rfl) dX7_clear_5
noncomputable def f_X7_insert_L18 (S : q_S) (R : q_HR) (p0 : Nat) (p1 : Int) (p2 : Int) (k : Int → q_HI → Option (q_HI)) : Nat → Int → q_HI → Option (q_HI)
  | 0, _, _ => none
  | n + 1, v3, I => q_gd (r_i v3) (if v3 ≤ 0 then k v3 I else q_gd (S.1 p0 = 8) (q_gd (S.1 (R p0 1) = 12) (q_gd ((0 : Int) ≤ v3 - 1 ∧ v3 - 1 < (S.2.1 (R p0 1) : Int)) (q_gd (r_i (I (R p0 1) (Int.toNat (v3 - 1)))) (q_gd (r_i p2) (if I (R p0 1) (Int.toNat (v3 - 1)) ≤ p2 then k v3 I else q_gd (S.1 (R p0 0) = 12) (q_gd ((0 : Int) ≤ v3 - 1 ∧ v3 - 1 < (S.2.1 (R p0 0) : Int)) (q_gd ((0 : Int) ≤ v3 ∧ v3 < (S.2.1 (R p0 0) : Int)) (q_lt (q_up I (R p0 0) (Int.toNat v3) (I (R p0 0) (Int.toNat (v3 - 1)))) fun I20 => q_gd ((0 : Int) ≤ v3 ∧ v3 < (S.2.1 (R p0 1) : Int)) (q_lt (q_up I20 (R p0 1) (Int.toNat v3) (I20 (R p0 1) (Int.toNat (v3 - 1)))) fun I23 => f_X7_insert_L18 S R p0 p1 p2 k n (v3 + (-1)) I23))))))))))
noncomputable def f_X7_insert (S : q_S) (R : q_HR) (I : q_HI) (a0 : Nat) (a1 : Int) (a2 : Int) : Option (q_HI) := q_gd (S.1 a0 = 8) (q_gd (S.1 (R a0 0) = 12) (q_gd (r_i (I a0 3)) (q_gd (r_i (S.2.1 (R a0 0) : Int)) (if I a0 3 < (S.2.1 (R a0 0) : Int) then q_lt (I a0 3) fun x6 => f_X7_insert_L18 S R a0 a1 a2 (fun w25 I26 => q_gd ((0 : Int) ≤ w25 ∧ w25 < (S.2.1 (R a0 0) : Int)) (q_lt (q_up I26 (R a0 0) (Int.toNat w25) a1) fun I28 => q_gd (S.1 (R a0 1) = 12) (q_gd ((0 : Int) ≤ w25 ∧ w25 < (S.2.1 (R a0 1) : Int)) (q_lt (q_up I28 (R a0 1) (Int.toNat w25) a2) fun I32 => q_lt (q_up I32 a0 3 ((I32 a0 3) + 1)) fun I34 => some I34)))) 100 x6 I else some I))))
abbrev rmX7_insert : Room := { frames := 0, cells := 0, slots := 0, locals := 0 }
set_option maxRecDepth 20000 in
theorem l_X7_insert_18 {X : q_X} {S : q_S} {R : q_HR} {p0 : Nat} {p1 : Int} {p2 : Int} {Iz : q_HI} (hX : q_C X cX7_insert 4 RX7 none "insert") (hE : q_E X 0 0 none S R Iz) {k : Int → q_HI → Option (q_HI)} (hk : ∀ (v3 : Int) (I : q_HI), k v3 I = some Iz → q_V X rmX7_insert cX7_insert 4 0 0 68 [(0, .ref p0), (1, .int (q_i p1)), (2, .int (q_i p2)), (3, .int (q_i v3))] [] S R I) :
    ∀ (n : Nat), ∀ (v3 : Int) (I : q_HI), f_X7_insert_L18 S R p0 p1 p2 k n v3 I = some Iz → q_V X rmX7_insert cX7_insert 4 0 0 18 [(0, .ref p0), (1, .int (q_i p1)), (2, .int (q_i p2)), (3, .int (q_i v3))] [] S R I := by
  intro n
  induction n with
  | zero =>
    intro v3 I hf
    cases (show (none : Option (q_HI)) = some _ from hf)
  | succ n ih =>
    intro v3 I hf
    rw [f_X7_insert_L18] at hf
    refine v_iload_n 3 3 hX dX7_insert_18 rfl rfl ?_
    obtain ⟨g9, hf⟩ := q_gd_some hf
    refine v_if_le (tgt := 68) hX g9 dX7_insert_19 (by decide) (fun c10 => ?_) (fun c10 => ?_)
    · replace hf := q_ifp c10 hf
      refine v_sub (lv' := [(0, .ref p0), (1, .int (q_i p1)), (2, .int (q_i p2)), (3, .int (q_i v3))]) [0, 1, 2, 3] rfl ?_
      exact hk _ _ hf
    · replace hf := q_ifn c10 hf
      refine v_aload_n 0 0 hX dX7_insert_22 rfl rfl ?_
      obtain ⟨g11, hf⟩ := q_gd_some hf
      obtain ⟨g12, hf⟩ := q_gd_some hf
      refine v_getA hX fa_RX7_15 (fun _ _ => rfl) g11 g12 (by decide) dX7_insert_23 ?_
      refine v_iload_n 3 3 hX dX7_insert_26 rfl rfl ?_
      refine v_iconst hX dX7_insert_27 ?_
      refine v_isub hX dX7_insert_28 ?_
      obtain ⟨g13, hf⟩ := q_gd_some hf
      refine v_iaload hX g12 g13 dX7_insert_29 ?_
      refine v_iload_n 2 2 hX dX7_insert_30 rfl rfl ?_
      obtain ⟨g14, hf⟩ := q_gd_some hf
      obtain ⟨g15, hf⟩ := q_gd_some hf
      refine v_icmp_le (tgt := 68) hX g14 g15 dX7_insert_31 (by decide) (fun c16 => ?_) (fun c16 => ?_)
      · replace hf := q_ifp c16 hf
        refine v_sub (lv' := [(0, .ref p0), (1, .int (q_i p1)), (2, .int (q_i p2)), (3, .int (q_i v3))]) [0, 1, 2, 3] rfl ?_
        exact hk _ _ hf
      · replace hf := q_ifn c16 hf
        refine v_aload_n 0 0 hX dX7_insert_34 rfl rfl ?_
        obtain ⟨g17, hf⟩ := q_gd_some hf
        refine v_getA hX fa_RX7_9 (fun _ _ => rfl) g11 g17 (by decide) dX7_insert_35 ?_
        refine v_iload_n 3 3 hX dX7_insert_38 rfl rfl ?_
        refine v_aload_n 0 0 hX dX7_insert_39 rfl rfl ?_
        refine v_getA hX fa_RX7_9 (fun _ _ => rfl) g11 g17 (by decide) dX7_insert_40 ?_
        refine v_iload_n 3 3 hX dX7_insert_43 rfl rfl ?_
        refine v_iconst hX dX7_insert_44 ?_
        refine v_isub hX dX7_insert_45 ?_
        obtain ⟨g18, hf⟩ := q_gd_some hf
        refine v_iaload hX g17 g18 dX7_insert_46 ?_
        obtain ⟨g19, hf⟩ := q_gd_some hf
        refine v_iastore hX g17 g19 dX7_insert_47 ?_
        obtain ⟨I20, e21, hf⟩ := q_lt_nm hf
        rw [e21]
        refine v_aload_n 0 0 hX dX7_insert_48 rfl rfl ?_
        refine v_getA hX fa_RX7_15 (fun _ _ => rfl) g11 g12 (by decide) dX7_insert_49 ?_
        refine v_iload_n 3 3 hX dX7_insert_52 rfl rfl ?_
        refine v_aload_n 0 0 hX dX7_insert_53 rfl rfl ?_
        refine v_getA hX fa_RX7_15 (fun _ _ => rfl) g11 g12 (by decide) dX7_insert_54 ?_
        refine v_iload_n 3 3 hX dX7_insert_57 rfl rfl ?_
        refine v_iconst hX dX7_insert_58 ?_
        refine v_isub hX dX7_insert_59 ?_
        refine v_iaload hX g12 g13 dX7_insert_60 ?_
        obtain ⟨g22, hf⟩ := q_gd_some hf
        refine v_iastore hX g12 g22 dX7_insert_61 ?_
        obtain ⟨I23, e24, hf⟩ := q_lt_nm hf
        rw [e24]
        refine v_iinc 3 (lw := [(3, .int (q_i (v3 + (-1)))), (0, .ref p0), (1, .int (q_i p1)), (2, .int (q_i p2))]) hX dX7_insert_62 rfl (by decide) rfl ?_
        refine v_goto (tgt := 18) hX dX7_insert_65 (by decide) ?_
        refine v_sub (lv' := [(0, .ref p0), (1, .int (q_i p1)), (2, .int (q_i p2)), (3, .int (q_i (v3 + (-1))))]) [1, 2, 3, 0] rfl ?_
        exact ih _ _ hf
set_option maxRecDepth 20000 in
theorem c_X7_insert {S : q_S} {R : q_HR} {I : q_HI} {a0 : Nat} {a1 : Int} {a2 : Int} {Iz : q_HI} (hf : f_X7_insert S R I a0 a1 a2 = some Iz) : ∀ (l : Launch) (D : va_G) (cy : Nat → ClassId) (B : Nat), Met l yX7_insert [Cond.code yX7_insert cX7_insert 4 none] rmX7_insert (q_Pc B D cy [.ref a0, .int (q_i a1), .int (q_i a2)] S R I) (q_Qc B D cy none S R Iz) 0 0 (fun q => B ≤ q) := by
  refine q_met (lv := [(0, .ref a0), (1, .int (q_i a1)), (2, .int (q_i a2))]) (own := RX7) (nm := "insert") (by decide) rfl rfl (Nat.le_of_ble_eq_true rfl) rfl (fun X hX hE => ?_)
  unfold f_X7_insert at hf
  refine v_aload_n 0 0 hX dX7_insert_0 rfl rfl ?_
  obtain ⟨g1, hf⟩ := q_gd_some hf
  refine v_getI hX fa_RX7_21 (fun _ _ => rfl) g1 dX7_insert_1 ?_
  refine v_aload_n 0 0 hX dX7_insert_4 rfl rfl ?_
  obtain ⟨g2, hf⟩ := q_gd_some hf
  refine v_getA hX fa_RX7_9 (fun _ _ => rfl) g1 g2 (by decide) dX7_insert_5 ?_
  refine v_alen (t0 := 0) hX g2 (by decide) (fun _ => rfl) dX7_insert_8 ?_
  obtain ⟨g3, hf⟩ := q_gd_some hf
  obtain ⟨g4, hf⟩ := q_gd_some hf
  refine v_icmp_lt (tgt := 13) hX g3 g4 dX7_insert_9 (by decide) (fun c5 => ?_) (fun c5 => ?_)
  · replace hf := q_ifp c5 hf
    refine v_aload_n 0 0 hX dX7_insert_13 rfl rfl ?_
    refine v_getI hX fa_RX7_21 (fun _ _ => rfl) g1 dX7_insert_14 ?_
    obtain ⟨x6, e7, hf⟩ := q_lt_nm hf
    rw [e7]
    have g8 := g3
    rw [e7] at g8
    refine v_istore_n 3 (lw := [(3, .int (q_i x6)), (0, .ref a0), (1, .int (q_i a1)), (2, .int (q_i a2))]) hX dX7_insert_17 rfl (by decide) rfl ?_
    refine v_sub (lv' := [(0, .ref a0), (1, .int (q_i a1)), (2, .int (q_i a2)), (3, .int (q_i x6))]) [1, 2, 3, 0] rfl ?_
    refine l_X7_insert_18 hX hE (fun w25 I26 hk => ?_) 100 _ _ hf
    clear hf
    have hf := hk
    clear hk
    refine v_aload_n 0 0 hX dX7_insert_68 rfl rfl ?_
    refine v_getA hX fa_RX7_9 (fun _ _ => rfl) g1 g2 (by decide) dX7_insert_69 ?_
    refine v_iload_n 3 3 hX dX7_insert_72 rfl rfl ?_
    refine v_iload_n 1 1 hX dX7_insert_73 rfl rfl ?_
    obtain ⟨g27, hf⟩ := q_gd_some hf
    refine v_iastore hX g2 g27 dX7_insert_74 ?_
    obtain ⟨I28, e29, hf⟩ := q_lt_nm hf
    rw [e29]
    refine v_aload_n 0 0 hX dX7_insert_75 rfl rfl ?_
    obtain ⟨g30, hf⟩ := q_gd_some hf
    refine v_getA hX fa_RX7_15 (fun _ _ => rfl) g1 g30 (by decide) dX7_insert_76 ?_
    refine v_iload_n 3 3 hX dX7_insert_79 rfl rfl ?_
    refine v_iload_n 2 2 hX dX7_insert_80 rfl rfl ?_
    obtain ⟨g31, hf⟩ := q_gd_some hf
    refine v_iastore hX g30 g31 dX7_insert_81 ?_
    obtain ⟨I32, e33, hf⟩ := q_lt_nm hf
    rw [e33]
    refine v_aload_n 0 0 hX dX7_insert_82 rfl rfl ?_
    refine v_dup hX dX7_insert_83 rfl ?_
    refine v_getI hX fa_RX7_21 (fun _ _ => rfl) g1 dX7_insert_84 ?_
    refine v_iconst hX dX7_insert_87 ?_
    refine v_iadd hX dX7_insert_88 ?_
    refine v_putI hX fa_RX7_21 rfl g1 dX7_insert_89 ?_
    obtain ⟨I34, e35, hf⟩ := q_lt_nm hf
    rw [e35]
    cases hf
    exact v_vret hX hE (Nat.le_of_ble_eq_true rfl) (Nat.le_of_ble_eq_true rfl) dX7_insert_92
  · replace hf := q_ifn c5 hf
    cases hf
    exact v_vret hX hE (Nat.le_of_ble_eq_true rfl) (Nat.le_of_ble_eq_true rfl) dX7_insert_12
noncomputable def f_X7_countVotes_L2 (S : q_S) (R : q_HR) (p0 : Nat) (p1 : Int) (k : Int → q_HI → Option (q_HI)) : Nat → Int → q_HI → Option (q_HI)
  | 0, _, _ => none
  | n + 1, v2, I => q_gd (r_i v2) (if 8 ≤ v2 then k v2 I else q_gd (S.1 p0 = 8) (q_gd (S.1 (R p0 2) = 12) (q_gd ((0 : Int) ≤ v2 ∧ v2 < (S.2.1 (R p0 2) : Int)) (q_lt (q_up I (R p0 2) (Int.toNat v2) 0) fun I6 => f_X7_countVotes_L2 S R p0 p1 k n (v2 + 1) I6))))
noncomputable def f_X7_countVotes_L23 (S : q_S) (R : q_HR) (p0 : Nat) (p1 : Int) (k : Int → q_HI → Option (q_HI)) : Nat → Int → q_HI → Option (q_HI)
  | 0, _, _ => none
  | n + 1, v2, I => q_gd (r_i v2) (q_gd (r_i p1) (if p1 ≤ v2 then k v2 I else q_gd (S.1 p0 = 8) (q_gd (S.1 (R p0 2) = 12) (q_gd (S.1 (R p0 0) = 12) (q_gd ((0 : Int) ≤ v2 ∧ v2 < (S.2.1 (R p0 0) : Int)) (q_gd (r_i (I (R p0 0) (Int.toNat v2))) (q_gd ((0 : Int) ≤ Int.tdiv (I (R p0 0) (Int.toNat v2)) 10 ∧ Int.tdiv (I (R p0 0) (Int.toNat v2)) 10 < (S.2.1 (R p0 2) : Int)) (q_lt (q_up I (R p0 2) (Int.toNat (Int.tdiv (I (R p0 0) (Int.toNat v2)) 10)) ((I (R p0 2) (Int.toNat (Int.tdiv (I (R p0 0) (Int.toNat v2)) 10))) + 1)) fun I19 => f_X7_countVotes_L23 S R p0 p1 k n (v2 + 1) I19))))))))
noncomputable def f_X7_countVotes (S : q_S) (R : q_HR) (I : q_HI) (a0 : Nat) (a1 : Int) : Option (q_HI) := f_X7_countVotes_L2 S R a0 a1 (fun w8 I9 => f_X7_countVotes_L23 S R a0 a1 (fun w21 I22 => some I22) 100 0 I9) 100 0 I
abbrev rmX7_countVotes : Room := { frames := 0, cells := 0, slots := 0, locals := 0 }
set_option maxRecDepth 20000 in
theorem l_X7_countVotes_2 {X : q_X} {S : q_S} {R : q_HR} {p0 : Nat} {p1 : Int} {Iz : q_HI} (hX : q_C X cX7_countVotes 3 RX7 none "countVotes") (hE : q_E X 0 0 none S R Iz) {k : Int → q_HI → Option (q_HI)} (hk : ∀ (v2 : Int) (I : q_HI), k v2 I = some Iz → q_V X rmX7_countVotes cX7_countVotes 3 0 0 21 [(0, .ref p0), (1, .int (q_i p1))] [] S R I) :
    ∀ (n : Nat), ∀ (v2 : Int) (I : q_HI), f_X7_countVotes_L2 S R p0 p1 k n v2 I = some Iz → q_V X rmX7_countVotes cX7_countVotes 3 0 0 2 [(0, .ref p0), (1, .int (q_i p1)), (2, .int (q_i v2))] [] S R I := by
  intro n
  induction n with
  | zero =>
    intro v2 I hf
    cases (show (none : Option (q_HI)) = some _ from hf)
  | succ n ih =>
    intro v2 I hf
    rw [f_X7_countVotes_L2] at hf
    refine v_iload_n 2 2 hX dX7_countVotes_2 rfl rfl ?_
    refine v_bipush 8 hX dX7_countVotes_3 (by decide) ?_
    obtain ⟨g1, hf⟩ := q_gd_some hf
    refine v_icmp_ge (tgt := 21) hX g1 (by unfold r_i; omega) dX7_countVotes_5 (by decide) (fun c2 => ?_) (fun c2 => ?_)
    · replace hf := q_ifp c2 hf
      refine v_sub (lv' := [(0, .ref p0), (1, .int (q_i p1))]) [0, 1] rfl ?_
      exact hk _ _ hf
    · replace hf := q_ifn c2 hf
      refine v_aload_n 0 0 hX dX7_countVotes_8 rfl rfl ?_
      obtain ⟨g3, hf⟩ := q_gd_some hf
      obtain ⟨g4, hf⟩ := q_gd_some hf
      refine v_getA hX fa_RX7_18 (fun _ _ => rfl) g3 g4 (by decide) dX7_countVotes_9 ?_
      refine v_iload_n 2 2 hX dX7_countVotes_12 rfl rfl ?_
      refine v_iconst hX dX7_countVotes_13 ?_
      obtain ⟨g5, hf⟩ := q_gd_some hf
      refine v_iastore hX g4 g5 dX7_countVotes_14 ?_
      obtain ⟨I6, e7, hf⟩ := q_lt_nm hf
      rw [e7]
      refine v_iinc 2 (lw := [(2, .int (q_i (v2 + 1))), (0, .ref p0), (1, .int (q_i p1))]) hX dX7_countVotes_15 rfl (by decide) rfl ?_
      refine v_goto (tgt := 2) hX dX7_countVotes_18 (by decide) ?_
      refine v_sub (lv' := [(0, .ref p0), (1, .int (q_i p1)), (2, .int (q_i (v2 + 1)))]) [1, 2, 0] rfl ?_
      exact ih _ _ hf
set_option maxRecDepth 20000 in
theorem l_X7_countVotes_23 {X : q_X} {S : q_S} {R : q_HR} {p0 : Nat} {p1 : Int} {Iz : q_HI} (hX : q_C X cX7_countVotes 3 RX7 none "countVotes") (hE : q_E X 0 0 none S R Iz) {k : Int → q_HI → Option (q_HI)} (hk : ∀ (v2 : Int) (I : q_HI), k v2 I = some Iz → q_V X rmX7_countVotes cX7_countVotes 3 0 0 52 [] [] S R I) :
    ∀ (n : Nat), ∀ (v2 : Int) (I : q_HI), f_X7_countVotes_L23 S R p0 p1 k n v2 I = some Iz → q_V X rmX7_countVotes cX7_countVotes 3 0 0 23 [(0, .ref p0), (1, .int (q_i p1)), (2, .int (q_i v2))] [] S R I := by
  intro n
  induction n with
  | zero =>
    intro v2 I hf
    cases (show (none : Option (q_HI)) = some _ from hf)
  | succ n ih =>
    intro v2 I hf
    rw [f_X7_countVotes_L23] at hf
    refine v_iload_n 2 2 hX dX7_countVotes_23 rfl rfl ?_
    refine v_iload_n 1 1 hX dX7_countVotes_24 rfl rfl ?_
    obtain ⟨g10, hf⟩ := q_gd_some hf
    obtain ⟨g11, hf⟩ := q_gd_some hf
    refine v_icmp_ge (tgt := 52) hX g10 g11 dX7_countVotes_25 (by decide) (fun c12 => ?_) (fun c12 => ?_)
    · replace hf := q_ifp c12 hf
      refine v_sub (lv' := []) [] rfl ?_
      exact hk _ _ hf
    · replace hf := q_ifn c12 hf
      refine v_aload_n 0 0 hX dX7_countVotes_28 rfl rfl ?_
      obtain ⟨g13, hf⟩ := q_gd_some hf
      obtain ⟨g14, hf⟩ := q_gd_some hf
      refine v_getA hX fa_RX7_18 (fun _ _ => rfl) g13 g14 (by decide) dX7_countVotes_29 ?_
      refine v_aload_n 0 0 hX dX7_countVotes_32 rfl rfl ?_
      obtain ⟨g15, hf⟩ := q_gd_some hf
      refine v_getA hX fa_RX7_9 (fun _ _ => rfl) g13 g15 (by decide) dX7_countVotes_33 ?_
      refine v_iload_n 2 2 hX dX7_countVotes_36 rfl rfl ?_
      obtain ⟨g16, hf⟩ := q_gd_some hf
      refine v_iaload hX g15 g16 dX7_countVotes_37 ?_
      refine v_bipush 10 hX dX7_countVotes_38 (by decide) ?_
      obtain ⟨g17, hf⟩ := q_gd_some hf
      refine v_idiv hX g17 (by unfold r_i; omega) (by decide) dX7_countVotes_40 ?_
      refine v_dup2 hX dX7_countVotes_41 rfl rfl ?_
      obtain ⟨g18, hf⟩ := q_gd_some hf
      refine v_iaload hX g14 g18 dX7_countVotes_42 ?_
      refine v_iconst hX dX7_countVotes_43 ?_
      refine v_iadd hX dX7_countVotes_44 ?_
      refine v_iastore hX g14 g18 dX7_countVotes_45 ?_
      obtain ⟨I19, e20, hf⟩ := q_lt_nm hf
      rw [e20]
      refine v_iinc 2 (lw := [(2, .int (q_i (v2 + 1))), (0, .ref p0), (1, .int (q_i p1))]) hX dX7_countVotes_46 rfl (by decide) rfl ?_
      refine v_goto (tgt := 23) hX dX7_countVotes_49 (by decide) ?_
      refine v_sub (lv' := [(0, .ref p0), (1, .int (q_i p1)), (2, .int (q_i (v2 + 1)))]) [1, 2, 0] rfl ?_
      exact ih _ _ hf
set_option maxRecDepth 20000 in
theorem c_X7_countVotes {S : q_S} {R : q_HR} {I : q_HI} {a0 : Nat} {a1 : Int} {Iz : q_HI} (hf : f_X7_countVotes S R I a0 a1 = some Iz) : ∀ (l : Launch) (D : va_G) (cy : Nat → ClassId) (B : Nat), Met l yX7_countVotes [Cond.code yX7_countVotes cX7_countVotes 3 none] rmX7_countVotes (q_Pc B D cy [.ref a0, .int (q_i a1)] S R I) (q_Qc B D cy none S R Iz) 0 0 (fun q => B ≤ q) := by
  refine q_met (lv := [(0, .ref a0), (1, .int (q_i a1))]) (own := RX7) (nm := "countVotes") (by decide) rfl rfl (Nat.le_of_ble_eq_true rfl) rfl (fun X hX hE => ?_)
  unfold f_X7_countVotes at hf
  refine v_iconst hX dX7_countVotes_0 ?_
  refine v_istore_n 2 (lw := [(2, .int (q_i 0)), (0, .ref a0), (1, .int (q_i a1))]) hX dX7_countVotes_1 rfl (by decide) rfl ?_
  refine v_sub (lv' := [(0, .ref a0), (1, .int (q_i a1)), (2, .int (q_i 0))]) [1, 2, 0] rfl ?_
  refine l_X7_countVotes_2 hX hE (fun w8 I9 hk => ?_) 100 _ _ hf
  clear hf
  have hf := hk
  clear hk
  refine v_iconst hX dX7_countVotes_21 ?_
  refine v_istore_n 2 (lw := [(2, .int (q_i 0)), (0, .ref a0), (1, .int (q_i a1))]) hX dX7_countVotes_22 rfl (by decide) rfl ?_
  refine v_sub (lv' := [(0, .ref a0), (1, .int (q_i a1)), (2, .int (q_i 0))]) [1, 2, 0] rfl ?_
  refine l_X7_countVotes_23 hX hE (fun w21 I22 hk => ?_) 100 _ _ hf
  clear hf
  have hf := hk
  clear hk
  cases hf
  exact v_vret hX hE (Nat.le_of_ble_eq_true rfl) (Nat.le_of_ble_eq_true rfl) dX7_countVotes_52
noncomputable def f_X7_winnerOf_L22 (S : q_S) (R : q_HR) (I : q_HI) (p0 : Nat) (p2 : Int) (k : Int → Int → Int → Option (Int × q_HI)) : Nat → Int → Int → Int → Option (Int × q_HI)
  | 0, _, _, _ => none
  | n + 1, v3, v4, v5 => q_gd (r_i v5) (q_gd (r_i p2) (if p2 ≤ v5 then k v3 v4 v5 else q_gd (S.1 p0 = 8) (q_gd (S.1 (R p0 0) = 12) (q_gd ((0 : Int) ≤ v5 ∧ v5 < (S.2.1 (R p0 0) : Int)) (q_gd (r_i (I (R p0 0) (Int.toNat v5))) (q_lt (Int.tdiv (I (R p0 0) (Int.toNat v5)) 10) fun x15 => q_gd (S.1 (R p0 2) = 12) (q_gd ((0 : Int) ≤ x15 ∧ x15 < (S.2.1 (R p0 2) : Int)) (q_gd (r_i (I (R p0 2) (Int.toNat x15))) (q_gd (r_i v4) (if I (R p0 2) (Int.toNat x15) ≤ v4 then f_X7_winnerOf_L22 S R I p0 p2 k n v3 v4 (v5 + 1) else q_lt (I (R p0 2) (Int.toNat x15)) fun x22 => f_X7_winnerOf_L22 S R I p0 p2 k n x15 x22 (v5 + 1)))))))))))
noncomputable def f_X7_winnerOf (S : q_S) (R : q_HR) (I : q_HI) (a0 : Nat) (a1 : Int) : Option (Int × q_HI) := q_gd (S.1 a0 = 8) (q_gd (r_i a1) (q_gd (r_i (I a0 3)) (q_lt (q_mn a1 (I a0 3)) fun x4 => q_bd (f_X7_countVotes S R I a0 x4) fun I6 => f_X7_winnerOf_L22 S R I6 a0 x4 (fun w25 w26 w27 => some (w25, I6)) 100 (-1) 0 0)))
abbrev rmX7_winnerOf : Room := { frames := 1, cells := 0, slots := 0, locals := 22 }
set_option maxRecDepth 20000 in
theorem l_X7_winnerOf_22 {X : q_X} {S : q_S} {R : q_HR} {I : q_HI} {p0 : Nat} {p2 : Int} {rz : Int} {Iz : q_HI} (hX : q_C X cX7_winnerOf 7 RX7 (some .int) "winnerOf") (hE : q_E X 0 0 (some (.int (q_i rz))) S R Iz) {k : Int → Int → Int → Option (Int × q_HI)} (hk : ∀ (v3 : Int) (v4 : Int) (v5 : Int), k v3 v4 v5 = some (rz, Iz) → q_V X rmX7_winnerOf cX7_winnerOf 7 0 0 70 [(3, .int (q_i v3))] [] S R I) :
    ∀ (n : Nat), ∀ (v3 : Int) (v4 : Int) (v5 : Int), f_X7_winnerOf_L22 S R I p0 p2 k n v3 v4 v5 = some (rz, Iz) → q_V X rmX7_winnerOf cX7_winnerOf 7 0 0 22 [(0, .ref p0), (2, .int (q_i p2)), (3, .int (q_i v3)), (4, .int (q_i v4)), (5, .int (q_i v5))] [] S R I := by
  intro n
  induction n with
  | zero =>
    intro v3 v4 v5 hf
    cases (show (none : Option (Int × q_HI)) = some _ from hf)
  | succ n ih =>
    intro v3 v4 v5 hf
    rw [f_X7_winnerOf_L22] at hf
    refine v_iload 4 hX dX7_winnerOf_22 rfl ?_
    refine v_iload_n 2 1 hX dX7_winnerOf_24 rfl rfl ?_
    obtain ⟨g8, hf⟩ := q_gd_some hf
    obtain ⟨g9, hf⟩ := q_gd_some hf
    refine v_icmp_ge (tgt := 70) hX g8 g9 dX7_winnerOf_25 (by decide) (fun c10 => ?_) (fun c10 => ?_)
    · replace hf := q_ifp c10 hf
      refine v_sub (lv' := [(3, .int (q_i v3))]) [2] rfl ?_
      exact hk _ _ _ hf
    · replace hf := q_ifn c10 hf
      refine v_aload_n 0 0 hX dX7_winnerOf_28 rfl rfl ?_
      obtain ⟨g11, hf⟩ := q_gd_some hf
      obtain ⟨g12, hf⟩ := q_gd_some hf
      refine v_getA hX fa_RX7_9 (fun _ _ => rfl) g11 g12 (by decide) dX7_winnerOf_29 ?_
      refine v_iload 4 hX dX7_winnerOf_32 rfl ?_
      obtain ⟨g13, hf⟩ := q_gd_some hf
      refine v_iaload hX g12 g13 dX7_winnerOf_34 ?_
      refine v_bipush 10 hX dX7_winnerOf_35 (by decide) ?_
      obtain ⟨g14, hf⟩ := q_gd_some hf
      refine v_idiv hX g14 (by unfold r_i; omega) (by decide) dX7_winnerOf_37 ?_
      obtain ⟨x15, e16, hf⟩ := q_lt_nm hf
      rw [e16]
      refine v_istore (lw := [(6, .int (q_i x15)), (0, .ref p0), (2, .int (q_i p2)), (3, .int (q_i v3)), (4, .int (q_i v4)), (5, .int (q_i v5))]) hX dX7_winnerOf_38 (by decide) rfl ?_
      refine v_aload_n 0 1 hX dX7_winnerOf_40 rfl rfl ?_
      obtain ⟨g17, hf⟩ := q_gd_some hf
      refine v_getA hX fa_RX7_18 (fun _ _ => rfl) g11 g17 (by decide) dX7_winnerOf_41 ?_
      refine v_iload 0 hX dX7_winnerOf_44 rfl ?_
      obtain ⟨g18, hf⟩ := q_gd_some hf
      refine v_iaload hX g17 g18 dX7_winnerOf_46 ?_
      refine v_iload 4 hX dX7_winnerOf_47 rfl ?_
      obtain ⟨g19, hf⟩ := q_gd_some hf
      obtain ⟨g20, hf⟩ := q_gd_some hf
      refine v_icmp_le (tgt := 64) hX g19 g20 dX7_winnerOf_49 (by decide) (fun c21 => ?_) (fun c21 => ?_)
      · replace hf := q_ifp c21 hf
        refine v_iinc 5 (lw := [(5, .int (q_i (v5 + 1))), (6, .int (q_i x15)), (0, .ref p0), (2, .int (q_i p2)), (3, .int (q_i v3)), (4, .int (q_i v4))]) hX dX7_winnerOf_64 rfl (by decide) rfl ?_
        refine v_goto (tgt := 22) hX dX7_winnerOf_67 (by decide) ?_
        refine v_sub (lv' := [(0, .ref p0), (2, .int (q_i p2)), (3, .int (q_i v3)), (4, .int (q_i v4)), (5, .int (q_i (v5 + 1)))]) [2, 3, 4, 5, 0] rfl ?_
        exact ih _ _ _ hf
      · replace hf := q_ifn c21 hf
        refine v_iload 0 hX dX7_winnerOf_52 rfl ?_
        refine v_istore_n 3 (lw := [(3, .int (q_i x15)), (6, .int (q_i x15)), (0, .ref p0), (2, .int (q_i p2)), (4, .int (q_i v4)), (5, .int (q_i v5))]) hX dX7_winnerOf_54 rfl (by decide) rfl ?_
        refine v_aload_n 0 2 hX dX7_winnerOf_55 rfl rfl ?_
        refine v_getA hX fa_RX7_18 (fun _ _ => rfl) g11 g17 (by decide) dX7_winnerOf_56 ?_
        refine v_iload 1 hX dX7_winnerOf_59 rfl ?_
        refine v_iaload hX g17 g18 dX7_winnerOf_61 ?_
        obtain ⟨x22, e23, hf⟩ := q_lt_nm hf
        rw [e23]
        have g24 := g19
        rw [e23] at g24
        refine v_istore (lw := [(4, .int (q_i x22)), (3, .int (q_i x15)), (6, .int (q_i x15)), (0, .ref p0), (2, .int (q_i p2)), (5, .int (q_i v5))]) hX dX7_winnerOf_62 (by decide) rfl ?_
        refine v_iinc 5 (lw := [(5, .int (q_i (v5 + 1))), (4, .int (q_i x22)), (3, .int (q_i x15)), (6, .int (q_i x15)), (0, .ref p0), (2, .int (q_i p2))]) hX dX7_winnerOf_64 rfl (by decide) rfl ?_
        refine v_goto (tgt := 22) hX dX7_winnerOf_67 (by decide) ?_
        refine v_sub (lv' := [(0, .ref p0), (2, .int (q_i p2)), (3, .int (q_i x15)), (4, .int (q_i x22)), (5, .int (q_i (v5 + 1)))]) [4, 5, 2, 1, 0] rfl ?_
        exact ih _ _ _ hf
set_option maxRecDepth 20000 in
theorem c_X7_winnerOf {S : q_S} {R : q_HR} {I : q_HI} {a0 : Nat} {a1 : Int} {rz : Int} {Iz : q_HI} (hf : f_X7_winnerOf S R I a0 a1 = some (rz, Iz)) : ∀ (l : Launch) (D : va_G) (cy : Nat → ClassId) (B : Nat), Met l yX7_winnerOf [Cond.code yX7_winnerOf cX7_winnerOf 7 (some .int)] rmX7_winnerOf (q_Pc B D cy [.ref a0, .int (q_i a1)] S R I) (q_Qc B D cy (some (.int (q_i rz))) S R Iz) 0 0 (fun q => B ≤ q) := by
  refine q_met (lv := [(0, .ref a0), (1, .int (q_i a1))]) (own := RX7) (nm := "winnerOf") (by decide) rfl rfl (Nat.le_of_ble_eq_true rfl) rfl (fun X hX hE => ?_)
  unfold f_X7_winnerOf at hf
  refine v_iload_n 1 1 hX dX7_winnerOf_0 rfl rfl ?_
  refine v_aload_n 0 0 hX dX7_winnerOf_1 rfl rfl ?_
  obtain ⟨g1, hf⟩ := q_gd_some hf
  refine v_getI hX fa_RX7_21 (fun _ _ => rfl) g1 dX7_winnerOf_2 ?_
  obtain ⟨g2, hf⟩ := q_gd_some hf
  obtain ⟨g3, hf⟩ := q_gd_some hf
  refine v_mminI hX g2 g3 wml_RX7_25 (Nat.le_of_ble_eq_true rfl) (Nat.le_of_ble_eq_true rfl) (Nat.le_of_ble_eq_true rfl) (Nat.le_of_ble_eq_true rfl) dX7_winnerOf_5 ?_
  obtain ⟨x4, e5, hf⟩ := q_lt_nm hf
  rw [e5]
  refine v_istore_n 2 (lw := [(2, .int (q_i x4)), (0, .ref a0), (1, .int (q_i a1))]) hX dX7_winnerOf_8 rfl (by decide) rfl ?_
  refine v_aload_n 0 1 hX dX7_winnerOf_9 rfl rfl ?_
  refine v_iload_n 2 0 hX dX7_winnerOf_10 rfl rfl ?_
  obtain ⟨I6, h7, hf⟩ := q_bd_some hf
  refine v_callV (As := [.int (q_i x4)]) (rest := []) (st1 := []) none hX mv_RX7_31 (c_X7_countVotes h7) ⟨rfl, rfl⟩ ⟨Nat.le_of_ble_eq_true rfl, Nat.le_of_ble_eq_true rfl⟩ g1 rfl rfl (Nat.le_of_ble_eq_true rfl) ⟨Nat.le_of_ble_eq_true rfl, Nat.le_of_ble_eq_true rfl⟩ dX7_winnerOf_11 rfl ?_
  refine v_iconst hX dX7_winnerOf_14 ?_
  refine v_istore_n 3 (lw := [(3, .int (q_i (-1))), (2, .int (q_i x4)), (0, .ref a0), (1, .int (q_i a1))]) hX dX7_winnerOf_15 rfl (by decide) rfl ?_
  refine v_iconst hX dX7_winnerOf_16 ?_
  refine v_istore (lw := [(4, .int (q_i 0)), (3, .int (q_i (-1))), (2, .int (q_i x4)), (0, .ref a0), (1, .int (q_i a1))]) hX dX7_winnerOf_17 (by decide) rfl ?_
  refine v_iconst hX dX7_winnerOf_19 ?_
  refine v_istore (lw := [(5, .int (q_i 0)), (4, .int (q_i 0)), (3, .int (q_i (-1))), (2, .int (q_i x4)), (0, .ref a0), (1, .int (q_i a1))]) hX dX7_winnerOf_20 (by decide) rfl ?_
  refine v_sub (lv' := [(0, .ref a0), (2, .int (q_i x4)), (3, .int (q_i (-1))), (4, .int (q_i 0)), (5, .int (q_i 0))]) [4, 3, 2, 1, 0] rfl ?_
  refine l_X7_winnerOf_22 hX hE (fun w25 w26 w27 hk => ?_) 100 _ _ _ hf
  clear hf
  have hf := hk
  clear hk
  refine v_iload_n 3 0 hX dX7_winnerOf_70 rfl rfl ?_
  cases hf
  exact v_iret hX hE (Nat.le_of_ble_eq_true rfl) (Nat.le_of_ble_eq_true rfl) dX7_winnerOf_71
noncomputable def f_X8_isFull (S : q_S) (R : q_HR) (I : q_HI) (a0 : Nat) : Option (Int) := q_gd (S.1 a0 = 9) (q_gd (S.1 (R a0 0) = 16) (q_gd (r_i (I a0 2)) (q_gd (r_i (S.2.1 (R a0 0) : Int)) (if I a0 2 < (S.2.1 (R a0 0) : Int) then some 0 else some 1))))
abbrev rmX8_isFull : Room := { frames := 0, cells := 0, slots := 0, locals := 0 }
set_option maxRecDepth 20000 in
theorem c_X8_isFull {S : q_S} {R : q_HR} {I : q_HI} {a0 : Nat} {rz : Int} (hf : f_X8_isFull S R I a0 = some rz) : ∀ (l : Launch) (D : va_G) (cy : Nat → ClassId) (B : Nat), Met l yX8_isFull [Cond.code yX8_isFull cX8_isFull 1 (some .boolean)] rmX8_isFull (q_Pc B D cy [.ref a0] S R I) (q_Qc B D cy (some (.int (q_i rz))) S R I) 0 0 (fun q => B ≤ q) := by
  refine q_met (lv := [(0, .ref a0)]) (own := RX8) (nm := "isFull") (by decide) rfl rfl (Nat.le_of_ble_eq_true rfl) rfl (fun X hX hE => ?_)
  unfold f_X8_isFull at hf
  refine v_aload_n 0 0 hX dX8_isFull_0 rfl rfl ?_
  obtain ⟨g1, hf⟩ := q_gd_some hf
  refine v_getI hX fa_RX8_28 (fun _ _ => rfl) g1 dX8_isFull_1 ?_
  refine v_aload_n 0 0 hX dX8_isFull_4 rfl rfl ?_
  obtain ⟨g2, hf⟩ := q_gd_some hf
  refine v_getA hX fa_RX8_15 (fun _ _ => rfl) g1 g2 (by decide) dX8_isFull_5 ?_
  refine v_alen (t0 := 4) hX g2 (by decide) (fun _ => rfl) dX8_isFull_8 ?_
  obtain ⟨g3, hf⟩ := q_gd_some hf
  obtain ⟨g4, hf⟩ := q_gd_some hf
  refine v_icmp_lt (tgt := 16) hX g3 g4 dX8_isFull_9 (by decide) (fun c5 => ?_) (fun c5 => ?_)
  · replace hf := q_ifp c5 hf
    refine v_iconst hX dX8_isFull_16 ?_
    cases hf
    exact v_zret hX (Or.inl rfl) hE (Nat.le_of_ble_eq_true rfl) (Nat.le_of_ble_eq_true rfl) dX8_isFull_17
  · replace hf := q_ifn c5 hf
    refine v_iconst hX dX8_isFull_12 ?_
    refine v_goto (tgt := 17) hX dX8_isFull_13 (by decide) ?_
    cases hf
    exact v_zret hX (Or.inr rfl) hE (Nat.le_of_ble_eq_true rfl) (Nat.le_of_ble_eq_true rfl) dX8_isFull_17
noncomputable def f_X9_restart_L17 (S : q_S) (R : q_HR) (p0 : Nat) (k : Int → q_HI → Option (q_HR × q_HI)) : Nat → Int → q_HI → Option (q_HR × q_HI)
  | 0, _, _ => none
  | n + 1, v2, I => q_gd (S.1 p0 = 10) (q_gd (S.1 (R p0 3) = 15) (q_gd (r_i v2) (q_gd (r_i (S.2.1 (R p0 3) : Int)) (if (S.2.1 (R p0 3) : Int) ≤ v2 then k v2 I else q_gd ((0 : Int) ≤ v2 ∧ v2 < (S.2.1 (R p0 3) : Int)) (q_gd (S.1 (R (R p0 3) (Int.toNat v2)) = 3) (q_gd (S.1 (R (R (R p0 3) (Int.toNat v2)) 0) = 9) (q_bd (f_X8_clear S R I (R (R (R p0 3) (Int.toNat v2)) 0)) fun I16 => f_X9_restart_L17 S R p0 k n (v2 + 1) I16)))))))
noncomputable def f_X9_restart (S : q_S) (R : q_HR) (I : q_HI) (a0 : Nat) (a1 : Int) : Option (q_HR × q_HI) := q_gd (S.1 a0 = 10) (q_gd (S.1 (R a0 0) = 1) (q_bd (f_X0_restart S R I (R a0 0) a1) fun I3 => q_gd (S.1 (R a0 1) = 2) (q_bd (f_X1_restart S R I3 (R a0 1)) fun I6 => f_X9_restart_L17 S R a0 (fun w18 I19 => q_lt (q_up I19 a0 10 0) fun I20 => q_gd (S.1 (R a0 6) = 6) (q_lt (q_up R a0 8 (R a0 6)) fun R23 => q_lt (q_up I20 a0 9 0) fun I25 => q_lt (q_up I25 a0 11 50) fun I27 => q_lt (q_up I27 a0 12 0) fun I29 => some (R23, I29))) 100 0 I6)))
abbrev rmX9_restart : Room := { frames := 4, cells := 0, slots := 0, locals := 94 }
set_option maxRecDepth 20000 in
theorem l_X9_restart_17 {X : q_X} {S : q_S} {R : q_HR} {p0 : Nat} {Rz : q_HR} {Iz : q_HI} (hX : q_C X cX9_restart 3 RX9 none "restart") (hE : q_E X 0 0 none S Rz Iz) {k : Int → q_HI → Option (q_HR × q_HI)} (hk : ∀ (v2 : Int) (I : q_HI), k v2 I = some (Rz, Iz) → q_V X rmX9_restart cX9_restart 3 0 0 44 [(0, .ref p0)] [] S R I) :
    ∀ (n : Nat), ∀ (v2 : Int) (I : q_HI), f_X9_restart_L17 S R p0 k n v2 I = some (Rz, Iz) → q_V X rmX9_restart cX9_restart 3 0 0 17 [(0, .ref p0), (2, .int (q_i v2))] [] S R I := by
  intro n
  induction n with
  | zero =>
    intro v2 I hf
    cases (show (none : Option (q_HR × q_HI)) = some _ from hf)
  | succ n ih =>
    intro v2 I hf
    rw [f_X9_restart_L17] at hf
    refine v_iload_n 2 1 hX dX9_restart_17 rfl rfl ?_
    refine v_aload_n 0 0 hX dX9_restart_18 rfl rfl ?_
    obtain ⟨g8, hf⟩ := q_gd_some hf
    obtain ⟨g9, hf⟩ := q_gd_some hf
    refine v_getA hX fa_RX9_32 (fun _ _ => rfl) g8 g9 (by decide) dX9_restart_19 ?_
    refine v_alen (t0 := 3) hX g9 (by decide) (fun _ => rfl) dX9_restart_22 ?_
    obtain ⟨g10, hf⟩ := q_gd_some hf
    obtain ⟨g11, hf⟩ := q_gd_some hf
    refine v_icmp_ge (tgt := 44) hX g10 g11 dX9_restart_23 (by decide) (fun c12 => ?_) (fun c12 => ?_)
    · replace hf := q_ifp c12 hf
      refine v_sub (lv' := [(0, .ref p0)]) [0] rfl ?_
      exact hk _ _ hf
    · replace hf := q_ifn c12 hf
      refine v_aload_n 0 0 hX dX9_restart_26 rfl rfl ?_
      refine v_getA hX fa_RX9_32 (fun _ _ => rfl) g8 g9 (by decide) dX9_restart_27 ?_
      refine v_iload_n 2 1 hX dX9_restart_30 rfl rfl ?_
      obtain ⟨g13, hf⟩ := q_gd_some hf
      obtain ⟨g14, hf⟩ := q_gd_some hf
      refine v_aaload (t0 := 3) hX g9 (by decide) (fun _ => rfl) rfl (fun _ _ _ => rfl) g13 g14 (by decide) dX9_restart_31 ?_
      obtain ⟨g15, hf⟩ := q_gd_some hf
      refine v_getA hX fa_RX9_184 (fun _ _ => rfl) g14 g15 (by decide) dX9_restart_32 ?_
      obtain ⟨I16, h17, hf⟩ := q_bd_some hf
      refine v_callV (As := []) (rest := []) (st1 := []) none hX mv_RX9_274 (c_X8_clear h17) ⟨rfl, rfl⟩ ⟨Nat.le_of_ble_eq_true rfl, Nat.le_of_ble_eq_true rfl⟩ g15 rfl rfl (Nat.le_of_ble_eq_true rfl) ⟨Nat.le_of_ble_eq_true rfl, Nat.le_of_ble_eq_true rfl⟩ dX9_restart_35 rfl ?_
      refine v_iinc 1 (lw := [(2, .int (q_i (v2 + 1))), (0, .ref p0)]) hX dX9_restart_38 rfl (by decide) rfl ?_
      refine v_goto (tgt := 17) hX dX9_restart_41 (by decide) ?_
      refine v_sub (lv' := [(0, .ref p0), (2, .int (q_i (v2 + 1)))]) [1, 0] rfl ?_
      exact ih _ _ hf
set_option maxRecDepth 20000 in
theorem c_X9_restart {S : q_S} {R : q_HR} {I : q_HI} {a0 : Nat} {a1 : Int} {Rz : q_HR} {Iz : q_HI} (hf : f_X9_restart S R I a0 a1 = some (Rz, Iz)) : ∀ (l : Launch) (D : va_G) (cy : Nat → ClassId) (B : Nat), Met l yX9_restart [Cond.code yX9_restart cX9_restart 3 none] rmX9_restart (q_Pc B D cy [.ref a0, .int (q_i a1)] S R I) (q_Qc B D cy none S Rz Iz) 0 0 (fun q => B ≤ q) := by
  refine q_met (lv := [(0, .ref a0), (1, .int (q_i a1))]) (own := RX9) (nm := "restart") (by decide) rfl rfl (Nat.le_of_ble_eq_true rfl) rfl (fun X hX hE => ?_)
  unfold f_X9_restart at hf
  refine v_aload_n 0 0 hX dX9_restart_0 rfl rfl ?_
  obtain ⟨g1, hf⟩ := q_gd_some hf
  obtain ⟨g2, hf⟩ := q_gd_some hf
  refine v_getA hX fa_RX9_12 (fun _ _ => rfl) g1 g2 (by decide) dX9_restart_1 ?_
  refine v_iload_n 1 1 hX dX9_restart_4 rfl rfl ?_
  obtain ⟨I3, h4, hf⟩ := q_bd_some hf
  refine v_callV (As := [.int (q_i a1)]) (rest := []) (st1 := []) none hX mv_RX9_271 (c_X0_restart h4) ⟨rfl, rfl⟩ ⟨Nat.le_of_ble_eq_true rfl, Nat.le_of_ble_eq_true rfl⟩ g2 rfl rfl (Nat.le_of_ble_eq_true rfl) ⟨Nat.le_of_ble_eq_true rfl, Nat.le_of_ble_eq_true rfl⟩ dX9_restart_5 rfl ?_
  refine v_aload_n 0 0 hX dX9_restart_8 rfl rfl ?_
  obtain ⟨g5, hf⟩ := q_gd_some hf
  refine v_getA hX fa_RX9_19 (fun _ _ => rfl) g1 g5 (by decide) dX9_restart_9 ?_
  obtain ⟨I6, h7, hf⟩ := q_bd_some hf
  refine v_callV (As := []) (rest := []) (st1 := []) none hX mv_RX9_272 (c_X1_restart h7) ⟨rfl, rfl⟩ ⟨Nat.le_of_ble_eq_true rfl, Nat.le_of_ble_eq_true rfl⟩ g5 rfl rfl (Nat.le_of_ble_eq_true rfl) ⟨Nat.le_of_ble_eq_true rfl, Nat.le_of_ble_eq_true rfl⟩ dX9_restart_12 rfl ?_
  refine v_iconst hX dX9_restart_15 ?_
  refine v_istore_n 2 (lw := [(2, .int (q_i 0)), (0, .ref a0), (1, .int (q_i a1))]) hX dX9_restart_16 rfl (by decide) rfl ?_
  refine v_sub (lv' := [(0, .ref a0), (2, .int (q_i 0))]) [1, 0] rfl ?_
  refine l_X9_restart_17 hX hE (fun w18 I19 hk => ?_) 100 _ _ hf
  clear hf
  have hf := hk
  clear hk
  refine v_aload_n 0 0 hX dX9_restart_44 rfl rfl ?_
  refine v_iconst hX dX9_restart_45 ?_
  refine v_putI hX fa_RX9_178 rfl g1 dX9_restart_46 ?_
  obtain ⟨I20, e21, hf⟩ := q_lt_nm hf
  rw [e21]
  refine v_aload_n 0 0 hX dX9_restart_49 rfl rfl ?_
  refine v_aload_n 0 0 hX dX9_restart_50 rfl rfl ?_
  obtain ⟨g22, hf⟩ := q_gd_some hf
  refine v_getA hX fa_RX9_55 (fun _ _ => rfl) g1 g22 (by decide) dX9_restart_51 ?_
  refine v_putA hX fa_RX9_63 (fun _ _ => rfl) rfl rfl g1 g22 (by decide) dX9_restart_54 ?_
  obtain ⟨R23, e24, hf⟩ := q_lt_nm hf
  rw [e24]
  refine v_aload_n 0 0 hX dX9_restart_57 rfl rfl ?_
  refine v_iconst hX dX9_restart_58 ?_
  refine v_putZ hX fa_RX9_91 rfl (Or.inl rfl) g1 dX9_restart_59 ?_
  obtain ⟨I25, e26, hf⟩ := q_lt_nm hf
  rw [e26]
  refine v_aload_n 0 0 hX dX9_restart_62 rfl rfl ?_
  refine v_bipush 50 hX dX9_restart_63 (by decide) ?_
  refine v_putI hX fa_RX9_214 rfl g1 dX9_restart_65 ?_
  obtain ⟨I27, e28, hf⟩ := q_lt_nm hf
  rw [e28]
  refine v_aload_n 0 0 hX dX9_restart_68 rfl rfl ?_
  refine v_iconst hX dX9_restart_69 ?_
  refine v_putI hX fa_RX9_217 rfl g1 dX9_restart_70 ?_
  obtain ⟨I29, e30, hf⟩ := q_lt_nm hf
  rw [e30]
  cases hf
  exact v_vret hX hE (Nat.le_of_ble_eq_true rfl) (Nat.le_of_ble_eq_true rfl) dX9_restart_73
noncomputable def f_X9_init_L102 (p0 : Nat) (k : Int → q_S → q_HR → q_HI → Option (q_S × q_HR × q_HI)) : Nat → Int → q_S → q_HR → q_HI → Option (q_S × q_HR × q_HI)
  | 0, _, _, _, _ => none
  | n + 1, v1, S, R, I => q_gd (S.1 p0 = 10) (q_gd (S.1 (R p0 3) = 15) (q_gd (r_i v1) (q_gd (r_i (S.2.1 (R p0 3) : Int)) (if (S.2.1 (R p0 3) : Int) ≤ v1 then k v1 S R I else q_lt (q_nw S 3 0) fun S113 => q_lt (q_zr R S.2.2 0) fun R115 => q_lt (q_zr I S.2.2 0) fun I117 => q_bd3 (f_X2_init S113 R115 I117 (S.2.2)) fun S119 R120 I121 => q_gd (S119.1 (R p0 3) = 15) (q_gd ((0 : Int) ≤ v1 ∧ v1 < (S119.2.1 (R p0 3) : Int)) (q_gd (S119.1 (S.2.2) = 3) (q_lt (q_up R120 (R p0 3) (Int.toNat v1) (S.2.2)) fun R126 => f_X9_init_L102 p0 k n (v1 + 1) S119 R126 I121)))))))
noncomputable def f_X9_init (S : q_S) (R : q_HR) (I : q_HI) (a0 : Nat) : Option (q_S × q_HR × q_HI) := q_lt (q_nw S 1 0) fun S1 => q_lt (q_zr R S.2.2 0) fun R3 => q_lt (q_zr I S.2.2 0) fun I5 => q_bd3 (f_X0_init S1 R3 I5 (S.2.2)) fun S7 R8 I9 => q_gd (S7.1 a0 = 10) (q_gd (S7.1 (S.2.2) = 1) (q_lt (q_up R8 a0 0 (S.2.2)) fun R13 => q_lt (q_nw S7 2 0) fun S15 => q_lt (q_zr R13 S7.2.2 0) fun R17 => q_lt (q_zr I9 S7.2.2 0) fun I19 => q_bd3 (f_X1_init S15 R17 I19 (S7.2.2)) fun S21 R22 I23 => q_gd (S21.1 a0 = 10) (q_gd (S21.1 (S7.2.2) = 2) (q_lt (q_up R22 a0 1 (S7.2.2)) fun R27 => q_lt (q_nw S21 7 0) fun S29 => q_lt (q_zr R27 S21.2.2 0) fun R31 => q_lt (q_zr I23 S21.2.2 0) fun I33 => q_bd3 (f_X6_init S29 R31 I33 (S21.2.2)) fun S35 R36 I37 => q_gd (S35.1 a0 = 10) (q_gd (S35.1 (S21.2.2) = 7) (q_lt (q_up R36 a0 2 (S21.2.2)) fun R41 => q_lt (q_nw S35 15 (Int.toNat 8)) fun S43 => q_lt (q_zr R41 S35.2.2 0) fun R45 => q_lt (q_zr I37 S35.2.2 0) fun I47 => q_gd (S43.1 a0 = 10) (q_gd (S43.1 (S35.2.2) = 15) (q_lt (q_up R45 a0 3 (S35.2.2)) fun R51 => q_lt (q_nw S43 8 0) fun S53 => q_lt (q_zr R51 S43.2.2 0) fun R55 => q_lt (q_zr I47 S43.2.2 0) fun I57 => q_bd3 (f_X7_init S53 R55 I57 (S43.2.2)) fun S59 R60 I61 => q_gd (S59.1 a0 = 10) (q_gd (S59.1 (S43.2.2) = 8) (q_lt (q_up R60 a0 4 (S43.2.2)) fun R65 => q_lt (q_nw S59 5 0) fun S67 => q_lt (q_zr R65 S59.2.2 0) fun R69 => q_lt (q_zr I61 S59.2.2 0) fun I71 => q_bd3 (f_X4_init S67 R69 I71 (S59.2.2)) fun S73 R74 I75 => q_gd (S73.1 a0 = 10) (q_gd (S73.1 (S59.2.2) = 5) (q_lt (q_up R74 a0 5 (S59.2.2)) fun R79 => q_lt (q_nw S73 6 0) fun S81 => q_lt (q_zr R79 S73.2.2 0) fun R83 => q_lt (q_zr I75 S73.2.2 0) fun I85 => q_bd3 (f_X5_init S81 R83 I85 (S73.2.2) 0 0 0 0 0 0) fun S87 R88 I89 => q_gd (S87.1 a0 = 10) (q_gd (S87.1 (S73.2.2) = 6) (q_lt (q_up R88 a0 6 (S73.2.2)) fun R93 => q_lt (q_nw S87 12 (Int.toNat 5)) fun S95 => q_lt (q_zr R93 S87.2.2 0) fun R97 => q_lt (q_zr I89 S87.2.2 0) fun I99 => q_gd (S95.1 a0 = 10) (q_gd (S95.1 (S87.2.2) = 12) (q_lt (q_up R97 a0 7 (S87.2.2)) fun R103 => q_gd (S95.1 (R103 a0 6) = 6) (q_lt (q_up R103 a0 8 (R103 a0 6)) fun R106 => f_X9_init_L102 a0 (fun w128 S129 R130 I131 => q_gd (S129.1 a0 = 10) (q_bd2 (f_X9_restart S129 R130 I131 a0 2) fun R133 I134 => some (S129, R133, I134))) 9 0 S95 R106 I99)))))))))))))))))
abbrev rmX9_init : Room := { frames := 5, cells := 185, slots := 1128, locals := 116 }
set_option maxRecDepth 20000 in
theorem l_X9_init_102 {X : q_X} {p0 : Nat} {Sz : q_S} {Rz : q_HR} {Iz : q_HI} (hX : q_C X cX9_init 2 RX9 none "<init>") (hE : q_E X 185 1128 none Sz Rz Iz) {k : Int → q_S → q_HR → q_HI → Option (q_S × q_HR × q_HI)} (hk : ∀ (v1 : Int) (S : q_S) (R : q_HR) (I : q_HI), k v1 S R I = some (Sz, Rz, Iz) → q_V X rmX9_init cX9_init 2 185 1128 130 [(0, .ref p0)] [] S R I) :
    ∀ (n : Nat), n ≤ 9 → ∀ (v1 : Int) (S : q_S) (R : q_HR) (I : q_HI), f_X9_init_L102 p0 k n v1 S R I = some (Sz, Rz, Iz) → q_V X rmX9_init cX9_init 2 (50 + 15 * (9 - n)) (417 + 79 * (9 - n)) 102 [(0, .ref p0), (1, .int (q_i v1))] [] S R I := by
  intro n
  induction n with
  | zero =>
    intro hb v1 S R I hf
    cases (show (none : Option (q_S × q_HR × q_HI)) = some _ from hf)
  | succ n ih =>
    intro hb v1 S R I hf
    rw [f_X9_init_L102] at hf
    refine v_cs (k := (50 + 15 * (8 - n) + 0)) (n := (417 + 79 * (8 - n) + 0)) (by omega) (by omega) ?_
    refine v_iload_n 1 1 hX dX9_init_102 rfl rfl ?_
    refine v_aload_n 0 0 hX dX9_init_103 rfl rfl ?_
    obtain ⟨g108, hf⟩ := q_gd_some hf
    obtain ⟨g109, hf⟩ := q_gd_some hf
    refine v_getA hX fa_RX9_32 (fun _ _ => rfl) g108 g109 (by decide) dX9_init_104 ?_
    refine v_alen (t0 := 3) hX g109 (by decide) (fun _ => rfl) dX9_init_107 ?_
    obtain ⟨g110, hf⟩ := q_gd_some hf
    obtain ⟨g111, hf⟩ := q_gd_some hf
    refine v_icmp_ge (tgt := 130) hX g110 g111 dX9_init_108 (by decide) (fun c112 => ?_) (fun c112 => ?_)
    · replace hf := q_ifp c112 hf
      refine v_sub (lv' := [(0, .ref p0)]) [0] rfl ?_
      refine v_widen (k := 185) (n := 1128) (by omega) (by omega) ?_
      exact hk _ _ _ _ hf
    · replace hf := q_ifn c112 hf
      refine v_aload_n 0 0 hX dX9_init_111 rfl rfl ?_
      refine v_getA hX fa_RX9_32 (fun _ _ => rfl) g108 g109 (by decide) dX9_init_112 ?_
      refine v_iload_n 1 1 hX dX9_init_115 rfl rfl ?_
      refine v_new hX na_RX9_30 (by simp only [rmX9_init, q_nf]; omega) (by simp only [rmX9_init, q_nf]; omega) dX9_init_116 ?_
      refine v_cs (k := (50 + 15 * (8 - n) + 1)) (n := (417 + 79 * (8 - n) + 4)) (by have : q_nf 3 = 4 := rfl; omega) (by have : q_nf 3 = 4 := rfl; omega) ?_
      obtain ⟨S113, e114, hf⟩ := q_lt_nm hf
      rw [e114]
      obtain ⟨R115, e116, hf⟩ := q_lt_nm hf
      rw [e116]
      obtain ⟨I117, e118, hf⟩ := q_lt_nm hf
      rw [e118]
      refine v_dup hX dX9_init_119 rfl ?_
      obtain ⟨S119, R120, I121, h122, hf⟩ := q_bd3_some hf
      refine v_callI (As := []) (rest := [.ref (S.2.2), .int (q_i v1), .ref (R p0 3)]) hX mi_RX9_66 (c_X2_init h122) ⟨rfl, rfl⟩ ⟨Nat.le_of_ble_eq_true rfl, Nat.le_of_ble_eq_true rfl⟩ rfl rfl (Nat.le_of_ble_eq_true rfl) ⟨by simp only [rmX9_init]; omega, by simp only [rmX9_init]; omega⟩ dX9_init_120 ?_
      refine v_cs (k := (50 + 15 * (8 - n) + 15)) (n := (417 + 79 * (8 - n) + 79)) (by omega) (by omega) ?_
      obtain ⟨g123, hf⟩ := q_gd_some hf
      obtain ⟨g124, hf⟩ := q_gd_some hf
      obtain ⟨g125, hf⟩ := q_gd_some hf
      refine v_aastore (t0 := 3) (C := "SensorArray$Group") (T := TX2) hX g123 (by decide) (fun _ => rfl) (fun _ _ _ => rfl) g124 g125 (by decide) (by decide) rfl dX9_init_123 ?_
      obtain ⟨R126, e127, hf⟩ := q_lt_nm hf
      rw [e127]
      refine v_iinc 1 (lw := [(1, .int (q_i (v1 + 1))), (0, .ref p0)]) hX dX9_init_124 rfl (by decide) rfl ?_
      refine v_goto (tgt := 102) hX dX9_init_127 (by decide) ?_
      refine v_sub (lv' := [(0, .ref p0), (1, .int (q_i (v1 + 1)))]) [1, 0] rfl ?_
      refine v_cs (k := 50 + 15 * (9 - n)) (n := 417 + 79 * (9 - n)) (by omega) (by omega) ?_
      exact ih (by omega) _ _ _ _ hf
set_option maxRecDepth 20000 in
theorem c_X9_init {S : q_S} {R : q_HR} {I : q_HI} {a0 : Nat} {Sz : q_S} {Rz : q_HR} {Iz : q_HI} (hf : f_X9_init S R I a0 = some (Sz, Rz, Iz)) : ∀ (l : Launch) (D : va_G) (cy : Nat → ClassId) (B : Nat), Met l yX9_init [Cond.code yX9_init cX9_init 2 none] rmX9_init (q_Pc B D cy [.ref a0] S R I) (q_Qc B D cy none Sz Rz Iz) 185 1128 (fun q => B ≤ q) := by
  refine q_met (lv := [(0, .ref a0)]) (own := RX9) (nm := "<init>") (by decide) rfl rfl (Nat.le_of_ble_eq_true rfl) rfl (fun X hX hE => ?_)
  unfold f_X9_init at hf
  refine v_aload_n 0 0 hX dX9_init_0 rfl rfl ?_
  refine v_objInit hX wo_RX9_3 wo_inst wo_code (Nat.le_of_ble_eq_true rfl) (Nat.le_of_ble_eq_true rfl) dX9_init_1 ?_
  refine v_aload_n 0 0 hX dX9_init_4 rfl rfl ?_
  refine v_new hX na_RX9_9 (Nat.le_of_ble_eq_true rfl) (Nat.le_of_ble_eq_true rfl) dX9_init_5 ?_
  refine v_cs (k := 1) (n := 7) rfl rfl ?_
  obtain ⟨S1, e2, hf⟩ := q_lt_nm hf
  rw [e2]
  obtain ⟨R3, e4, hf⟩ := q_lt_nm hf
  rw [e4]
  obtain ⟨I5, e6, hf⟩ := q_lt_nm hf
  rw [e6]
  refine v_dup hX dX9_init_8 rfl ?_
  obtain ⟨S7, R8, I9, h10, hf⟩ := q_bd3_some hf
  refine v_callI (As := []) (rest := [.ref (S.2.2), .ref a0]) hX mi_RX9_11 (c_X0_init h10) ⟨rfl, rfl⟩ ⟨Nat.le_of_ble_eq_true rfl, Nat.le_of_ble_eq_true rfl⟩ rfl rfl (Nat.le_of_ble_eq_true rfl) ⟨Nat.le_of_ble_eq_true rfl, Nat.le_of_ble_eq_true rfl⟩ dX9_init_9 ?_
  refine v_cs (k := 8) (n := 44) rfl rfl ?_
  obtain ⟨g11, hf⟩ := q_gd_some hf
  obtain ⟨g12, hf⟩ := q_gd_some hf
  refine v_putFA hX fa_RX9_12 (fun _ _ => rfl) rfl rfl g11 g12 (by decide) dX9_init_12 ?_
  obtain ⟨R13, e14, hf⟩ := q_lt_nm hf
  rw [e14]
  refine v_aload_n 0 0 hX dX9_init_15 rfl rfl ?_
  refine v_new hX na_RX9_16 (Nat.le_of_ble_eq_true rfl) (Nat.le_of_ble_eq_true rfl) dX9_init_16 ?_
  refine v_cs (k := 9) (n := 52) rfl rfl ?_
  obtain ⟨S15, e16, hf⟩ := q_lt_nm hf
  rw [e16]
  obtain ⟨R17, e18, hf⟩ := q_lt_nm hf
  rw [e18]
  obtain ⟨I19, e20, hf⟩ := q_lt_nm hf
  rw [e20]
  refine v_dup hX dX9_init_19 rfl ?_
  obtain ⟨S21, R22, I23, h24, hf⟩ := q_bd3_some hf
  refine v_callI (As := []) (rest := [.ref (S7.2.2), .ref a0]) hX mi_RX9_18 (c_X1_init h24) ⟨rfl, rfl⟩ ⟨Nat.le_of_ble_eq_true rfl, Nat.le_of_ble_eq_true rfl⟩ rfl rfl (Nat.le_of_ble_eq_true rfl) ⟨Nat.le_of_ble_eq_true rfl, Nat.le_of_ble_eq_true rfl⟩ dX9_init_20 ?_
  refine v_cs (k := 28) (n := 159) rfl rfl ?_
  obtain ⟨g25, hf⟩ := q_gd_some hf
  obtain ⟨g26, hf⟩ := q_gd_some hf
  refine v_putFA hX fa_RX9_19 (fun _ _ => rfl) rfl rfl g25 g26 (by decide) dX9_init_23 ?_
  obtain ⟨R27, e28, hf⟩ := q_lt_nm hf
  rw [e28]
  refine v_aload_n 0 0 hX dX9_init_26 rfl rfl ?_
  refine v_new hX na_RX9_23 (Nat.le_of_ble_eq_true rfl) (Nat.le_of_ble_eq_true rfl) dX9_init_27 ?_
  refine v_cs (k := 29) (n := 162) rfl rfl ?_
  obtain ⟨S29, e30, hf⟩ := q_lt_nm hf
  rw [e30]
  obtain ⟨R31, e32, hf⟩ := q_lt_nm hf
  rw [e32]
  obtain ⟨I33, e34, hf⟩ := q_lt_nm hf
  rw [e34]
  refine v_dup hX dX9_init_30 rfl ?_
  obtain ⟨S35, R36, I37, h38, hf⟩ := q_bd3_some hf
  refine v_callI (As := []) (rest := [.ref (S21.2.2), .ref a0]) hX mi_RX9_25 (c_X6_init h38) ⟨rfl, rfl⟩ ⟨Nat.le_of_ble_eq_true rfl, Nat.le_of_ble_eq_true rfl⟩ rfl rfl (Nat.le_of_ble_eq_true rfl) ⟨Nat.le_of_ble_eq_true rfl, Nat.le_of_ble_eq_true rfl⟩ dX9_init_31 ?_
  refine v_cs (k := 31) (n := 172) rfl rfl ?_
  obtain ⟨g39, hf⟩ := q_gd_some hf
  obtain ⟨g40, hf⟩ := q_gd_some hf
  refine v_putFA hX fa_RX9_26 (fun _ _ => rfl) rfl rfl g39 g40 (by decide) dX9_init_34 ?_
  obtain ⟨R41, e42, hf⟩ := q_lt_nm hf
  rw [e42]
  refine v_aload_n 0 0 hX dX9_init_37 rfl rfl ?_
  refine v_bipush 8 hX dX9_init_38 (by decide) ?_
  refine v_anewarr (k := 15) (N := 8) (t0 := 3) (C := "SensorArray$Group") hX (by decide) wc_RX9_30 (fun _ h => h.1) (fun _ => rfl) (fun _ => rfl) (by omega) (by decide) (Nat.le_of_ble_eq_true rfl) (Nat.le_of_ble_eq_true rfl) dX9_init_40 ?_
  refine v_cs (k := 32) (n := 180) rfl rfl ?_
  obtain ⟨S43, e44, hf⟩ := q_lt_nm hf
  rw [e44]
  obtain ⟨R45, e46, hf⟩ := q_lt_nm hf
  rw [e46]
  obtain ⟨I47, e48, hf⟩ := q_lt_nm hf
  rw [e48]
  obtain ⟨g49, hf⟩ := q_gd_some hf
  obtain ⟨g50, hf⟩ := q_gd_some hf
  refine v_putFA hX fa_RX9_32 (fun _ _ => rfl) rfl rfl g49 g50 (by decide) dX9_init_43 ?_
  obtain ⟨R51, e52, hf⟩ := q_lt_nm hf
  rw [e52]
  refine v_aload_n 0 0 hX dX9_init_46 rfl rfl ?_
  refine v_new hX na_RX9_36 (Nat.le_of_ble_eq_true rfl) (Nat.le_of_ble_eq_true rfl) dX9_init_47 ?_
  refine v_cs (k := 33) (n := 184) rfl rfl ?_
  obtain ⟨S53, e54, hf⟩ := q_lt_nm hf
  rw [e54]
  obtain ⟨R55, e56, hf⟩ := q_lt_nm hf
  rw [e56]
  obtain ⟨I57, e58, hf⟩ := q_lt_nm hf
  rw [e58]
  refine v_dup hX dX9_init_50 rfl ?_
  obtain ⟨S59, R60, I61, h62, hf⟩ := q_bd3_some hf
  refine v_callI (As := []) (rest := [.ref (S43.2.2), .ref a0]) hX mi_RX9_38 (c_X7_init h62) ⟨rfl, rfl⟩ ⟨Nat.le_of_ble_eq_true rfl, Nat.le_of_ble_eq_true rfl⟩ rfl rfl (Nat.le_of_ble_eq_true rfl) ⟨Nat.le_of_ble_eq_true rfl, Nat.le_of_ble_eq_true rfl⟩ dX9_init_51 ?_
  refine v_cs (k := 36) (n := 320) rfl rfl ?_
  obtain ⟨g63, hf⟩ := q_gd_some hf
  obtain ⟨g64, hf⟩ := q_gd_some hf
  refine v_putFA hX fa_RX9_39 (fun _ _ => rfl) rfl rfl g63 g64 (by decide) dX9_init_54 ?_
  obtain ⟨R65, e66, hf⟩ := q_lt_nm hf
  rw [e66]
  refine v_aload_n 0 0 hX dX9_init_57 rfl rfl ?_
  refine v_new hX na_RX9_43 (Nat.le_of_ble_eq_true rfl) (Nat.le_of_ble_eq_true rfl) dX9_init_58 ?_
  refine v_cs (k := 37) (n := 325) rfl rfl ?_
  obtain ⟨S67, e68, hf⟩ := q_lt_nm hf
  rw [e68]
  obtain ⟨R69, e70, hf⟩ := q_lt_nm hf
  rw [e70]
  obtain ⟨I71, e72, hf⟩ := q_lt_nm hf
  rw [e72]
  refine v_dup hX dX9_init_61 rfl ?_
  obtain ⟨S73, R74, I75, h76, hf⟩ := q_bd3_some hf
  refine v_callI (As := []) (rest := [.ref (S59.2.2), .ref a0]) hX mi_RX9_45 (c_X4_init h76) ⟨rfl, rfl⟩ ⟨Nat.le_of_ble_eq_true rfl, Nat.le_of_ble_eq_true rfl⟩ rfl rfl (Nat.le_of_ble_eq_true rfl) ⟨Nat.le_of_ble_eq_true rfl, Nat.le_of_ble_eq_true rfl⟩ dX9_init_62 ?_
  refine v_cs (k := 47) (n := 405) rfl rfl ?_
  obtain ⟨g77, hf⟩ := q_gd_some hf
  obtain ⟨g78, hf⟩ := q_gd_some hf
  refine v_putFA hX fa_RX9_46 (fun _ _ => rfl) rfl rfl g77 g78 (by decide) dX9_init_65 ?_
  obtain ⟨R79, e80, hf⟩ := q_lt_nm hf
  rw [e80]
  refine v_aload_n 0 0 hX dX9_init_68 rfl rfl ?_
  refine v_new hX na_RX9_50 (Nat.le_of_ble_eq_true rfl) (Nat.le_of_ble_eq_true rfl) dX9_init_69 ?_
  refine v_cs (k := 48) (n := 407) rfl rfl ?_
  obtain ⟨S81, e82, hf⟩ := q_lt_nm hf
  rw [e82]
  obtain ⟨R83, e84, hf⟩ := q_lt_nm hf
  rw [e84]
  obtain ⟨I85, e86, hf⟩ := q_lt_nm hf
  rw [e86]
  refine v_dup hX dX9_init_72 rfl ?_
  refine v_iconst hX dX9_init_73 ?_
  refine v_iconst hX dX9_init_74 ?_
  refine v_iconst hX dX9_init_75 ?_
  refine v_iconst hX dX9_init_76 ?_
  refine v_iconst hX dX9_init_77 ?_
  refine v_iconst hX dX9_init_78 ?_
  obtain ⟨S87, R88, I89, h90, hf⟩ := q_bd3_some hf
  refine v_callI (As := [.int (q_i 0), .int (q_i 0), .int (q_i 0), .int (q_i 0), .int (q_i 0), .int (q_i 0)]) (rest := [.ref (S73.2.2), .ref a0]) hX mi_RX9_52 (c_X5_init h90) ⟨rfl, rfl⟩ ⟨Nat.le_of_ble_eq_true rfl, Nat.le_of_ble_eq_true rfl⟩ rfl rfl (Nat.le_of_ble_eq_true rfl) ⟨Nat.le_of_ble_eq_true rfl, Nat.le_of_ble_eq_true rfl⟩ dX9_init_79 ?_
  refine v_cs (k := 49) (n := 412) rfl rfl ?_
  obtain ⟨g91, hf⟩ := q_gd_some hf
  obtain ⟨g92, hf⟩ := q_gd_some hf
  refine v_putFA hX fa_RX9_55 (fun _ _ => rfl) rfl rfl g91 g92 (by decide) dX9_init_82 ?_
  obtain ⟨R93, e94, hf⟩ := q_lt_nm hf
  rw [e94]
  refine v_aload_n 0 0 hX dX9_init_85 rfl rfl ?_
  refine v_iconst hX dX9_init_86 ?_
  refine v_newarr (k := 12) (N := 5) (t0 := 0) (ty := .int) hX (by decide) wa_int rfl (fun _ => rfl) (fun _ => rfl) (fun _ _ h => h) (by omega) (by decide) (fun M hM => by show M * _ ≤ _; simp only [componentBytes]; omega) (Nat.le_of_ble_eq_true rfl) (Nat.le_of_ble_eq_true rfl) dX9_init_87 ?_
  refine v_cs (k := 50) (n := 417) rfl rfl ?_
  obtain ⟨S95, e96, hf⟩ := q_lt_nm hf
  rw [e96]
  obtain ⟨R97, e98, hf⟩ := q_lt_nm hf
  rw [e98]
  obtain ⟨I99, e100, hf⟩ := q_lt_nm hf
  rw [e100]
  obtain ⟨g101, hf⟩ := q_gd_some hf
  obtain ⟨g102, hf⟩ := q_gd_some hf
  refine v_putFA hX fa_RX9_59 (fun _ _ => rfl) rfl rfl g101 g102 (by decide) dX9_init_89 ?_
  obtain ⟨R103, e104, hf⟩ := q_lt_nm hf
  rw [e104]
  refine v_aload_n 0 0 hX dX9_init_92 rfl rfl ?_
  refine v_aload_n 0 0 hX dX9_init_93 rfl rfl ?_
  obtain ⟨g105, hf⟩ := q_gd_some hf
  refine v_getA hX fa_RX9_55 (fun _ _ => rfl) g101 g105 (by decide) dX9_init_94 ?_
  refine v_putA hX fa_RX9_63 (fun _ _ => rfl) rfl rfl g101 g105 (by decide) dX9_init_97 ?_
  obtain ⟨R106, e107, hf⟩ := q_lt_nm hf
  rw [e107]
  refine v_iconst hX dX9_init_100 ?_
  refine v_istore_n 1 (lw := [(1, .int (q_i 0)), (0, .ref a0)]) hX dX9_init_101 rfl (by decide) rfl ?_
  refine v_sub (lv' := [(0, .ref a0), (1, .int (q_i 0))]) [1, 0] rfl ?_
  refine v_cs (k := 50 + 15 * (9 - 9)) (n := 417 + 79 * (9 - 9)) rfl rfl ?_
  refine l_X9_init_102 hX hE (fun w128 S129 R130 I131 hk => ?_) 9 (Nat.le_refl 9) _ _ _ _ hf
  clear hf
  have hf := hk
  clear hk
  refine v_aload_n 0 0 hX dX9_init_130 rfl rfl ?_
  refine v_iconst hX dX9_init_131 ?_
  obtain ⟨g132, hf⟩ := q_gd_some hf
  obtain ⟨R133, I134, h135, hf⟩ := q_bd2_some hf
  refine v_callV (As := [.int (q_i 2)]) (rest := []) (st1 := []) none hX mv_RX9_67 (c_X9_restart h135) ⟨rfl, rfl⟩ ⟨Nat.le_of_ble_eq_true rfl, Nat.le_of_ble_eq_true rfl⟩ g132 rfl rfl (Nat.le_of_ble_eq_true rfl) ⟨Nat.le_of_ble_eq_true rfl, Nat.le_of_ble_eq_true rfl⟩ dX9_init_132 rfl ?_
  cases hf
  exact v_vret hX hE (Nat.le_of_ble_eq_true rfl) (Nat.le_of_ble_eq_true rfl) dX9_init_135
noncomputable def f_X9_isWithin (a0 : Int) (a1 : Int) (a2 : Int) : Option (Int) := q_gd (r_i a0) (q_gd (r_i a1) (if a0 < a1 then some 0 else q_gd (r_i a2) (if a2 < a0 then some 0 else some 1)))
abbrev rmX9_isWithin : Room := { frames := 0, cells := 0, slots := 0, locals := 0 }
set_option maxRecDepth 20000 in
theorem c_X9_isWithin {S : q_S} {R : q_HR} {I : q_HI} {a0 : Int} {a1 : Int} {a2 : Int} {rz : Int} (hf : f_X9_isWithin a0 a1 a2 = some rz) : ∀ (l : Launch) (D : va_G) (cy : Nat → ClassId) (B : Nat), Met l yX9_isWithin [Cond.code yX9_isWithin cX9_isWithin 3 (some .boolean)] rmX9_isWithin (q_Pc B D cy [.int (q_i a0), .int (q_i a1), .int (q_i a2)] S R I) (q_Qc B D cy (some (.int (q_i rz))) S R I) 0 0 (fun q => B ≤ q) := by
  refine q_met (lv := [(0, .int (q_i a0)), (1, .int (q_i a1)), (2, .int (q_i a2))]) (own := RX9) (nm := "isWithin") (by decide) rfl rfl (Nat.le_of_ble_eq_true rfl) rfl (fun X hX hE => ?_)
  unfold f_X9_isWithin at hf
  refine v_iload_n 0 0 hX dX9_isWithin_0 rfl rfl ?_
  refine v_iload_n 1 1 hX dX9_isWithin_1 rfl rfl ?_
  obtain ⟨g1, hf⟩ := q_gd_some hf
  obtain ⟨g2, hf⟩ := q_gd_some hf
  refine v_icmp_lt (tgt := 14) hX g1 g2 dX9_isWithin_2 (by decide) (fun c3 => ?_) (fun c3 => ?_)
  · replace hf := q_ifp c3 hf
    refine v_iconst hX dX9_isWithin_14 ?_
    cases hf
    exact v_zret hX (Or.inl rfl) hE (Nat.le_of_ble_eq_true rfl) (Nat.le_of_ble_eq_true rfl) dX9_isWithin_15
  · replace hf := q_ifn c3 hf
    refine v_iload_n 0 0 hX dX9_isWithin_5 rfl rfl ?_
    refine v_iload_n 2 2 hX dX9_isWithin_6 rfl rfl ?_
    obtain ⟨g4, hf⟩ := q_gd_some hf
    refine v_icmp_gt (tgt := 14) hX g1 g4 dX9_isWithin_7 (by decide) (fun c5 => ?_) (fun c5 => ?_)
    · replace hf := q_ifp c5 hf
      refine v_iconst hX dX9_isWithin_14 ?_
      cases hf
      exact v_zret hX (Or.inl rfl) hE (Nat.le_of_ble_eq_true rfl) (Nat.le_of_ble_eq_true rfl) dX9_isWithin_15
    · replace hf := q_ifn c5 hf
      refine v_iconst hX dX9_isWithin_10 ?_
      refine v_goto (tgt := 15) hX dX9_isWithin_11 (by decide) ?_
      cases hf
      exact v_zret hX (Or.inr rfl) hE (Nat.le_of_ble_eq_true rfl) (Nat.le_of_ble_eq_true rfl) dX9_isWithin_15
noncomputable def f_X9_reset (S : q_S) (R : q_HR) (I : q_HI) (a0 : Nat) (a1 : Int) : Option (Int × q_HR × q_HI) := q_bd (f_X9_isWithin a1 2 5) fun r1 => q_gd (r_i r1) (if r1 = 0 then some ((-3), R, I) else q_gd (S.1 a0 = 10) (q_bd2 (f_X9_restart S R I a0 a1) fun R6 I7 => some (a1, R6, I7)))
abbrev rmX9_reset : Room := { frames := 5, cells := 0, slots := 0, locals := 116 }
set_option maxRecDepth 20000 in
theorem c_X9_reset {S : q_S} {R : q_HR} {I : q_HI} {a0 : Nat} {a1 : Int} {rz : Int} {Rz : q_HR} {Iz : q_HI} (hf : f_X9_reset S R I a0 a1 = some (rz, Rz, Iz)) : ∀ (l : Launch) (D : va_G) (cy : Nat → ClassId) (B : Nat), Met l yX9_reset [Cond.code yX9_reset cX9_reset 2 (some .int)] rmX9_reset (q_Pc B D cy [.ref a0, .int (q_i a1)] S R I) (q_Qc B D cy (some (.int (q_i rz))) S Rz Iz) 0 0 (fun q => B ≤ q) := by
  refine q_met (lv := [(0, .ref a0), (1, .int (q_i a1))]) (own := RX9) (nm := "reset") (by decide) rfl rfl (Nat.le_of_ble_eq_true rfl) rfl (fun X hX hE => ?_)
  unfold f_X9_reset at hf
  refine v_iload_n 1 1 hX dX9_reset_0 rfl rfl ?_
  refine v_iconst hX dX9_reset_1 ?_
  refine v_iconst hX dX9_reset_2 ?_
  obtain ⟨r1, h2, hf⟩ := q_bd_some hf
  refine v_callS (As := [.int (q_i a1), .int (q_i 2), .int (q_i 5)]) (rest := []) (st1 := [.int (q_i r1)]) (some (.int (q_i r1))) hX ms_RX9_71 (c_X9_isWithin h2) ⟨rfl, rfl⟩ ⟨Nat.le_of_ble_eq_true rfl, Nat.le_of_ble_eq_true rfl⟩ rfl rfl (Nat.le_of_ble_eq_true rfl) ⟨Nat.le_of_ble_eq_true rfl, Nat.le_of_ble_eq_true rfl⟩ dX9_reset_3 rfl ?_
  obtain ⟨g3, hf⟩ := q_gd_some hf
  refine v_if_ne (tgt := 12) hX g3 dX9_reset_6 (by decide) (fun c4 => ?_) (fun c4 => ?_)
  · replace hf := q_ifp c4 hf
    refine v_bipush (-3) hX dX9_reset_9 (by decide) ?_
    cases hf
    exact v_iret hX hE (Nat.le_of_ble_eq_true rfl) (Nat.le_of_ble_eq_true rfl) dX9_reset_11
  · replace hf := q_ifn c4 hf
    refine v_aload_n 0 0 hX dX9_reset_12 rfl rfl ?_
    refine v_iload_n 1 1 hX dX9_reset_13 rfl rfl ?_
    obtain ⟨g5, hf⟩ := q_gd_some hf
    obtain ⟨R6, I7, h8, hf⟩ := q_bd2_some hf
    refine v_callV (As := [.int (q_i a1)]) (rest := []) (st1 := []) none hX mv_RX9_67 (c_X9_restart h8) ⟨rfl, rfl⟩ ⟨Nat.le_of_ble_eq_true rfl, Nat.le_of_ble_eq_true rfl⟩ g5 rfl rfl (Nat.le_of_ble_eq_true rfl) ⟨Nat.le_of_ble_eq_true rfl, Nat.le_of_ble_eq_true rfl⟩ dX9_reset_14 rfl ?_
    refine v_iload_n 1 1 hX dX9_reset_17 rfl rfl ?_
    cases hf
    exact v_iret hX hE (Nat.le_of_ble_eq_true rfl) (Nat.le_of_ble_eq_true rfl) dX9_reset_18
noncomputable def f_X9_sensorCount (S : q_S) (R : q_HR) (I : q_HI) (a0 : Nat) : Option (Int) := q_gd (S.1 a0 = 10) (q_gd (S.1 (R a0 0) = 1) (some (I (R a0 0) 6)))
abbrev rmX9_sensorCount : Room := { frames := 0, cells := 0, slots := 0, locals := 0 }
set_option maxRecDepth 20000 in
theorem c_X9_sensorCount {S : q_S} {R : q_HR} {I : q_HI} {a0 : Nat} {rz : Int} (hf : f_X9_sensorCount S R I a0 = some rz) : ∀ (l : Launch) (D : va_G) (cy : Nat → ClassId) (B : Nat), Met l yX9_sensorCount [Cond.code yX9_sensorCount cX9_sensorCount 1 (some .int)] rmX9_sensorCount (q_Pc B D cy [.ref a0] S R I) (q_Qc B D cy (some (.int (q_i rz))) S R I) 0 0 (fun q => B ≤ q) := by
  refine q_met (lv := [(0, .ref a0)]) (own := RX9) (nm := "sensorCount") (by decide) rfl rfl (Nat.le_of_ble_eq_true rfl) rfl (fun X hX hE => ?_)
  unfold f_X9_sensorCount at hf
  refine v_aload_n 0 0 hX dX9_sensorCount_0 rfl rfl ?_
  obtain ⟨g1, hf⟩ := q_gd_some hf
  obtain ⟨g2, hf⟩ := q_gd_some hf
  refine v_getA hX fa_RX9_12 (fun _ _ => rfl) g1 g2 (by decide) dX9_sensorCount_1 ?_
  refine v_getI hX fa_RX9_75 (fun _ _ => rfl) g2 dX9_sensorCount_4 ?_
  cases hf
  exact v_iret hX hE (Nat.le_of_ble_eq_true rfl) (Nat.le_of_ble_eq_true rfl) dX9_sensorCount_7
noncomputable def f_X9_hasSensor (S : q_S) (R : q_HR) (I : q_HI) (a0 : Nat) (a1 : Int) : Option (Int) := q_gd (r_i a1) (if a1 < 0 then some 0 else q_gd (S.1 a0 = 10) (q_gd (S.1 (R a0 0) = 1) (q_gd (r_i (I (R a0 0) 6)) (if I (R a0 0) 6 ≤ a1 then some 0 else some 1))))
abbrev rmX9_hasSensor : Room := { frames := 0, cells := 0, slots := 0, locals := 0 }
set_option maxRecDepth 20000 in
theorem c_X9_hasSensor {S : q_S} {R : q_HR} {I : q_HI} {a0 : Nat} {a1 : Int} {rz : Int} (hf : f_X9_hasSensor S R I a0 a1 = some rz) : ∀ (l : Launch) (D : va_G) (cy : Nat → ClassId) (B : Nat), Met l yX9_hasSensor [Cond.code yX9_hasSensor cX9_hasSensor 2 (some .boolean)] rmX9_hasSensor (q_Pc B D cy [.ref a0, .int (q_i a1)] S R I) (q_Qc B D cy (some (.int (q_i rz))) S R I) 0 0 (fun q => B ≤ q) := by
  refine q_met (lv := [(0, .ref a0), (1, .int (q_i a1))]) (own := RX9) (nm := "hasSensor") (by decide) rfl rfl (Nat.le_of_ble_eq_true rfl) rfl (fun X hX hE => ?_)
  unfold f_X9_hasSensor at hf
  refine v_iload_n 1 1 hX dX9_hasSensor_0 rfl rfl ?_
  obtain ⟨g1, hf⟩ := q_gd_some hf
  refine v_if_lt (tgt := 19) hX g1 dX9_hasSensor_1 (by decide) (fun c2 => ?_) (fun c2 => ?_)
  · replace hf := q_ifp c2 hf
    refine v_iconst hX dX9_hasSensor_19 ?_
    cases hf
    exact v_zret hX (Or.inl rfl) hE (Nat.le_of_ble_eq_true rfl) (Nat.le_of_ble_eq_true rfl) dX9_hasSensor_20
  · replace hf := q_ifn c2 hf
    refine v_iload_n 1 1 hX dX9_hasSensor_4 rfl rfl ?_
    refine v_aload_n 0 0 hX dX9_hasSensor_5 rfl rfl ?_
    obtain ⟨g3, hf⟩ := q_gd_some hf
    obtain ⟨g4, hf⟩ := q_gd_some hf
    refine v_getA hX fa_RX9_12 (fun _ _ => rfl) g3 g4 (by decide) dX9_hasSensor_6 ?_
    refine v_getI hX fa_RX9_75 (fun _ _ => rfl) g4 dX9_hasSensor_9 ?_
    obtain ⟨g5, hf⟩ := q_gd_some hf
    refine v_icmp_ge (tgt := 19) hX g1 g5 dX9_hasSensor_12 (by decide) (fun c6 => ?_) (fun c6 => ?_)
    · replace hf := q_ifp c6 hf
      refine v_iconst hX dX9_hasSensor_19 ?_
      cases hf
      exact v_zret hX (Or.inl rfl) hE (Nat.le_of_ble_eq_true rfl) (Nat.le_of_ble_eq_true rfl) dX9_hasSensor_20
    · replace hf := q_ifn c6 hf
      refine v_iconst hX dX9_hasSensor_15 ?_
      refine v_goto (tgt := 20) hX dX9_hasSensor_16 (by decide) ?_
      cases hf
      exact v_zret hX (Or.inr rfl) hE (Nat.le_of_ble_eq_true rfl) (Nat.le_of_ble_eq_true rfl) dX9_hasSensor_20
noncomputable def f_X9_setBaseline (S : q_S) (R : q_HR) (I : q_HI) (a0 : Nat) (a1 : Int) (a2 : Int) : Option (Int × q_HI) := q_gd (S.1 a0 = 10) (q_bd (f_X9_hasSensor S R I a0 a1) fun r2 => q_gd (r_i r2) (if r2 = 0 then some ((-2), I) else q_bd (f_X9_isWithin a2 100 9999) fun r6 => q_gd (r_i r6) (if r6 = 0 then some ((-3), I) else q_gd (S.1 (R a0 0) = 1) (q_bd2 (f_X0_changeBaseline S R I (R a0 0) a1 a2) fun r11 I12 => some (r11, I12)))))
abbrev rmX9_setBaseline : Room := { frames := 4, cells := 0, slots := 0, locals := 95 }
set_option maxRecDepth 20000 in
theorem c_X9_setBaseline {S : q_S} {R : q_HR} {I : q_HI} {a0 : Nat} {a1 : Int} {a2 : Int} {rz : Int} {Iz : q_HI} (hf : f_X9_setBaseline S R I a0 a1 a2 = some (rz, Iz)) : ∀ (l : Launch) (D : va_G) (cy : Nat → ClassId) (B : Nat), Met l yX9_setBaseline [Cond.code yX9_setBaseline cX9_setBaseline 3 (some .int)] rmX9_setBaseline (q_Pc B D cy [.ref a0, .int (q_i a1), .int (q_i a2)] S R I) (q_Qc B D cy (some (.int (q_i rz))) S R Iz) 0 0 (fun q => B ≤ q) := by
  refine q_met (lv := [(0, .ref a0), (1, .int (q_i a1)), (2, .int (q_i a2))]) (own := RX9) (nm := "setBaseline") (by decide) rfl rfl (Nat.le_of_ble_eq_true rfl) rfl (fun X hX hE => ?_)
  unfold f_X9_setBaseline at hf
  refine v_aload_n 0 0 hX dX9_setBaseline_0 rfl rfl ?_
  refine v_iload_n 1 1 hX dX9_setBaseline_1 rfl rfl ?_
  obtain ⟨g1, hf⟩ := q_gd_some hf
  obtain ⟨r2, h3, hf⟩ := q_bd_some hf
  refine v_callV (As := [.int (q_i a1)]) (rest := []) (st1 := [.int (q_i r2)]) (some (.int (q_i r2))) hX mv_RX9_79 (c_X9_hasSensor h3) ⟨rfl, rfl⟩ ⟨Nat.le_of_ble_eq_true rfl, Nat.le_of_ble_eq_true rfl⟩ g1 rfl rfl (Nat.le_of_ble_eq_true rfl) ⟨Nat.le_of_ble_eq_true rfl, Nat.le_of_ble_eq_true rfl⟩ dX9_setBaseline_2 rfl ?_
  obtain ⟨g4, hf⟩ := q_gd_some hf
  refine v_if_ne (tgt := 11) hX g4 dX9_setBaseline_5 (by decide) (fun c5 => ?_) (fun c5 => ?_)
  · replace hf := q_ifp c5 hf
    refine v_bipush (-2) hX dX9_setBaseline_8 (by decide) ?_
    cases hf
    exact v_iret hX hE (Nat.le_of_ble_eq_true rfl) (Nat.le_of_ble_eq_true rfl) dX9_setBaseline_10
  · replace hf := q_ifn c5 hf
    refine v_iload_n 2 2 hX dX9_setBaseline_11 rfl rfl ?_
    refine v_bipush 100 hX dX9_setBaseline_12 (by decide) ?_
    refine v_sipush 9999 hX dX9_setBaseline_14 (by decide) ?_
    obtain ⟨r6, h7, hf⟩ := q_bd_some hf
    refine v_callS (As := [.int (q_i a2), .int (q_i 100), .int (q_i 9999)]) (rest := []) (st1 := [.int (q_i r6)]) (some (.int (q_i r6))) hX ms_RX9_71 (c_X9_isWithin h7) ⟨rfl, rfl⟩ ⟨Nat.le_of_ble_eq_true rfl, Nat.le_of_ble_eq_true rfl⟩ rfl rfl (Nat.le_of_ble_eq_true rfl) ⟨Nat.le_of_ble_eq_true rfl, Nat.le_of_ble_eq_true rfl⟩ dX9_setBaseline_17 rfl ?_
    obtain ⟨g8, hf⟩ := q_gd_some hf
    refine v_if_ne (tgt := 26) hX g8 dX9_setBaseline_20 (by decide) (fun c9 => ?_) (fun c9 => ?_)
    · replace hf := q_ifp c9 hf
      refine v_bipush (-3) hX dX9_setBaseline_23 (by decide) ?_
      cases hf
      exact v_iret hX hE (Nat.le_of_ble_eq_true rfl) (Nat.le_of_ble_eq_true rfl) dX9_setBaseline_25
    · replace hf := q_ifn c9 hf
      refine v_aload_n 0 0 hX dX9_setBaseline_26 rfl rfl ?_
      obtain ⟨g10, hf⟩ := q_gd_some hf
      refine v_getA hX fa_RX9_12 (fun _ _ => rfl) g1 g10 (by decide) dX9_setBaseline_27 ?_
      refine v_iload_n 1 1 hX dX9_setBaseline_30 rfl rfl ?_
      refine v_iload_n 2 2 hX dX9_setBaseline_31 rfl rfl ?_
      obtain ⟨r11, I12, h13, hf⟩ := q_bd2_some hf
      refine v_callV (As := [.int (q_i a1), .int (q_i a2)]) (rest := []) (st1 := [.int (q_i r11)]) (some (.int (q_i r11))) hX mv_RX9_83 (c_X0_changeBaseline h13) ⟨rfl, rfl⟩ ⟨Nat.le_of_ble_eq_true rfl, Nat.le_of_ble_eq_true rfl⟩ g10 rfl rfl (Nat.le_of_ble_eq_true rfl) ⟨Nat.le_of_ble_eq_true rfl, Nat.le_of_ble_eq_true rfl⟩ dX9_setBaseline_32 rfl ?_
      cases hf
      exact v_iret hX hE (Nat.le_of_ble_eq_true rfl) (Nat.le_of_ble_eq_true rfl) dX9_setBaseline_35
