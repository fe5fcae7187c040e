noncomputable def f_X10_isIn (a0 : Int) (a2 : Int) (a4 : Int) : Option (Int) := q_gd (r_l a0) (q_gd (r_l a2) (if a0 < a2 then some 0 else q_gd (r_l a4) (if a4 < a0 then some 0 else some 1)))
abbrev rmX10_isIn : Room := { frames := 0, cells := 0, slots := 0, locals := 0 }
set_option maxRecDepth 20000 in
theorem c_X10_isIn {S : q_S} {R : q_HR} {I : q_HI} {a0 : Int} {a2 : Int} {a4 : Int} {rz : Int} (hf : f_X10_isIn a0 a2 a4 = some rz) : ∀ (l : Launch) (D : va_G) (cy : Nat → ClassId) (B : Nat), Met l yX10_isIn [Cond.code yX10_isIn cX10_isIn 6 (some .boolean)] rmX10_isIn (q_Pc B D cy [.long (q_l a0), .long (q_l a2), .long (q_l a4)] S R I) (q_Qc B D cy (some (.int (q_i rz))) S R I) 0 0 (fun q => B ≤ q) := by
  refine q_met (lv := [(0, .long (q_l a0)), (2, .long (q_l a2)), (4, .long (q_l a4))]) (own := RX10) (nm := "isIn") (by decide) rfl rfl (Nat.le_of_ble_eq_true rfl) rfl (fun X hX hE => ?_)
  unfold f_X10_isIn at hf
  refine v_lload_n 0 0 hX dX10_isIn_0 rfl rfl ?_
  refine v_lload_n 2 1 hX dX10_isIn_1 rfl rfl ?_
  obtain ⟨g1, hf⟩ := q_gd_some hf
  obtain ⟨g2, hf⟩ := q_gd_some hf
  refine v_lcmp hX g1 g2 dX10_isIn_2 ?_
  refine v_ifc_lt (tgt := 17) hX dX10_isIn_3 (by decide) (fun c3 => ?_) (fun c3 => ?_)
  · replace hf := q_ifp c3 hf
    refine v_iconst hX dX10_isIn_17 ?_
    cases hf
    exact v_zret hX (Or.inl rfl) hE (Nat.le_of_ble_eq_true rfl) (Nat.le_of_ble_eq_true rfl) dX10_isIn_18
  · replace hf := q_ifn c3 hf
    refine v_lload_n 0 0 hX dX10_isIn_6 rfl rfl ?_
    refine v_lload 2 hX dX10_isIn_7 rfl ?_
    obtain ⟨g4, hf⟩ := q_gd_some hf
    refine v_lcmp hX g1 g4 dX10_isIn_9 ?_
    refine v_ifc_gt (tgt := 17) hX dX10_isIn_10 (by decide) (fun c5 => ?_) (fun c5 => ?_)
    · replace hf := q_ifp c5 hf
      refine v_iconst hX dX10_isIn_17 ?_
      cases hf
      exact v_zret hX (Or.inl rfl) hE (Nat.le_of_ble_eq_true rfl) (Nat.le_of_ble_eq_true rfl) dX10_isIn_18
    · replace hf := q_ifn c5 hf
      refine v_iconst hX dX10_isIn_13 ?_
      refine v_goto (tgt := 18) hX dX10_isIn_14 (by decide) ?_
      cases hf
      exact v_zret hX (Or.inr rfl) hE (Nat.le_of_ble_eq_true rfl) (Nat.le_of_ble_eq_true rfl) dX10_isIn_18
noncomputable def f_X10_down (a0 : Int) (a2 : Int) : Option (Int) := q_gd (r_l a0) (q_gd (r_l a2) (q_gd (a2 ≠ 0) (q_lt (Int.tdiv a0 a2) fun x4 => q_gd (r_l (x4 * a2)) (if x4 * a2 ≤ a0 then some x4 else some (x4 - 1)))))
abbrev rmX10_down : Room := { frames := 0, cells := 0, slots := 0, locals := 0 }
set_option maxRecDepth 20000 in
theorem c_X10_down {S : q_S} {R : q_HR} {I : q_HI} {a0 : Int} {a2 : Int} {rz : Int} (hf : f_X10_down a0 a2 = some rz) : ∀ (l : Launch) (D : va_G) (cy : Nat → ClassId) (B : Nat), Met l yX10_down [Cond.code yX10_down cX10_down 6 (some .long)] rmX10_down (q_Pc B D cy [.long (q_l a0), .long (q_l a2)] S R I) (q_Qc B D cy (some (.long (q_l rz))) S R I) 0 0 (fun q => B ≤ q) := by
  refine q_met (lv := [(0, .long (q_l a0)), (2, .long (q_l a2))]) (own := RX10) (nm := "down") (by decide) rfl rfl (Nat.le_of_ble_eq_true rfl) rfl (fun X hX hE => ?_)
  unfold f_X10_down at hf
  refine v_lload_n 0 0 hX dX10_down_0 rfl rfl ?_
  refine v_lload_n 2 1 hX dX10_down_1 rfl rfl ?_
  obtain ⟨g1, hf⟩ := q_gd_some hf
  obtain ⟨g2, hf⟩ := q_gd_some hf
  obtain ⟨g3, hf⟩ := q_gd_some hf
  refine v_ldiv hX g1 g2 g3 dX10_down_2 ?_
  obtain ⟨x4, e5, hf⟩ := q_lt_nm hf
  rw [e5]
  refine v_lstore (lw := [(4, .long (q_l x4)), (0, .long (q_l a0)), (2, .long (q_l a2))]) hX dX10_down_3 (by decide) rfl ?_
  refine v_lload 0 hX dX10_down_5 rfl ?_
  refine v_lload_n 2 2 hX dX10_down_7 rfl rfl ?_
  refine v_lmul hX dX10_down_8 ?_
  refine v_lload_n 0 1 hX dX10_down_9 rfl rfl ?_
  obtain ⟨g6, hf⟩ := q_gd_some hf
  refine v_lcmp hX g6 g1 dX10_down_10 ?_
  refine v_ifc_le (tgt := 21) hX dX10_down_11 (by decide) (fun c7 => ?_) (fun c7 => ?_)
  · replace hf := q_ifp c7 hf
    refine v_lload 0 hX dX10_down_21 rfl ?_
    cases hf
    exact v_lret hX hE (Nat.le_of_ble_eq_true rfl) (Nat.le_of_ble_eq_true rfl) dX10_down_23
  · replace hf := q_ifn c7 hf
    refine v_lload 0 hX dX10_down_14 rfl ?_
    refine v_lconst 1 hX dX10_down_16 (by decide) ?_
    refine v_lsub hX dX10_down_17 ?_
    refine v_goto (tgt := 23) hX dX10_down_18 (by decide) ?_
    cases hf
    exact v_lret hX hE (Nat.le_of_ble_eq_true rfl) (Nat.le_of_ble_eq_true rfl) dX10_down_23
noncomputable def f_X10_starts_L48 (S : q_S) (R : q_HR) (p0 : Nat) (k : Int → q_HI → Option (q_HI)) : Nat → Int → q_HI → Option (q_HI)
  | 0, _, _ => none
  | n + 1, v2, I => q_gd (r_i v2) (if 5 ≤ v2 then k v2 I else q_gd (S.1 p0 = 11) (q_gd (S.1 (R p0 10) = 12) (q_gd ((0 : Int) ≤ v2 ∧ v2 < (S.2.1 (R p0 10) : Int)) (q_lt (q_up I (R p0 10) (Int.toNat v2) 1000) fun I25 => f_X10_starts_L48 S R p0 k n (v2 + 1) I25))))
noncomputable def f_X10_starts (S : q_S) (R : q_HR) (I : q_HI) (a0 : Nat) (a1 : Int) : Option (q_HI) := q_gd (S.1 a0 = 11) (q_lt (q_up I a0 1 a1) fun I2 => q_lt (q_up I2 a0 2 0) fun I4 => q_lt (q_up I4 a0 3 0) fun I6 => q_lt (q_up I6 a0 4 0) fun I8 => q_lt (q_up I8 a0 5 50) fun I10 => q_lt (q_up I10 a0 6 0) fun I12 => q_lt (q_up I12 a0 7 0) fun I14 => q_lt (q_up I14 a0 8 1) fun I16 => q_lt (q_up I16 a0 9 1) fun I18 => f_X10_starts_L48 S R a0 (fun w27 I28 => some I28) 100 0 I18)
abbrev rmX10_starts : Room := { frames := 0, cells := 0, slots := 0, locals := 0 }
set_option maxRecDepth 20000 in
theorem l_X10_starts_48 {X : q_X} {S : q_S} {R : q_HR} {p0 : Nat} {Iz : q_HI} (hX : q_C X cX10_starts 3 RX10 none "starts") (hE : q_E X 0 0 none S R Iz) {k : Int → q_HI → Option (q_HI)} (hk : ∀ (v2 : Int) (I : q_HI), k v2 I = some Iz → q_V X rmX10_starts cX10_starts 3 0 0 68 [] [] S R I) :
    ∀ (n : Nat), ∀ (v2 : Int) (I : q_HI), f_X10_starts_L48 S R p0 k n v2 I = some Iz → q_V X rmX10_starts cX10_starts 3 0 0 48 [(0, .ref p0), (2, .int (q_i v2))] [] S R I := by
  intro n
  induction n with
  | zero =>
    intro v2 I hf
    cases (show (none : Option (q_HI)) = some _ from hf)
  | succ n ih =>
    intro v2 I hf
    rw [f_X10_starts_L48] at hf
    refine v_iload_n 2 1 hX dX10_starts_48 rfl rfl ?_
    refine v_iconst hX dX10_starts_49 ?_
    obtain ⟨g20, hf⟩ := q_gd_some hf
    refine v_icmp_ge (tgt := 68) hX g20 (by unfold r_i; omega) dX10_starts_50 (by decide) (fun c21 => ?_) (fun c21 => ?_)
    · replace hf := q_ifp c21 hf
      refine v_sub (lv' := []) [] rfl ?_
      exact hk _ _ hf
    · replace hf := q_ifn c21 hf
      refine v_aload_n 0 0 hX dX10_starts_53 rfl rfl ?_
      obtain ⟨g22, hf⟩ := q_gd_some hf
      obtain ⟨g23, hf⟩ := q_gd_some hf
      refine v_getA hX fa_RX10_13 (fun _ _ => rfl) g22 g23 (by decide) dX10_starts_54 ?_
      refine v_iload_n 2 1 hX dX10_starts_57 rfl rfl ?_
      refine v_sipush 1000 hX dX10_starts_58 (by decide) ?_
      obtain ⟨g24, hf⟩ := q_gd_some hf
      refine v_iastore hX g23 g24 dX10_starts_61 ?_
      obtain ⟨I25, e26, hf⟩ := q_lt_nm hf
      rw [e26]
      refine v_iinc 1 (lw := [(2, .int (q_i (v2 + 1))), (0, .ref p0)]) hX dX10_starts_62 rfl (by decide) rfl ?_
      refine v_goto (tgt := 48) hX dX10_starts_65 (by decide) ?_
      refine v_sub (lv' := [(0, .ref p0), (2, .int (q_i (v2 + 1)))]) [1, 0] rfl ?_
      exact ih _ _ hf
set_option maxRecDepth 20000 in
theorem c_X10_starts {S : q_S} {R : q_HR} {I : q_HI} {a0 : Nat} {a1 : Int} {Iz : q_HI} (hf : f_X10_starts S R I a0 a1 = some Iz) : ∀ (l : Launch) (D : va_G) (cy : Nat → ClassId) (B : Nat), Met l yX10_starts [Cond.code yX10_starts cX10_starts 3 none] rmX10_starts (q_Pc B D cy [.ref a0, .int (q_i a1)] S R I) (q_Qc B D cy none S R Iz) 0 0 (fun q => B ≤ q) := by
  refine q_met (lv := [(0, .ref a0), (1, .int (q_i a1))]) (own := RX10) (nm := "starts") (by decide) rfl rfl (Nat.le_of_ble_eq_true rfl) rfl (fun X hX hE => ?_)
  unfold f_X10_starts at hf
  refine v_aload_n 0 0 hX dX10_starts_0 rfl rfl ?_
  refine v_iload_n 1 1 hX dX10_starts_1 rfl rfl ?_
  obtain ⟨g1, hf⟩ := q_gd_some hf
  refine v_putI hX fa_RX10_52 rfl g1 dX10_starts_2 ?_
  obtain ⟨I2, e3, hf⟩ := q_lt_nm hf
  rw [e3]
  refine v_aload_n 0 0 hX dX10_starts_5 rfl rfl ?_
  refine v_iconst hX dX10_starts_6 ?_
  refine v_putI hX fa_RX10_55 rfl g1 dX10_starts_7 ?_
  obtain ⟨I4, e5, hf⟩ := q_lt_nm hf
  rw [e5]
  refine v_aload_n 0 0 hX dX10_starts_10 rfl rfl ?_
  refine v_iconst hX dX10_starts_11 ?_
  refine v_putI hX fa_RX10_58 rfl g1 dX10_starts_12 ?_
  obtain ⟨I6, e7, hf⟩ := q_lt_nm hf
  rw [e7]
  refine v_aload_n 0 0 hX dX10_starts_15 rfl rfl ?_
  refine v_iconst hX dX10_starts_16 ?_
  refine v_putI hX fa_RX10_61 rfl g1 dX10_starts_17 ?_
  obtain ⟨I8, e9, hf⟩ := q_lt_nm hf
  rw [e9]
  refine v_aload_n 0 0 hX dX10_starts_20 rfl rfl ?_
  refine v_bipush 50 hX dX10_starts_21 (by decide) ?_
  refine v_putI hX fa_RX10_64 rfl g1 dX10_starts_23 ?_
  obtain ⟨I10, e11, hf⟩ := q_lt_nm hf
  rw [e11]
  refine v_aload_n 0 0 hX dX10_starts_26 rfl rfl ?_
  refine v_iconst hX dX10_starts_27 ?_
  refine v_putI hX fa_RX10_67 rfl g1 dX10_starts_28 ?_
  obtain ⟨I12, e13, hf⟩ := q_lt_nm hf
  rw [e13]
  refine v_aload_n 0 0 hX dX10_starts_31 rfl rfl ?_
  refine v_iconst hX dX10_starts_32 ?_
  refine v_putZ hX fa_RX10_70 rfl (Or.inl rfl) g1 dX10_starts_33 ?_
  obtain ⟨I14, e15, hf⟩ := q_lt_nm hf
  rw [e15]
  refine v_aload_n 0 0 hX dX10_starts_36 rfl rfl ?_
  refine v_iconst hX dX10_starts_37 ?_
  refine v_putZ hX fa_RX10_74 rfl (Or.inr rfl) g1 dX10_starts_38 ?_
  obtain ⟨I16, e17, hf⟩ := q_lt_nm hf
  rw [e17]
  refine v_aload_n 0 0 hX dX10_starts_41 rfl rfl ?_
  refine v_iconst hX dX10_starts_42 ?_
  refine v_putZ hX fa_RX10_77 rfl (Or.inr rfl) g1 dX10_starts_43 ?_
  obtain ⟨I18, e19, hf⟩ := q_lt_nm hf
  rw [e19]
  refine v_iconst hX dX10_starts_46 ?_
  refine v_istore_n 2 (lw := [(2, .int (q_i 0)), (0, .ref a0), (1, .int (q_i a1))]) hX dX10_starts_47 rfl (by decide) rfl ?_
  refine v_sub (lv' := [(0, .ref a0), (2, .int (q_i 0))]) [1, 0] rfl ?_
  refine l_X10_starts_48 hX hE (fun w27 I28 hk => ?_) 100 _ _ hf
  clear hf
  have hf := hk
  clear hk
  cases hf
  exact v_vret hX hE (Nat.le_of_ble_eq_true rfl) (Nat.le_of_ble_eq_true rfl) dX10_starts_68
noncomputable def f_X10_init (S : q_S) (R : q_HR) (I : q_HI) (a0 : Nat) : Option (q_S × q_HR × q_HI) := q_lt (q_nw S 12 (Int.toNat 5)) fun S1 => q_lt (q_zr R S.2.2 0) fun R3 => q_lt (q_zr I S.2.2 0) fun I5 => q_gd (S1.1 a0 = 11) (q_gd (S1.1 (S.2.2) = 12) (q_lt (q_up R3 a0 10 (S.2.2)) fun R9 => q_lt (q_nw S1 12 (Int.toNat 522)) fun S11 => q_lt (q_zr R9 S1.2.2 0) fun R13 => q_lt (q_zr I5 S1.2.2 0) fun I15 => q_gd (S11.1 a0 = 11) (q_gd (S11.1 (S1.2.2) = 12) (q_lt (q_up R13 a0 11 (S1.2.2)) fun R19 => q_lt (q_nw S11 12 (Int.toNat 10)) fun S21 => q_lt (q_zr R19 S11.2.2 0) fun R23 => q_lt (q_zr I15 S11.2.2 0) fun I25 => q_gd (S21.1 a0 = 11) (q_gd (S21.1 (S11.2.2) = 12) (q_lt (q_up R23 a0 12 (S11.2.2)) fun R29 => q_lt (q_nw S21 12 (Int.toNat 8)) fun S31 => q_lt (q_zr R29 S21.2.2 0) fun R33 => q_lt (q_zr I25 S21.2.2 0) fun I35 => q_gd (S31.1 a0 = 11) (q_gd (S31.1 (S21.2.2) = 12) (q_lt (q_up R33 a0 13 (S21.2.2)) fun R39 => q_lt (q_nw S31 12 (Int.toNat 435)) fun S41 => q_lt (q_zr R39 S31.2.2 0) fun R43 => q_lt (q_zr I35 S31.2.2 0) fun I45 => q_gd (S41.1 a0 = 11) (q_gd (S41.1 (S31.2.2) = 12) (q_lt (q_up R43 a0 16 (S31.2.2)) fun R49 => q_lt (q_nw S41 12 (Int.toNat 5)) fun S51 => q_lt (q_zr R49 S41.2.2 0) fun R53 => q_lt (q_zr I45 S41.2.2 0) fun I55 => q_gd (S51.1 a0 = 11) (q_gd (S51.1 (S41.2.2) = 12) (q_lt (q_up R53 a0 17 (S41.2.2)) fun R59 => q_lt (q_nw S51 13 (Int.toNat 5)) fun S61 => q_lt (q_zr R59 S51.2.2 0) fun R63 => q_lt (q_zr I55 S51.2.2 0) fun I65 => q_gd (S61.1 a0 = 11) (q_gd (S61.1 (S51.2.2) = 13) (q_lt (q_up R63 a0 20 (S51.2.2)) fun R69 => q_lt (q_nw S61 13 (Int.toNat 5)) fun S71 => q_lt (q_zr R69 S61.2.2 0) fun R73 => q_lt (q_zr I65 S61.2.2 0) fun I75 => q_gd (S71.1 a0 = 11) (q_gd (S71.1 (S61.2.2) = 13) (q_lt (q_up R73 a0 21 (S61.2.2)) fun R79 => q_lt (q_nw S71 12 (Int.toNat 64)) fun S81 => q_lt (q_zr R79 S71.2.2 0) fun R83 => q_lt (q_zr I75 S71.2.2 0) fun I85 => q_gd (S81.1 a0 = 11) (q_gd (S81.1 (S71.2.2) = 12) (q_lt (q_up R83 a0 22 (S71.2.2)) fun R89 => q_lt (q_nw S81 13 (Int.toNat 64)) fun S91 => q_lt (q_zr R89 S81.2.2 0) fun R93 => q_lt (q_zr I85 S81.2.2 0) fun I95 => q_gd (S91.1 a0 = 11) (q_gd (S91.1 (S81.2.2) = 13) (q_lt (q_up R93 a0 23 (S81.2.2)) fun R99 => q_lt (q_nw S91 12 (Int.toNat 8)) fun S101 => q_lt (q_zr R99 S91.2.2 0) fun R103 => q_lt (q_zr I95 S91.2.2 0) fun I105 => q_gd (S101.1 a0 = 11) (q_gd (S101.1 (S91.2.2) = 12) (q_lt (q_up R103 a0 25 (S91.2.2)) fun R109 => q_bd (f_X10_starts S101 R109 I105 a0 2) fun I111 => some (S101, R109, I111)))))))))))))))))))))))
abbrev rmX10_init : Room := { frames := 1, cells := 11, slots := 1131, locals := 22 }
set_option maxRecDepth 20000 in
theorem c_X10_init {S : q_S} {R : q_HR} {I : q_HI} {a0 : Nat} {Sz : q_S} {Rz : q_HR} {Iz : q_HI} (hf : f_X10_init S R I a0 = some (Sz, Rz, Iz)) : ∀ (l : Launch) (D : va_G) (cy : Nat → ClassId) (B : Nat), Met l yX10_init [Cond.code yX10_init cX10_init 1 none] rmX10_init (q_Pc B D cy [.ref a0] S R I) (q_Qc B D cy none Sz Rz Iz) 11 1131 (fun q => B ≤ q) := by
  refine q_met (lv := [(0, .ref a0)]) (own := RX10) (nm := "<init>") (by decide) rfl rfl (Nat.le_of_ble_eq_true rfl) rfl (fun X hX hE => ?_)
  unfold f_X10_init at hf
  refine v_aload_n 0 0 hX dX10_init_0 rfl rfl ?_
  refine v_objInit hX wo_RX10_7 wo_inst wo_code (Nat.le_of_ble_eq_true rfl) (Nat.le_of_ble_eq_true rfl) dX10_init_1 ?_
  refine v_aload_n 0 0 hX dX10_init_4 rfl rfl ?_
  refine v_iconst hX dX10_init_5 ?_
  refine v_newarr (k := 12) (N := 5) (t0 := 0) (ty := .int) hX (by decide) wa_int rfl (fun _ => rfl) (fun _ => rfl) (fun _ _ h => h) (by omega) (by decide) (fun M hM => by show M * _ ≤ _; simp only [componentBytes]; omega) (Nat.le_of_ble_eq_true rfl) (Nat.le_of_ble_eq_true rfl) dX10_init_6 ?_
  refine v_cs (k := 1) (n := 5) rfl rfl ?_
  obtain ⟨S1, e2, hf⟩ := q_lt_nm hf
  rw [e2]
  obtain ⟨R3, e4, hf⟩ := q_lt_nm hf
  rw [e4]
  obtain ⟨I5, e6, hf⟩ := q_lt_nm hf
  rw [e6]
  obtain ⟨g7, hf⟩ := q_gd_some hf
  obtain ⟨g8, hf⟩ := q_gd_some hf
  refine v_putFA hX fa_RX10_13 (fun _ _ => rfl) rfl rfl g7 g8 (by decide) dX10_init_8 ?_
  obtain ⟨R9, e10, hf⟩ := q_lt_nm hf
  rw [e10]
  refine v_aload_n 0 0 hX dX10_init_11 rfl rfl ?_
  refine v_sipush 522 hX dX10_init_12 (by decide) ?_
  refine v_newarr (k := 12) (N := 522) (t0 := 0) (ty := .int) hX (by decide) wa_int rfl (fun _ => rfl) (fun _ => rfl) (fun _ _ h => h) (by omega) (by decide) (fun M hM => by show M * _ ≤ _; simp only [componentBytes]; omega) (Nat.le_of_ble_eq_true rfl) (Nat.le_of_ble_eq_true rfl) dX10_init_15 ?_
  refine v_cs (k := 2) (n := 527) rfl rfl ?_
  obtain ⟨S11, e12, hf⟩ := q_lt_nm hf
  rw [e12]
  obtain ⟨R13, e14, hf⟩ := q_lt_nm hf
  rw [e14]
  obtain ⟨I15, e16, hf⟩ := q_lt_nm hf
  rw [e16]
  obtain ⟨g17, hf⟩ := q_gd_some hf
  obtain ⟨g18, hf⟩ := q_gd_some hf
  refine v_putFA hX fa_RX10_17 (fun _ _ => rfl) rfl rfl g17 g18 (by decide) dX10_init_17 ?_
  obtain ⟨R19, e20, hf⟩ := q_lt_nm hf
  rw [e20]
  refine v_aload_n 0 0 hX dX10_init_20 rfl rfl ?_
  refine v_bipush 10 hX dX10_init_21 (by decide) ?_
  refine v_newarr (k := 12) (N := 10) (t0 := 0) (ty := .int) hX (by decide) wa_int rfl (fun _ => rfl) (fun _ => rfl) (fun _ _ h => h) (by omega) (by decide) (fun M hM => by show M * _ ≤ _; simp only [componentBytes]; omega) (Nat.le_of_ble_eq_true rfl) (Nat.le_of_ble_eq_true rfl) dX10_init_23 ?_
  refine v_cs (k := 3) (n := 537) rfl rfl ?_
  obtain ⟨S21, e22, hf⟩ := q_lt_nm hf
  rw [e22]
  obtain ⟨R23, e24, hf⟩ := q_lt_nm hf
  rw [e24]
  obtain ⟨I25, e26, hf⟩ := q_lt_nm hf
  rw [e26]
  obtain ⟨g27, hf⟩ := q_gd_some hf
  obtain ⟨g28, hf⟩ := q_gd_some hf
  refine v_putFA hX fa_RX10_20 (fun _ _ => rfl) rfl rfl g27 g28 (by decide) dX10_init_25 ?_
  obtain ⟨R29, e30, hf⟩ := q_lt_nm hf
  rw [e30]
  refine v_aload_n 0 0 hX dX10_init_28 rfl rfl ?_
  refine v_bipush 8 hX dX10_init_29 (by decide) ?_
  refine v_newarr (k := 12) (N := 8) (t0 := 0) (ty := .int) hX (by decide) wa_int rfl (fun _ => rfl) (fun _ => rfl) (fun _ _ h => h) (by omega) (by decide) (fun M hM => by show M * _ ≤ _; simp only [componentBytes]; omega) (Nat.le_of_ble_eq_true rfl) (Nat.le_of_ble_eq_true rfl) dX10_init_31 ?_
  refine v_cs (k := 4) (n := 545) rfl rfl ?_
  obtain ⟨S31, e32, hf⟩ := q_lt_nm hf
  rw [e32]
  obtain ⟨R33, e34, hf⟩ := q_lt_nm hf
  rw [e34]
  obtain ⟨I35, e36, hf⟩ := q_lt_nm hf
  rw [e36]
  obtain ⟨g37, hf⟩ := q_gd_some hf
  obtain ⟨g38, hf⟩ := q_gd_some hf
  refine v_putFA hX fa_RX10_23 (fun _ _ => rfl) rfl rfl g37 g38 (by decide) dX10_init_33 ?_
  obtain ⟨R39, e40, hf⟩ := q_lt_nm hf
  rw [e40]
  refine v_aload_n 0 0 hX dX10_init_36 rfl rfl ?_
  refine v_sipush 435 hX dX10_init_37 (by decide) ?_
  refine v_newarr (k := 12) (N := 435) (t0 := 0) (ty := .int) hX (by decide) wa_int rfl (fun _ => rfl) (fun _ => rfl) (fun _ _ h => h) (by omega) (by decide) (fun M hM => by show M * _ ≤ _; simp only [componentBytes]; omega) (Nat.le_of_ble_eq_true rfl) (Nat.le_of_ble_eq_true rfl) dX10_init_40 ?_
  refine v_cs (k := 5) (n := 980) rfl rfl ?_
  obtain ⟨S41, e42, hf⟩ := q_lt_nm hf
  rw [e42]
  obtain ⟨R43, e44, hf⟩ := q_lt_nm hf
  rw [e44]
  obtain ⟨I45, e46, hf⟩ := q_lt_nm hf
  rw [e46]
  obtain ⟨g47, hf⟩ := q_gd_some hf
  obtain ⟨g48, hf⟩ := q_gd_some hf
  refine v_putFA hX fa_RX10_26 (fun _ _ => rfl) rfl rfl g47 g48 (by decide) dX10_init_42 ?_
  obtain ⟨R49, e50, hf⟩ := q_lt_nm hf
  rw [e50]
  refine v_aload_n 0 0 hX dX10_init_45 rfl rfl ?_
  refine v_iconst hX dX10_init_46 ?_
  refine v_newarr (k := 12) (N := 5) (t0 := 0) (ty := .int) hX (by decide) wa_int rfl (fun _ => rfl) (fun _ => rfl) (fun _ _ h => h) (by omega) (by decide) (fun M hM => by show M * _ ≤ _; simp only [componentBytes]; omega) (Nat.le_of_ble_eq_true rfl) (Nat.le_of_ble_eq_true rfl) dX10_init_47 ?_
  refine v_cs (k := 6) (n := 985) rfl rfl ?_
  obtain ⟨S51, e52, hf⟩ := q_lt_nm hf
  rw [e52]
  obtain ⟨R53, e54, hf⟩ := q_lt_nm hf
  rw [e54]
  obtain ⟨I55, e56, hf⟩ := q_lt_nm hf
  rw [e56]
  obtain ⟨g57, hf⟩ := q_gd_some hf
  obtain ⟨g58, hf⟩ := q_gd_some hf
  refine v_putFA hX fa_RX10_29 (fun _ _ => rfl) rfl rfl g57 g58 (by decide) dX10_init_49 ?_
  obtain ⟨R59, e60, hf⟩ := q_lt_nm hf
  rw [e60]
  refine v_aload_n 0 0 hX dX10_init_52 rfl rfl ?_
  refine v_iconst hX dX10_init_53 ?_
  refine v_newarr (k := 13) (N := 5) (t0 := 1) (ty := .long) hX (by decide) wa_long rfl (fun _ => rfl) (fun _ => rfl) (fun _ _ h => h) (by omega) (by decide) (fun M hM => by show M * _ ≤ _; simp only [componentBytes]; omega) (Nat.le_of_ble_eq_true rfl) (Nat.le_of_ble_eq_true rfl) dX10_init_54 ?_
  refine v_cs (k := 7) (n := 990) rfl rfl ?_
  obtain ⟨S61, e62, hf⟩ := q_lt_nm hf
  rw [e62]
  obtain ⟨R63, e64, hf⟩ := q_lt_nm hf
  rw [e64]
  obtain ⟨I65, e66, hf⟩ := q_lt_nm hf
  rw [e66]
  obtain ⟨g67, hf⟩ := q_gd_some hf
  obtain ⟨g68, hf⟩ := q_gd_some hf
  refine v_putFA hX fa_RX10_32 (fun _ _ => rfl) rfl rfl g67 g68 (by decide) dX10_init_56 ?_
  obtain ⟨R69, e70, hf⟩ := q_lt_nm hf
  rw [e70]
  refine v_aload_n 0 0 hX dX10_init_59 rfl rfl ?_
  refine v_iconst hX dX10_init_60 ?_
  refine v_newarr (k := 13) (N := 5) (t0 := 1) (ty := .long) hX (by decide) wa_long rfl (fun _ => rfl) (fun _ => rfl) (fun _ _ h => h) (by omega) (by decide) (fun M hM => by show M * _ ≤ _; simp only [componentBytes]; omega) (Nat.le_of_ble_eq_true rfl) (Nat.le_of_ble_eq_true rfl) dX10_init_61 ?_
  refine v_cs (k := 8) (n := 995) rfl rfl ?_
  obtain ⟨S71, e72, hf⟩ := q_lt_nm hf
  rw [e72]
  obtain ⟨R73, e74, hf⟩ := q_lt_nm hf
  rw [e74]
  obtain ⟨I75, e76, hf⟩ := q_lt_nm hf
  rw [e76]
  obtain ⟨g77, hf⟩ := q_gd_some hf
  obtain ⟨g78, hf⟩ := q_gd_some hf
  refine v_putFA hX fa_RX10_36 (fun _ _ => rfl) rfl rfl g77 g78 (by decide) dX10_init_63 ?_
  obtain ⟨R79, e80, hf⟩ := q_lt_nm hf
  rw [e80]
  refine v_aload_n 0 0 hX dX10_init_66 rfl rfl ?_
  refine v_bipush 64 hX dX10_init_67 (by decide) ?_
  refine v_newarr (k := 12) (N := 64) (t0 := 0) (ty := .int) hX (by decide) wa_int rfl (fun _ => rfl) (fun _ => rfl) (fun _ _ h => h) (by omega) (by decide) (fun M hM => by show M * _ ≤ _; simp only [componentBytes]; omega) (Nat.le_of_ble_eq_true rfl) (Nat.le_of_ble_eq_true rfl) dX10_init_69 ?_
  refine v_cs (k := 9) (n := 1059) rfl rfl ?_
  obtain ⟨S81, e82, hf⟩ := q_lt_nm hf
  rw [e82]
  obtain ⟨R83, e84, hf⟩ := q_lt_nm hf
  rw [e84]
  obtain ⟨I85, e86, hf⟩ := q_lt_nm hf
  rw [e86]
  obtain ⟨g87, hf⟩ := q_gd_some hf
  obtain ⟨g88, hf⟩ := q_gd_some hf
  refine v_putFA hX fa_RX10_39 (fun _ _ => rfl) rfl rfl g87 g88 (by decide) dX10_init_71 ?_
  obtain ⟨R89, e90, hf⟩ := q_lt_nm hf
  rw [e90]
  refine v_aload_n 0 0 hX dX10_init_74 rfl rfl ?_
  refine v_bipush 64 hX dX10_init_75 (by decide) ?_
  refine v_newarr (k := 13) (N := 64) (t0 := 1) (ty := .long) hX (by decide) wa_long rfl (fun _ => rfl) (fun _ => rfl) (fun _ _ h => h) (by omega) (by decide) (fun M hM => by show M * _ ≤ _; simp only [componentBytes]; omega) (Nat.le_of_ble_eq_true rfl) (Nat.le_of_ble_eq_true rfl) dX10_init_77 ?_
  refine v_cs (k := 10) (n := 1123) rfl rfl ?_
  obtain ⟨S91, e92, hf⟩ := q_lt_nm hf
  rw [e92]
  obtain ⟨R93, e94, hf⟩ := q_lt_nm hf
  rw [e94]
  obtain ⟨I95, e96, hf⟩ := q_lt_nm hf
  rw [e96]
  obtain ⟨g97, hf⟩ := q_gd_some hf
  obtain ⟨g98, hf⟩ := q_gd_some hf
  refine v_putFA hX fa_RX10_42 (fun _ _ => rfl) rfl rfl g97 g98 (by decide) dX10_init_79 ?_
  obtain ⟨R99, e100, hf⟩ := q_lt_nm hf
  rw [e100]
  refine v_aload_n 0 0 hX dX10_init_82 rfl rfl ?_
  refine v_bipush 8 hX dX10_init_83 (by decide) ?_
  refine v_newarr (k := 12) (N := 8) (t0 := 0) (ty := .int) hX (by decide) wa_int rfl (fun _ => rfl) (fun _ => rfl) (fun _ _ h => h) (by omega) (by decide) (fun M hM => by show M * _ ≤ _; simp only [componentBytes]; omega) (Nat.le_of_ble_eq_true rfl) (Nat.le_of_ble_eq_true rfl) dX10_init_85 ?_
  refine v_cs (k := 11) (n := 1131) rfl rfl ?_
  obtain ⟨S101, e102, hf⟩ := q_lt_nm hf
  rw [e102]
  obtain ⟨R103, e104, hf⟩ := q_lt_nm hf
  rw [e104]
  obtain ⟨I105, e106, hf⟩ := q_lt_nm hf
  rw [e106]
  obtain ⟨g107, hf⟩ := q_gd_some hf
  obtain ⟨g108, hf⟩ := q_gd_some hf
  refine v_putFA hX fa_RX10_45 (fun _ _ => rfl) rfl rfl g107 g108 (by decide) dX10_init_87 ?_
  obtain ⟨R109, e110, hf⟩ := q_lt_nm hf
  rw [e110]
  refine v_aload_n 0 0 hX dX10_init_90 rfl rfl ?_
  refine v_iconst hX dX10_init_91 ?_
  obtain ⟨I111, h112, hf⟩ := q_bd_some hf
  refine v_callV (As := [.int (q_i 2)]) (rest := []) (st1 := []) none hX mv_RX10_48 (c_X10_starts h112) ⟨rfl, rfl⟩ ⟨Nat.le_of_ble_eq_true rfl, Nat.le_of_ble_eq_true rfl⟩ g107 rfl rfl (Nat.le_of_ble_eq_true rfl) ⟨Nat.le_of_ble_eq_true rfl, Nat.le_of_ble_eq_true rfl⟩ dX10_init_92 rfl ?_
  cases hf
  exact v_vret hX hE (Nat.le_of_ble_eq_true rfl) (Nat.le_of_ble_eq_true rfl) dX10_init_95
noncomputable def f_X10_reset (S : q_S) (R : q_HR) (I : q_HI) (a0 : Nat) (a1 : Int) : Option (Int × q_HI) := q_gd (S.1 a0 = 11) (q_lt (q_up I a0 0 0) fun I2 => q_gd (r_i a1) (q_bd (f_X10_isIn a1 2 5) fun r5 => q_gd (r_i r5) (if r5 = 0 then some ((-3), I2) else q_bd (f_X10_starts S R I2 a0 a1) fun I9 => some (a1, I9))))
abbrev rmX10_reset : Room := { frames := 1, cells := 0, slots := 0, locals := 25 }
set_option maxRecDepth 20000 in
theorem c_X10_reset {S : q_S} {R : q_HR} {I : q_HI} {a0 : Nat} {a1 : Int} {rz : Int} {Iz : q_HI} (hf : f_X10_reset S R I a0 a1 = some (rz, Iz)) : ∀ (l : Launch) (D : va_G) (cy : Nat → ClassId) (B : Nat), Met l yX10_reset [Cond.code yX10_reset cX10_reset 2 (some .int)] rmX10_reset (q_Pc B D cy [.ref a0, .int (q_i a1)] S R I) (q_Qc B D cy (some (.int (q_i rz))) S R Iz) 0 0 (fun q => B ≤ q) := by
  refine q_met (lv := [(0, .ref a0), (1, .int (q_i a1))]) (own := RX10) (nm := "reset") (by decide) rfl rfl (Nat.le_of_ble_eq_true rfl) rfl (fun X hX hE => ?_)
  unfold f_X10_reset at hf
  refine v_aload_n 0 0 hX dX10_reset_0 rfl rfl ?_
  refine v_iconst hX dX10_reset_1 ?_
  obtain ⟨g1, hf⟩ := q_gd_some hf
  refine v_putI hX fa_RX10_1 rfl g1 dX10_reset_2 ?_
  obtain ⟨I2, e3, hf⟩ := q_lt_nm hf
  rw [e3]
  refine v_iload_n 1 1 hX dX10_reset_5 rfl rfl ?_
  obtain ⟨g4, hf⟩ := q_gd_some hf
  refine v_i2l hX g4 dX10_reset_6 ?_
  refine v_ldc2 2 hX kl_RX10_80 (by decide) dX10_reset_7 ?_
  refine v_ldc2 5 hX kl_RX10_82 (by decide) dX10_reset_10 ?_
  obtain ⟨r5, h6, hf⟩ := q_bd_some hf
  refine v_callS (As := [.long (q_l a1), .long (q_l 2), .long (q_l 5)]) (rest := []) (st1 := [.int (q_i r5)]) (some (.int (q_i r5))) hX ms_RX10_84 (c_X10_isIn h6) ⟨rfl, rfl⟩ ⟨Nat.le_of_ble_eq_true rfl, Nat.le_of_ble_eq_true rfl⟩ rfl rfl (Nat.le_of_ble_eq_true rfl) ⟨Nat.le_of_ble_eq_true rfl, Nat.le_of_ble_eq_true rfl⟩ dX10_reset_13 rfl ?_
  obtain ⟨g7, hf⟩ := q_gd_some hf
  refine v_if_ne (tgt := 22) hX g7 dX10_reset_16 (by decide) (fun c8 => ?_) (fun c8 => ?_)
  · replace hf := q_ifp c8 hf
    refine v_bipush (-3) hX dX10_reset_19 (by decide) ?_
    cases hf
    exact v_iret hX hE (Nat.le_of_ble_eq_true rfl) (Nat.le_of_ble_eq_true rfl) dX10_reset_21
  · replace hf := q_ifn c8 hf
    refine v_aload_n 0 0 hX dX10_reset_22 rfl rfl ?_
    refine v_iload_n 1 1 hX dX10_reset_23 rfl rfl ?_
    obtain ⟨I9, h10, hf⟩ := q_bd_some hf
    refine v_callV (As := [.int (q_i a1)]) (rest := []) (st1 := []) none hX mv_RX10_48 (c_X10_starts h10) ⟨rfl, rfl⟩ ⟨Nat.le_of_ble_eq_true rfl, Nat.le_of_ble_eq_true rfl⟩ g1 rfl rfl (Nat.le_of_ble_eq_true rfl) ⟨Nat.le_of_ble_eq_true rfl, Nat.le_of_ble_eq_true rfl⟩ dX10_reset_24 rfl ?_
    refine v_iload_n 1 1 hX dX10_reset_27 rfl rfl ?_
    cases hf
    exact v_iret hX hE (Nat.le_of_ble_eq_true rfl) (Nat.le_of_ble_eq_true rfl) dX10_reset_28
noncomputable def f_X10_sensorCount (S : q_S) (R : q_HR) (I : q_HI) (a0 : Nat) : Option (Int × q_HI) := q_gd (S.1 a0 = 11) (q_lt (q_up I a0 0 0) fun I2 => some (I2 a0 1, I2))
abbrev rmX10_sensorCount : Room := { frames := 0, cells := 0, slots := 0, locals := 0 }
set_option maxRecDepth 20000 in
theorem c_X10_sensorCount {S : q_S} {R : q_HR} {I : q_HI} {a0 : Nat} {rz : Int} {Iz : q_HI} (hf : f_X10_sensorCount S R I a0 = some (rz, Iz)) : ∀ (l : Launch) (D : va_G) (cy : Nat → ClassId) (B : Nat), Met l yX10_sensorCount [Cond.code yX10_sensorCount cX10_sensorCount 1 (some .int)] rmX10_sensorCount (q_Pc B D cy [.ref a0] S R I) (q_Qc B D cy (some (.int (q_i rz))) S R Iz) 0 0 (fun q => B ≤ q) := by
  refine q_met (lv := [(0, .ref a0)]) (own := RX10) (nm := "sensorCount") (by decide) rfl rfl (Nat.le_of_ble_eq_true rfl) rfl (fun X hX hE => ?_)
  unfold f_X10_sensorCount at hf
  refine v_aload_n 0 0 hX dX10_sensorCount_0 rfl rfl ?_
  refine v_iconst hX dX10_sensorCount_1 ?_
  obtain ⟨g1, hf⟩ := q_gd_some hf
  refine v_putI hX fa_RX10_1 rfl g1 dX10_sensorCount_2 ?_
  obtain ⟨I2, e3, hf⟩ := q_lt_nm hf
  rw [e3]
  refine v_aload_n 0 0 hX dX10_sensorCount_5 rfl rfl ?_
  refine v_getI hX fa_RX10_52 (fun _ _ => rfl) g1 dX10_sensorCount_6 ?_
  cases hf
  exact v_iret hX hE (Nat.le_of_ble_eq_true rfl) (Nat.le_of_ble_eq_true rfl) dX10_sensorCount_9
noncomputable def f_X10_isSensor (S : q_S) (R : q_HR) (I : q_HI) (a0 : Nat) (a1 : Int) : Option (Int) := q_gd (r_i a1) (q_gd (S.1 a0 = 11) (q_gd (r_i ((I a0 1) - 1)) (q_bd (f_X10_isIn a1 0 ((I a0 1) - 1)) fun r4 => q_gd (r4 = 0 ∨ r4 = 1) (some r4))))
abbrev rmX10_isSensor : Room := { frames := 1, cells := 0, slots := 0, locals := 25 }
set_option maxRecDepth 20000 in
theorem c_X10_isSensor {S : q_S} {R : q_HR} {I : q_HI} {a0 : Nat} {a1 : Int} {rz : Int} (hf : f_X10_isSensor S R I a0 a1 = some rz) : ∀ (l : Launch) (D : va_G) (cy : Nat → ClassId) (B : Nat), Met l yX10_isSensor [Cond.code yX10_isSensor cX10_isSensor 2 (some .boolean)] rmX10_isSensor (q_Pc B D cy [.ref a0, .int (q_i a1)] S R I) (q_Qc B D cy (some (.int (q_i rz))) S R I) 0 0 (fun q => B ≤ q) := by
  refine q_met (lv := [(0, .ref a0), (1, .int (q_i a1))]) (own := RX10) (nm := "isSensor") (by decide) rfl rfl (Nat.le_of_ble_eq_true rfl) rfl (fun X hX hE => ?_)
  unfold f_X10_isSensor at hf
  refine v_iload_n 1 1 hX dX10_isSensor_0 rfl rfl ?_
  obtain ⟨g1, hf⟩ := q_gd_some hf
  refine v_i2l hX g1 dX10_isSensor_1 ?_
  refine v_lconst 0 hX dX10_isSensor_2 (by decide) ?_
  refine v_aload_n 0 0 hX dX10_isSensor_3 rfl rfl ?_
  obtain ⟨g2, hf⟩ := q_gd_some hf
  refine v_getI hX fa_RX10_52 (fun _ _ => rfl) g2 dX10_isSensor_4 ?_
  refine v_iconst hX dX10_isSensor_7 ?_
  refine v_isub hX dX10_isSensor_8 ?_
  obtain ⟨g3, hf⟩ := q_gd_some hf
  refine v_i2l hX g3 dX10_isSensor_9 ?_
  obtain ⟨r4, h5, hf⟩ := q_bd_some hf
  refine v_callS (As := [.long (q_l a1), .long (q_l 0), .long (q_l ((I a0 1) - 1))]) (rest := []) (st1 := [.int (q_i r4)]) (some (.int (q_i r4))) hX ms_RX10_84 (c_X10_isIn h5) ⟨rfl, rfl⟩ ⟨Nat.le_of_ble_eq_true rfl, Nat.le_of_ble_eq_true rfl⟩ rfl rfl (Nat.le_of_ble_eq_true rfl) ⟨Nat.le_of_ble_eq_true rfl, Nat.le_of_ble_eq_true rfl⟩ dX10_isSensor_10 rfl ?_
  obtain ⟨g6, hf⟩ := q_gd_some hf
  cases hf
  exact v_zret hX g6 hE (Nat.le_of_ble_eq_true rfl) (Nat.le_of_ble_eq_true rfl) dX10_isSensor_13
noncomputable def f_X10_setBaseline (S : q_S) (R : q_HR) (I : q_HI) (a0 : Nat) (a1 : Int) (a2 : Int) : Option (Int × q_HI) := q_gd (S.1 a0 = 11) (q_lt (q_up I a0 0 0) fun I2 => q_bd (f_X10_isSensor S R I2 a0 a1) fun r4 => q_gd (r_i r4) (if r4 = 0 then some ((-2), I2) else q_gd (r_i a2) (q_bd (f_X10_isIn a2 100 9999) fun r9 => q_gd (r_i r9) (if r9 = 0 then some ((-3), I2) else q_gd (S.1 (R a0 10) = 12) (q_gd ((0 : Int) ≤ a1 ∧ a1 < (S.2.1 (R a0 10) : Int)) (q_lt (I2 (R a0 10) (Int.toNat a1)) fun x15 => q_lt (q_up I2 (R a0 10) (Int.toNat a1) a2) fun I17 => some (x15, I17)))))))
abbrev rmX10_setBaseline : Room := { frames := 2, cells := 0, slots := 0, locals := 46 }
set_option maxRecDepth 20000 in
theorem c_X10_setBaseline {S : q_S} {R : q_HR} {I : q_HI} {a0 : Nat} {a1 : Int} {a2 : Int} {rz : Int} {Iz : q_HI} (hf : f_X10_setBaseline S R I a0 a1 a2 = some (rz, Iz)) : ∀ (l : Launch) (D : va_G) (cy : Nat → ClassId) (B : Nat), Met l yX10_setBaseline [Cond.code yX10_setBaseline cX10_setBaseline 4 (some .int)] rmX10_setBaseline (q_Pc B D cy [.ref a0, .int (q_i a1), .int (q_i a2)] S R I) (q_Qc B D cy (some (.int (q_i rz))) S R Iz) 0 0 (fun q => B ≤ q) := by
  refine q_met (lv := [(0, .ref a0), (1, .int (q_i a1)), (2, .int (q_i a2))]) (own := RX10) (nm := "setBaseline") (by decide) rfl rfl (Nat.le_of_ble_eq_true rfl) rfl (fun X hX hE => ?_)
  unfold f_X10_setBaseline at hf
  refine v_aload_n 0 0 hX dX10_setBaseline_0 rfl rfl ?_
  refine v_iconst hX dX10_setBaseline_1 ?_
  obtain ⟨g1, hf⟩ := q_gd_some hf
  refine v_putI hX fa_RX10_1 rfl g1 dX10_setBaseline_2 ?_
  obtain ⟨I2, e3, hf⟩ := q_lt_nm hf
  rw [e3]
  refine v_aload_n 0 0 hX dX10_setBaseline_5 rfl rfl ?_
  refine v_iload_n 1 1 hX dX10_setBaseline_6 rfl rfl ?_
  obtain ⟨r4, h5, hf⟩ := q_bd_some hf
  refine v_callV (As := [.int (q_i a1)]) (rest := []) (st1 := [.int (q_i r4)]) (some (.int (q_i r4))) hX mv_RX10_88 (c_X10_isSensor h5) ⟨rfl, rfl⟩ ⟨Nat.le_of_ble_eq_true rfl, Nat.le_of_ble_eq_true rfl⟩ g1 rfl rfl (Nat.le_of_ble_eq_true rfl) ⟨Nat.le_of_ble_eq_true rfl, Nat.le_of_ble_eq_true rfl⟩ dX10_setBaseline_7 rfl ?_
  obtain ⟨g6, hf⟩ := q_gd_some hf
  refine v_if_ne (tgt := 16) hX g6 dX10_setBaseline_10 (by decide) (fun c7 => ?_) (fun c7 => ?_)
  · replace hf := q_ifp c7 hf
    refine v_bipush (-2) hX dX10_setBaseline_13 (by decide) ?_
    cases hf
    exact v_iret hX hE (Nat.le_of_ble_eq_true rfl) (Nat.le_of_ble_eq_true rfl) dX10_setBaseline_15
  · replace hf := q_ifn c7 hf
    refine v_iload_n 2 2 hX dX10_setBaseline_16 rfl rfl ?_
    obtain ⟨g8, hf⟩ := q_gd_some hf
    refine v_i2l hX g8 dX10_setBaseline_17 ?_
    refine v_ldc2 100 hX kl_RX10_92 (by decide) dX10_setBaseline_18 ?_
    refine v_ldc2 9999 hX kl_RX10_94 (by decide) dX10_setBaseline_21 ?_
    obtain ⟨r9, h10, hf⟩ := q_bd_some hf
    refine v_callS (As := [.long (q_l a2), .long (q_l 100), .long (q_l 9999)]) (rest := []) (st1 := [.int (q_i r9)]) (some (.int (q_i r9))) hX ms_RX10_84 (c_X10_isIn h10) ⟨rfl, rfl⟩ ⟨Nat.le_of_ble_eq_true rfl, Nat.le_of_ble_eq_true rfl⟩ rfl rfl (Nat.le_of_ble_eq_true rfl) ⟨Nat.le_of_ble_eq_true rfl, Nat.le_of_ble_eq_true rfl⟩ dX10_setBaseline_24 rfl ?_
    obtain ⟨g11, hf⟩ := q_gd_some hf
    refine v_if_ne (tgt := 33) hX g11 dX10_setBaseline_27 (by decide) (fun c12 => ?_) (fun c12 => ?_)
    · replace hf := q_ifp c12 hf
      refine v_bipush (-3) hX dX10_setBaseline_30 (by decide) ?_
      cases hf
      exact v_iret hX hE (Nat.le_of_ble_eq_true rfl) (Nat.le_of_ble_eq_true rfl) dX10_setBaseline_32
    · replace hf := q_ifn c12 hf
      refine v_aload_n 0 0 hX dX10_setBaseline_33 rfl rfl ?_
      obtain ⟨g13, hf⟩ := q_gd_some hf
      refine v_getA hX fa_RX10_13 (fun _ _ => rfl) g1 g13 (by decide) dX10_setBaseline_34 ?_
      refine v_iload_n 1 1 hX dX10_setBaseline_37 rfl rfl ?_
      obtain ⟨g14, hf⟩ := q_gd_some hf
      refine v_iaload hX g13 g14 dX10_setBaseline_38 ?_
      obtain ⟨x15, e16, hf⟩ := q_lt_nm hf
      rw [e16]
      refine v_istore_n 3 (lw := [(3, .int (q_i x15)), (0, .ref a0), (1, .int (q_i a1)), (2, .int (q_i a2))]) hX dX10_setBaseline_39 rfl (by decide) rfl ?_
      refine v_aload_n 0 1 hX dX10_setBaseline_40 rfl rfl ?_
      refine v_getA hX fa_RX10_13 (fun _ _ => rfl) g1 g13 (by decide) dX10_setBaseline_41 ?_
      refine v_iload_n 1 2 hX dX10_setBaseline_44 rfl rfl ?_
      refine v_iload_n 2 3 hX dX10_setBaseline_45 rfl rfl ?_
      refine v_iastore hX g13 g14 dX10_setBaseline_46 ?_
      obtain ⟨I17, e18, hf⟩ := q_lt_nm hf
      rw [e18]
      refine v_iload_n 3 0 hX dX10_setBaseline_47 rfl rfl ?_
      cases hf
      exact v_iret hX hE (Nat.le_of_ble_eq_true rfl) (Nat.le_of_ble_eq_true rfl) dX10_setBaseline_48
noncomputable def f_X10_measure_L19 (S : q_S) (R : q_HR) (I : q_HI) (p0 : Nat) (p1 : Int) (p2 : Int) (p3 : Int) (p4 : Int) (p5 : Int) (p6 : Int) (k : Int → Int → Option (Int × q_HI)) : Nat → Int → Int → Option (Int × q_HI)
  | 0, _, _ => none
  | n + 1, v7, v8 => q_gd (r_i v8) (if 5 ≤ v8 then k v7 v8 else if v8 = 0 then q_gd (r_i v7) (if v7 = 0 then f_X10_measure_L19 S R I p0 p1 p2 p3 p4 p5 p6 k n 0 (v8 + 1) else q_gd (r_i p2) (q_gd (S.1 p0 = 11) (q_bd (f_X10_isSensor S R I p0 v8) fun r14 => q_gd (r_i r14) (if r14 = 0 then q_bd (f_X10_isIn p2 0 0) fun r18 => q_gd (r_i r18) (if r18 = 0 then f_X10_measure_L19 S R I p0 p1 p2 p3 p4 p5 p6 k n 0 (v8 + 1) else f_X10_measure_L19 S R I p0 p1 p2 p3 p4 p5 p6 k n 1 (v8 + 1)) else q_bd (f_X10_isIn p2 0 9999) fun r22 => q_gd (r_i r22) (if r22 = 0 then f_X10_measure_L19 S R I p0 p1 p2 p3 p4 p5 p6 k n 0 (v8 + 1) else f_X10_measure_L19 S R I p0 p1 p2 p3 p4 p5 p6 k n 1 (v8 + 1)))))) else if v8 = 1 then q_gd (r_i v7) (if v7 = 0 then f_X10_measure_L19 S R I p0 p1 p2 p3 p4 p5 p6 k n 0 (v8 + 1) else q_gd (r_i p3) (q_gd (S.1 p0 = 11) (q_bd (f_X10_isSensor S R I p0 v8) fun r31 => q_gd (r_i r31) (if r31 = 0 then q_bd (f_X10_isIn p3 0 0) fun r35 => q_gd (r_i r35) (if r35 = 0 then f_X10_measure_L19 S R I p0 p1 p2 p3 p4 p5 p6 k n 0 (v8 + 1) else f_X10_measure_L19 S R I p0 p1 p2 p3 p4 p5 p6 k n 1 (v8 + 1)) else q_bd (f_X10_isIn p3 0 9999) fun r39 => q_gd (r_i r39) (if r39 = 0 then f_X10_measure_L19 S R I p0 p1 p2 p3 p4 p5 p6 k n 0 (v8 + 1) else f_X10_measure_L19 S R I p0 p1 p2 p3 p4 p5 p6 k n 1 (v8 + 1)))))) else if v8 = 2 then q_gd (r_i v7) (if v7 = 0 then f_X10_measure_L19 S R I p0 p1 p2 p3 p4 p5 p6 k n 0 (v8 + 1) else q_gd (r_i p4) (q_gd (S.1 p0 = 11) (q_bd (f_X10_isSensor S R I p0 v8) fun r48 => q_gd (r_i r48) (if r48 = 0 then q_bd (f_X10_isIn p4 0 0) fun r52 => q_gd (r_i r52) (if r52 = 0 then f_X10_measure_L19 S R I p0 p1 p2 p3 p4 p5 p6 k n 0 (v8 + 1) else f_X10_measure_L19 S R I p0 p1 p2 p3 p4 p5 p6 k n 1 (v8 + 1)) else q_bd (f_X10_isIn p4 0 9999) fun r56 => q_gd (r_i r56) (if r56 = 0 then f_X10_measure_L19 S R I p0 p1 p2 p3 p4 p5 p6 k n 0 (v8 + 1) else f_X10_measure_L19 S R I p0 p1 p2 p3 p4 p5 p6 k n 1 (v8 + 1)))))) else if v8 = 3 then q_gd (r_i v7) (if v7 = 0 then f_X10_measure_L19 S R I p0 p1 p2 p3 p4 p5 p6 k n 0 (v8 + 1) else q_gd (r_i p5) (q_gd (S.1 p0 = 11) (q_bd (f_X10_isSensor S R I p0 v8) fun r65 => q_gd (r_i r65) (if r65 = 0 then q_bd (f_X10_isIn p5 0 0) fun r69 => q_gd (r_i r69) (if r69 = 0 then f_X10_measure_L19 S R I p0 p1 p2 p3 p4 p5 p6 k n 0 (v8 + 1) else f_X10_measure_L19 S R I p0 p1 p2 p3 p4 p5 p6 k n 1 (v8 + 1)) else q_bd (f_X10_isIn p5 0 9999) fun r73 => q_gd (r_i r73) (if r73 = 0 then f_X10_measure_L19 S R I p0 p1 p2 p3 p4 p5 p6 k n 0 (v8 + 1) else f_X10_measure_L19 S R I p0 p1 p2 p3 p4 p5 p6 k n 1 (v8 + 1)))))) else q_gd (r_i v7) (if v7 = 0 then f_X10_measure_L19 S R I p0 p1 p2 p3 p4 p5 p6 k n 0 (v8 + 1) else q_gd (r_i p6) (q_gd (S.1 p0 = 11) (q_bd (f_X10_isSensor S R I p0 v8) fun r81 => q_gd (r_i r81) (if r81 = 0 then q_bd (f_X10_isIn p6 0 0) fun r85 => q_gd (r_i r85) (if r85 = 0 then f_X10_measure_L19 S R I p0 p1 p2 p3 p4 p5 p6 k n 0 (v8 + 1) else f_X10_measure_L19 S R I p0 p1 p2 p3 p4 p5 p6 k n 1 (v8 + 1)) else q_bd (f_X10_isIn p6 0 9999) fun r89 => q_gd (r_i r89) (if r89 = 0 then f_X10_measure_L19 S R I p0 p1 p2 p3 p4 p5 p6 k n 0 (v8 + 1) else f_X10_measure_L19 S R I p0 p1 p2 p3 p4 p5 p6 k n 1 (v8 + 1)))))))
noncomputable def f_X10_measure (S : q_S) (R : q_HR) (I : q_HI) (a0 : Nat) (a1 : Int) (a2 : Int) (a3 : Int) (a4 : Int) (a5 : Int) (a6 : Int) : Option (Int × q_HI) := q_gd (S.1 a0 = 11) (q_lt (q_up I a0 0 0) fun I2 => q_gd (r_i a1) (q_bd (f_X10_isIn a1 0 100) fun r5 => f_X10_measure_L19 S R I2 a0 a1 a2 a3 a4 a5 a6 (fun w93 w94 => q_gd (r_i w93) (if w93 = 0 then some ((-3), I2) else q_lt (q_up I2 a0 7 1) fun I97 => q_gd (S.1 (R a0 11) = 12) (q_gd ((0 : Int) ≤ 0 ∧ 0 < (S.2.1 (R a0 11) : Int)) (q_lt (q_up I97 (R a0 11) (Int.toNat 0) a1) fun I101 => q_gd ((0 : Int) ≤ 1 ∧ 1 < (S.2.1 (R a0 11) : Int)) (q_lt (q_up I101 (R a0 11) (Int.toNat 1) a2) fun I104 => q_gd ((0 : Int) ≤ 2 ∧ 2 < (S.2.1 (R a0 11) : Int)) (q_lt (q_up I104 (R a0 11) (Int.toNat 2) a3) fun I107 => q_gd ((0 : Int) ≤ 3 ∧ 3 < (S.2.1 (R a0 11) : Int)) (q_lt (q_up I107 (R a0 11) (Int.toNat 3) a4) fun I110 => q_gd ((0 : Int) ≤ 4 ∧ 4 < (S.2.1 (R a0 11) : Int)) (q_lt (q_up I110 (R a0 11) (Int.toNat 4) a5) fun I113 => q_gd ((0 : Int) ≤ 5 ∧ 5 < (S.2.1 (R a0 11) : Int)) (q_lt (q_up I113 (R a0 11) (Int.toNat 5) a6) fun I116 => some ((((a2 + a3) + a4) + a5) + a6, I116)))))))))) 100 r5 0))
abbrev rmX10_measure : Room := { frames := 2, cells := 0, slots := 0, locals := 46 }
set_option maxRecDepth 20000 in
theorem l_X10_measure_19 {X : q_X} {S : q_S} {R : q_HR} {I : q_HI} {p0 : Nat} {p1 : Int} {p2 : Int} {p3 : Int} {p4 : Int} {p5 : Int} {p6 : Int} {rz : Int} {Iz : q_HI} (hX : q_C X cX10_measure 10 RX10 (some .int) "measure") (hE : q_E X 0 0 (some (.int (q_i rz))) S R Iz) {k : Int → Int → Option (Int × q_HI)} (hk : ∀ (v7 : Int) (v8 : Int), k v7 v8 = some (rz, Iz) → q_V X rmX10_measure cX10_measure 10 0 0 114 [(0, .ref p0), (1, .int (q_i p1)), (2, .int (q_i p2)), (3, .int (q_i p3)), (4, .int (q_i p4)), (5, .int (q_i p5)), (6, .int (q_i p6)), (7, .int (q_i v7))] [] S R I) :
    ∀ (n : Nat), ∀ (v7 : Int) (v8 : Int), f_X10_measure_L19 S R I p0 p1 p2 p3 p4 p5 p6 k n v7 v8 = some (rz, Iz) → q_V X rmX10_measure cX10_measure 10 0 0 19 [(0, .ref p0), (1, .int (q_i p1)), (2, .int (q_i p2)), (3, .int (q_i p3)), (4, .int (q_i p4)), (5, .int (q_i p5)), (6, .int (q_i p6)), (7, .int (q_i v7)), (8, .int (q_i v8))] [] S R I := by
  intro n
  induction n with
  | zero =>
    intro v7 v8 hf
    cases (show (none : Option (Int × q_HI)) = some _ from hf)
  | succ n ih =>
    intro v7 v8 hf
    rw [f_X10_measure_L19] at hf
    refine v_iload 8 hX dX10_measure_19 rfl ?_
    refine v_iconst hX dX10_measure_21 ?_
    obtain ⟨g7, hf⟩ := q_gd_some hf
    refine v_icmp_ge (tgt := 114) hX g7 (by unfold r_i; omega) dX10_measure_22 (by decide) (fun c8 => ?_) (fun c8 => ?_)
    · replace hf := q_ifp c8 hf
      refine v_sub (lv' := [(0, .ref p0), (1, .int (q_i p1)), (2, .int (q_i p2)), (3, .int (q_i p3)), (4, .int (q_i p4)), (5, .int (q_i p5)), (6, .int (q_i p6)), (7, .int (q_i v7))]) [0, 1, 2, 3, 4, 5, 6, 7] rfl ?_
      exact hk _ _ hf
    · replace hf := q_ifn c8 hf
      refine v_iload 8 hX dX10_measure_25 rfl ?_
      refine v_if_ne (tgt := 34) hX g7 dX10_measure_27 (by decide) (fun c9 => ?_) (fun c9 => ?_)
      · replace hf := q_ifp c9 hf
        refine v_iload_n 2 2 hX dX10_measure_30 rfl rfl ?_
        refine v_goto (tgt := 68) hX dX10_measure_31 (by decide) ?_
        refine v_istore (lw := [(9, .int (q_i p2)), (0, .ref p0), (1, .int (q_i p1)), (2, .int (q_i p2)), (3, .int (q_i p3)), (4, .int (q_i p4)), (5, .int (q_i p5)), (6, .int (q_i p6)), (7, .int (q_i v7)), (8, .int (q_i v8))]) hX dX10_measure_68 (by decide) rfl ?_
        refine v_iload 8 hX dX10_measure_70 rfl ?_
        obtain ⟨g10, hf⟩ := q_gd_some hf
        refine v_if_eq (tgt := 105) hX g10 dX10_measure_72 (by decide) (fun c11 => ?_) (fun c11 => ?_)
        · replace hf := q_ifp c11 hf
          refine v_iconst hX dX10_measure_105 ?_
          refine v_istore (lw := [(7, .int (q_i 0)), (9, .int (q_i p2)), (0, .ref p0), (1, .int (q_i p1)), (2, .int (q_i p2)), (3, .int (q_i p3)), (4, .int (q_i p4)), (5, .int (q_i p5)), (6, .int (q_i p6)), (8, .int (q_i v8))]) hX dX10_measure_106 (by decide) rfl ?_
          refine v_iinc 9 (lw := [(8, .int (q_i (v8 + 1))), (7, .int (q_i 0)), (9, .int (q_i p2)), (0, .ref p0), (1, .int (q_i p1)), (2, .int (q_i p2)), (3, .int (q_i p3)), (4, .int (q_i p4)), (5, .int (q_i p5)), (6, .int (q_i p6))]) hX dX10_measure_108 rfl (by decide) rfl ?_
          refine v_goto (tgt := 19) hX dX10_measure_111 (by decide) ?_
          refine v_sub (lv' := [(0, .ref p0), (1, .int (q_i p1)), (2, .int (q_i p2)), (3, .int (q_i p3)), (4, .int (q_i p4)), (5, .int (q_i p5)), (6, .int (q_i p6)), (7, .int (q_i 0)), (8, .int (q_i (v8 + 1)))]) [3, 4, 5, 6, 7, 8, 9, 1, 0] rfl ?_
          exact ih _ _ hf
        · replace hf := q_ifn c11 hf
          refine v_iload 0 hX dX10_measure_75 rfl ?_
          obtain ⟨g12, hf⟩ := q_gd_some hf
          refine v_i2l hX g12 dX10_measure_77 ?_
          refine v_lconst 0 hX dX10_measure_78 (by decide) ?_
          refine v_aload_n 0 1 hX dX10_measure_79 rfl rfl ?_
          refine v_iload 9 hX dX10_measure_80 rfl ?_
          obtain ⟨g13, hf⟩ := q_gd_some hf
          obtain ⟨r14, h15, hf⟩ := q_bd_some hf
          refine v_callV (As := [.int (q_i v8)]) (rest := [.long (q_l 0), .long (q_l p2)]) (st1 := [.int (q_i r14), .long (q_l 0), .long (q_l p2)]) (some (.int (q_i r14))) hX mv_RX10_88 (c_X10_isSensor h15) ⟨rfl, rfl⟩ ⟨Nat.le_of_ble_eq_true rfl, Nat.le_of_ble_eq_true rfl⟩ g13 rfl rfl (Nat.le_of_ble_eq_true rfl) ⟨Nat.le_of_ble_eq_true rfl, Nat.le_of_ble_eq_true rfl⟩ dX10_measure_82 rfl ?_
          obtain ⟨g16, hf⟩ := q_gd_some hf
          refine v_if_eq (tgt := 94) hX g16 dX10_measure_85 (by decide) (fun c17 => ?_) (fun c17 => ?_)
          · replace hf := q_ifp c17 hf
            refine v_lconst 0 hX dX10_measure_94 (by decide) ?_
            obtain ⟨r18, h19, hf⟩ := q_bd_some hf
            refine v_callS (As := [.long (q_l p2), .long (q_l 0), .long (q_l 0)]) (rest := []) (st1 := [.int (q_i r18)]) (some (.int (q_i r18))) hX ms_RX10_84 (c_X10_isIn h19) ⟨rfl, rfl⟩ ⟨Nat.le_of_ble_eq_true rfl, Nat.le_of_ble_eq_true rfl⟩ rfl rfl (Nat.le_of_ble_eq_true rfl) ⟨Nat.le_of_ble_eq_true rfl, Nat.le_of_ble_eq_true rfl⟩ dX10_measure_95 rfl ?_
            obtain ⟨g20, hf⟩ := q_gd_some hf
            refine v_if_eq (tgt := 105) hX g20 dX10_measure_98 (by decide) (fun c21 => ?_) (fun c21 => ?_)
            · replace hf := q_ifp c21 hf
              refine v_iconst hX dX10_measure_105 ?_
              refine v_istore (lw := [(7, .int (q_i 0)), (9, .int (q_i p2)), (0, .ref p0), (1, .int (q_i p1)), (2, .int (q_i p2)), (3, .int (q_i p3)), (4, .int (q_i p4)), (5, .int (q_i p5)), (6, .int (q_i p6)), (8, .int (q_i v8))]) hX dX10_measure_106 (by decide) rfl ?_
              refine v_iinc 9 (lw := [(8, .int (q_i (v8 + 1))), (7, .int (q_i 0)), (9, .int (q_i p2)), (0, .ref p0), (1, .int (q_i p1)), (2, .int (q_i p2)), (3, .int (q_i p3)), (4, .int (q_i p4)), (5, .int (q_i p5)), (6, .int (q_i p6))]) hX dX10_measure_108 rfl (by decide) rfl ?_
              refine v_goto (tgt := 19) hX dX10_measure_111 (by decide) ?_
              refine v_sub (lv' := [(0, .ref p0), (1, .int (q_i p1)), (2, .int (q_i p2)), (3, .int (q_i p3)), (4, .int (q_i p4)), (5, .int (q_i p5)), (6, .int (q_i p6)), (7, .int (q_i 0)), (8, .int (q_i (v8 + 1)))]) [3, 4, 5, 6, 7, 8, 9, 1, 0] rfl ?_
              exact ih _ _ hf
            · replace hf := q_ifn c21 hf
              refine v_iconst hX dX10_measure_101 ?_
              refine v_goto (tgt := 106) hX dX10_measure_102 (by decide) ?_
              refine v_istore (lw := [(7, .int (q_i 1)), (9, .int (q_i p2)), (0, .ref p0), (1, .int (q_i p1)), (2, .int (q_i p2)), (3, .int (q_i p3)), (4, .int (q_i p4)), (5, .int (q_i p5)), (6, .int (q_i p6)), (8, .int (q_i v8))]) hX dX10_measure_106 (by decide) rfl ?_
              refine v_iinc 9 (lw := [(8, .int (q_i (v8 + 1))), (7, .int (q_i 1)), (9, .int (q_i p2)), (0, .ref p0), (1, .int (q_i p1)), (2, .int (q_i p2)), (3, .int (q_i p3)), (4, .int (q_i p4)), (5, .int (q_i p5)), (6, .int (q_i p6))]) hX dX10_measure_108 rfl (by decide) rfl ?_
              refine v_goto (tgt := 19) hX dX10_measure_111 (by decide) ?_
              refine v_sub (lv' := [(0, .ref p0), (1, .int (q_i p1)), (2, .int (q_i p2)), (3, .int (q_i p3)), (4, .int (q_i p4)), (5, .int (q_i p5)), (6, .int (q_i p6)), (7, .int (q_i 1)), (8, .int (q_i (v8 + 1)))]) [3, 4, 5, 6, 7, 8, 9, 1, 0] rfl ?_
              exact ih _ _ hf
          · replace hf := q_ifn c17 hf
            refine v_ldc2 9999 hX kl_RX10_94 (by decide) dX10_measure_88 ?_
            refine v_goto (tgt := 95) hX dX10_measure_91 (by decide) ?_
            obtain ⟨r22, h23, hf⟩ := q_bd_some hf
            refine v_callS (As := [.long (q_l p2), .long (q_l 0), .long (q_l 9999)]) (rest := []) (st1 := [.int (q_i r22)]) (some (.int (q_i r22))) hX ms_RX10_84 (c_X10_isIn h23) ⟨rfl, rfl⟩ ⟨Nat.le_of_ble_eq_true rfl, Nat.le_of_ble_eq_true rfl⟩ rfl rfl (Nat.le_of_ble_eq_true rfl) ⟨Nat.le_of_ble_eq_true rfl, Nat.le_of_ble_eq_true rfl⟩ dX10_measure_95 rfl ?_
            obtain ⟨g24, hf⟩ := q_gd_some hf
            refine v_if_eq (tgt := 105) hX g24 dX10_measure_98 (by decide) (fun c25 => ?_) (fun c25 => ?_)
            · replace hf := q_ifp c25 hf
              refine v_iconst hX dX10_measure_105 ?_
              refine v_istore (lw := [(7, .int (q_i 0)), (9, .int (q_i p2)), (0, .ref p0), (1, .int (q_i p1)), (2, .int (q_i p2)), (3, .int (q_i p3)), (4, .int (q_i p4)), (5, .int (q_i p5)), (6, .int (q_i p6)), (8, .int (q_i v8))]) hX dX10_measure_106 (by decide) rfl ?_
              refine v_iinc 9 (lw := [(8, .int (q_i (v8 + 1))), (7, .int (q_i 0)), (9, .int (q_i p2)), (0, .ref p0), (1, .int (q_i p1)), (2, .int (q_i p2)), (3, .int (q_i p3)), (4, .int (q_i p4)), (5, .int (q_i p5)), (6, .int (q_i p6))]) hX dX10_measure_108 rfl (by decide) rfl ?_
              refine v_goto (tgt := 19) hX dX10_measure_111 (by decide) ?_
              refine v_sub (lv' := [(0, .ref p0), (1, .int (q_i p1)), (2, .int (q_i p2)), (3, .int (q_i p3)), (4, .int (q_i p4)), (5, .int (q_i p5)), (6, .int (q_i p6)), (7, .int (q_i 0)), (8, .int (q_i (v8 + 1)))]) [3, 4, 5, 6, 7, 8, 9, 1, 0] rfl ?_
              exact ih _ _ hf
            · replace hf := q_ifn c25 hf
              refine v_iconst hX dX10_measure_101 ?_
              refine v_goto (tgt := 106) hX dX10_measure_102 (by decide) ?_
              refine v_istore (lw := [(7, .int (q_i 1)), (9, .int (q_i p2)), (0, .ref p0), (1, .int (q_i p1)), (2, .int (q_i p2)), (3, .int (q_i p3)), (4, .int (q_i p4)), (5, .int (q_i p5)), (6, .int (q_i p6)), (8, .int (q_i v8))]) hX dX10_measure_106 (by decide) rfl ?_
              refine v_iinc 9 (lw := [(8, .int (q_i (v8 + 1))), (7, .int (q_i 1)), (9, .int (q_i p2)), (0, .ref p0), (1, .int (q_i p1)), (2, .int (q_i p2)), (3, .int (q_i p3)), (4, .int (q_i p4)), (5, .int (q_i p5)), (6, .int (q_i p6))]) hX dX10_measure_108 rfl (by decide) rfl ?_
              refine v_goto (tgt := 19) hX dX10_measure_111 (by decide) ?_
              refine v_sub (lv' := [(0, .ref p0), (1, .int (q_i p1)), (2, .int (q_i p2)), (3, .int (q_i p3)), (4, .int (q_i p4)), (5, .int (q_i p5)), (6, .int (q_i p6)), (7, .int (q_i 1)), (8, .int (q_i (v8 + 1)))]) [3, 4, 5, 6, 7, 8, 9, 1, 0] rfl ?_
              exact ih _ _ hf
      · replace hf := q_ifn c9 hf
        refine v_iload 8 hX dX10_measure_34 rfl ?_
        refine v_iconst hX dX10_measure_36 ?_
        refine v_icmp_ne (tgt := 44) hX g7 (by unfold r_i; omega) dX10_measure_37 (by decide) (fun c26 => ?_) (fun c26 => ?_)
        · replace hf := q_ifp c26 hf
          refine v_iload_n 3 3 hX dX10_measure_40 rfl rfl ?_
          refine v_goto (tgt := 68) hX dX10_measure_41 (by decide) ?_
          refine v_istore (lw := [(9, .int (q_i p3)), (0, .ref p0), (1, .int (q_i p1)), (2, .int (q_i p2)), (3, .int (q_i p3)), (4, .int (q_i p4)), (5, .int (q_i p5)), (6, .int (q_i p6)), (7, .int (q_i v7)), (8, .int (q_i v8))]) hX dX10_measure_68 (by decide) rfl ?_
          refine v_iload 8 hX dX10_measure_70 rfl ?_
          obtain ⟨g27, hf⟩ := q_gd_some hf
          refine v_if_eq (tgt := 105) hX g27 dX10_measure_72 (by decide) (fun c28 => ?_) (fun c28 => ?_)
          · replace hf := q_ifp c28 hf
            refine v_iconst hX dX10_measure_105 ?_
            refine v_istore (lw := [(7, .int (q_i 0)), (9, .int (q_i p3)), (0, .ref p0), (1, .int (q_i p1)), (2, .int (q_i p2)), (3, .int (q_i p3)), (4, .int (q_i p4)), (5, .int (q_i p5)), (6, .int (q_i p6)), (8, .int (q_i v8))]) hX dX10_measure_106 (by decide) rfl ?_
            refine v_iinc 9 (lw := [(8, .int (q_i (v8 + 1))), (7, .int (q_i 0)), (9, .int (q_i p3)), (0, .ref p0), (1, .int (q_i p1)), (2, .int (q_i p2)), (3, .int (q_i p3)), (4, .int (q_i p4)), (5, .int (q_i p5)), (6, .int (q_i p6))]) hX dX10_measure_108 rfl (by decide) rfl ?_
            refine v_goto (tgt := 19) hX dX10_measure_111 (by decide) ?_
            refine v_sub (lv' := [(0, .ref p0), (1, .int (q_i p1)), (2, .int (q_i p2)), (3, .int (q_i p3)), (4, .int (q_i p4)), (5, .int (q_i p5)), (6, .int (q_i p6)), (7, .int (q_i 0)), (8, .int (q_i (v8 + 1)))]) [3, 4, 5, 6, 7, 8, 9, 1, 0] rfl ?_
            exact ih _ _ hf
          · replace hf := q_ifn c28 hf
            refine v_iload 0 hX dX10_measure_75 rfl ?_
            obtain ⟨g29, hf⟩ := q_gd_some hf
            refine v_i2l hX g29 dX10_measure_77 ?_
            refine v_lconst 0 hX dX10_measure_78 (by decide) ?_
            refine v_aload_n 0 1 hX dX10_measure_79 rfl rfl ?_
            refine v_iload 9 hX dX10_measure_80 rfl ?_
            obtain ⟨g30, hf⟩ := q_gd_some hf
            obtain ⟨r31, h32, hf⟩ := q_bd_some hf
            refine v_callV (As := [.int (q_i v8)]) (rest := [.long (q_l 0), .long (q_l p3)]) (st1 := [.int (q_i r31), .long (q_l 0), .long (q_l p3)]) (some (.int (q_i r31))) hX mv_RX10_88 (c_X10_isSensor h32) ⟨rfl, rfl⟩ ⟨Nat.le_of_ble_eq_true rfl, Nat.le_of_ble_eq_true rfl⟩ g30 rfl rfl (Nat.le_of_ble_eq_true rfl) ⟨Nat.le_of_ble_eq_true rfl, Nat.le_of_ble_eq_true rfl⟩ dX10_measure_82 rfl ?_
            obtain ⟨g33, hf⟩ := q_gd_some hf
            refine v_if_eq (tgt := 94) hX g33 dX10_measure_85 (by decide) (fun c34 => ?_) (fun c34 => ?_)
            · replace hf := q_ifp c34 hf
              refine v_lconst 0 hX dX10_measure_94 (by decide) ?_
              obtain ⟨r35, h36, hf⟩ := q_bd_some hf
              refine v_callS (As := [.long (q_l p3), .long (q_l 0), .long (q_l 0)]) (rest := []) (st1 := [.int (q_i r35)]) (some (.int (q_i r35))) hX ms_RX10_84 (c_X10_isIn h36) ⟨rfl, rfl⟩ ⟨Nat.le_of_ble_eq_true rfl, Nat.le_of_ble_eq_true rfl⟩ rfl rfl (Nat.le_of_ble_eq_true rfl) ⟨Nat.le_of_ble_eq_true rfl, Nat.le_of_ble_eq_true rfl⟩ dX10_measure_95 rfl ?_
              obtain ⟨g37, hf⟩ := q_gd_some hf
              refine v_if_eq (tgt := 105) hX g37 dX10_measure_98 (by decide) (fun c38 => ?_) (fun c38 => ?_)
              · replace hf := q_ifp c38 hf
                refine v_iconst hX dX10_measure_105 ?_
                refine v_istore (lw := [(7, .int (q_i 0)), (9, .int (q_i p3)), (0, .ref p0), (1, .int (q_i p1)), (2, .int (q_i p2)), (3, .int (q_i p3)), (4, .int (q_i p4)), (5, .int (q_i p5)), (6, .int (q_i p6)), (8, .int (q_i v8))]) hX dX10_measure_106 (by decide) rfl ?_
                refine v_iinc 9 (lw := [(8, .int (q_i (v8 + 1))), (7, .int (q_i 0)), (9, .int (q_i p3)), (0, .ref p0), (1, .int (q_i p1)), (2, .int (q_i p2)), (3, .int (q_i p3)), (4, .int (q_i p4)), (5, .int (q_i p5)), (6, .int (q_i p6))]) hX dX10_measure_108 rfl (by decide) rfl ?_
                refine v_goto (tgt := 19) hX dX10_measure_111 (by decide) ?_
                refine v_sub (lv' := [(0, .ref p0), (1, .int (q_i p1)), (2, .int (q_i p2)), (3, .int (q_i p3)), (4, .int (q_i p4)), (5, .int (q_i p5)), (6, .int (q_i p6)), (7, .int (q_i 0)), (8, .int (q_i (v8 + 1)))]) [3, 4, 5, 6, 7, 8, 9, 1, 0] rfl ?_
                exact ih _ _ hf
              · replace hf := q_ifn c38 hf
                refine v_iconst hX dX10_measure_101 ?_
                refine v_goto (tgt := 106) hX dX10_measure_102 (by decide) ?_
                refine v_istore (lw := [(7, .int (q_i 1)), (9, .int (q_i p3)), (0, .ref p0), (1, .int (q_i p1)), (2, .int (q_i p2)), (3, .int (q_i p3)), (4, .int (q_i p4)), (5, .int (q_i p5)), (6, .int (q_i p6)), (8, .int (q_i v8))]) hX dX10_measure_106 (by decide) rfl ?_
                refine v_iinc 9 (lw := [(8, .int (q_i (v8 + 1))), (7, .int (q_i 1)), (9, .int (q_i p3)), (0, .ref p0), (1, .int (q_i p1)), (2, .int (q_i p2)), (3, .int (q_i p3)), (4, .int (q_i p4)), (5, .int (q_i p5)), (6, .int (q_i p6))]) hX dX10_measure_108 rfl (by decide) rfl ?_
                refine v_goto (tgt := 19) hX dX10_measure_111 (by decide) ?_
                refine v_sub (lv' := [(0, .ref p0), (1, .int (q_i p1)), (2, .int (q_i p2)), (3, .int (q_i p3)), (4, .int (q_i p4)), (5, .int (q_i p5)), (6, .int (q_i p6)), (7, .int (q_i 1)), (8, .int (q_i (v8 + 1)))]) [3, 4, 5, 6, 7, 8, 9, 1, 0] rfl ?_
                exact ih _ _ hf
            · replace hf := q_ifn c34 hf
              refine v_ldc2 9999 hX kl_RX10_94 (by decide) dX10_measure_88 ?_
              refine v_goto (tgt := 95) hX dX10_measure_91 (by decide) ?_
              obtain ⟨r39, h40, hf⟩ := q_bd_some hf
              refine v_callS (As := [.long (q_l p3), .long (q_l 0), .long (q_l 9999)]) (rest := []) (st1 := [.int (q_i r39)]) (some (.int (q_i r39))) hX ms_RX10_84 (c_X10_isIn h40) ⟨rfl, rfl⟩ ⟨Nat.le_of_ble_eq_true rfl, Nat.le_of_ble_eq_true rfl⟩ rfl rfl (Nat.le_of_ble_eq_true rfl) ⟨Nat.le_of_ble_eq_true rfl, Nat.le_of_ble_eq_true rfl⟩ dX10_measure_95 rfl ?_
              obtain ⟨g41, hf⟩ := q_gd_some hf
              refine v_if_eq (tgt := 105) hX g41 dX10_measure_98 (by decide) (fun c42 => ?_) (fun c42 => ?_)
              · replace hf := q_ifp c42 hf
                refine v_iconst hX dX10_measure_105 ?_
                refine v_istore (lw := [(7, .int (q_i 0)), (9, .int (q_i p3)), (0, .ref p0), (1, .int (q_i p1)), (2, .int (q_i p2)), (3, .int (q_i p3)), (4, .int (q_i p4)), (5, .int (q_i p5)), (6, .int (q_i p6)), (8, .int (q_i v8))]) hX dX10_measure_106 (by decide) rfl ?_
                refine v_iinc 9 (lw := [(8, .int (q_i (v8 + 1))), (7, .int (q_i 0)), (9, .int (q_i p3)), (0, .ref p0), (1, .int (q_i p1)), (2, .int (q_i p2)), (3, .int (q_i p3)), (4, .int (q_i p4)), (5, .int (q_i p5)), (6, .int (q_i p6))]) hX dX10_measure_108 rfl (by decide) rfl ?_
                refine v_goto (tgt := 19) hX dX10_measure_111 (by decide) ?_
                refine v_sub (lv' := [(0, .ref p0), (1, .int (q_i p1)), (2, .int (q_i p2)), (3, .int (q_i p3)), (4, .int (q_i p4)), (5, .int (q_i p5)), (6, .int (q_i p6)), (7, .int (q_i 0)), (8, .int (q_i (v8 + 1)))]) [3, 4, 5, 6, 7, 8, 9, 1, 0] rfl ?_
                exact ih _ _ hf
              · replace hf := q_ifn c42 hf
                refine v_iconst hX dX10_measure_101 ?_
                refine v_goto (tgt := 106) hX dX10_measure_102 (by decide) ?_
                refine v_istore (lw := [(7, .int (q_i 1)), (9, .int (q_i p3)), (0, .ref p0), (1, .int (q_i p1)), (2, .int (q_i p2)), (3, .int (q_i p3)), (4, .int (q_i p4)), (5, .int (q_i p5)), (6, .int (q_i p6)), (8, .int (q_i v8))]) hX dX10_measure_106 (by decide) rfl ?_
                refine v_iinc 9 (lw := [(8, .int (q_i (v8 + 1))), (7, .int (q_i 1)), (9, .int (q_i p3)), (0, .ref p0), (1, .int (q_i p1)), (2, .int (q_i p2)), (3, .int (q_i p3)), (4, .int (q_i p4)), (5, .int (q_i p5)), (6, .int (q_i p6))]) hX dX10_measure_108 rfl (by decide) rfl ?_
                refine v_goto (tgt := 19) hX dX10_measure_111 (by decide) ?_
                refine v_sub (lv' := [(0, .ref p0), (1, .int (q_i p1)), (2, .int (q_i p2)), (3, .int (q_i p3)), (4, .int (q_i p4)), (5, .int (q_i p5)), (6, .int (q_i p6)), (7, .int (q_i 1)), (8, .int (q_i (v8 + 1)))]) [3, 4, 5, 6, 7, 8, 9, 1, 0] rfl ?_
                exact ih _ _ hf
        · replace hf := q_ifn c26 hf
          refine v_iload 8 hX dX10_measure_44 rfl ?_
          refine v_iconst hX dX10_measure_46 ?_
          refine v_icmp_ne (tgt := 55) hX g7 (by unfold r_i; omega) dX10_measure_47 (by decide) (fun c43 => ?_) (fun c43 => ?_)
          · replace hf := q_ifp c43 hf
            refine v_iload 4 hX dX10_measure_50 rfl ?_
            refine v_goto (tgt := 68) hX dX10_measure_52 (by decide) ?_
            refine v_istore (lw := [(9, .int (q_i p4)), (0, .ref p0), (1, .int (q_i p1)), (2, .int (q_i p2)), (3, .int (q_i p3)), (4, .int (q_i p4)), (5, .int (q_i p5)), (6, .int (q_i p6)), (7, .int (q_i v7)), (8, .int (q_i v8))]) hX dX10_measure_68 (by decide) rfl ?_
            refine v_iload 8 hX dX10_measure_70 rfl ?_
            obtain ⟨g44, hf⟩ := q_gd_some hf
            refine v_if_eq (tgt := 105) hX g44 dX10_measure_72 (by decide) (fun c45 => ?_) (fun c45 => ?_)
            · replace hf := q_ifp c45 hf
              refine v_iconst hX dX10_measure_105 ?_
              refine v_istore (lw := [(7, .int (q_i 0)), (9, .int (q_i p4)), (0, .ref p0), (1, .int (q_i p1)), (2, .int (q_i p2)), (3, .int (q_i p3)), (4, .int (q_i p4)), (5, .int (q_i p5)), (6, .int (q_i p6)), (8, .int (q_i v8))]) hX dX10_measure_106 (by decide) rfl ?_
              refine v_iinc 9 (lw := [(8, .int (q_i (v8 + 1))), (7, .int (q_i 0)), (9, .int (q_i p4)), (0, .ref p0), (1, .int (q_i p1)), (2, .int (q_i p2)), (3, .int (q_i p3)), (4, .int (q_i p4)), (5, .int (q_i p5)), (6, .int (q_i p6))]) hX dX10_measure_108 rfl (by decide) rfl ?_
              refine v_goto (tgt := 19) hX dX10_measure_111 (by decide) ?_
              refine v_sub (lv' := [(0, .ref p0), (1, .int (q_i p1)), (2, .int (q_i p2)), (3, .int (q_i p3)), (4, .int (q_i p4)), (5, .int (q_i p5)), (6, .int (q_i p6)), (7, .int (q_i 0)), (8, .int (q_i (v8 + 1)))]) [3, 4, 5, 6, 7, 8, 9, 1, 0] rfl ?_
              exact ih _ _ hf
            · replace hf := q_ifn c45 hf
              refine v_iload 0 hX dX10_measure_75 rfl ?_
              obtain ⟨g46, hf⟩ := q_gd_some hf
              refine v_i2l hX g46 dX10_measure_77 ?_
              refine v_lconst 0 hX dX10_measure_78 (by decide) ?_
              refine v_aload_n 0 1 hX dX10_measure_79 rfl rfl ?_
              refine v_iload 9 hX dX10_measure_80 rfl ?_
              obtain ⟨g47, hf⟩ := q_gd_some hf
              obtain ⟨r48, h49, hf⟩ := q_bd_some hf
              refine v_callV (As := [.int (q_i v8)]) (rest := [.long (q_l 0), .long (q_l p4)]) (st1 := [.int (q_i r48), .long (q_l 0), .long (q_l p4)]) (some (.int (q_i r48))) hX mv_RX10_88 (c_X10_isSensor h49) ⟨rfl, rfl⟩ ⟨Nat.le_of_ble_eq_true rfl, Nat.le_of_ble_eq_true rfl⟩ g47 rfl rfl (Nat.le_of_ble_eq_true rfl) ⟨Nat.le_of_ble_eq_true rfl, Nat.le_of_ble_eq_true rfl⟩ dX10_measure_82 rfl ?_
              obtain ⟨g50, hf⟩ := q_gd_some hf
              refine v_if_eq (tgt := 94) hX g50 dX10_measure_85 (by decide) (fun c51 => ?_) (fun c51 => ?_)
              · replace hf := q_ifp c51 hf
                refine v_lconst 0 hX dX10_measure_94 (by decide) ?_
                obtain ⟨r52, h53, hf⟩ := q_bd_some hf
                refine v_callS (As := [.long (q_l p4), .long (q_l 0), .long (q_l 0)]) (rest := []) (st1 := [.int (q_i r52)]) (some (.int (q_i r52))) hX ms_RX10_84 (c_X10_isIn h53) ⟨rfl, rfl⟩ ⟨Nat.le_of_ble_eq_true rfl, Nat.le_of_ble_eq_true rfl⟩ rfl rfl (Nat.le_of_ble_eq_true rfl) ⟨Nat.le_of_ble_eq_true rfl, Nat.le_of_ble_eq_true rfl⟩ dX10_measure_95 rfl ?_
                obtain ⟨g54, hf⟩ := q_gd_some hf
                refine v_if_eq (tgt := 105) hX g54 dX10_measure_98 (by decide) (fun c55 => ?_) (fun c55 => ?_)
                · replace hf := q_ifp c55 hf
                  refine v_iconst hX dX10_measure_105 ?_
                  refine v_istore (lw := [(7, .int (q_i 0)), (9, .int (q_i p4)), (0, .ref p0), (1, .int (q_i p1)), (2, .int (q_i p2)), (3, .int (q_i p3)), (4, .int (q_i p4)), (5, .int (q_i p5)), (6, .int (q_i p6)), (8, .int (q_i v8))]) hX dX10_measure_106 (by decide) rfl ?_
                  refine v_iinc 9 (lw := [(8, .int (q_i (v8 + 1))), (7, .int (q_i 0)), (9, .int (q_i p4)), (0, .ref p0), (1, .int (q_i p1)), (2, .int (q_i p2)), (3, .int (q_i p3)), (4, .int (q_i p4)), (5, .int (q_i p5)), (6, .int (q_i p6))]) hX dX10_measure_108 rfl (by decide) rfl ?_
                  refine v_goto (tgt := 19) hX dX10_measure_111 (by decide) ?_
                  refine v_sub (lv' := [(0, .ref p0), (1, .int (q_i p1)), (2, .int (q_i p2)), (3, .int (q_i p3)), (4, .int (q_i p4)), (5, .int (q_i p5)), (6, .int (q_i p6)), (7, .int (q_i 0)), (8, .int (q_i (v8 + 1)))]) [3, 4, 5, 6, 7, 8, 9, 1, 0] rfl ?_
                  exact ih _ _ hf
                · replace hf := q_ifn c55 hf
                  refine v_iconst hX dX10_measure_101 ?_
                  refine v_goto (tgt := 106) hX dX10_measure_102 (by decide) ?_
                  refine v_istore (lw := [(7, .int (q_i 1)), (9, .int (q_i p4)), (0, .ref p0), (1, .int (q_i p1)), (2, .int (q_i p2)), (3, .int (q_i p3)), (4, .int (q_i p4)), (5, .int (q_i p5)), (6, .int (q_i p6)), (8, .int (q_i v8))]) hX dX10_measure_106 (by decide) rfl ?_
                  refine v_iinc 9 (lw := [(8, .int (q_i (v8 + 1))), (7, .int (q_i 1)), (9, .int (q_i p4)), (0, .ref p0), (1, .int (q_i p1)), (2, .int (q_i p2)), (3, .int (q_i p3)), (4, .int (q_i p4)), (5, .int (q_i p5)), (6, .int (q_i p6))]) hX dX10_measure_108 rfl (by decide) rfl ?_
                  refine v_goto (tgt := 19) hX dX10_measure_111 (by decide) ?_
                  refine v_sub (lv' := [(0, .ref p0), (1, .int (q_i p1)), (2, .int (q_i p2)), (3, .int (q_i p3)), (4, .int (q_i p4)), (5, .int (q_i p5)), (6, .int (q_i p6)), (7, .int (q_i 1)), (8, .int (q_i (v8 + 1)))]) [3, 4, 5, 6, 7, 8, 9, 1, 0] rfl ?_
                  exact ih _ _ hf
              · replace hf := q_ifn c51 hf
                refine v_ldc2 9999 hX kl_RX10_94 (by decide) dX10_measure_88 ?_
                refine v_goto (tgt := 95) hX dX10_measure_91 (by decide) ?_
                obtain ⟨r56, h57, hf⟩ := q_bd_some hf
                refine v_callS (As := [.long (q_l p4), .long (q_l 0), .long (q_l 9999)]) (rest := []) (st1 := [.int (q_i r56)]) (some (.int (q_i r56))) hX ms_RX10_84 (c_X10_isIn h57) ⟨rfl, rfl⟩ ⟨Nat.le_of_ble_eq_true rfl, Nat.le_of_ble_eq_true rfl⟩ rfl rfl (Nat.le_of_ble_eq_true rfl) ⟨Nat.le_of_ble_eq_true rfl, Nat.le_of_ble_eq_true rfl⟩ dX10_measure_95 rfl ?_
                obtain ⟨g58, hf⟩ := q_gd_some hf
                refine v_if_eq (tgt := 105) hX g58 dX10_measure_98 (by decide) (fun c59 => ?_) (fun c59 => ?_)
                · replace hf := q_ifp c59 hf
                  refine v_iconst hX dX10_measure_105 ?_
                  refine v_istore (lw := [(7, .int (q_i 0)), (9, .int (q_i p4)), (0, .ref p0), (1, .int (q_i p1)), (2, .int (q_i p2)), (3, .int (q_i p3)), (4, .int (q_i p4)), (5, .int (q_i p5)), (6, .int (q_i p6)), (8, .int (q_i v8))]) hX dX10_measure_106 (by decide) rfl ?_
                  refine v_iinc 9 (lw := [(8, .int (q_i (v8 + 1))), (7, .int (q_i 0)), (9, .int (q_i p4)), (0, .ref p0), (1, .int (q_i p1)), (2, .int (q_i p2)), (3, .int (q_i p3)), (4, .int (q_i p4)), (5, .int (q_i p5)), (6, .int (q_i p6))]) hX dX10_measure_108 rfl (by decide) rfl ?_
                  refine v_goto (tgt := 19) hX dX10_measure_111 (by decide) ?_
                  refine v_sub (lv' := [(0, .ref p0), (1, .int (q_i p1)), (2, .int (q_i p2)), (3, .int (q_i p3)), (4, .int (q_i p4)), (5, .int (q_i p5)), (6, .int (q_i p6)), (7, .int (q_i 0)), (8, .int (q_i (v8 + 1)))]) [3, 4, 5, 6, 7, 8, 9, 1, 0] rfl ?_
                  exact ih _ _ hf
                · replace hf := q_ifn c59 hf
                  refine v_iconst hX dX10_measure_101 ?_
                  refine v_goto (tgt := 106) hX dX10_measure_102 (by decide) ?_
                  refine v_istore (lw := [(7, .int (q_i 1)), (9, .int (q_i p4)), (0, .ref p0), (1, .int (q_i p1)), (2, .int (q_i p2)), (3, .int (q_i p3)), (4, .int (q_i p4)), (5, .int (q_i p5)), (6, .int (q_i p6)), (8, .int (q_i v8))]) hX dX10_measure_106 (by decide) rfl ?_
                  refine v_iinc 9 (lw := [(8, .int (q_i (v8 + 1))), (7, .int (q_i 1)), (9, .int (q_i p4)), (0, .ref p0), (1, .int (q_i p1)), (2, .int (q_i p2)), (3, .int (q_i p3)), (4, .int (q_i p4)), (5, .int (q_i p5)), (6, .int (q_i p6))]) hX dX10_measure_108 rfl (by decide) rfl ?_
                  refine v_goto (tgt := 19) hX dX10_measure_111 (by decide) ?_
                  refine v_sub (lv' := [(0, .ref p0), (1, .int (q_i p1)), (2, .int (q_i p2)), (3, .int (q_i p3)), (4, .int (q_i p4)), (5, .int (q_i p5)), (6, .int (q_i p6)), (7, .int (q_i 1)), (8, .int (q_i (v8 + 1)))]) [3, 4, 5, 6, 7, 8, 9, 1, 0] rfl ?_
                  exact ih _ _ hf
          · replace hf := q_ifn c43 hf
            refine v_iload 8 hX dX10_measure_55 rfl ?_
            refine v_iconst hX dX10_measure_57 ?_
            refine v_icmp_ne (tgt := 66) hX g7 (by unfold r_i; omega) dX10_measure_58 (by decide) (fun c60 => ?_) (fun c60 => ?_)
            · replace hf := q_ifp c60 hf
              refine v_iload 5 hX dX10_measure_61 rfl ?_
              refine v_goto (tgt := 68) hX dX10_measure_63 (by decide) ?_
              refine v_istore (lw := [(9, .int (q_i p5)), (0, .ref p0), (1, .int (q_i p1)), (2, .int (q_i p2)), (3, .int (q_i p3)), (4, .int (q_i p4)), (5, .int (q_i p5)), (6, .int (q_i p6)), (7, .int (q_i v7)), (8, .int (q_i v8))]) hX dX10_measure_68 (by decide) rfl ?_
              refine v_iload 8 hX dX10_measure_70 rfl ?_
              obtain ⟨g61, hf⟩ := q_gd_some hf
              refine v_if_eq (tgt := 105) hX g61 dX10_measure_72 (by decide) (fun c62 => ?_) (fun c62 => ?_)
              · replace hf := q_ifp c62 hf
                refine v_iconst hX dX10_measure_105 ?_
                refine v_istore (lw := [(7, .int (q_i 0)), (9, .int (q_i p5)), (0, .ref p0), (1, .int (q_i p1)), (2, .int (q_i p2)), (3, .int (q_i p3)), (4, .int (q_i p4)), (5, .int (q_i p5)), (6, .int (q_i p6)), (8, .int (q_i v8))]) hX dX10_measure_106 (by decide) rfl ?_
                refine v_iinc 9 (lw := [(8, .int (q_i (v8 + 1))), (7, .int (q_i 0)), (9, .int (q_i p5)), (0, .ref p0), (1, .int (q_i p1)), (2, .int (q_i p2)), (3, .int (q_i p3)), (4, .int (q_i p4)), (5, .int (q_i p5)), (6, .int (q_i p6))]) hX dX10_measure_108 rfl (by decide) rfl ?_
                refine v_goto (tgt := 19) hX dX10_measure_111 (by decide) ?_
                refine v_sub (lv' := [(0, .ref p0), (1, .int (q_i p1)), (2, .int (q_i p2)), (3, .int (q_i p3)), (4, .int (q_i p4)), (5, .int (q_i p5)), (6, .int (q_i p6)), (7, .int (q_i 0)), (8, .int (q_i (v8 + 1)))]) [3, 4, 5, 6, 7, 8, 9, 1, 0] rfl ?_
                exact ih _ _ hf
              · replace hf := q_ifn c62 hf
                refine v_iload 0 hX dX10_measure_75 rfl ?_
                obtain ⟨g63, hf⟩ := q_gd_some hf
                refine v_i2l hX g63 dX10_measure_77 ?_
                refine v_lconst 0 hX dX10_measure_78 (by decide) ?_
                refine v_aload_n 0 1 hX dX10_measure_79 rfl rfl ?_
                refine v_iload 9 hX dX10_measure_80 rfl ?_
                obtain ⟨g64, hf⟩ := q_gd_some hf
                obtain ⟨r65, h66, hf⟩ := q_bd_some hf
                refine v_callV (As := [.int (q_i v8)]) (rest := [.long (q_l 0), .long (q_l p5)]) (st1 := [.int (q_i r65), .long (q_l 0), .long (q_l p5)]) (some (.int (q_i r65))) hX mv_RX10_88 (c_X10_isSensor h66) ⟨rfl, rfl⟩ ⟨Nat.le_of_ble_eq_true rfl, Nat.le_of_ble_eq_true rfl⟩ g64 rfl rfl (Nat.le_of_ble_eq_true rfl) ⟨Nat.le_of_ble_eq_true rfl, Nat.le_of_ble_eq_true rfl⟩ dX10_measure_82 rfl ?_
                obtain ⟨g67, hf⟩ := q_gd_some hf
                refine v_if_eq (tgt := 94) hX g67 dX10_measure_85 (by decide) (fun c68 => ?_) (fun c68 => ?_)
                · replace hf := q_ifp c68 hf
                  refine v_lconst 0 hX dX10_measure_94 (by decide) ?_
                  obtain ⟨r69, h70, hf⟩ := q_bd_some hf
                  refine v_callS (As := [.long (q_l p5), .long (q_l 0), .long (q_l 0)]) (rest := []) (st1 := [.int (q_i r69)]) (some (.int (q_i r69))) hX ms_RX10_84 (c_X10_isIn h70) ⟨rfl, rfl⟩ ⟨Nat.le_of_ble_eq_true rfl, Nat.le_of_ble_eq_true rfl⟩ rfl rfl (Nat.le_of_ble_eq_true rfl) ⟨Nat.le_of_ble_eq_true rfl, Nat.le_of_ble_eq_true rfl⟩ dX10_measure_95 rfl ?_
                  obtain ⟨g71, hf⟩ := q_gd_some hf
                  refine v_if_eq (tgt := 105) hX g71 dX10_measure_98 (by decide) (fun c72 => ?_) (fun c72 => ?_)
                  · replace hf := q_ifp c72 hf
                    refine v_iconst hX dX10_measure_105 ?_
                    refine v_istore (lw := [(7, .int (q_i 0)), (9, .int (q_i p5)), (0, .ref p0), (1, .int (q_i p1)), (2, .int (q_i p2)), (3, .int (q_i p3)), (4, .int (q_i p4)), (5, .int (q_i p5)), (6, .int (q_i p6)), (8, .int (q_i v8))]) hX dX10_measure_106 (by decide) rfl ?_
                    refine v_iinc 9 (lw := [(8, .int (q_i (v8 + 1))), (7, .int (q_i 0)), (9, .int (q_i p5)), (0, .ref p0), (1, .int (q_i p1)), (2, .int (q_i p2)), (3, .int (q_i p3)), (4, .int (q_i p4)), (5, .int (q_i p5)), (6, .int (q_i p6))]) hX dX10_measure_108 rfl (by decide) rfl ?_
                    refine v_goto (tgt := 19) hX dX10_measure_111 (by decide) ?_
                    refine v_sub (lv' := [(0, .ref p0), (1, .int (q_i p1)), (2, .int (q_i p2)), (3, .int (q_i p3)), (4, .int (q_i p4)), (5, .int (q_i p5)), (6, .int (q_i p6)), (7, .int (q_i 0)), (8, .int (q_i (v8 + 1)))]) [3, 4, 5, 6, 7, 8, 9, 1, 0] rfl ?_
                    exact ih _ _ hf
                  · replace hf := q_ifn c72 hf
                    refine v_iconst hX dX10_measure_101 ?_
                    refine v_goto (tgt := 106) hX dX10_measure_102 (by decide) ?_
                    refine v_istore (lw := [(7, .int (q_i 1)), (9, .int (q_i p5)), (0, .ref p0), (1, .int (q_i p1)), (2, .int (q_i p2)), (3, .int (q_i p3)), (4, .int (q_i p4)), (5, .int (q_i p5)), (6, .int (q_i p6)), (8, .int (q_i v8))]) hX dX10_measure_106 (by decide) rfl ?_
                    refine v_iinc 9 (lw := [(8, .int (q_i (v8 + 1))), (7, .int (q_i 1)), (9, .int (q_i p5)), (0, .ref p0), (1, .int (q_i p1)), (2, .int (q_i p2)), (3, .int (q_i p3)), (4, .int (q_i p4)), (5, .int (q_i p5)), (6, .int (q_i p6))]) hX dX10_measure_108 rfl (by decide) rfl ?_
                    refine v_goto (tgt := 19) hX dX10_measure_111 (by decide) ?_
                    refine v_sub (lv' := [(0, .ref p0), (1, .int (q_i p1)), (2, .int (q_i p2)), (3, .int (q_i p3)), (4, .int (q_i p4)), (5, .int (q_i p5)), (6, .int (q_i p6)), (7, .int (q_i 1)), (8, .int (q_i (v8 + 1)))]) [3, 4, 5, 6, 7, 8, 9, 1, 0] rfl ?_
                    exact ih _ _ hf
                · replace hf := q_ifn c68 hf
                  refine v_ldc2 9999 hX kl_RX10_94 (by decide) dX10_measure_88 ?_
                  refine v_goto (tgt := 95) hX dX10_measure_91 (by decide) ?_
                  obtain ⟨r73, h74, hf⟩ := q_bd_some hf
                  refine v_callS (As := [.long (q_l p5), .long (q_l 0), .long (q_l 9999)]) (rest := []) (st1 := [.int (q_i r73)]) (some (.int (q_i r73))) hX ms_RX10_84 (c_X10_isIn h74) ⟨rfl, rfl⟩ ⟨Nat.le_of_ble_eq_true rfl, Nat.le_of_ble_eq_true rfl⟩ rfl rfl (Nat.le_of_ble_eq_true rfl) ⟨Nat.le_of_ble_eq_true rfl, Nat.le_of_ble_eq_true rfl⟩ dX10_measure_95 rfl ?_
                  obtain ⟨g75, hf⟩ := q_gd_some hf
                  refine v_if_eq (tgt := 105) hX g75 dX10_measure_98 (by decide) (fun c76 => ?_) (fun c76 => ?_)
                  · replace hf := q_ifp c76 hf
                    refine v_iconst hX dX10_measure_105 ?_
                    refine v_istore (lw := [(7, .int (q_i 0)), (9, .int (q_i p5)), (0, .ref p0), (1, .int (q_i p1)), (2, .int (q_i p2)), (3, .int (q_i p3)), (4, .int (q_i p4)), (5, .int (q_i p5)), (6, .int (q_i p6)), (8, .int (q_i v8))]) hX dX10_measure_106 (by decide) rfl ?_
                    refine v_iinc 9 (lw := [(8, .int (q_i (v8 + 1))), (7, .int (q_i 0)), (9, .int (q_i p5)), (0, .ref p0), (1, .int (q_i p1)), (2, .int (q_i p2)), (3, .int (q_i p3)), (4, .int (q_i p4)), (5, .int (q_i p5)), (6, .int (q_i p6))]) hX dX10_measure_108 rfl (by decide) rfl ?_
                    refine v_goto (tgt := 19) hX dX10_measure_111 (by decide) ?_
                    refine v_sub (lv' := [(0, .ref p0), (1, .int (q_i p1)), (2, .int (q_i p2)), (3, .int (q_i p3)), (4, .int (q_i p4)), (5, .int (q_i p5)), (6, .int (q_i p6)), (7, .int (q_i 0)), (8, .int (q_i (v8 + 1)))]) [3, 4, 5, 6, 7, 8, 9, 1, 0] rfl ?_
                    exact ih _ _ hf
                  · replace hf := q_ifn c76 hf
                    refine v_iconst hX dX10_measure_101 ?_
                    refine v_goto (tgt := 106) hX dX10_measure_102 (by decide) ?_
                    refine v_istore (lw := [(7, .int (q_i 1)), (9, .int (q_i p5)), (0, .ref p0), (1, .int (q_i p1)), (2, .int (q_i p2)), (3, .int (q_i p3)), (4, .int (q_i p4)), (5, .int (q_i p5)), (6, .int (q_i p6)), (8, .int (q_i v8))]) hX dX10_measure_106 (by decide) rfl ?_
                    refine v_iinc 9 (lw := [(8, .int (q_i (v8 + 1))), (7, .int (q_i 1)), (9, .int (q_i p5)), (0, .ref p0), (1, .int (q_i p1)), (2, .int (q_i p2)), (3, .int (q_i p3)), (4, .int (q_i p4)), (5, .int (q_i p5)), (6, .int (q_i p6))]) hX dX10_measure_108 rfl (by decide) rfl ?_
                    refine v_goto (tgt := 19) hX dX10_measure_111 (by decide) ?_
                    refine v_sub (lv' := [(0, .ref p0), (1, .int (q_i p1)), (2, .int (q_i p2)), (3, .int (q_i p3)), (4, .int (q_i p4)), (5, .int (q_i p5)), (6, .int (q_i p6)), (7, .int (q_i 1)), (8, .int (q_i (v8 + 1)))]) [3, 4, 5, 6, 7, 8, 9, 1, 0] rfl ?_
                    exact ih _ _ hf
            · replace hf := q_ifn c60 hf
              refine v_iload 6 hX dX10_measure_66 rfl ?_
              refine v_istore (lw := [(9, .int (q_i p6)), (0, .ref p0), (1, .int (q_i p1)), (2, .int (q_i p2)), (3, .int (q_i p3)), (4, .int (q_i p4)), (5, .int (q_i p5)), (6, .int (q_i p6)), (7, .int (q_i v7)), (8, .int (q_i v8))]) hX dX10_measure_68 (by decide) rfl ?_
              refine v_iload 8 hX dX10_measure_70 rfl ?_
              obtain ⟨g77, hf⟩ := q_gd_some hf
              refine v_if_eq (tgt := 105) hX g77 dX10_measure_72 (by decide) (fun c78 => ?_) (fun c78 => ?_)
              · replace hf := q_ifp c78 hf
                refine v_iconst hX dX10_measure_105 ?_
                refine v_istore (lw := [(7, .int (q_i 0)), (9, .int (q_i p6)), (0, .ref p0), (1, .int (q_i p1)), (2, .int (q_i p2)), (3, .int (q_i p3)), (4, .int (q_i p4)), (5, .int (q_i p5)), (6, .int (q_i p6)), (8, .int (q_i v8))]) hX dX10_measure_106 (by decide) rfl ?_
                refine v_iinc 9 (lw := [(8, .int (q_i (v8 + 1))), (7, .int (q_i 0)), (9, .int (q_i p6)), (0, .ref p0), (1, .int (q_i p1)), (2, .int (q_i p2)), (3, .int (q_i p3)), (4, .int (q_i p4)), (5, .int (q_i p5)), (6, .int (q_i p6))]) hX dX10_measure_108 rfl (by decide) rfl ?_
                refine v_goto (tgt := 19) hX dX10_measure_111 (by decide) ?_
                refine v_sub (lv' := [(0, .ref p0), (1, .int (q_i p1)), (2, .int (q_i p2)), (3, .int (q_i p3)), (4, .int (q_i p4)), (5, .int (q_i p5)), (6, .int (q_i p6)), (7, .int (q_i 0)), (8, .int (q_i (v8 + 1)))]) [3, 4, 5, 6, 7, 8, 9, 1, 0] rfl ?_
                exact ih _ _ hf
              · replace hf := q_ifn c78 hf
                refine v_iload 0 hX dX10_measure_75 rfl ?_
                obtain ⟨g79, hf⟩ := q_gd_some hf
                refine v_i2l hX g79 dX10_measure_77 ?_
                refine v_lconst 0 hX dX10_measure_78 (by decide) ?_
                refine v_aload_n 0 1 hX dX10_measure_79 rfl rfl ?_
                refine v_iload 9 hX dX10_measure_80 rfl ?_
                obtain ⟨g80, hf⟩ := q_gd_some hf
                obtain ⟨r81, h82, hf⟩ := q_bd_some hf
                refine v_callV (As := [.int (q_i v8)]) (rest := [.long (q_l 0), .long (q_l p6)]) (st1 := [.int (q_i r81), .long (q_l 0), .long (q_l p6)]) (some (.int (q_i r81))) hX mv_RX10_88 (c_X10_isSensor h82) ⟨rfl, rfl⟩ ⟨Nat.le_of_ble_eq_true rfl, Nat.le_of_ble_eq_true rfl⟩ g80 rfl rfl (Nat.le_of_ble_eq_true rfl) ⟨Nat.le_of_ble_eq_true rfl, Nat.le_of_ble_eq_true rfl⟩ dX10_measure_82 rfl ?_
                obtain ⟨g83, hf⟩ := q_gd_some hf
                refine v_if_eq (tgt := 94) hX g83 dX10_measure_85 (by decide) (fun c84 => ?_) (fun c84 => ?_)
                · replace hf := q_ifp c84 hf
                  refine v_lconst 0 hX dX10_measure_94 (by decide) ?_
                  obtain ⟨r85, h86, hf⟩ := q_bd_some hf
                  refine v_callS (As := [.long (q_l p6), .long (q_l 0), .long (q_l 0)]) (rest := []) (st1 := [.int (q_i r85)]) (some (.int (q_i r85))) hX ms_RX10_84 (c_X10_isIn h86) ⟨rfl, rfl⟩ ⟨Nat.le_of_ble_eq_true rfl, Nat.le_of_ble_eq_true rfl⟩ rfl rfl (Nat.le_of_ble_eq_true rfl) ⟨Nat.le_of_ble_eq_true rfl, Nat.le_of_ble_eq_true rfl⟩ dX10_measure_95 rfl ?_
                  obtain ⟨g87, hf⟩ := q_gd_some hf
                  refine v_if_eq (tgt := 105) hX g87 dX10_measure_98 (by decide) (fun c88 => ?_) (fun c88 => ?_)
                  · replace hf := q_ifp c88 hf
                    refine v_iconst hX dX10_measure_105 ?_
                    refine v_istore (lw := [(7, .int (q_i 0)), (9, .int (q_i p6)), (0, .ref p0), (1, .int (q_i p1)), (2, .int (q_i p2)), (3, .int (q_i p3)), (4, .int (q_i p4)), (5, .int (q_i p5)), (6, .int (q_i p6)), (8, .int (q_i v8))]) hX dX10_measure_106 (by decide) rfl ?_
                    refine v_iinc 9 (lw := [(8, .int (q_i (v8 + 1))), (7, .int (q_i 0)), (9, .int (q_i p6)), (0, .ref p0), (1, .int (q_i p1)), (2, .int (q_i p2)), (3, .int (q_i p3)), (4, .int (q_i p4)), (5, .int (q_i p5)), (6, .int (q_i p6))]) hX dX10_measure_108 rfl (by decide) rfl ?_
                    refine v_goto (tgt := 19) hX dX10_measure_111 (by decide) ?_
                    refine v_sub (lv' := [(0, .ref p0), (1, .int (q_i p1)), (2, .int (q_i p2)), (3, .int (q_i p3)), (4, .int (q_i p4)), (5, .int (q_i p5)), (6, .int (q_i p6)), (7, .int (q_i 0)), (8, .int (q_i (v8 + 1)))]) [3, 4, 5, 6, 7, 8, 9, 1, 0] rfl ?_
                    exact ih _ _ hf
                  · replace hf := q_ifn c88 hf
                    refine v_iconst hX dX10_measure_101 ?_
                    refine v_goto (tgt := 106) hX dX10_measure_102 (by decide) ?_
                    refine v_istore (lw := [(7, .int (q_i 1)), (9, .int (q_i p6)), (0, .ref p0), (1, .int (q_i p1)), (2, .int (q_i p2)), (3, .int (q_i p3)), (4, .int (q_i p4)), (5, .int (q_i p5)), (6, .int (q_i p6)), (8, .int (q_i v8))]) hX dX10_measure_106 (by decide) rfl ?_
                    refine v_iinc 9 (lw := [(8, .int (q_i (v8 + 1))), (7, .int (q_i 1)), (9, .int (q_i p6)), (0, .ref p0), (1, .int (q_i p1)), (2, .int (q_i p2)), (3, .int (q_i p3)), (4, .int (q_i p4)), (5, .int (q_i p5)), (6, .int (q_i p6))]) hX dX10_measure_108 rfl (by decide) rfl ?_
                    refine v_goto (tgt := 19) hX dX10_measure_111 (by decide) ?_
                    refine v_sub (lv' := [(0, .ref p0), (1, .int (q_i p1)), (2, .int (q_i p2)), (3, .int (q_i p3)), (4, .int (q_i p4)), (5, .int (q_i p5)), (6, .int (q_i p6)), (7, .int (q_i 1)), (8, .int (q_i (v8 + 1)))]) [3, 4, 5, 6, 7, 8, 9, 1, 0] rfl ?_
                    exact ih _ _ hf
                · replace hf := q_ifn c84 hf
                  refine v_ldc2 9999 hX kl_RX10_94 (by decide) dX10_measure_88 ?_
                  refine v_goto (tgt := 95) hX dX10_measure_91 (by decide) ?_
                  obtain ⟨r89, h90, hf⟩ := q_bd_some hf
                  refine v_callS (As := [.long (q_l p6), .long (q_l 0), .long (q_l 9999)]) (rest := []) (st1 := [.int (q_i r89)]) (some (.int (q_i r89))) hX ms_RX10_84 (c_X10_isIn h90) ⟨rfl, rfl⟩ ⟨Nat.le_of_ble_eq_true rfl, Nat.le_of_ble_eq_true rfl⟩ rfl rfl (Nat.le_of_ble_eq_true rfl) ⟨Nat.le_of_ble_eq_true rfl, Nat.le_of_ble_eq_true rfl⟩ dX10_measure_95 rfl ?_
                  obtain ⟨g91, hf⟩ := q_gd_some hf
                  refine v_if_eq (tgt := 105) hX g91 dX10_measure_98 (by decide) (fun c92 => ?_) (fun c92 => ?_)
                  · replace hf := q_ifp c92 hf
                    refine v_iconst hX dX10_measure_105 ?_
                    refine v_istore (lw := [(7, .int (q_i 0)), (9, .int (q_i p6)), (0, .ref p0), (1, .int (q_i p1)), (2, .int (q_i p2)), (3, .int (q_i p3)), (4, .int (q_i p4)), (5, .int (q_i p5)), (6, .int (q_i p6)), (8, .int (q_i v8))]) hX dX10_measure_106 (by decide) rfl ?_
                    refine v_iinc 9 (lw := [(8, .int (q_i (v8 + 1))), (7, .int (q_i 0)), (9, .int (q_i p6)), (0, .ref p0), (1, .int (q_i p1)), (2, .int (q_i p2)), (3, .int (q_i p3)), (4, .int (q_i p4)), (5, .int (q_i p5)), (6, .int (q_i p6))]) hX dX10_measure_108 rfl (by decide) rfl ?_
                    refine v_goto (tgt := 19) hX dX10_measure_111 (by decide) ?_
                    refine v_sub (lv' := [(0, .ref p0), (1, .int (q_i p1)), (2, .int (q_i p2)), (3, .int (q_i p3)), (4, .int (q_i p4)), (5, .int (q_i p5)), (6, .int (q_i p6)), (7, .int (q_i 0)), (8, .int (q_i (v8 + 1)))]) [3, 4, 5, 6, 7, 8, 9, 1, 0] rfl ?_
                    exact ih _ _ hf
                  · replace hf := q_ifn c92 hf
                    refine v_iconst hX dX10_measure_101 ?_
                    refine v_goto (tgt := 106) hX dX10_measure_102 (by decide) ?_
                    refine v_istore (lw := [(7, .int (q_i 1)), (9, .int (q_i p6)), (0, .ref p0), (1, .int (q_i p1)), (2, .int (q_i p2)), (3, .int (q_i p3)), (4, .int (q_i p4)), (5, .int (q_i p5)), (6, .int (q_i p6)), (8, .int (q_i v8))]) hX dX10_measure_106 (by decide) rfl ?_
                    refine v_iinc 9 (lw := [(8, .int (q_i (v8 + 1))), (7, .int (q_i 1)), (9, .int (q_i p6)), (0, .ref p0), (1, .int (q_i p1)), (2, .int (q_i p2)), (3, .int (q_i p3)), (4, .int (q_i p4)), (5, .int (q_i p5)), (6, .int (q_i p6))]) hX dX10_measure_108 rfl (by decide) rfl ?_
                    refine v_goto (tgt := 19) hX dX10_measure_111 (by decide) ?_
                    refine v_sub (lv' := [(0, .ref p0), (1, .int (q_i p1)), (2, .int (q_i p2)), (3, .int (q_i p3)), (4, .int (q_i p4)), (5, .int (q_i p5)), (6, .int (q_i p6)), (7, .int (q_i 1)), (8, .int (q_i (v8 + 1)))]) [3, 4, 5, 6, 7, 8, 9, 1, 0] rfl ?_
                    exact ih _ _ hf
set_option maxRecDepth 20000 in
theorem c_X10_measure {S : q_S} {R : q_HR} {I : q_HI} {a0 : Nat} {a1 : Int} {a2 : Int} {a3 : Int} {a4 : Int} {a5 : Int} {a6 : Int} {rz : Int} {Iz : q_HI} (hf : f_X10_measure S R I a0 a1 a2 a3 a4 a5 a6 = some (rz, Iz)) : ∀ (l : Launch) (D : va_G) (cy : Nat → ClassId) (B : Nat), Met l yX10_measure [Cond.code yX10_measure cX10_measure 10 (some .int)] rmX10_measure (q_Pc B D cy [.ref a0, .int (q_i a1), .int (q_i a2), .int (q_i a3), .int (q_i a4), .int (q_i a5), .int (q_i a6)] S R I) (q_Qc B D cy (some (.int (q_i rz))) S R Iz) 0 0 (fun q => B ≤ q) := by
  refine q_met (lv := [(0, .ref a0), (1, .int (q_i a1)), (2, .int (q_i a2)), (3, .int (q_i a3)), (4, .int (q_i a4)), (5, .int (q_i a5)), (6, .int (q_i a6))]) (own := RX10) (nm := "measure") (by decide) rfl rfl (Nat.le_of_ble_eq_true rfl) rfl (fun X hX hE => ?_)
  unfold f_X10_measure at hf
  refine v_aload_n 0 0 hX dX10_measure_0 rfl rfl ?_
  refine v_iconst hX dX10_measure_1 ?_
  obtain ⟨g1, hf⟩ := q_gd_some hf
  refine v_putI hX fa_RX10_1 rfl g1 dX10_measure_2 ?_
  obtain ⟨I2, e3, hf⟩ := q_lt_nm hf
  rw [e3]
  refine v_iload_n 1 1 hX dX10_measure_5 rfl rfl ?_
  obtain ⟨g4, hf⟩ := q_gd_some hf
  refine v_i2l hX g4 dX10_measure_6 ?_
  refine v_lconst 0 hX dX10_measure_7 (by decide) ?_
  refine v_ldc2 100 hX kl_RX10_92 (by decide) dX10_measure_8 ?_
  obtain ⟨r5, h6, hf⟩ := q_bd_some hf
  refine v_callS (As := [.long (q_l a1), .long (q_l 0), .long (q_l 100)]) (rest := []) (st1 := [.int (q_i r5)]) (some (.int (q_i r5))) hX ms_RX10_84 (c_X10_isIn h6) ⟨rfl, rfl⟩ ⟨Nat.le_of_ble_eq_true rfl, Nat.le_of_ble_eq_true rfl⟩ rfl rfl (Nat.le_of_ble_eq_true rfl) ⟨Nat.le_of_ble_eq_true rfl, Nat.le_of_ble_eq_true rfl⟩ dX10_measure_11 rfl ?_
  refine v_istore (lw := [(7, .int (q_i r5)), (0, .ref a0), (1, .int (q_i a1)), (2, .int (q_i a2)), (3, .int (q_i a3)), (4, .int (q_i a4)), (5, .int (q_i a5)), (6, .int (q_i a6))]) hX dX10_measure_14 (by decide) rfl ?_
  refine v_iconst hX dX10_measure_16 ?_
  refine v_istore (lw := [(8, .int (q_i 0)), (7, .int (q_i r5)), (0, .ref a0), (1, .int (q_i a1)), (2, .int (q_i a2)), (3, .int (q_i a3)), (4, .int (q_i a4)), (5, .int (q_i a5)), (6, .int (q_i a6))]) hX dX10_measure_17 (by decide) rfl ?_
  refine v_sub (lv' := [(0, .ref a0), (1, .int (q_i a1)), (2, .int (q_i a2)), (3, .int (q_i a3)), (4, .int (q_i a4)), (5, .int (q_i a5)), (6, .int (q_i a6)), (7, .int (q_i r5)), (8, .int (q_i 0))]) [2, 3, 4, 5, 6, 7, 8, 1, 0] rfl ?_
  refine l_X10_measure_19 hX hE (fun w93 w94 hk => ?_) 100 _ _ hf
  clear hf
  have hf := hk
  clear hk
  refine v_iload 7 hX dX10_measure_114 rfl ?_
  obtain ⟨g95, hf⟩ := q_gd_some hf
  refine v_if_ne (tgt := 122) hX g95 dX10_measure_116 (by decide) (fun c96 => ?_) (fun c96 => ?_)
  · replace hf := q_ifp c96 hf
    refine v_bipush (-3) hX dX10_measure_119 (by decide) ?_
    cases hf
    exact v_iret hX hE (Nat.le_of_ble_eq_true rfl) (Nat.le_of_ble_eq_true rfl) dX10_measure_121
  · replace hf := q_ifn c96 hf
    refine v_aload_n 0 0 hX dX10_measure_122 rfl rfl ?_
    refine v_iconst hX dX10_measure_123 ?_
    refine v_putZ hX fa_RX10_70 rfl (Or.inr rfl) g1 dX10_measure_124 ?_
    obtain ⟨I97, e98, hf⟩ := q_lt_nm hf
    rw [e98]
    refine v_aload_n 0 0 hX dX10_measure_127 rfl rfl ?_
    obtain ⟨g99, hf⟩ := q_gd_some hf
    refine v_getA hX fa_RX10_17 (fun _ _ => rfl) g1 g99 (by decide) dX10_measure_128 ?_
    refine v_iconst hX dX10_measure_131 ?_
    refine v_iload_n 1 1 hX dX10_measure_132 rfl rfl ?_
    obtain ⟨g100, hf⟩ := q_gd_some hf
    refine v_iastore hX g99 g100 dX10_measure_133 ?_
    obtain ⟨I101, e102, hf⟩ := q_lt_nm hf
    rw [e102]
    refine v_aload_n 0 0 hX dX10_measure_134 rfl rfl ?_
    refine v_getA hX fa_RX10_17 (fun _ _ => rfl) g1 g99 (by decide) dX10_measure_135 ?_
    refine v_iconst hX dX10_measure_138 ?_
    refine v_iload_n 2 2 hX dX10_measure_139 rfl rfl ?_
    obtain ⟨g103, hf⟩ := q_gd_some hf
    refine v_iastore hX g99 g103 dX10_measure_140 ?_
    obtain ⟨I104, e105, hf⟩ := q_lt_nm hf
    rw [e105]
    refine v_aload_n 0 0 hX dX10_measure_141 rfl rfl ?_
    refine v_getA hX fa_RX10_17 (fun _ _ => rfl) g1 g99 (by decide) dX10_measure_142 ?_
    refine v_iconst hX dX10_measure_145 ?_
    refine v_iload_n 3 3 hX dX10_measure_146 rfl rfl ?_
    obtain ⟨g106, hf⟩ := q_gd_some hf
    refine v_iastore hX g99 g106 dX10_measure_147 ?_
    obtain ⟨I107, e108, hf⟩ := q_lt_nm hf
    rw [e108]
    refine v_aload_n 0 0 hX dX10_measure_148 rfl rfl ?_
    refine v_getA hX fa_RX10_17 (fun _ _ => rfl) g1 g99 (by decide) dX10_measure_149 ?_
    refine v_iconst hX dX10_measure_152 ?_
    refine v_iload 4 hX dX10_measure_153 rfl ?_
    obtain ⟨g109, hf⟩ := q_gd_some hf
    refine v_iastore hX g99 g109 dX10_measure_155 ?_
    obtain ⟨I110, e111, hf⟩ := q_lt_nm hf
    rw [e111]
    refine v_aload_n 0 0 hX dX10_measure_156 rfl rfl ?_
    refine v_getA hX fa_RX10_17 (fun _ _ => rfl) g1 g99 (by decide) dX10_measure_157 ?_
    refine v_iconst hX dX10_measure_160 ?_
    refine v_iload 5 hX dX10_measure_161 rfl ?_
    obtain ⟨g112, hf⟩ := q_gd_some hf
    refine v_iastore hX g99 g112 dX10_measure_163 ?_
    obtain ⟨I113, e114, hf⟩ := q_lt_nm hf
    rw [e114]
    refine v_aload_n 0 0 hX dX10_measure_164 rfl rfl ?_
    refine v_getA hX fa_RX10_17 (fun _ _ => rfl) g1 g99 (by decide) dX10_measure_165 ?_
    refine v_iconst hX dX10_measure_168 ?_
    refine v_iload 6 hX dX10_measure_169 rfl ?_
    obtain ⟨g115, hf⟩ := q_gd_some hf
    refine v_iastore hX g99 g115 dX10_measure_171 ?_
    obtain ⟨I116, e117, hf⟩ := q_lt_nm hf
    rw [e117]
    refine v_iload_n 2 2 hX dX10_measure_172 rfl rfl ?_
    refine v_iload_n 3 3 hX dX10_measure_173 rfl rfl ?_
    refine v_iadd hX dX10_measure_174 ?_
    refine v_iload 4 hX dX10_measure_175 rfl ?_
    refine v_iadd hX dX10_measure_177 ?_
    refine v_iload 5 hX dX10_measure_178 rfl ?_
    refine v_iadd hX dX10_measure_180 ?_
    refine v_iload 6 hX dX10_measure_181 rfl ?_
    refine v_iadd hX dX10_measure_183 ?_
    cases hf
    exact v_iret hX hE (Nat.le_of_ble_eq_true rfl) (Nat.le_of_ble_eq_true rfl) dX10_measure_184
noncomputable def f_X10_copies_L2 (S : q_S) (R : q_HR) (p0 : Nat) (p1 : Int) (p2 : Int) (k : Int → q_HI → Option (q_HI)) : Nat → Int → q_HI → Option (q_HI)
  | 0, _, _ => none
  | n + 1, v3, I => q_gd (r_i v3) (if 6 ≤ v3 then k v3 I else q_gd (S.1 p0 = 11) (q_gd (S.1 (R p0 11) = 12) (q_gd ((0 : Int) ≤ (6 * p1) + v3 ∧ (6 * p1) + v3 < (S.2.1 (R p0 11) : Int)) (q_gd ((0 : Int) ≤ (6 * p2) + v3 ∧ (6 * p2) + v3 < (S.2.1 (R p0 11) : Int)) (q_lt (q_up I (R p0 11) (Int.toNat ((6 * p2) + v3)) (I (R p0 11) (Int.toNat ((6 * p1) + v3)))) fun I7 => f_X10_copies_L2 S R p0 p1 p2 k n (v3 + 1) I7)))))
noncomputable def f_X10_copies (S : q_S) (R : q_HR) (I : q_HI) (a0 : Nat) (a1 : Int) (a2 : Int) : Option (q_HI) := f_X10_copies_L2 S R a0 a1 a2 (fun w9 I10 => some I10) 100 0 I
abbrev rmX10_copies : Room := { frames := 0, cells := 0, slots := 0, locals := 0 }
set_option maxRecDepth 20000 in
theorem l_X10_copies_2 {X : q_X} {S : q_S} {R : q_HR} {p0 : Nat} {p1 : Int} {p2 : Int} {Iz : q_HI} (hX : q_C X cX10_copies 4 RX10 none "copies") (hE : q_E X 0 0 none S R Iz) {k : Int → q_HI → Option (q_HI)} (hk : ∀ (v3 : Int) (I : q_HI), k v3 I = some Iz → q_V X rmX10_copies cX10_copies 4 0 0 36 [] [] S R I) :
    ∀ (n : Nat), ∀ (v3 : Int) (I : q_HI), f_X10_copies_L2 S R p0 p1 p2 k n v3 I = some Iz → q_V X rmX10_copies cX10_copies 4 0 0 2 [(0, .ref p0), (1, .int (q_i p1)), (2, .int (q_i p2)), (3, .int (q_i v3))] [] S R I := by
  intro n
  induction n with
  | zero =>
    intro v3 I hf
    cases (show (none : Option (q_HI)) = some _ from hf)
  | succ n ih =>
    intro v3 I hf
    rw [f_X10_copies_L2] at hf
    refine v_iload_n 3 3 hX dX10_copies_2 rfl rfl ?_
    refine v_bipush 6 hX dX10_copies_3 (by decide) ?_
    obtain ⟨g1, hf⟩ := q_gd_some hf
    refine v_icmp_ge (tgt := 36) hX g1 (by unfold r_i; omega) dX10_copies_5 (by decide) (fun c2 => ?_) (fun c2 => ?_)
    · replace hf := q_ifp c2 hf
      refine v_sub (lv' := []) [] rfl ?_
      exact hk _ _ hf
    · replace hf := q_ifn c2 hf
      refine v_aload_n 0 0 hX dX10_copies_8 rfl rfl ?_
      obtain ⟨g3, hf⟩ := q_gd_some hf
      obtain ⟨g4, hf⟩ := q_gd_some hf
      refine v_getA hX fa_RX10_17 (fun _ _ => rfl) g3 g4 (by decide) dX10_copies_9 ?_
      refine v_bipush 6 hX dX10_copies_12 (by decide) ?_
      refine v_iload_n 2 2 hX dX10_copies_14 rfl rfl ?_
      refine v_imul hX dX10_copies_15 ?_
      refine v_iload_n 3 3 hX dX10_copies_16 rfl rfl ?_
      refine v_iadd hX dX10_copies_17 ?_
      refine v_aload_n 0 0 hX dX10_copies_18 rfl rfl ?_
      refine v_getA hX fa_RX10_17 (fun _ _ => rfl) g3 g4 (by decide) dX10_copies_19 ?_
      refine v_bipush 6 hX dX10_copies_22 (by decide) ?_
      refine v_iload_n 1 1 hX dX10_copies_24 rfl rfl ?_
      refine v_imul hX dX10_copies_25 ?_
      refine v_iload_n 3 3 hX dX10_copies_26 rfl rfl ?_
      refine v_iadd hX dX10_copies_27 ?_
      obtain ⟨g5, hf⟩ := q_gd_some hf
      refine v_iaload hX g4 g5 dX10_copies_28 ?_
      obtain ⟨g6, hf⟩ := q_gd_some hf
      refine v_iastore hX g4 g6 dX10_copies_29 ?_
      obtain ⟨I7, e8, hf⟩ := q_lt_nm hf
      rw [e8]
      refine v_iinc 3 (lw := [(3, .int (q_i (v3 + 1))), (0, .ref p0), (1, .int (q_i p1)), (2, .int (q_i p2))]) hX dX10_copies_30 rfl (by decide) rfl ?_
      refine v_goto (tgt := 2) hX dX10_copies_33 (by decide) ?_
      refine v_sub (lv' := [(0, .ref p0), (1, .int (q_i p1)), (2, .int (q_i p2)), (3, .int (q_i (v3 + 1)))]) [1, 2, 3, 0] rfl ?_
      exact ih _ _ hf
set_option maxRecDepth 20000 in
theorem c_X10_copies {S : q_S} {R : q_HR} {I : q_HI} {a0 : Nat} {a1 : Int} {a2 : Int} {Iz : q_HI} (hf : f_X10_copies S R I a0 a1 a2 = some Iz) : ∀ (l : Launch) (D : va_G) (cy : Nat → ClassId) (B : Nat), Met l yX10_copies [Cond.code yX10_copies cX10_copies 4 none] rmX10_copies (q_Pc B D cy [.ref a0, .int (q_i a1), .int (q_i a2)] S R I) (q_Qc B D cy none S R Iz) 0 0 (fun q => B ≤ q) := by
  refine q_met (lv := [(0, .ref a0), (1, .int (q_i a1)), (2, .int (q_i a2))]) (own := RX10) (nm := "copies") (by decide) rfl rfl (Nat.le_of_ble_eq_true rfl) rfl (fun X hX hE => ?_)
  unfold f_X10_copies at hf
  refine v_iconst hX dX10_copies_0 ?_
  refine v_istore_n 3 (lw := [(3, .int (q_i 0)), (0, .ref a0), (1, .int (q_i a1)), (2, .int (q_i a2))]) hX dX10_copies_1 rfl (by decide) rfl ?_
  refine v_sub (lv' := [(0, .ref a0), (1, .int (q_i a1)), (2, .int (q_i a2)), (3, .int (q_i 0))]) [1, 2, 3, 0] rfl ?_
  refine l_X10_copies_2 hX hE (fun w9 I10 hk => ?_) 100 _ _ hf
  clear hf
  have hf := hk
  clear hk
  cases hf
  exact v_vret hX hE (Nat.le_of_ble_eq_true rfl) (Nat.le_of_ble_eq_true rfl) dX10_copies_36
noncomputable def f_X10_ratioOf (S : q_S) (R : q_HR) (I : q_HI) (a0 : Nat) (a1 : Int) (a2 : Int) : Option (Int) := q_gd (S.1 a0 = 11) (q_gd (S.1 (R a0 11) = 12) (q_gd ((0 : Int) ≤ ((6 * a1) + 1) + a2 ∧ ((6 * a1) + 1) + a2 < (S.2.1 (R a0 11) : Int)) (q_gd (S.1 (R a0 10) = 12) (q_gd ((0 : Int) ≤ a2 ∧ a2 < (S.2.1 (R a0 10) : Int)) (q_gd (r_i (1000 * (I (R a0 11) (Int.toNat (((6 * a1) + 1) + a2))))) (q_gd (r_i (I (R a0 10) (Int.toNat a2))) (q_gd (I (R a0 10) (Int.toNat a2) ≠ 0) (q_lt (Int.tdiv (1000 * (I (R a0 11) (Int.toNat (((6 * a1) + 1) + a2)))) (I (R a0 10) (Int.toNat a2))) fun x9 => q_gd (r_i x9) (if x9 ≤ 2000 then some x9 else some 2000)))))))))
abbrev rmX10_ratioOf : Room := { frames := 0, cells := 0, slots := 0, locals := 0 }
set_option maxRecDepth 20000 in
theorem c_X10_ratioOf {S : q_S} {R : q_HR} {I : q_HI} {a0 : Nat} {a1 : Int} {a2 : Int} {rz : Int} (hf : f_X10_ratioOf S R I a0 a1 a2 = some rz) : ∀ (l : Launch) (D : va_G) (cy : Nat → ClassId) (B : Nat), Met l yX10_ratioOf [Cond.code yX10_ratioOf cX10_ratioOf 4 (some .int)] rmX10_ratioOf (q_Pc B D cy [.ref a0, .int (q_i a1), .int (q_i a2)] S R I) (q_Qc B D cy (some (.int (q_i rz))) S R I) 0 0 (fun q => B ≤ q) := by
  refine q_met (lv := [(0, .ref a0), (1, .int (q_i a1)), (2, .int (q_i a2))]) (own := RX10) (nm := "ratioOf") (by decide) rfl rfl (Nat.le_of_ble_eq_true rfl) rfl (fun X hX hE => ?_)
  unfold f_X10_ratioOf at hf
  refine v_sipush 1000 hX dX10_ratioOf_0 (by decide) ?_
  refine v_aload_n 0 0 hX dX10_ratioOf_3 rfl rfl ?_
  obtain ⟨g1, hf⟩ := q_gd_some hf
  obtain ⟨g2, hf⟩ := q_gd_some hf
  refine v_getA hX fa_RX10_17 (fun _ _ => rfl) g1 g2 (by decide) dX10_ratioOf_4 ?_
  refine v_bipush 6 hX dX10_ratioOf_7 (by decide) ?_
  refine v_iload_n 1 1 hX dX10_ratioOf_9 rfl rfl ?_
  refine v_imul hX dX10_ratioOf_10 ?_
  refine v_iconst hX dX10_ratioOf_11 ?_
  refine v_iadd hX dX10_ratioOf_12 ?_
  refine v_iload_n 2 2 hX dX10_ratioOf_13 rfl rfl ?_
  refine v_iadd hX dX10_ratioOf_14 ?_
  obtain ⟨g3, hf⟩ := q_gd_some hf
  refine v_iaload hX g2 g3 dX10_ratioOf_15 ?_
  refine v_imul hX dX10_ratioOf_16 ?_
  refine v_aload_n 0 0 hX dX10_ratioOf_17 rfl rfl ?_
  obtain ⟨g4, hf⟩ := q_gd_some hf
  refine v_getA hX fa_RX10_13 (fun _ _ => rfl) g1 g4 (by decide) dX10_ratioOf_18 ?_
  refine v_iload_n 2 2 hX dX10_ratioOf_21 rfl rfl ?_
  obtain ⟨g5, hf⟩ := q_gd_some hf
  refine v_iaload hX g4 g5 dX10_ratioOf_22 ?_
  obtain ⟨g6, hf⟩ := q_gd_some hf
  obtain ⟨g7, hf⟩ := q_gd_some hf
  obtain ⟨g8, hf⟩ := q_gd_some hf
  refine v_idiv hX g6 g7 g8 dX10_ratioOf_23 ?_
  obtain ⟨x9, e10, hf⟩ := q_lt_nm hf
  rw [e10]
  refine v_istore_n 3 (lw := [(3, .int (q_i x9)), (0, .ref a0), (1, .int (q_i a1)), (2, .int (q_i a2))]) hX dX10_ratioOf_24 rfl (by decide) rfl ?_
  refine v_iload_n 3 0 hX dX10_ratioOf_25 rfl rfl ?_
  refine v_sipush 2000 hX dX10_ratioOf_26 (by decide) ?_
  obtain ⟨g11, hf⟩ := q_gd_some hf
  refine v_icmp_le (tgt := 38) hX g11 (by unfold r_i; omega) dX10_ratioOf_29 (by decide) (fun c12 => ?_) (fun c12 => ?_)
  · replace hf := q_ifp c12 hf
    refine v_iload_n 3 0 hX dX10_ratioOf_38 rfl rfl ?_
    cases hf
    exact v_iret hX hE (Nat.le_of_ble_eq_true rfl) (Nat.le_of_ble_eq_true rfl) dX10_ratioOf_39
  · replace hf := q_ifn c12 hf
    refine v_sipush 2000 hX dX10_ratioOf_32 (by decide) ?_
    refine v_goto (tgt := 39) hX dX10_ratioOf_35 (by decide) ?_
    cases hf
    exact v_iret hX hE (Nat.le_of_ble_eq_true rfl) (Nat.le_of_ble_eq_true rfl) dX10_ratioOf_39
noncomputable def f_X10_fits_L14 (S : q_S) (R : q_HR) (I : q_HI) (p0 : Nat) (p1 : Int) (k : Int → Int → Int → Int → Int → Option (q_HI)) : Nat → Int → Int → Int → Int → Int → Option (q_HI)
  | 0, _, _, _, _, _ => none
  | n + 1, v2, v4, v6, v8, v10 => q_gd (S.1 p0 = 11) (q_gd (r_i v10) (q_gd (r_i (I p0 2)) (if I p0 2 ≤ v10 then k v2 v4 v6 v8 v10 else q_gd (S.1 (R p0 11) = 12) (q_gd ((0 : Int) ≤ 6 * (1 + v10) ∧ 6 * (1 + v10) < (S.2.1 (R p0 11) : Int)) (q_gd (r_i (I (R p0 11) (Int.toNat (6 * (1 + v10))))) (q_lt (I (R p0 11) (Int.toNat (6 * (1 + v10)))) fun x8 => q_bd (f_X10_ratioOf S R I p0 (1 + v10) p1) fun r11 => q_gd (r_i r11) (q_lt (v2 + x8) fun x14 => q_lt (v4 + r11) fun x16 => q_lt (v6 + (x8 * r11)) fun x18 => q_lt (v8 + (x8 * x8)) fun x20 => f_X10_fits_L14 S R I p0 p1 k n x14 x16 x18 x20 (v10 + 1))))))))
noncomputable def f_X10_fits (S : q_S) (R : q_HR) (I : q_HI) (a0 : Nat) (a1 : Int) : Option (q_HI) := f_X10_fits_L14 S R I a0 a1 (fun w22 w23 w24 w25 w26 => q_gd (S.1 a0 = 11) (q_gd (r_i (I a0 2)) (q_lt (q_up I a0 14 (((I a0 2) * w24) - (w22 * w23))) fun I29 => q_gd (r_i (I29 a0 2)) (q_lt (q_up I29 a0 15 (((I29 a0 2) * w25) - (w22 * w22))) fun I32 => some I32)))) 100 0 0 0 0 0
abbrev rmX10_fits : Room := { frames := 1, cells := 0, slots := 0, locals := 23 }
set_option maxRecDepth 20000 in
theorem l_X10_fits_14 {X : q_X} {S : q_S} {R : q_HR} {I : q_HI} {p0 : Nat} {p1 : Int} {Iz : q_HI} (hX : q_C X cX10_fits 15 RX10 none "fits") (hE : q_E X 0 0 none S R Iz) {k : Int → Int → Int → Int → Int → Option (q_HI)} (hk : ∀ (v2 : Int) (v4 : Int) (v6 : Int) (v8 : Int) (v10 : Int), k v2 v4 v6 v8 v10 = some Iz → q_V X rmX10_fits cX10_fits 15 0 0 88 [(0, .ref p0), (2, .long (q_l v2)), (4, .long (q_l v4)), (6, .long (q_l v6)), (8, .long (q_l v8))] [] S R I) :
    ∀ (n : Nat), ∀ (v2 : Int) (v4 : Int) (v6 : Int) (v8 : Int) (v10 : Int), f_X10_fits_L14 S R I p0 p1 k n v2 v4 v6 v8 v10 = some Iz → q_V X rmX10_fits cX10_fits 15 0 0 14 [(0, .ref p0), (1, .int (q_i p1)), (2, .long (q_l v2)), (4, .long (q_l v4)), (6, .long (q_l v6)), (8, .long (q_l v8)), (10, .int (q_i v10))] [] S R I := by
  intro n
  induction n with
  | zero =>
    intro v2 v4 v6 v8 v10 hf
    cases (show (none : Option (q_HI)) = some _ from hf)
  | succ n ih =>
    intro v2 v4 v6 v8 v10 hf
    rw [f_X10_fits_L14] at hf
    refine v_iload 6 hX dX10_fits_14 rfl ?_
    refine v_aload_n 0 0 hX dX10_fits_16 rfl rfl ?_
    obtain ⟨g1, hf⟩ := q_gd_some hf
    refine v_getI hX fa_RX10_55 (fun _ _ => rfl) g1 dX10_fits_17 ?_
    obtain ⟨g2, hf⟩ := q_gd_some hf
    obtain ⟨g3, hf⟩ := q_gd_some hf
    refine v_icmp_ge (tgt := 88) hX g2 g3 dX10_fits_20 (by decide) (fun c4 => ?_) (fun c4 => ?_)
    · replace hf := q_ifp c4 hf
      refine v_sub (lv' := [(0, .ref p0), (2, .long (q_l v2)), (4, .long (q_l v4)), (6, .long (q_l v6)), (8, .long (q_l v8))]) [0, 2, 3, 4, 5] rfl ?_
      exact hk _ _ _ _ _ hf
    · replace hf := q_ifn c4 hf
      refine v_aload_n 0 0 hX dX10_fits_23 rfl rfl ?_
      obtain ⟨g5, hf⟩ := q_gd_some hf
      refine v_getA hX fa_RX10_17 (fun _ _ => rfl) g1 g5 (by decide) dX10_fits_24 ?_
      refine v_bipush 6 hX dX10_fits_27 (by decide) ?_
      refine v_iconst hX dX10_fits_29 ?_
      refine v_iload 6 hX dX10_fits_30 rfl ?_
      refine v_iadd hX dX10_fits_32 ?_
      refine v_imul hX dX10_fits_33 ?_
      obtain ⟨g6, hf⟩ := q_gd_some hf
      refine v_iaload hX g5 g6 dX10_fits_34 ?_
      obtain ⟨g7, hf⟩ := q_gd_some hf
      refine v_i2l hX g7 dX10_fits_35 ?_
      obtain ⟨x8, e9, hf⟩ := q_lt_nm hf
      rw [e9]
      have g10 := g7
      rw [e9] at g10
      refine v_lstore (lw := [(11, .long (q_l x8)), (0, .ref p0), (1, .int (q_i p1)), (2, .long (q_l v2)), (4, .long (q_l v4)), (6, .long (q_l v6)), (8, .long (q_l v8)), (10, .int (q_i v10))]) hX dX10_fits_36 (by decide) rfl ?_
      refine v_aload_n 0 1 hX dX10_fits_38 rfl rfl ?_
      refine v_iconst hX dX10_fits_39 ?_
      refine v_iload 7 hX dX10_fits_40 rfl ?_
      refine v_iadd hX dX10_fits_42 ?_
      refine v_iload_n 1 2 hX dX10_fits_43 rfl rfl ?_
      obtain ⟨r11, h12, hf⟩ := q_bd_some hf
      refine v_callV (As := [.int (q_i (1 + v10)), .int (q_i p1)]) (rest := []) (st1 := [.int (q_i r11)]) (some (.int (q_i r11))) hX mv_RX10_96 (c_X10_ratioOf h12) ⟨rfl, rfl⟩ ⟨Nat.le_of_ble_eq_true rfl, Nat.le_of_ble_eq_true rfl⟩ g1 rfl rfl (Nat.le_of_ble_eq_true rfl) ⟨Nat.le_of_ble_eq_true rfl, Nat.le_of_ble_eq_true rfl⟩ dX10_fits_44 rfl ?_
      obtain ⟨g13, hf⟩ := q_gd_some hf
      refine v_i2l hX g13 dX10_fits_47 ?_
      refine v_lstore (lw := [(13, .long (q_l r11)), (11, .long (q_l x8)), (0, .ref p0), (1, .int (q_i p1)), (2, .long (q_l v2)), (4, .long (q_l v4)), (6, .long (q_l v6)), (8, .long (q_l v8)), (10, .int (q_i v10))]) hX dX10_fits_48 (by decide) rfl ?_
      refine v_lload_n 2 4 hX dX10_fits_50 rfl rfl ?_
      refine v_lload 1 hX dX10_fits_51 rfl ?_
      refine v_ladd hX dX10_fits_53 ?_
      obtain ⟨x14, e15, hf⟩ := q_lt_nm hf
      rw [e15]
      refine v_lstore_n 2 (lw := [(2, .long (q_l x14)), (13, .long (q_l r11)), (11, .long (q_l x8)), (0, .ref p0), (1, .int (q_i p1)), (4, .long (q_l v4)), (6, .long (q_l v6)), (8, .long (q_l v8)), (10, .int (q_i v10))]) hX dX10_fits_54 rfl (by decide) rfl ?_
      refine v_lload 5 hX dX10_fits_55 rfl ?_
      refine v_lload 1 hX dX10_fits_57 rfl ?_
      refine v_ladd hX dX10_fits_59 ?_
      obtain ⟨x16, e17, hf⟩ := q_lt_nm hf
      rw [e17]
      refine v_lstore (lw := [(4, .long (q_l x16)), (2, .long (q_l x14)), (13, .long (q_l r11)), (11, .long (q_l x8)), (0, .ref p0), (1, .int (q_i p1)), (6, .long (q_l v6)), (8, .long (q_l v8)), (10, .int (q_i v10))]) hX dX10_fits_60 (by decide) rfl ?_
      refine v_lload 6 hX dX10_fits_62 rfl ?_
      refine v_lload 3 hX dX10_fits_64 rfl ?_
      refine v_lload 2 hX dX10_fits_66 rfl ?_
      refine v_lmul hX dX10_fits_68 ?_
      refine v_ladd hX dX10_fits_69 ?_
      obtain ⟨x18, e19, hf⟩ := q_lt_nm hf
      rw [e19]
      refine v_lstore (lw := [(6, .long (q_l x18)), (4, .long (q_l x16)), (2, .long (q_l x14)), (13, .long (q_l r11)), (11, .long (q_l x8)), (0, .ref p0), (1, .int (q_i p1)), (8, .long (q_l v8)), (10, .int (q_i v10))]) hX dX10_fits_70 (by decide) rfl ?_
      refine v_lload 7 hX dX10_fits_72 rfl ?_
      refine v_lload 4 hX dX10_fits_74 rfl ?_
      refine v_lload 4 hX dX10_fits_76 rfl ?_
      refine v_lmul hX dX10_fits_78 ?_
      refine v_ladd hX dX10_fits_79 ?_
      obtain ⟨x20, e21, hf⟩ := q_lt_nm hf
      rw [e21]
      refine v_lstore (lw := [(8, .long (q_l x20)), (6, .long (q_l x18)), (4, .long (q_l x16)), (2, .long (q_l x14)), (13, .long (q_l r11)), (11, .long (q_l x8)), (0, .ref p0), (1, .int (q_i p1)), (10, .int (q_i v10))]) hX dX10_fits_80 (by decide) rfl ?_
      refine v_iinc 8 (lw := [(10, .int (q_i (v10 + 1))), (8, .long (q_l x20)), (6, .long (q_l x18)), (4, .long (q_l x16)), (2, .long (q_l x14)), (13, .long (q_l r11)), (11, .long (q_l x8)), (0, .ref p0), (1, .int (q_i p1))]) hX dX10_fits_82 rfl (by decide) rfl ?_
      refine v_goto (tgt := 14) hX dX10_fits_85 (by decide) ?_
      refine v_sub (lv' := [(0, .ref p0), (1, .int (q_i p1)), (2, .long (q_l x14)), (4, .long (q_l x16)), (6, .long (q_l x18)), (8, .long (q_l x20)), (10, .int (q_i (v10 + 1)))]) [7, 8, 4, 3, 2, 1, 0] rfl ?_
      exact ih _ _ _ _ _ hf
set_option maxRecDepth 20000 in
theorem c_X10_fits {S : q_S} {R : q_HR} {I : q_HI} {a0 : Nat} {a1 : Int} {Iz : q_HI} (hf : f_X10_fits S R I a0 a1 = some Iz) : ∀ (l : Launch) (D : va_G) (cy : Nat → ClassId) (B : Nat), Met l yX10_fits [Cond.code yX10_fits cX10_fits 15 none] rmX10_fits (q_Pc B D cy [.ref a0, .int (q_i a1)] S R I) (q_Qc B D cy none S R Iz) 0 0 (fun q => B ≤ q) := by
  refine q_met (lv := [(0, .ref a0), (1, .int (q_i a1))]) (own := RX10) (nm := "fits") (by decide) rfl rfl (Nat.le_of_ble_eq_true rfl) rfl (fun X hX hE => ?_)
  unfold f_X10_fits at hf
  refine v_lconst 0 hX dX10_fits_0 (by decide) ?_
  refine v_lstore_n 2 (lw := [(2, .long (q_l 0)), (0, .ref a0), (1, .int (q_i a1))]) hX dX10_fits_1 rfl (by decide) rfl ?_
  refine v_lconst 0 hX dX10_fits_2 (by decide) ?_
  refine v_lstore (lw := [(4, .long (q_l 0)), (2, .long (q_l 0)), (0, .ref a0), (1, .int (q_i a1))]) hX dX10_fits_3 (by decide) rfl ?_
  refine v_lconst 0 hX dX10_fits_5 (by decide) ?_
  refine v_lstore (lw := [(6, .long (q_l 0)), (4, .long (q_l 0)), (2, .long (q_l 0)), (0, .ref a0), (1, .int (q_i a1))]) hX dX10_fits_6 (by decide) rfl ?_
  refine v_lconst 0 hX dX10_fits_8 (by decide) ?_
  refine v_lstore (lw := [(8, .long (q_l 0)), (6, .long (q_l 0)), (4, .long (q_l 0)), (2, .long (q_l 0)), (0, .ref a0), (1, .int (q_i a1))]) hX dX10_fits_9 (by decide) rfl ?_
  refine v_iconst hX dX10_fits_11 ?_
  refine v_istore (lw := [(10, .int (q_i 0)), (8, .long (q_l 0)), (6, .long (q_l 0)), (4, .long (q_l 0)), (2, .long (q_l 0)), (0, .ref a0), (1, .int (q_i a1))]) hX dX10_fits_12 (by decide) rfl ?_
  refine v_sub (lv' := [(0, .ref a0), (1, .int (q_i a1)), (2, .long (q_l 0)), (4, .long (q_l 0)), (6, .long (q_l 0)), (8, .long (q_l 0)), (10, .int (q_i 0))]) [5, 6, 4, 3, 2, 1, 0] rfl ?_
  refine l_X10_fits_14 hX hE (fun w22 w23 w24 w25 w26 hk => ?_) 100 _ _ _ _ _ hf
  clear hf
  have hf := hk
  clear hk
  refine v_aload_n 0 0 hX dX10_fits_88 rfl rfl ?_
  refine v_aload_n 0 0 hX dX10_fits_89 rfl rfl ?_
  obtain ⟨g27, hf⟩ := q_gd_some hf
  refine v_getI hX fa_RX10_55 (fun _ _ => rfl) g27 dX10_fits_90 ?_
  obtain ⟨g28, hf⟩ := q_gd_some hf
  refine v_i2l hX g28 dX10_fits_93 ?_
  refine v_lload 3 hX dX10_fits_94 rfl ?_
  refine v_lmul hX dX10_fits_96 ?_
  refine v_lload_n 2 1 hX dX10_fits_97 rfl rfl ?_
  refine v_lload 2 hX dX10_fits_98 rfl ?_
  refine v_lmul hX dX10_fits_100 ?_
  refine v_lsub hX dX10_fits_101 ?_
  refine v_putJ hX fa_RX10_100 rfl g27 dX10_fits_102 ?_
  obtain ⟨I29, e30, hf⟩ := q_lt_nm hf
  rw [e30]
  refine v_aload_n 0 0 hX dX10_fits_105 rfl rfl ?_
  refine v_aload_n 0 0 hX dX10_fits_106 rfl rfl ?_
  refine v_getI hX fa_RX10_55 (fun _ _ => rfl) g27 dX10_fits_107 ?_
  obtain ⟨g31, hf⟩ := q_gd_some hf
  refine v_i2l hX g31 dX10_fits_110 ?_
  refine v_lload 4 hX dX10_fits_111 rfl ?_
  refine v_lmul hX dX10_fits_113 ?_
  refine v_lload_n 2 1 hX dX10_fits_114 rfl rfl ?_
  refine v_lload_n 2 1 hX dX10_fits_115 rfl rfl ?_
  refine v_lmul hX dX10_fits_116 ?_
  refine v_lsub hX dX10_fits_117 ?_
  refine v_putJ hX fa_RX10_104 rfl g27 dX10_fits_118 ?_
  obtain ⟨I32, e33, hf⟩ := q_lt_nm hf
  rw [e33]
  cases hf
  exact v_vret hX hE (Nat.le_of_ble_eq_true rfl) (Nat.le_of_ble_eq_true rfl) dX10_fits_121
noncomputable def f_X10_featureOf (S : q_S) (R : q_HR) (I : q_HI) (a0 : Nat) (a1 : Int) (a2 : Int) : Option (Int × q_HI) := q_gd (S.1 a0 = 11) (q_bd (f_X10_ratioOf S R I a0 a1 a2) fun r2 => q_gd (r_i r2) (q_gd (r_i (I a0 8)) (if I a0 8 = 0 then q_gd (r_l r2) (if r2 ≤ 4000 then if (-4000) ≤ r2 then some (r2, I) else some ((-4000), I) else some (4000, I)) else q_bd (f_X10_fits S R I a0 a2) fun I10 => q_gd (r_l (I10 a0 15)) (if I10 a0 15 = 0 then q_gd (r_l r2) (if r2 ≤ 4000 then if (-4000) ≤ r2 then some (r2, I10) else some ((-4000), I10) else some (4000, I10)) else q_gd (S.1 (R a0 11) = 12) (q_gd ((0 : Int) ≤ 6 * a1 ∧ 6 * a1 < (S.2.1 (R a0 11) : Int)) (q_gd (r_i ((I10 (R a0 11) (Int.toNat (6 * a1))) - 50)) (q_bd (f_X10_down ((I10 a0 14) * ((I10 (R a0 11) (Int.toNat (6 * a1))) - 50)) (I10 a0 15)) fun r20 => q_lt (r2 - r20) fun x22 => q_gd (r_l x22) (if x22 ≤ 4000 then if (-4000) ≤ x22 then some (x22, I10) else some ((-4000), I10) else some (4000, I10)))))))))
abbrev rmX10_featureOf : Room := { frames := 2, cells := 0, slots := 0, locals := 57 }
set_option maxRecDepth 20000 in
theorem c_X10_featureOf {S : q_S} {R : q_HR} {I : q_HI} {a0 : Nat} {a1 : Int} {a2 : Int} {rz : Int} {Iz : q_HI} (hf : f_X10_featureOf S R I a0 a1 a2 = some (rz, Iz)) : ∀ (l : Launch) (D : va_G) (cy : Nat → ClassId) (B : Nat), Met l yX10_featureOf [Cond.code yX10_featureOf cX10_featureOf 5 (some .int)] rmX10_featureOf (q_Pc B D cy [.ref a0, .int (q_i a1), .int (q_i a2)] S R I) (q_Qc B D cy (some (.int (q_i rz))) S R Iz) 0 0 (fun q => B ≤ q) := by
  refine q_met (lv := [(0, .ref a0), (1, .int (q_i a1)), (2, .int (q_i a2))]) (own := RX10) (nm := "featureOf") (by decide) rfl rfl (Nat.le_of_ble_eq_true rfl) rfl (fun X hX hE => ?_)
  unfold f_X10_featureOf at hf
  refine v_aload_n 0 0 hX dX10_featureOf_0 rfl rfl ?_
  refine v_iload_n 1 1 hX dX10_featureOf_1 rfl rfl ?_
  refine v_iload_n 2 2 hX dX10_featureOf_2 rfl rfl ?_
  obtain ⟨g1, hf⟩ := q_gd_some hf
  obtain ⟨r2, h3, hf⟩ := q_bd_some hf
  refine v_callV (As := [.int (q_i a1), .int (q_i a2)]) (rest := []) (st1 := [.int (q_i r2)]) (some (.int (q_i r2))) hX mv_RX10_96 (c_X10_ratioOf h3) ⟨rfl, rfl⟩ ⟨Nat.le_of_ble_eq_true rfl, Nat.le_of_ble_eq_true rfl⟩ g1 rfl rfl (Nat.le_of_ble_eq_true rfl) ⟨Nat.le_of_ble_eq_true rfl, Nat.le_of_ble_eq_true rfl⟩ dX10_featureOf_3 rfl ?_
  obtain ⟨g4, hf⟩ := q_gd_some hf
  refine v_i2l hX g4 dX10_featureOf_6 ?_
  refine v_lstore_n 3 (lw := [(3, .long (q_l r2)), (0, .ref a0), (1, .int (q_i a1)), (2, .int (q_i a2))]) hX dX10_featureOf_7 rfl (by decide) rfl ?_
  refine v_aload_n 0 1 hX dX10_featureOf_8 rfl rfl ?_
  refine v_getI hX fa_RX10_74 (fun _ _ => rfl) g1 dX10_featureOf_9 ?_
  obtain ⟨g5, hf⟩ := q_gd_some hf
  refine v_if_eq (tgt := 57) hX g5 dX10_featureOf_12 (by decide) (fun c6 => ?_) (fun c6 => ?_)
  · replace hf := q_ifp c6 hf
    refine v_lload_n 3 0 hX dX10_featureOf_57 rfl rfl ?_
    refine v_ldc2 4000 hX kl_RX10_114 (by decide) dX10_featureOf_58 ?_
    obtain ⟨g7, hf⟩ := q_gd_some hf
    refine v_lcmp hX g7 (by unfold r_l; omega) dX10_featureOf_61 ?_
    refine v_ifc_le (tgt := 71) hX dX10_featureOf_62 (by decide) (fun c8 => ?_) (fun c8 => ?_)
    · replace hf := q_ifp c8 hf
      refine v_lload_n 3 0 hX dX10_featureOf_71 rfl rfl ?_
      refine v_ldc2 (-4000) hX kl_RX10_116 (by decide) dX10_featureOf_72 ?_
      refine v_lcmp hX g7 (by unfold r_l; omega) dX10_featureOf_75 ?_
      refine v_ifc_ge (tgt := 85) hX dX10_featureOf_76 (by decide) (fun c9 => ?_) (fun c9 => ?_)
      · replace hf := q_ifp c9 hf
        refine v_lload_n 3 0 hX dX10_featureOf_85 rfl rfl ?_
        refine v_l2i hX dX10_featureOf_86 ?_
        cases hf
        exact v_iret hX hE (Nat.le_of_ble_eq_true rfl) (Nat.le_of_ble_eq_true rfl) dX10_featureOf_87
      · replace hf := q_ifn c9 hf
        refine v_sipush (-4000) hX dX10_featureOf_79 (by decide) ?_
        refine v_goto (tgt := 87) hX dX10_featureOf_82 (by decide) ?_
        cases hf
        exact v_iret hX hE (Nat.le_of_ble_eq_true rfl) (Nat.le_of_ble_eq_true rfl) dX10_featureOf_87
    · replace hf := q_ifn c8 hf
      refine v_sipush 4000 hX dX10_featureOf_65 (by decide) ?_
      refine v_goto (tgt := 87) hX dX10_featureOf_68 (by decide) ?_
      cases hf
      exact v_iret hX hE (Nat.le_of_ble_eq_true rfl) (Nat.le_of_ble_eq_true rfl) dX10_featureOf_87
  · replace hf := q_ifn c6 hf
    refine v_aload_n 0 1 hX dX10_featureOf_15 rfl rfl ?_
    refine v_iload_n 2 3 hX dX10_featureOf_16 rfl rfl ?_
    obtain ⟨I10, h11, hf⟩ := q_bd_some hf
    refine v_callV (As := [.int (q_i a2)]) (rest := []) (st1 := []) none hX mv_RX10_107 (c_X10_fits h11) ⟨rfl, rfl⟩ ⟨Nat.le_of_ble_eq_true rfl, Nat.le_of_ble_eq_true rfl⟩ g1 rfl rfl (Nat.le_of_ble_eq_true rfl) ⟨Nat.le_of_ble_eq_true rfl, Nat.le_of_ble_eq_true rfl⟩ dX10_featureOf_17 rfl ?_
    refine v_aload_n 0 1 hX dX10_featureOf_20 rfl rfl ?_
    refine v_getJ hX fa_RX10_104 (fun _ _ => rfl) g1 dX10_featureOf_21 ?_
    refine v_lconst 0 hX dX10_featureOf_24 (by decide) ?_
    obtain ⟨g12, hf⟩ := q_gd_some hf
    refine v_lcmp hX g12 (by unfold r_l; omega) dX10_featureOf_25 ?_
    refine v_ifc_eq (tgt := 57) hX dX10_featureOf_26 (by decide) (fun c13 => ?_) (fun c13 => ?_)
    · replace hf := q_ifp c13 hf
      refine v_lload_n 3 0 hX dX10_featureOf_57 rfl rfl ?_
      refine v_ldc2 4000 hX kl_RX10_114 (by decide) dX10_featureOf_58 ?_
      obtain ⟨g14, hf⟩ := q_gd_some hf
      refine v_lcmp hX g14 (by unfold r_l; omega) dX10_featureOf_61 ?_
      refine v_ifc_le (tgt := 71) hX dX10_featureOf_62 (by decide) (fun c15 => ?_) (fun c15 => ?_)
      · replace hf := q_ifp c15 hf
        refine v_lload_n 3 0 hX dX10_featureOf_71 rfl rfl ?_
        refine v_ldc2 (-4000) hX kl_RX10_116 (by decide) dX10_featureOf_72 ?_
        refine v_lcmp hX g14 (by unfold r_l; omega) dX10_featureOf_75 ?_
        refine v_ifc_ge (tgt := 85) hX dX10_featureOf_76 (by decide) (fun c16 => ?_) (fun c16 => ?_)
        · replace hf := q_ifp c16 hf
          refine v_lload_n 3 0 hX dX10_featureOf_85 rfl rfl ?_
          refine v_l2i hX dX10_featureOf_86 ?_
          cases hf
          exact v_iret hX hE (Nat.le_of_ble_eq_true rfl) (Nat.le_of_ble_eq_true rfl) dX10_featureOf_87
        · replace hf := q_ifn c16 hf
          refine v_sipush (-4000) hX dX10_featureOf_79 (by decide) ?_
          refine v_goto (tgt := 87) hX dX10_featureOf_82 (by decide) ?_
          cases hf
          exact v_iret hX hE (Nat.le_of_ble_eq_true rfl) (Nat.le_of_ble_eq_true rfl) dX10_featureOf_87
      · replace hf := q_ifn c15 hf
        refine v_sipush 4000 hX dX10_featureOf_65 (by decide) ?_
        refine v_goto (tgt := 87) hX dX10_featureOf_68 (by decide) ?_
        cases hf
        exact v_iret hX hE (Nat.le_of_ble_eq_true rfl) (Nat.le_of_ble_eq_true rfl) dX10_featureOf_87
    · replace hf := q_ifn c13 hf
      refine v_lload_n 3 0 hX dX10_featureOf_29 rfl rfl ?_
      refine v_aload_n 0 1 hX dX10_featureOf_30 rfl rfl ?_
      refine v_getJ hX fa_RX10_100 (fun _ _ => rfl) g1 dX10_featureOf_31 ?_
      refine v_aload_n 0 1 hX dX10_featureOf_34 rfl rfl ?_
      obtain ⟨g17, hf⟩ := q_gd_some hf
      refine v_getA hX fa_RX10_17 (fun _ _ => rfl) g1 g17 (by decide) dX10_featureOf_35 ?_
      refine v_bipush 6 hX dX10_featureOf_38 (by decide) ?_
      refine v_iload_n 1 2 hX dX10_featureOf_40 rfl rfl ?_
      refine v_imul hX dX10_featureOf_41 ?_
      obtain ⟨g18, hf⟩ := q_gd_some hf
      refine v_iaload hX g17 g18 dX10_featureOf_42 ?_
      refine v_bipush 50 hX dX10_featureOf_43 (by decide) ?_
      refine v_isub hX dX10_featureOf_45 ?_
      obtain ⟨g19, hf⟩ := q_gd_some hf
      refine v_i2l hX g19 dX10_featureOf_46 ?_
      refine v_lmul hX dX10_featureOf_47 ?_
      refine v_aload_n 0 1 hX dX10_featureOf_48 rfl rfl ?_
      refine v_getJ hX fa_RX10_104 (fun _ _ => rfl) g1 dX10_featureOf_49 ?_
      obtain ⟨r20, h21, hf⟩ := q_bd_some hf
      refine v_callS (As := [.long (q_l ((I10 a0 14) * ((I10 (R a0 11) (Int.toNat (6 * a1))) - 50))), .long (q_l (I10 a0 15))]) (rest := [.long (q_l r2)]) (st1 := [.long (q_l r20), .long (q_l r2)]) (some (.long (q_l r20))) hX ms_RX10_110 (c_X10_down h21) ⟨rfl, rfl⟩ ⟨Nat.le_of_ble_eq_true rfl, Nat.le_of_ble_eq_true rfl⟩ rfl rfl (Nat.le_of_ble_eq_true rfl) ⟨Nat.le_of_ble_eq_true rfl, Nat.le_of_ble_eq_true rfl⟩ dX10_featureOf_52 rfl ?_
      refine v_lsub hX dX10_featureOf_55 ?_
      obtain ⟨x22, e23, hf⟩ := q_lt_nm hf
      rw [e23]
      refine v_lstore_n 3 (lw := [(3, .long (q_l x22)), (0, .ref a0), (1, .int (q_i a1)), (2, .int (q_i a2))]) hX dX10_featureOf_56 rfl (by decide) rfl ?_
      refine v_lload_n 3 0 hX dX10_featureOf_57 rfl rfl ?_
      refine v_ldc2 4000 hX kl_RX10_114 (by decide) dX10_featureOf_58 ?_
      obtain ⟨g24, hf⟩ := q_gd_some hf
      refine v_lcmp hX g24 (by unfold r_l; omega) dX10_featureOf_61 ?_
      refine v_ifc_le (tgt := 71) hX dX10_featureOf_62 (by decide) (fun c25 => ?_) (fun c25 => ?_)
      · replace hf := q_ifp c25 hf
        refine v_lload_n 3 0 hX dX10_featureOf_71 rfl rfl ?_
        refine v_ldc2 (-4000) hX kl_RX10_116 (by decide) dX10_featureOf_72 ?_
        refine v_lcmp hX g24 (by unfold r_l; omega) dX10_featureOf_75 ?_
        refine v_ifc_ge (tgt := 85) hX dX10_featureOf_76 (by decide) (fun c26 => ?_) (fun c26 => ?_)
        · replace hf := q_ifp c26 hf
          refine v_lload_n 3 0 hX dX10_featureOf_85 rfl rfl ?_
          refine v_l2i hX dX10_featureOf_86 ?_
          cases hf
          exact v_iret hX hE (Nat.le_of_ble_eq_true rfl) (Nat.le_of_ble_eq_true rfl) dX10_featureOf_87
        · replace hf := q_ifn c26 hf
          refine v_sipush (-4000) hX dX10_featureOf_79 (by decide) ?_
          refine v_goto (tgt := 87) hX dX10_featureOf_82 (by decide) ?_
          cases hf
          exact v_iret hX hE (Nat.le_of_ble_eq_true rfl) (Nat.le_of_ble_eq_true rfl) dX10_featureOf_87
      · replace hf := q_ifn c25 hf
        refine v_sipush 4000 hX dX10_featureOf_65 (by decide) ?_
        refine v_goto (tgt := 87) hX dX10_featureOf_68 (by decide) ?_
        cases hf
        exact v_iret hX hE (Nat.le_of_ble_eq_true rfl) (Nat.le_of_ble_eq_true rfl) dX10_featureOf_87
noncomputable def f_X10_ratio (S : q_S) (R : q_HR) (I : q_HI) (a0 : Nat) (a1 : Int) : Option (Int × q_HI) := q_gd (S.1 a0 = 11) (q_lt (q_up I a0 0 0) fun I2 => q_bd (f_X10_isSensor S R I2 a0 a1) fun r4 => q_gd (r_i r4) (if r4 = 0 then some ((-2), I2) else q_gd (r_i (I2 a0 7)) (if I2 a0 7 = 0 then some ((-5), I2) else q_bd (f_X10_ratioOf S R I2 a0 0 a1) fun r10 => some (r10, I2))))
abbrev rmX10_ratio : Room := { frames := 2, cells := 0, slots := 0, locals := 46 }
set_option maxRecDepth 20000 in
theorem c_X10_ratio {S : q_S} {R : q_HR} {I : q_HI} {a0 : Nat} {a1 : Int} {rz : Int} {Iz : q_HI} (hf : f_X10_ratio S R I a0 a1 = some (rz, Iz)) : ∀ (l : Launch) (D : va_G) (cy : Nat → ClassId) (B : Nat), Met l yX10_ratio [Cond.code yX10_ratio cX10_ratio 2 (some .int)] rmX10_ratio (q_Pc B D cy [.ref a0, .int (q_i a1)] S R I) (q_Qc B D cy (some (.int (q_i rz))) S R Iz) 0 0 (fun q => B ≤ q) := by
  refine q_met (lv := [(0, .ref a0), (1, .int (q_i a1))]) (own := RX10) (nm := "ratio") (by decide) rfl rfl (Nat.le_of_ble_eq_true rfl) rfl (fun X hX hE => ?_)
  unfold f_X10_ratio at hf
  refine v_aload_n 0 0 hX dX10_ratio_0 rfl rfl ?_
  refine v_iconst hX dX10_ratio_1 ?_
  obtain ⟨g1, hf⟩ := q_gd_some hf
  refine v_putI hX fa_RX10_1 rfl g1 dX10_ratio_2 ?_
  obtain ⟨I2, e3, hf⟩ := q_lt_nm hf
  rw [e3]
  refine v_aload_n 0 0 hX dX10_ratio_5 rfl rfl ?_
  refine v_iload_n 1 1 hX dX10_ratio_6 rfl rfl ?_
  obtain ⟨r4, h5, hf⟩ := q_bd_some hf
  refine v_callV (As := [.int (q_i a1)]) (rest := []) (st1 := [.int (q_i r4)]) (some (.int (q_i r4))) hX mv_RX10_88 (c_X10_isSensor h5) ⟨rfl, rfl⟩ ⟨Nat.le_of_ble_eq_true rfl, Nat.le_of_ble_eq_true rfl⟩ g1 rfl rfl (Nat.le_of_ble_eq_true rfl) ⟨Nat.le_of_ble_eq_true rfl, Nat.le_of_ble_eq_true rfl⟩ dX10_ratio_7 rfl ?_
  obtain ⟨g6, hf⟩ := q_gd_some hf
  refine v_if_ne (tgt := 16) hX g6 dX10_ratio_10 (by decide) (fun c7 => ?_) (fun c7 => ?_)
  · replace hf := q_ifp c7 hf
    refine v_bipush (-2) hX dX10_ratio_13 (by decide) ?_
    cases hf
    exact v_iret hX hE (Nat.le_of_ble_eq_true rfl) (Nat.le_of_ble_eq_true rfl) dX10_ratio_15
  · replace hf := q_ifn c7 hf
    refine v_aload_n 0 0 hX dX10_ratio_16 rfl rfl ?_
    refine v_getI hX fa_RX10_70 (fun _ _ => rfl) g1 dX10_ratio_17 ?_
    obtain ⟨g8, hf⟩ := q_gd_some hf
    refine v_if_eq (tgt := 32) hX g8 dX10_ratio_20 (by decide) (fun c9 => ?_) (fun c9 => ?_)
    · replace hf := q_ifp c9 hf
      refine v_bipush (-5) hX dX10_ratio_32 (by decide) ?_
      cases hf
      exact v_iret hX hE (Nat.le_of_ble_eq_true rfl) (Nat.le_of_ble_eq_true rfl) dX10_ratio_34
    · replace hf := q_ifn c9 hf
      refine v_aload_n 0 0 hX dX10_ratio_23 rfl rfl ?_
      refine v_iconst hX dX10_ratio_24 ?_
      refine v_iload_n 1 1 hX dX10_ratio_25 rfl rfl ?_
      obtain ⟨r10, h11, hf⟩ := q_bd_some hf
      refine v_callV (As := [.int (q_i 0), .int (q_i a1)]) (rest := []) (st1 := [.int (q_i r10)]) (some (.int (q_i r10))) hX mv_RX10_96 (c_X10_ratioOf h11) ⟨rfl, rfl⟩ ⟨Nat.le_of_ble_eq_true rfl, Nat.le_of_ble_eq_true rfl⟩ g1 rfl rfl (Nat.le_of_ble_eq_true rfl) ⟨Nat.le_of_ble_eq_true rfl, Nat.le_of_ble_eq_true rfl⟩ dX10_ratio_26 rfl ?_
      refine v_goto (tgt := 34) hX dX10_ratio_29 (by decide) ?_
      cases hf
      exact v_iret hX hE (Nat.le_of_ble_eq_true rfl) (Nat.le_of_ble_eq_true rfl) dX10_ratio_34
noncomputable def f_X10_feature (S : q_S) (R : q_HR) (I : q_HI) (a0 : Nat) (a1 : Int) : Option (Int × q_HI) := q_gd (S.1 a0 = 11) (q_lt (q_up I a0 0 0) fun I2 => q_bd (f_X10_isSensor S R I2 a0 a1) fun r4 => q_gd (r_i r4) (if r4 = 0 then some ((-2), I2) else q_gd (r_i (I2 a0 7)) (if I2 a0 7 = 0 then some ((-5), I2) else q_bd2 (f_X10_featureOf S R I2 a0 0 a1) fun r10 I11 => some (r10 + 10000, I11))))
abbrev rmX10_feature : Room := { frames := 3, cells := 0, slots := 0, locals := 81 }
set_option maxRecDepth 20000 in
theorem c_X10_feature {S : q_S} {R : q_HR} {I : q_HI} {a0 : Nat} {a1 : Int} {rz : Int} {Iz : q_HI} (hf : f_X10_feature S R I a0 a1 = some (rz, Iz)) : ∀ (l : Launch) (D : va_G) (cy : Nat → ClassId) (B : Nat), Met l yX10_feature [Cond.code yX10_feature cX10_feature 2 (some .int)] rmX10_feature (q_Pc B D cy [.ref a0, .int (q_i a1)] S R I) (q_Qc B D cy (some (.int (q_i rz))) S R Iz) 0 0 (fun q => B ≤ q) := by
  refine q_met (lv := [(0, .ref a0), (1, .int (q_i a1))]) (own := RX10) (nm := "feature") (by decide) rfl rfl (Nat.le_of_ble_eq_true rfl) rfl (fun X hX hE => ?_)
  unfold f_X10_feature at hf
  refine v_aload_n 0 0 hX dX10_feature_0 rfl rfl ?_
  refine v_iconst hX dX10_feature_1 ?_
  obtain ⟨g1, hf⟩ := q_gd_some hf
  refine v_putI hX fa_RX10_1 rfl g1 dX10_feature_2 ?_
  obtain ⟨I2, e3, hf⟩ := q_lt_nm hf
  rw [e3]
  refine v_aload_n 0 0 hX dX10_feature_5 rfl rfl ?_
  refine v_iload_n 1 1 hX dX10_feature_6 rfl rfl ?_
  obtain ⟨r4, h5, hf⟩ := q_bd_some hf
  refine v_callV (As := [.int (q_i a1)]) (rest := []) (st1 := [.int (q_i r4)]) (some (.int (q_i r4))) hX mv_RX10_88 (c_X10_isSensor h5) ⟨rfl, rfl⟩ ⟨Nat.le_of_ble_eq_true rfl, Nat.le_of_ble_eq_true rfl⟩ g1 rfl rfl (Nat.le_of_ble_eq_true rfl) ⟨Nat.le_of_ble_eq_true rfl, Nat.le_of_ble_eq_true rfl⟩ dX10_feature_7 rfl ?_
  obtain ⟨g6, hf⟩ := q_gd_some hf
  refine v_if_ne (tgt := 16) hX g6 dX10_feature_10 (by decide) (fun c7 => ?_) (fun c7 => ?_)
  · replace hf := q_ifp c7 hf
    refine v_bipush (-2) hX dX10_feature_13 (by decide) ?_
    cases hf
    exact v_iret hX hE (Nat.le_of_ble_eq_true rfl) (Nat.le_of_ble_eq_true rfl) dX10_feature_15
  · replace hf := q_ifn c7 hf
    refine v_aload_n 0 0 hX dX10_feature_16 rfl rfl ?_
    refine v_getI hX fa_RX10_70 (fun _ _ => rfl) g1 dX10_feature_17 ?_
    obtain ⟨g8, hf⟩ := q_gd_some hf
    refine v_if_eq (tgt := 36) hX g8 dX10_feature_20 (by decide) (fun c9 => ?_) (fun c9 => ?_)
    · replace hf := q_ifp c9 hf
      refine v_bipush (-5) hX dX10_feature_36 (by decide) ?_
      cases hf
      exact v_iret hX hE (Nat.le_of_ble_eq_true rfl) (Nat.le_of_ble_eq_true rfl) dX10_feature_38
    · replace hf := q_ifn c9 hf
      refine v_aload_n 0 0 hX dX10_feature_23 rfl rfl ?_
      refine v_iconst hX dX10_feature_24 ?_
      refine v_iload_n 1 1 hX dX10_feature_25 rfl rfl ?_
      obtain ⟨r10, I11, h12, hf⟩ := q_bd2_some hf
      refine v_callV (As := [.int (q_i 0), .int (q_i a1)]) (rest := []) (st1 := [.int (q_i r10)]) (some (.int (q_i r10))) hX mv_RX10_118 (c_X10_featureOf h12) ⟨rfl, rfl⟩ ⟨Nat.le_of_ble_eq_true rfl, Nat.le_of_ble_eq_true rfl⟩ g1 rfl rfl (Nat.le_of_ble_eq_true rfl) ⟨Nat.le_of_ble_eq_true rfl, Nat.le_of_ble_eq_true rfl⟩ dX10_feature_26 rfl ?_
      refine v_sipush 10000 hX dX10_feature_29 (by decide) ?_
      refine v_iadd hX dX10_feature_32 ?_
      refine v_goto (tgt := 38) hX dX10_feature_33 (by decide) ?_
      cases hf
      exact v_iret hX hE (Nat.le_of_ble_eq_true rfl) (Nat.le_of_ble_eq_true rfl) dX10_feature_38
noncomputable def f_X10_addCalibration (S : q_S) (R : q_HR) (I : q_HI) (a0 : Nat) : Option (Int × q_HI) := q_gd (S.1 a0 = 11) (q_lt (q_up I a0 0 0) fun I2 => q_gd (r_i (I2 a0 7)) (if I2 a0 7 = 0 then some ((-5), I2) else q_gd (r_i (I2 a0 2)) (if I2 a0 2 = 12 then some ((-4), I2) else q_bd (f_X10_copies S R I2 a0 0 (1 + (I2 a0 2))) fun I8 => q_lt (q_up I8 a0 2 ((I8 a0 2) + 1)) fun I10 => some (I10 a0 2, I10))))
abbrev rmX10_addCalibration : Room := { frames := 1, cells := 0, slots := 0, locals := 23 }
set_option maxRecDepth 20000 in
theorem c_X10_addCalibration {S : q_S} {R : q_HR} {I : q_HI} {a0 : Nat} {rz : Int} {Iz : q_HI} (hf : f_X10_addCalibration S R I a0 = some (rz, Iz)) : ∀ (l : Launch) (D : va_G) (cy : Nat → ClassId) (B : Nat), Met l yX10_addCalibration [Cond.code yX10_addCalibration cX10_addCalibration 1 (some .int)] rmX10_addCalibration (q_Pc B D cy [.ref a0] S R I) (q_Qc B D cy (some (.int (q_i rz))) S R Iz) 0 0 (fun q => B ≤ q) := by
  refine q_met (lv := [(0, .ref a0)]) (own := RX10) (nm := "addCalibration") (by decide) rfl rfl (Nat.le_of_ble_eq_true rfl) rfl (fun X hX hE => ?_)
  unfold f_X10_addCalibration at hf
  refine v_aload_n 0 0 hX dX10_addCalibration_0 rfl rfl ?_
  refine v_iconst hX dX10_addCalibration_1 ?_
  obtain ⟨g1, hf⟩ := q_gd_some hf
  refine v_putI hX fa_RX10_1 rfl g1 dX10_addCalibration_2 ?_
  obtain ⟨I2, e3, hf⟩ := q_lt_nm hf
  rw [e3]
  refine v_aload_n 0 0 hX dX10_addCalibration_5 rfl rfl ?_
  refine v_getI hX fa_RX10_70 (fun _ _ => rfl) g1 dX10_addCalibration_6 ?_
  obtain ⟨g4, hf⟩ := q_gd_some hf
  refine v_if_ne (tgt := 15) hX g4 dX10_addCalibration_9 (by decide) (fun c5 => ?_) (fun c5 => ?_)
  · replace hf := q_ifp c5 hf
    refine v_bipush (-5) hX dX10_addCalibration_12 (by decide) ?_
    cases hf
    exact v_iret hX hE (Nat.le_of_ble_eq_true rfl) (Nat.le_of_ble_eq_true rfl) dX10_addCalibration_14
  · replace hf := q_ifn c5 hf
    refine v_aload_n 0 0 hX dX10_addCalibration_15 rfl rfl ?_
    refine v_getI hX fa_RX10_55 (fun _ _ => rfl) g1 dX10_addCalibration_16 ?_
    refine v_bipush 12 hX dX10_addCalibration_19 (by decide) ?_
    obtain ⟨g6, hf⟩ := q_gd_some hf
    refine v_icmp_ne (tgt := 27) hX g6 (by unfold r_i; omega) dX10_addCalibration_21 (by decide) (fun c7 => ?_) (fun c7 => ?_)
    · replace hf := q_ifp c7 hf
      refine v_bipush (-4) hX dX10_addCalibration_24 (by decide) ?_
      cases hf
      exact v_iret hX hE (Nat.le_of_ble_eq_true rfl) (Nat.le_of_ble_eq_true rfl) dX10_addCalibration_26
    · replace hf := q_ifn c7 hf
      refine v_aload_n 0 0 hX dX10_addCalibration_27 rfl rfl ?_
      refine v_iconst hX dX10_addCalibration_28 ?_
      refine v_iconst hX dX10_addCalibration_29 ?_
      refine v_aload_n 0 0 hX dX10_addCalibration_30 rfl rfl ?_
      refine v_getI hX fa_RX10_55 (fun _ _ => rfl) g1 dX10_addCalibration_31 ?_
      refine v_iadd hX dX10_addCalibration_34 ?_
      obtain ⟨I8, h9, hf⟩ := q_bd_some hf
      refine v_callV (As := [.int (q_i 0), .int (q_i (1 + (I2 a0 2)))]) (rest := []) (st1 := []) none hX mv_RX10_121 (c_X10_copies h9) ⟨rfl, rfl⟩ ⟨Nat.le_of_ble_eq_true rfl, Nat.le_of_ble_eq_true rfl⟩ g1 rfl rfl (Nat.le_of_ble_eq_true rfl) ⟨Nat.le_of_ble_eq_true rfl, Nat.le_of_ble_eq_true rfl⟩ dX10_addCalibration_35 rfl ?_
      refine v_aload_n 0 0 hX dX10_addCalibration_38 rfl rfl ?_
      refine v_dup hX dX10_addCalibration_39 rfl ?_
      refine v_getI hX fa_RX10_55 (fun _ _ => rfl) g1 dX10_addCalibration_40 ?_
      refine v_iconst hX dX10_addCalibration_43 ?_
      refine v_iadd hX dX10_addCalibration_44 ?_
      refine v_putI hX fa_RX10_55 rfl g1 dX10_addCalibration_45 ?_
      obtain ⟨I10, e11, hf⟩ := q_lt_nm hf
      rw [e11]
      refine v_aload_n 0 0 hX dX10_addCalibration_48 rfl rfl ?_
      refine v_getI hX fa_RX10_55 (fun _ _ => rfl) g1 dX10_addCalibration_49 ?_
      cases hf
      exact v_iret hX hE (Nat.le_of_ble_eq_true rfl) (Nat.le_of_ble_eq_true rfl) dX10_addCalibration_52
noncomputable def f_X10_removeCalibration (S : q_S) (R : q_HR) (I : q_HI) (a0 : Nat) : Option (Int × q_HI) := q_gd (S.1 a0 = 11) (q_lt (q_up I a0 0 0) fun I2 => q_gd (r_i (I2 a0 2)) (if I2 a0 2 = 0 then some ((-2), I2) else q_lt (q_up I2 a0 2 ((I2 a0 2) - 1)) fun I6 => some (I6 a0 2, I6)))
abbrev rmX10_removeCalibration : Room := { frames := 0, cells := 0, slots := 0, locals := 0 }
set_option maxRecDepth 20000 in
theorem c_X10_removeCalibration {S : q_S} {R : q_HR} {I : q_HI} {a0 : Nat} {rz : Int} {Iz : q_HI} (hf : f_X10_removeCalibration S R I a0 = some (rz, Iz)) : ∀ (l : Launch) (D : va_G) (cy : Nat → ClassId) (B : Nat), Met l yX10_removeCalibration [Cond.code yX10_removeCalibration cX10_removeCalibration 1 (some .int)] rmX10_removeCalibration (q_Pc B D cy [.ref a0] S R I) (q_Qc B D cy (some (.int (q_i rz))) S R Iz) 0 0 (fun q => B ≤ q) := by
  refine q_met (lv := [(0, .ref a0)]) (own := RX10) (nm := "removeCalibration") (by decide) rfl rfl (Nat.le_of_ble_eq_true rfl) rfl (fun X hX hE => ?_)
  unfold f_X10_removeCalibration at hf
  refine v_aload_n 0 0 hX dX10_removeCalibration_0 rfl rfl ?_
  refine v_iconst hX dX10_removeCalibration_1 ?_
  obtain ⟨g1, hf⟩ := q_gd_some hf
  refine v_putI hX fa_RX10_1 rfl g1 dX10_removeCalibration_2 ?_
  obtain ⟨I2, e3, hf⟩ := q_lt_nm hf
  rw [e3]
  refine v_aload_n 0 0 hX dX10_removeCalibration_5 rfl rfl ?_
  refine v_getI hX fa_RX10_55 (fun _ _ => rfl) g1 dX10_removeCalibration_6 ?_
  obtain ⟨g4, hf⟩ := q_gd_some hf
  refine v_if_ne (tgt := 15) hX g4 dX10_removeCalibration_9 (by decide) (fun c5 => ?_) (fun c5 => ?_)
  · replace hf := q_ifp c5 hf
    refine v_bipush (-2) hX dX10_removeCalibration_12 (by decide) ?_
    cases hf
    exact v_iret hX hE (Nat.le_of_ble_eq_true rfl) (Nat.le_of_ble_eq_true rfl) dX10_removeCalibration_14
  · replace hf := q_ifn c5 hf
    refine v_aload_n 0 0 hX dX10_removeCalibration_15 rfl rfl ?_
    refine v_dup hX dX10_removeCalibration_16 rfl ?_
    refine v_getI hX fa_RX10_55 (fun _ _ => rfl) g1 dX10_removeCalibration_17 ?_
    refine v_iconst hX dX10_removeCalibration_20 ?_
    refine v_isub hX dX10_removeCalibration_21 ?_
    refine v_putI hX fa_RX10_55 rfl g1 dX10_removeCalibration_22 ?_
    obtain ⟨I6, e7, hf⟩ := q_lt_nm hf
    rw [e7]
    refine v_aload_n 0 0 hX dX10_removeCalibration_25 rfl rfl ?_
    refine v_getI hX fa_RX10_55 (fun _ _ => rfl) g1 dX10_removeCalibration_26 ?_
    cases hf
    exact v_iret hX hE (Nat.le_of_ble_eq_true rfl) (Nat.le_of_ble_eq_true rfl) dX10_removeCalibration_29
noncomputable def f_X10_humiditySlope (S : q_S) (R : q_HR) (I : q_HI) (a0 : Nat) (a1 : Int) : Option (Int × q_HI) := q_gd (S.1 a0 = 11) (q_lt (q_up I a0 0 0) fun I2 => q_bd (f_X10_isSensor S R I2 a0 a1) fun r4 => q_gd (r_i r4) (if r4 = 0 then some ((-2), I2) else q_bd (f_X10_fits S R I2 a0 a1) fun I8 => q_gd (r_l (I8 a0 15)) (if I8 a0 15 = 0 then some ((-1), I8) else q_bd (f_X10_down (1000 * (I8 a0 14)) (I8 a0 15)) fun r12 => some (r12 + 10000000, I8))))
abbrev rmX10_humiditySlope : Room := { frames := 2, cells := 0, slots := 0, locals := 57 }
set_option maxRecDepth 20000 in
theorem c_X10_humiditySlope {S : q_S} {R : q_HR} {I : q_HI} {a0 : Nat} {a1 : Int} {rz : Int} {Iz : q_HI} (hf : f_X10_humiditySlope S R I a0 a1 = some (rz, Iz)) : ∀ (l : Launch) (D : va_G) (cy : Nat → ClassId) (B : Nat), Met l yX10_humiditySlope [Cond.code yX10_humiditySlope cX10_humiditySlope 2 (some .int)] rmX10_humiditySlope (q_Pc B D cy [.ref a0, .int (q_i a1)] S R I) (q_Qc B D cy (some (.int (q_i rz))) S R Iz) 0 0 (fun q => B ≤ q) := by
  refine q_met (lv := [(0, .ref a0), (1, .int (q_i a1))]) (own := RX10) (nm := "humiditySlope") (by decide) rfl rfl (Nat.le_of_ble_eq_true rfl) rfl (fun X hX hE => ?_)
  unfold f_X10_humiditySlope at hf
  refine v_aload_n 0 0 hX dX10_humiditySlope_0 rfl rfl ?_
  refine v_iconst hX dX10_humiditySlope_1 ?_
  obtain ⟨g1, hf⟩ := q_gd_some hf
  refine v_putI hX fa_RX10_1 rfl g1 dX10_humiditySlope_2 ?_
  obtain ⟨I2, e3, hf⟩ := q_lt_nm hf
  rw [e3]
  refine v_aload_n 0 0 hX dX10_humiditySlope_5 rfl rfl ?_
  refine v_iload_n 1 1 hX dX10_humiditySlope_6 rfl rfl ?_
  obtain ⟨r4, h5, hf⟩ := q_bd_some hf
  refine v_callV (As := [.int (q_i a1)]) (rest := []) (st1 := [.int (q_i r4)]) (some (.int (q_i r4))) hX mv_RX10_88 (c_X10_isSensor h5) ⟨rfl, rfl⟩ ⟨Nat.le_of_ble_eq_true rfl, Nat.le_of_ble_eq_true rfl⟩ g1 rfl rfl (Nat.le_of_ble_eq_true rfl) ⟨Nat.le_of_ble_eq_true rfl, Nat.le_of_ble_eq_true rfl⟩ dX10_humiditySlope_7 rfl ?_
  obtain ⟨g6, hf⟩ := q_gd_some hf
  refine v_if_ne (tgt := 16) hX g6 dX10_humiditySlope_10 (by decide) (fun c7 => ?_) (fun c7 => ?_)
  · replace hf := q_ifp c7 hf
    refine v_bipush (-2) hX dX10_humiditySlope_13 (by decide) ?_
    cases hf
    exact v_iret hX hE (Nat.le_of_ble_eq_true rfl) (Nat.le_of_ble_eq_true rfl) dX10_humiditySlope_15
  · replace hf := q_ifn c7 hf
    refine v_aload_n 0 0 hX dX10_humiditySlope_16 rfl rfl ?_
    refine v_iload_n 1 1 hX dX10_humiditySlope_17 rfl rfl ?_
    obtain ⟨I8, h9, hf⟩ := q_bd_some hf
    refine v_callV (As := [.int (q_i a1)]) (rest := []) (st1 := []) none hX mv_RX10_107 (c_X10_fits h9) ⟨rfl, rfl⟩ ⟨Nat.le_of_ble_eq_true rfl, Nat.le_of_ble_eq_true rfl⟩ g1 rfl rfl (Nat.le_of_ble_eq_true rfl) ⟨Nat.le_of_ble_eq_true rfl, Nat.le_of_ble_eq_true rfl⟩ dX10_humiditySlope_18 rfl ?_
    refine v_aload_n 0 0 hX dX10_humiditySlope_21 rfl rfl ?_
    refine v_getJ hX fa_RX10_104 (fun _ _ => rfl) g1 dX10_humiditySlope_22 ?_
    refine v_lconst 0 hX dX10_humiditySlope_25 (by decide) ?_
    obtain ⟨g10, hf⟩ := q_gd_some hf
    refine v_lcmp hX g10 (by unfold r_l; omega) dX10_humiditySlope_26 ?_
    refine v_ifc_ne (tgt := 34) hX dX10_humiditySlope_27 (by decide) (fun c11 => ?_) (fun c11 => ?_)
    · replace hf := q_ifp c11 hf
      refine v_iconst hX dX10_humiditySlope_30 ?_
      refine v_goto (tgt := 54) hX dX10_humiditySlope_31 (by decide) ?_
      cases hf
      exact v_iret hX hE (Nat.le_of_ble_eq_true rfl) (Nat.le_of_ble_eq_true rfl) dX10_humiditySlope_54
    · replace hf := q_ifn c11 hf
      refine v_ldc2 1000 hX kl_RX10_125 (by decide) dX10_humiditySlope_34 ?_
      refine v_aload_n 0 0 hX dX10_humiditySlope_37 rfl rfl ?_
      refine v_getJ hX fa_RX10_100 (fun _ _ => rfl) g1 dX10_humiditySlope_38 ?_
      refine v_lmul hX dX10_humiditySlope_41 ?_
      refine v_aload_n 0 0 hX dX10_humiditySlope_42 rfl rfl ?_
      refine v_getJ hX fa_RX10_104 (fun _ _ => rfl) g1 dX10_humiditySlope_43 ?_
      obtain ⟨r12, h13, hf⟩ := q_bd_some hf
      refine v_callS (As := [.long (q_l (1000 * (I8 a0 14))), .long (q_l (I8 a0 15))]) (rest := []) (st1 := [.long (q_l r12)]) (some (.long (q_l r12))) hX ms_RX10_110 (c_X10_down h13) ⟨rfl, rfl⟩ ⟨Nat.le_of_ble_eq_true rfl, Nat.le_of_ble_eq_true rfl⟩ rfl rfl (Nat.le_of_ble_eq_true rfl) ⟨Nat.le_of_ble_eq_true rfl, Nat.le_of_ble_eq_true rfl⟩ dX10_humiditySlope_46 rfl ?_
      refine v_ldc2 10000000 hX kl_RX10_127 (by decide) dX10_humiditySlope_49 ?_
      refine v_ladd hX dX10_humiditySlope_52 ?_
      refine v_l2i hX dX10_humiditySlope_53 ?_
      cases hf
      exact v_iret hX hE (Nat.le_of_ble_eq_true rfl) (Nat.le_of_ble_eq_true rfl) dX10_humiditySlope_54
noncomputable def f_X10_useHumidity (S : q_S) (R : q_HR) (I : q_HI) (a0 : Nat) (a1 : Int) : Option (Int × q_HI) := q_gd (S.1 a0 = 11) (q_lt (q_up I a0 0 0) fun I2 => q_gd (r_i (I2 a0 8)) (if I2 a0 8 = 0 then q_gd (a1 = 0 ∨ a1 = 1) (q_lt (q_up I2 a0 8 a1) fun I7 => some (0, I7)) else q_gd (a1 = 0 ∨ a1 = 1) (q_lt (q_up I2 a0 8 a1) fun I10 => some (1, I10))))
abbrev rmX10_useHumidity : Room := { frames := 0, cells := 0, slots := 0, locals := 0 }
set_option maxRecDepth 20000 in
theorem c_X10_useHumidity {S : q_S} {R : q_HR} {I : q_HI} {a0 : Nat} {a1 : Int} {rz : Int} {Iz : q_HI} (hf : f_X10_useHumidity S R I a0 a1 = some (rz, Iz)) : ∀ (l : Launch) (D : va_G) (cy : Nat → ClassId) (B : Nat), Met l yX10_useHumidity [Cond.code yX10_useHumidity cX10_useHumidity 3 (some .int)] rmX10_useHumidity (q_Pc B D cy [.ref a0, .int (q_i a1)] S R I) (q_Qc B D cy (some (.int (q_i rz))) S R Iz) 0 0 (fun q => B ≤ q) := by
  refine q_met (lv := [(0, .ref a0), (1, .int (q_i a1))]) (own := RX10) (nm := "useHumidity") (by decide) rfl rfl (Nat.le_of_ble_eq_true rfl) rfl (fun X hX hE => ?_)
  unfold f_X10_useHumidity at hf
  refine v_aload_n 0 0 hX dX10_useHumidity_0 rfl rfl ?_
  refine v_iconst hX dX10_useHumidity_1 ?_
  obtain ⟨g1, hf⟩ := q_gd_some hf
  refine v_putI hX fa_RX10_1 rfl g1 dX10_useHumidity_2 ?_
  obtain ⟨I2, e3, hf⟩ := q_lt_nm hf
  rw [e3]
  refine v_aload_n 0 0 hX dX10_useHumidity_5 rfl rfl ?_
  refine v_getI hX fa_RX10_74 (fun _ _ => rfl) g1 dX10_useHumidity_6 ?_
  obtain ⟨g4, hf⟩ := q_gd_some hf
  refine v_if_eq (tgt := 16) hX g4 dX10_useHumidity_9 (by decide) (fun c5 => ?_) (fun c5 => ?_)
  · replace hf := q_ifp c5 hf
    refine v_iconst hX dX10_useHumidity_16 ?_
    refine v_istore_n 2 (lw := [(2, .int (q_i 0)), (0, .ref a0), (1, .int (q_i a1))]) hX dX10_useHumidity_17 rfl (by decide) rfl ?_
    refine v_aload_n 0 1 hX dX10_useHumidity_18 rfl rfl ?_
    refine v_iload_n 1 2 hX dX10_useHumidity_19 rfl rfl ?_
    obtain ⟨g6, hf⟩ := q_gd_some hf
    refine v_putZ hX fa_RX10_74 rfl g6 g1 dX10_useHumidity_20 ?_
    obtain ⟨I7, e8, hf⟩ := q_lt_nm hf
    rw [e8]
    refine v_iload_n 2 0 hX dX10_useHumidity_23 rfl rfl ?_
    cases hf
    exact v_iret hX hE (Nat.le_of_ble_eq_true rfl) (Nat.le_of_ble_eq_true rfl) dX10_useHumidity_24
  · replace hf := q_ifn c5 hf
    refine v_iconst hX dX10_useHumidity_12 ?_
    refine v_goto (tgt := 17) hX dX10_useHumidity_13 (by decide) ?_
    refine v_istore_n 2 (lw := [(2, .int (q_i 1)), (0, .ref a0), (1, .int (q_i a1))]) hX dX10_useHumidity_17 rfl (by decide) rfl ?_
    refine v_aload_n 0 1 hX dX10_useHumidity_18 rfl rfl ?_
    refine v_iload_n 1 2 hX dX10_useHumidity_19 rfl rfl ?_
    obtain ⟨g9, hf⟩ := q_gd_some hf
    refine v_putZ hX fa_RX10_74 rfl g9 g1 dX10_useHumidity_20 ?_
    obtain ⟨I10, e11, hf⟩ := q_lt_nm hf
    rw [e11]
    refine v_iload_n 2 0 hX dX10_useHumidity_23 rfl rfl ?_
    cases hf
    exact v_iret hX hE (Nat.le_of_ble_eq_true rfl) (Nat.le_of_ble_eq_true rfl) dX10_useHumidity_24
noncomputable def f_X10_isPlace (S : q_S) (R : q_HR) (I : q_HI) (a0 : Nat) (a1 : Int) : Option (Int) := q_gd (r_i a1) (if 1 ≤ a1 then if 13 ≤ a1 then if 23 ≤ a1 then q_lt (a1 - 23) fun x5 => q_gd (r_i x5) (q_gd (S.1 a0 = 11) (q_gd (r_i (Int.tdiv x5 8)) (q_gd (r_i (I a0 4)) (if I a0 4 ≤ Int.tdiv x5 8 then some 0 else q_gd (S.1 (R a0 13) = 12) (q_gd ((0 : Int) ≤ Int.tdiv x5 8 ∧ Int.tdiv x5 8 < (S.2.1 (R a0 13) : Int)) (q_gd (r_i (Int.tmod x5 8)) (q_gd (r_i (I (R a0 13) (Int.toNat (Int.tdiv x5 8)))) (if I (R a0 13) (Int.toNat (Int.tdiv x5 8)) ≤ Int.tmod x5 8 then some 0 else some 1)))))))) else q_gd (S.1 a0 = 11) (q_gd (r_i (a1 - 13)) (q_gd (r_i (I a0 3)) (if I a0 3 ≤ a1 - 13 then some 0 else some 1))) else some 0 else q_gd (S.1 a0 = 11) (q_gd (I a0 7 = 0 ∨ I a0 7 = 1) (some (I a0 7))))
abbrev rmX10_isPlace : Room := { frames := 0, cells := 0, slots := 0, locals := 0 }
set_option maxRecDepth 20000 in
theorem c_X10_isPlace {S : q_S} {R : q_HR} {I : q_HI} {a0 : Nat} {a1 : Int} {rz : Int} (hf : f_X10_isPlace S R I a0 a1 = some rz) : ∀ (l : Launch) (D : va_G) (cy : Nat → ClassId) (B : Nat), Met l yX10_isPlace [Cond.code yX10_isPlace cX10_isPlace 3 (some .boolean)] rmX10_isPlace (q_Pc B D cy [.ref a0, .int (q_i a1)] S R I) (q_Qc B D cy (some (.int (q_i rz))) S R I) 0 0 (fun q => B ≤ q) := by
  refine q_met (lv := [(0, .ref a0), (1, .int (q_i a1))]) (own := RX10) (nm := "isPlace") (by decide) rfl rfl (Nat.le_of_ble_eq_true rfl) rfl (fun X hX hE => ?_)
  unfold f_X10_isPlace at hf
  refine v_iload_n 1 1 hX dX10_isPlace_0 rfl rfl ?_
  refine v_iconst hX dX10_isPlace_1 ?_
  obtain ⟨g1, hf⟩ := q_gd_some hf
  refine v_icmp_ge (tgt := 10) hX g1 (by unfold r_i; omega) dX10_isPlace_2 (by decide) (fun c2 => ?_) (fun c2 => ?_)
  · replace hf := q_ifp c2 hf
    refine v_iload_n 1 1 hX dX10_isPlace_10 rfl rfl ?_
    refine v_bipush 13 hX dX10_isPlace_11 (by decide) ?_
    refine v_icmp_ge (tgt := 18) hX g1 (by unfold r_i; omega) dX10_isPlace_13 (by decide) (fun c3 => ?_) (fun c3 => ?_)
    · replace hf := q_ifp c3 hf
      refine v_iload_n 1 1 hX dX10_isPlace_18 rfl rfl ?_
      refine v_bipush 23 hX dX10_isPlace_19 (by decide) ?_
      refine v_icmp_ge (tgt := 41) hX g1 (by unfold r_i; omega) dX10_isPlace_21 (by decide) (fun c4 => ?_) (fun c4 => ?_)
      · replace hf := q_ifp c4 hf
        refine v_iload_n 1 1 hX dX10_isPlace_41 rfl rfl ?_
        refine v_bipush 23 hX dX10_isPlace_42 (by decide) ?_
        refine v_isub hX dX10_isPlace_44 ?_
        obtain ⟨x5, e6, hf⟩ := q_lt_nm hf
        rw [e6]
        refine v_istore_n 2 (lw := [(2, .int (q_i x5)), (0, .ref a0), (1, .int (q_i a1))]) hX dX10_isPlace_45 rfl (by decide) rfl ?_
        refine v_iload_n 2 0 hX dX10_isPlace_46 rfl rfl ?_
        refine v_bipush 8 hX dX10_isPlace_47 (by decide) ?_
        obtain ⟨g7, hf⟩ := q_gd_some hf
        refine v_idiv hX g7 (by unfold r_i; omega) (by decide) dX10_isPlace_49 ?_
        refine v_aload_n 0 1 hX dX10_isPlace_50 rfl rfl ?_
        obtain ⟨g8, hf⟩ := q_gd_some hf
        refine v_getI hX fa_RX10_61 (fun _ _ => rfl) g8 dX10_isPlace_51 ?_
        obtain ⟨g9, hf⟩ := q_gd_some hf
        obtain ⟨g10, hf⟩ := q_gd_some hf
        refine v_icmp_ge (tgt := 77) hX g9 g10 dX10_isPlace_54 (by decide) (fun c11 => ?_) (fun c11 => ?_)
        · replace hf := q_ifp c11 hf
          refine v_iconst hX dX10_isPlace_77 ?_
          cases hf
          exact v_zret hX (Or.inl rfl) hE (Nat.le_of_ble_eq_true rfl) (Nat.le_of_ble_eq_true rfl) dX10_isPlace_78
        · replace hf := q_ifn c11 hf
          refine v_iload_n 2 0 hX dX10_isPlace_57 rfl rfl ?_
          refine v_bipush 8 hX dX10_isPlace_58 (by decide) ?_
          refine v_irem hX g7 (by unfold r_i; omega) (by decide) dX10_isPlace_60 ?_
          refine v_aload_n 0 1 hX dX10_isPlace_61 rfl rfl ?_
          obtain ⟨g12, hf⟩ := q_gd_some hf
          refine v_getA hX fa_RX10_23 (fun _ _ => rfl) g8 g12 (by decide) dX10_isPlace_62 ?_
          refine v_iload_n 2 0 hX dX10_isPlace_65 rfl rfl ?_
          refine v_bipush 8 hX dX10_isPlace_66 (by decide) ?_
          refine v_idiv hX g7 (by unfold r_i; omega) (by decide) dX10_isPlace_68 ?_
          obtain ⟨g13, hf⟩ := q_gd_some hf
          refine v_iaload hX g12 g13 dX10_isPlace_69 ?_
          obtain ⟨g14, hf⟩ := q_gd_some hf
          obtain ⟨g15, hf⟩ := q_gd_some hf
          refine v_icmp_ge (tgt := 77) hX g14 g15 dX10_isPlace_70 (by decide) (fun c16 => ?_) (fun c16 => ?_)
          · replace hf := q_ifp c16 hf
            refine v_iconst hX dX10_isPlace_77 ?_
            cases hf
            exact v_zret hX (Or.inl rfl) hE (Nat.le_of_ble_eq_true rfl) (Nat.le_of_ble_eq_true rfl) dX10_isPlace_78
          · replace hf := q_ifn c16 hf
            refine v_iconst hX dX10_isPlace_73 ?_
            refine v_goto (tgt := 78) hX dX10_isPlace_74 (by decide) ?_
            cases hf
            exact v_zret hX (Or.inr rfl) hE (Nat.le_of_ble_eq_true rfl) (Nat.le_of_ble_eq_true rfl) dX10_isPlace_78
      · replace hf := q_ifn c4 hf
        refine v_iload_n 1 1 hX dX10_isPlace_24 rfl rfl ?_
        refine v_bipush 13 hX dX10_isPlace_25 (by decide) ?_
        refine v_isub hX dX10_isPlace_27 ?_
        refine v_aload_n 0 0 hX dX10_isPlace_28 rfl rfl ?_
        obtain ⟨g17, hf⟩ := q_gd_some hf
        refine v_getI hX fa_RX10_58 (fun _ _ => rfl) g17 dX10_isPlace_29 ?_
        obtain ⟨g18, hf⟩ := q_gd_some hf
        obtain ⟨g19, hf⟩ := q_gd_some hf
        refine v_icmp_ge (tgt := 39) hX g18 g19 dX10_isPlace_32 (by decide) (fun c20 => ?_) (fun c20 => ?_)
        · replace hf := q_ifp c20 hf
          refine v_iconst hX dX10_isPlace_39 ?_
          cases hf
          exact v_zret hX (Or.inl rfl) hE (Nat.le_of_ble_eq_true rfl) (Nat.le_of_ble_eq_true rfl) dX10_isPlace_40
        · replace hf := q_ifn c20 hf
          refine v_iconst hX dX10_isPlace_35 ?_
          refine v_goto (tgt := 40) hX dX10_isPlace_36 (by decide) ?_
          cases hf
          exact v_zret hX (Or.inr rfl) hE (Nat.le_of_ble_eq_true rfl) (Nat.le_of_ble_eq_true rfl) dX10_isPlace_40
    · replace hf := q_ifn c3 hf
      refine v_iconst hX dX10_isPlace_16 ?_
      cases hf
      exact v_zret hX (Or.inl rfl) hE (Nat.le_of_ble_eq_true rfl) (Nat.le_of_ble_eq_true rfl) dX10_isPlace_17
  · replace hf := q_ifn c2 hf
    refine v_aload_n 0 0 hX dX10_isPlace_5 rfl rfl ?_
    obtain ⟨g21, hf⟩ := q_gd_some hf
    refine v_getI hX fa_RX10_70 (fun _ _ => rfl) g21 dX10_isPlace_6 ?_
    obtain ⟨g22, hf⟩ := q_gd_some hf
    cases hf
    exact v_zret hX g22 hE (Nat.le_of_ble_eq_true rfl) (Nat.le_of_ble_eq_true rfl) dX10_isPlace_9
noncomputable def f_X10_laysDrift_L21 (S : q_S) (R : q_HR) (I : q_HI) (p0 : Nat) (p1 : Int) (p3 : Int) (k : Int → Int → Int → Int → Option (q_HI)) : Nat → Int → Int → Int → Int → Option (q_HI)
  | 0, _, _, _, _ => none
  | n + 1, v4, v6, v8, v10 => q_gd (S.1 p0 = 11) (q_gd (r_i v10) (q_gd (r_i (I p0 3)) (if I p0 3 ≤ v10 then k v4 v6 v8 v10 else q_gd (r_i p3) (q_gd (r_i (I p0 1)) (if I p0 1 ≤ p3 then k v4 v6 v8 v10 else q_gd (S.1 (R p0 12) = 12) (q_gd ((0 : Int) ≤ v10 ∧ v10 < (S.2.1 (R p0 12) : Int)) (q_gd (r_i (I (R p0 12) (Int.toNat v10))) (q_lt (v4 + (I (R p0 12) (Int.toNat v10))) fun x13 => q_gd (S.1 (R p0 16) = 12) (q_gd ((0 : Int) ≤ (5 * (13 + v10)) + p3 ∧ (5 * (13 + v10)) + p3 < (S.2.1 (R p0 16) : Int)) (q_gd (r_i (I (R p0 16) (Int.toNat ((5 * (13 + v10)) + p3)))) (q_lt (v6 + (I (R p0 16) (Int.toNat ((5 * (13 + v10)) + p3)))) fun x18 => q_lt (v8 + ((I (R p0 12) (Int.toNat v10)) * (I (R p0 16) (Int.toNat ((5 * (13 + v10)) + p3))))) fun x20 => f_X10_laysDrift_L21 S R I p0 p1 p3 k n x13 x18 x20 (v10 + 1))))))))))))
noncomputable def f_X10_laysDrift_L4 (S : q_S) (R : q_HR) (p0 : Nat) (k : Int → Int → q_HI → Option (q_HI)) : Nat → Int → Int → q_HI → Option (q_HI)
  | 0, _, _, _ => none
  | n + 1, v1, v3, I => q_gd (r_i v3) (if 5 ≤ v3 then k v1 v3 I else f_X10_laysDrift_L21 S R I p0 v1 v3 (fun w22 w23 w24 w25 => q_gd (S.1 p0 = 11) (q_gd (S.1 (R p0 20) = 13) (q_gd (r_i (I p0 3)) (q_gd ((0 : Int) ≤ v3 ∧ v3 < (S.2.1 (R p0 20) : Int)) (q_lt (q_up I (R p0 20) (Int.toNat v3) (((I p0 3) * w24) - (w22 * w23))) fun I30 => q_gd (r_l (I30 (R p0 20) (Int.toNat v3))) (if 0 ≤ I30 (R p0 20) (Int.toNat v3) then q_lt (I30 (R p0 20) (Int.toNat v3)) fun x34 => q_gd (r_l x34) (q_gd (r_l v1) (if x34 ≤ v1 then f_X10_laysDrift_L4 S R p0 k n v1 (v3 + 1) I30 else f_X10_laysDrift_L4 S R p0 k n x34 (v3 + 1) I30)) else q_lt (-(I30 (R p0 20) (Int.toNat v3))) fun x39 => q_gd (r_l x39) (q_gd (r_l v1) (if x39 ≤ v1 then f_X10_laysDrift_L4 S R p0 k n v1 (v3 + 1) I30 else f_X10_laysDrift_L4 S R p0 k n x39 (v3 + 1) I30)))))))) 100 0 0 0 0)
noncomputable def f_X10_laysDrift_L192 (S : q_S) (R : q_HR) (p0 : Nat) (p1 : Int) (k : Int → q_HI → Option (q_HI)) : Nat → Int → q_HI → Option (q_HI)
  | 0, _, _ => none
  | n + 1, v3, I => q_gd (r_i v3) (if 5 ≤ v3 then k v3 I else q_gd (S.1 p0 = 11) (q_gd (S.1 (R p0 17) = 12) (q_gd (r_i (I p0 19)) (if I p0 19 = 0 then q_gd ((0 : Int) ≤ v3 ∧ v3 < (S.2.1 (R p0 17) : Int)) (q_lt (q_up I (R p0 17) (Int.toNat v3) 0) fun I59 => f_X10_laysDrift_L192 S R p0 p1 k n (v3 + 1) I59) else q_gd (S.1 (R p0 20) = 13) (q_gd ((0 : Int) ≤ v3 ∧ v3 < (S.2.1 (R p0 20) : Int)) (q_gd (r_l ((I (R p0 20) (Int.toNat v3)) * 1000)) (q_gd (r_l p1) (q_gd (p1 ≠ 0) (q_gd ((0 : Int) ≤ v3 ∧ v3 < (S.2.1 (R p0 17) : Int)) (q_lt (q_up I (R p0 17) (Int.toNat v3) (Int.tdiv ((I (R p0 20) (Int.toNat v3)) * 1000) p1)) fun I67 => f_X10_laysDrift_L192 S R p0 p1 k n (v3 + 1) I67))))))))))
noncomputable def f_X10_laysDrift (S : q_S) (R : q_HR) (I : q_HI) (a0 : Nat) : Option (q_HI) := f_X10_laysDrift_L4 S R a0 (fun w44 w45 I46 => q_gd (r_l w44) (if w44 ≤ 0 then q_gd (S.1 a0 = 11) (q_lt (q_up I46 a0 19 0) fun I50 => f_X10_laysDrift_L192 S R a0 w44 (fun w69 I70 => some I70) 100 0 I50) else q_gd (S.1 a0 = 11) (q_lt (q_up I46 a0 19 1) fun I72 => f_X10_laysDrift_L192 S R a0 w44 (fun w74 I75 => some I75) 100 0 I72))) 100 0 0 I
abbrev rmX10_laysDrift : Room := { frames := 0, cells := 0, slots := 0, locals := 0 }
set_option maxRecDepth 20000 in
theorem l_X10_laysDrift_21 {X : q_X} {S : q_S} {R : q_HR} {I : q_HI} {p0 : Nat} {p1 : Int} {p3 : Int} {Iz : q_HI} (hX : q_C X cX10_laysDrift 12 RX10 none "laysDrift") (hE : q_E X 0 0 none S R Iz) {k : Int → Int → Int → Int → Option (q_HI)} (hk : ∀ (v4 : Int) (v6 : Int) (v8 : Int) (v10 : Int), k v4 v6 v8 v10 = some Iz → q_V X rmX10_laysDrift cX10_laysDrift 12 0 0 106 [(0, .ref p0), (1, .long (q_l p1)), (3, .int (q_i p3)), (4, .long (q_l v4)), (6, .long (q_l v6)), (8, .long (q_l v8))] [] S R I) :
    ∀ (n : Nat), ∀ (v4 : Int) (v6 : Int) (v8 : Int) (v10 : Int), f_X10_laysDrift_L21 S R I p0 p1 p3 k n v4 v6 v8 v10 = some Iz → q_V X rmX10_laysDrift cX10_laysDrift 12 0 0 21 [(0, .ref p0), (1, .long (q_l p1)), (3, .int (q_i p3)), (4, .long (q_l v4)), (6, .long (q_l v6)), (8, .long (q_l v8)), (10, .int (q_i v10))] [] S R I := by
  intro n
  induction n with
  | zero =>
    intro v4 v6 v8 v10 hf
    cases (show (none : Option (q_HI)) = some _ from hf)
  | succ n ih =>
    intro v4 v6 v8 v10 hf
    rw [f_X10_laysDrift_L21] at hf
    refine v_iload 6 hX dX10_laysDrift_21 rfl ?_
    refine v_aload_n 0 0 hX dX10_laysDrift_23 rfl rfl ?_
    obtain ⟨g3, hf⟩ := q_gd_some hf
    refine v_getI hX fa_RX10_58 (fun _ _ => rfl) g3 dX10_laysDrift_24 ?_
    obtain ⟨g4, hf⟩ := q_gd_some hf
    obtain ⟨g5, hf⟩ := q_gd_some hf
    refine v_icmp_ge (tgt := 106) hX g4 g5 dX10_laysDrift_27 (by decide) (fun c6 => ?_) (fun c6 => ?_)
    · replace hf := q_ifp c6 hf
      refine v_sub (lv' := [(0, .ref p0), (1, .long (q_l p1)), (3, .int (q_i p3)), (4, .long (q_l v4)), (6, .long (q_l v6)), (8, .long (q_l v8))]) [0, 1, 2, 3, 4, 5] rfl ?_
      exact hk _ _ _ _ hf
    · replace hf := q_ifn c6 hf
      refine v_iload_n 3 2 hX dX10_laysDrift_30 rfl rfl ?_
      refine v_aload_n 0 0 hX dX10_laysDrift_31 rfl rfl ?_
      refine v_getI hX fa_RX10_52 (fun _ _ => rfl) g3 dX10_laysDrift_32 ?_
      obtain ⟨g7, hf⟩ := q_gd_some hf
      obtain ⟨g8, hf⟩ := q_gd_some hf
      refine v_icmp_ge (tgt := 106) hX g7 g8 dX10_laysDrift_35 (by decide) (fun c9 => ?_) (fun c9 => ?_)
      · replace hf := q_ifp c9 hf
        refine v_sub (lv' := [(0, .ref p0), (1, .long (q_l p1)), (3, .int (q_i p3)), (4, .long (q_l v4)), (6, .long (q_l v6)), (8, .long (q_l v8))]) [0, 1, 2, 3, 4, 5] rfl ?_
        exact hk _ _ _ _ hf
      · replace hf := q_ifn c9 hf
        refine v_lload 3 hX dX10_laysDrift_38 rfl ?_
        refine v_aload_n 0 0 hX dX10_laysDrift_40 rfl rfl ?_
        obtain ⟨g10, hf⟩ := q_gd_some hf
        refine v_getA hX fa_RX10_20 (fun _ _ => rfl) g3 g10 (by decide) dX10_laysDrift_41 ?_
        refine v_iload 6 hX dX10_laysDrift_44 rfl ?_
        obtain ⟨g11, hf⟩ := q_gd_some hf
        refine v_iaload hX g10 g11 dX10_laysDrift_46 ?_
        obtain ⟨g12, hf⟩ := q_gd_some hf
        refine v_i2l hX g12 dX10_laysDrift_47 ?_
        refine v_ladd hX dX10_laysDrift_48 ?_
        obtain ⟨x13, e14, hf⟩ := q_lt_nm hf
        rw [e14]
        refine v_lstore (lw := [(4, .long (q_l x13)), (0, .ref p0), (1, .long (q_l p1)), (3, .int (q_i p3)), (6, .long (q_l v6)), (8, .long (q_l v8)), (10, .int (q_i v10))]) hX dX10_laysDrift_49 (by decide) rfl ?_
        refine v_lload 4 hX dX10_laysDrift_51 rfl ?_
        refine v_aload_n 0 1 hX dX10_laysDrift_53 rfl rfl ?_
        obtain ⟨g15, hf⟩ := q_gd_some hf
        refine v_getA hX fa_RX10_26 (fun _ _ => rfl) g3 g15 (by decide) dX10_laysDrift_54 ?_
        refine v_iconst hX dX10_laysDrift_57 ?_
        refine v_bipush 13 hX dX10_laysDrift_58 (by decide) ?_
        refine v_iload 6 hX dX10_laysDrift_60 rfl ?_
        refine v_iadd hX dX10_laysDrift_62 ?_
        refine v_imul hX dX10_laysDrift_63 ?_
        refine v_iload_n 3 3 hX dX10_laysDrift_64 rfl rfl ?_
        refine v_iadd hX dX10_laysDrift_65 ?_
        obtain ⟨g16, hf⟩ := q_gd_some hf
        refine v_iaload hX g15 g16 dX10_laysDrift_66 ?_
        obtain ⟨g17, hf⟩ := q_gd_some hf
        refine v_i2l hX g17 dX10_laysDrift_67 ?_
        refine v_ladd hX dX10_laysDrift_68 ?_
        obtain ⟨x18, e19, hf⟩ := q_lt_nm hf
        rw [e19]
        refine v_lstore (lw := [(6, .long (q_l x18)), (4, .long (q_l x13)), (0, .ref p0), (1, .long (q_l p1)), (3, .int (q_i p3)), (8, .long (q_l v8)), (10, .int (q_i v10))]) hX dX10_laysDrift_69 (by decide) rfl ?_
        refine v_lload 5 hX dX10_laysDrift_71 rfl ?_
        refine v_aload_n 0 2 hX dX10_laysDrift_73 rfl rfl ?_
        refine v_getA hX fa_RX10_20 (fun _ _ => rfl) g3 g10 (by decide) dX10_laysDrift_74 ?_
        refine v_iload 6 hX dX10_laysDrift_77 rfl ?_
        refine v_iaload hX g10 g11 dX10_laysDrift_79 ?_
        refine v_i2l hX g12 dX10_laysDrift_80 ?_
        refine v_aload_n 0 2 hX dX10_laysDrift_81 rfl rfl ?_
        refine v_getA hX fa_RX10_26 (fun _ _ => rfl) g3 g15 (by decide) dX10_laysDrift_82 ?_
        refine v_iconst hX dX10_laysDrift_85 ?_
        refine v_bipush 13 hX dX10_laysDrift_86 (by decide) ?_
        refine v_iload 6 hX dX10_laysDrift_88 rfl ?_
        refine v_iadd hX dX10_laysDrift_90 ?_
        refine v_imul hX dX10_laysDrift_91 ?_
        refine v_iload_n 3 4 hX dX10_laysDrift_92 rfl rfl ?_
        refine v_iadd hX dX10_laysDrift_93 ?_
        refine v_iaload hX g15 g16 dX10_laysDrift_94 ?_
        refine v_i2l hX g17 dX10_laysDrift_95 ?_
        refine v_lmul hX dX10_laysDrift_96 ?_
        refine v_ladd hX dX10_laysDrift_97 ?_
        obtain ⟨x20, e21, hf⟩ := q_lt_nm hf
        rw [e21]
        refine v_lstore (lw := [(8, .long (q_l x20)), (6, .long (q_l x18)), (4, .long (q_l x13)), (0, .ref p0), (1, .long (q_l p1)), (3, .int (q_i p3)), (10, .int (q_i v10))]) hX dX10_laysDrift_98 (by decide) rfl ?_
        refine v_iinc 6 (lw := [(10, .int (q_i (v10 + 1))), (8, .long (q_l x20)), (6, .long (q_l x18)), (4, .long (q_l x13)), (0, .ref p0), (1, .long (q_l p1)), (3, .int (q_i p3))]) hX dX10_laysDrift_100 rfl (by decide) rfl ?_
        refine v_goto (tgt := 21) hX dX10_laysDrift_103 (by decide) ?_
        refine v_sub (lv' := [(0, .ref p0), (1, .long (q_l p1)), (3, .int (q_i p3)), (4, .long (q_l x13)), (6, .long (q_l x18)), (8, .long (q_l x20)), (10, .int (q_i (v10 + 1)))]) [4, 5, 6, 3, 2, 1, 0] rfl ?_
        exact ih _ _ _ _ hf
set_option maxRecDepth 20000 in
theorem l_X10_laysDrift_4 {X : q_X} {S : q_S} {R : q_HR} {p0 : Nat} {Iz : q_HI} (hX : q_C X cX10_laysDrift 12 RX10 none "laysDrift") (hE : q_E X 0 0 none S R Iz) {k : Int → Int → q_HI → Option (q_HI)} (hk : ∀ (v1 : Int) (v3 : Int) (I : q_HI), k v1 v3 I = some Iz → q_V X rmX10_laysDrift cX10_laysDrift 12 0 0 175 [(0, .ref p0), (1, .long (q_l v1))] [] S R I) :
    ∀ (n : Nat), ∀ (v1 : Int) (v3 : Int) (I : q_HI), f_X10_laysDrift_L4 S R p0 k n v1 v3 I = some Iz → q_V X rmX10_laysDrift cX10_laysDrift 12 0 0 4 [(0, .ref p0), (1, .long (q_l v1)), (3, .int (q_i v3))] [] S R I := by
  intro n
  induction n with
  | zero =>
    intro v1 v3 I hf
    cases (show (none : Option (q_HI)) = some _ from hf)
  | succ n ih =>
    intro v1 v3 I hf
    rw [f_X10_laysDrift_L4] at hf
    refine v_iload_n 3 2 hX dX10_laysDrift_4 rfl rfl ?_
    refine v_iconst hX dX10_laysDrift_5 ?_
    obtain ⟨g1, hf⟩ := q_gd_some hf
    refine v_icmp_ge (tgt := 175) hX g1 (by unfold r_i; omega) dX10_laysDrift_6 (by decide) (fun c2 => ?_) (fun c2 => ?_)
    · replace hf := q_ifp c2 hf
      refine v_sub (lv' := [(0, .ref p0), (1, .long (q_l v1))]) [0, 1] rfl ?_
      exact hk _ _ _ hf
    · replace hf := q_ifn c2 hf
      refine v_lconst 0 hX dX10_laysDrift_9 (by decide) ?_
      refine v_lstore (lw := [(4, .long (q_l 0)), (0, .ref p0), (1, .long (q_l v1)), (3, .int (q_i v3))]) hX dX10_laysDrift_10 (by decide) rfl ?_
      refine v_lconst 0 hX dX10_laysDrift_12 (by decide) ?_
      refine v_lstore (lw := [(6, .long (q_l 0)), (4, .long (q_l 0)), (0, .ref p0), (1, .long (q_l v1)), (3, .int (q_i v3))]) hX dX10_laysDrift_13 (by decide) rfl ?_
      refine v_lconst 0 hX dX10_laysDrift_15 (by decide) ?_
      refine v_lstore (lw := [(8, .long (q_l 0)), (6, .long (q_l 0)), (4, .long (q_l 0)), (0, .ref p0), (1, .long (q_l v1)), (3, .int (q_i v3))]) hX dX10_laysDrift_16 (by decide) rfl ?_
      refine v_iconst hX dX10_laysDrift_18 ?_
      refine v_istore (lw := [(10, .int (q_i 0)), (8, .long (q_l 0)), (6, .long (q_l 0)), (4, .long (q_l 0)), (0, .ref p0), (1, .long (q_l v1)), (3, .int (q_i v3))]) hX dX10_laysDrift_19 (by decide) rfl ?_
      refine v_sub (lv' := [(0, .ref p0), (1, .long (q_l v1)), (3, .int (q_i v3)), (4, .long (q_l 0)), (6, .long (q_l 0)), (8, .long (q_l 0)), (10, .int (q_i 0))]) [4, 5, 6, 3, 2, 1, 0] rfl ?_
      refine l_X10_laysDrift_21 hX hE (fun w22 w23 w24 w25 hk => ?_) 100 _ _ _ _ hf
      clear hf
      have hf := hk
      clear hk
      refine v_aload_n 0 0 hX dX10_laysDrift_106 rfl rfl ?_
      obtain ⟨g26, hf⟩ := q_gd_some hf
      obtain ⟨g27, hf⟩ := q_gd_some hf
      refine v_getA hX fa_RX10_32 (fun _ _ => rfl) g26 g27 (by decide) dX10_laysDrift_107 ?_
      refine v_iload_n 3 2 hX dX10_laysDrift_110 rfl rfl ?_
      refine v_aload_n 0 0 hX dX10_laysDrift_111 rfl rfl ?_
      refine v_getI hX fa_RX10_58 (fun _ _ => rfl) g26 dX10_laysDrift_112 ?_
      obtain ⟨g28, hf⟩ := q_gd_some hf
      refine v_i2l hX g28 dX10_laysDrift_115 ?_
      refine v_lload 5 hX dX10_laysDrift_116 rfl ?_
      refine v_lmul hX dX10_laysDrift_118 ?_
      refine v_lload 3 hX dX10_laysDrift_119 rfl ?_
      refine v_lload 4 hX dX10_laysDrift_121 rfl ?_
      refine v_lmul hX dX10_laysDrift_123 ?_
      refine v_lsub hX dX10_laysDrift_124 ?_
      obtain ⟨g29, hf⟩ := q_gd_some hf
      refine v_lastore hX g27 g29 dX10_laysDrift_125 ?_
      obtain ⟨I30, e31, hf⟩ := q_lt_nm hf
      rw [e31]
      refine v_aload_n 0 0 hX dX10_laysDrift_126 rfl rfl ?_
      refine v_getA hX fa_RX10_32 (fun _ _ => rfl) g26 g27 (by decide) dX10_laysDrift_127 ?_
      refine v_iload_n 3 2 hX dX10_laysDrift_130 rfl rfl ?_
      refine v_laload hX g27 g29 dX10_laysDrift_131 ?_
      refine v_lconst 0 hX dX10_laysDrift_132 (by decide) ?_
      obtain ⟨g32, hf⟩ := q_gd_some hf
      refine v_lcmp hX g32 (by unfold r_l; omega) dX10_laysDrift_133 ?_
      refine v_ifc_ge (tgt := 147) hX dX10_laysDrift_134 (by decide) (fun c33 => ?_) (fun c33 => ?_)
      · replace hf := q_ifp c33 hf
        refine v_aload_n 0 0 hX dX10_laysDrift_147 rfl rfl ?_
        refine v_getA hX fa_RX10_32 (fun _ _ => rfl) g26 g27 (by decide) dX10_laysDrift_148 ?_
        refine v_iload_n 3 2 hX dX10_laysDrift_151 rfl rfl ?_
        refine v_laload hX g27 g29 dX10_laysDrift_152 ?_
        obtain ⟨x34, e35, hf⟩ := q_lt_nm hf
        rw [e35]
        refine v_lstore (lw := [(10, .long (q_l x34)), (0, .ref p0), (1, .long (q_l v1)), (3, .int (q_i v3)), (4, .long (q_l w22)), (6, .long (q_l w23)), (8, .long (q_l w24))]) hX dX10_laysDrift_153 (by decide) rfl ?_
        refine v_lload 0 hX dX10_laysDrift_155 rfl ?_
        refine v_lload_n 1 2 hX dX10_laysDrift_157 rfl rfl ?_
        obtain ⟨g36, hf⟩ := q_gd_some hf
        obtain ⟨g37, hf⟩ := q_gd_some hf
        refine v_lcmp hX g36 g37 dX10_laysDrift_158 ?_
        refine v_ifc_le (tgt := 167) hX dX10_laysDrift_159 (by decide) (fun c38 => ?_) (fun c38 => ?_)
        · replace hf := q_ifp c38 hf
          refine v_lload_n 1 2 hX dX10_laysDrift_167 rfl rfl ?_
          refine v_lstore_n 1 (lw := [(1, .long (q_l v1)), (10, .long (q_l x34)), (0, .ref p0), (3, .int (q_i v3)), (4, .long (q_l w22)), (6, .long (q_l w23)), (8, .long (q_l w24))]) hX dX10_laysDrift_168 rfl (by decide) rfl ?_
          refine v_iinc 3 (lw := [(3, .int (q_i (v3 + 1))), (1, .long (q_l v1)), (10, .long (q_l x34)), (0, .ref p0), (4, .long (q_l w22)), (6, .long (q_l w23)), (8, .long (q_l w24))]) hX dX10_laysDrift_169 rfl (by decide) rfl ?_
          refine v_goto (tgt := 4) hX dX10_laysDrift_172 (by decide) ?_
          refine v_sub (lv' := [(0, .ref p0), (1, .long (q_l v1)), (3, .int (q_i (v3 + 1)))]) [3, 1, 0] rfl ?_
          exact ih _ _ _ hf
        · replace hf := q_ifn c38 hf
          refine v_lload 0 hX dX10_laysDrift_162 rfl ?_
          refine v_goto (tgt := 168) hX dX10_laysDrift_164 (by decide) ?_
          refine v_lstore_n 1 (lw := [(1, .long (q_l x34)), (10, .long (q_l x34)), (0, .ref p0), (3, .int (q_i v3)), (4, .long (q_l w22)), (6, .long (q_l w23)), (8, .long (q_l w24))]) hX dX10_laysDrift_168 rfl (by decide) rfl ?_
          refine v_iinc 3 (lw := [(3, .int (q_i (v3 + 1))), (1, .long (q_l x34)), (10, .long (q_l x34)), (0, .ref p0), (4, .long (q_l w22)), (6, .long (q_l w23)), (8, .long (q_l w24))]) hX dX10_laysDrift_169 rfl (by decide) rfl ?_
          refine v_goto (tgt := 4) hX dX10_laysDrift_172 (by decide) ?_
          refine v_sub (lv' := [(0, .ref p0), (1, .long (q_l x34)), (3, .int (q_i (v3 + 1)))]) [3, 1, 0] rfl ?_
          exact ih _ _ _ hf
      · replace hf := q_ifn c33 hf
        refine v_aload_n 0 0 hX dX10_laysDrift_137 rfl rfl ?_
        refine v_getA hX fa_RX10_32 (fun _ _ => rfl) g26 g27 (by decide) dX10_laysDrift_138 ?_
        refine v_iload_n 3 2 hX dX10_laysDrift_141 rfl rfl ?_
        refine v_laload hX g27 g29 dX10_laysDrift_142 ?_
        refine v_lneg hX dX10_laysDrift_143 ?_
        refine v_goto (tgt := 153) hX dX10_laysDrift_144 (by decide) ?_
        obtain ⟨x39, e40, hf⟩ := q_lt_nm hf
        rw [e40]
        refine v_lstore (lw := [(10, .long (q_l x39)), (0, .ref p0), (1, .long (q_l v1)), (3, .int (q_i v3)), (4, .long (q_l w22)), (6, .long (q_l w23)), (8, .long (q_l w24))]) hX dX10_laysDrift_153 (by decide) rfl ?_
        refine v_lload 0 hX dX10_laysDrift_155 rfl ?_
        refine v_lload_n 1 2 hX dX10_laysDrift_157 rfl rfl ?_
        obtain ⟨g41, hf⟩ := q_gd_some hf
        obtain ⟨g42, hf⟩ := q_gd_some hf
        refine v_lcmp hX g41 g42 dX10_laysDrift_158 ?_
        refine v_ifc_le (tgt := 167) hX dX10_laysDrift_159 (by decide) (fun c43 => ?_) (fun c43 => ?_)
        · replace hf := q_ifp c43 hf
          refine v_lload_n 1 2 hX dX10_laysDrift_167 rfl rfl ?_
          refine v_lstore_n 1 (lw := [(1, .long (q_l v1)), (10, .long (q_l x39)), (0, .ref p0), (3, .int (q_i v3)), (4, .long (q_l w22)), (6, .long (q_l w23)), (8, .long (q_l w24))]) hX dX10_laysDrift_168 rfl (by decide) rfl ?_
          refine v_iinc 3 (lw := [(3, .int (q_i (v3 + 1))), (1, .long (q_l v1)), (10, .long (q_l x39)), (0, .ref p0), (4, .long (q_l w22)), (6, .long (q_l w23)), (8, .long (q_l w24))]) hX dX10_laysDrift_169 rfl (by decide) rfl ?_
          refine v_goto (tgt := 4) hX dX10_laysDrift_172 (by decide) ?_
          refine v_sub (lv' := [(0, .ref p0), (1, .long (q_l v1)), (3, .int (q_i (v3 + 1)))]) [3, 1, 0] rfl ?_
          exact ih _ _ _ hf
        · replace hf := q_ifn c43 hf
          refine v_lload 0 hX dX10_laysDrift_162 rfl ?_
          refine v_goto (tgt := 168) hX dX10_laysDrift_164 (by decide) ?_
          refine v_lstore_n 1 (lw := [(1, .long (q_l x39)), (10, .long (q_l x39)), (0, .ref p0), (3, .int (q_i v3)), (4, .long (q_l w22)), (6, .long (q_l w23)), (8, .long (q_l w24))]) hX dX10_laysDrift_168 rfl (by decide) rfl ?_
          refine v_iinc 3 (lw := [(3, .int (q_i (v3 + 1))), (1, .long (q_l x39)), (10, .long (q_l x39)), (0, .ref p0), (4, .long (q_l w22)), (6, .long (q_l w23)), (8, .long (q_l w24))]) hX dX10_laysDrift_169 rfl (by decide) rfl ?_
          refine v_goto (tgt := 4) hX dX10_laysDrift_172 (by decide) ?_
          refine v_sub (lv' := [(0, .ref p0), (1, .long (q_l x39)), (3, .int (q_i (v3 + 1)))]) [3, 1, 0] rfl ?_
          exact ih _ _ _ hf
set_option maxRecDepth 20000 in
theorem l_X10_laysDrift_192 {X : q_X} {S : q_S} {R : q_HR} {p0 : Nat} {p1 : Int} {Iz : q_HI} (hX : q_C X cX10_laysDrift 12 RX10 none "laysDrift") (hE : q_E X 0 0 none S R Iz) {k : Int → q_HI → Option (q_HI)} (hk : ∀ (v3 : Int) (I : q_HI), k v3 I = some Iz → q_V X rmX10_laysDrift cX10_laysDrift 12 0 0 233 [] [] S R I) :
    ∀ (n : Nat), ∀ (v3 : Int) (I : q_HI), f_X10_laysDrift_L192 S R p0 p1 k n v3 I = some Iz → q_V X rmX10_laysDrift cX10_laysDrift 12 0 0 192 [(0, .ref p0), (1, .long (q_l p1)), (3, .int (q_i v3))] [] S R I := by
  intro n
  induction n with
  | zero =>
    intro v3 I hf
    cases (show (none : Option (q_HI)) = some _ from hf)
  | succ n ih =>
    intro v3 I hf
    rw [f_X10_laysDrift_L192] at hf
    refine v_iload_n 3 2 hX dX10_laysDrift_192 rfl rfl ?_
    refine v_iconst hX dX10_laysDrift_193 ?_
    obtain ⟨g52, hf⟩ := q_gd_some hf
    refine v_icmp_ge (tgt := 233) hX g52 (by unfold r_i; omega) dX10_laysDrift_194 (by decide) (fun c53 => ?_) (fun c53 => ?_)
    · replace hf := q_ifp c53 hf
      refine v_sub (lv' := []) [] rfl ?_
      exact hk _ _ hf
    · replace hf := q_ifn c53 hf
      refine v_aload_n 0 0 hX dX10_laysDrift_197 rfl rfl ?_
      obtain ⟨g54, hf⟩ := q_gd_some hf
      obtain ⟨g55, hf⟩ := q_gd_some hf
      refine v_getA hX fa_RX10_29 (fun _ _ => rfl) g54 g55 (by decide) dX10_laysDrift_198 ?_
      refine v_iload_n 3 2 hX dX10_laysDrift_201 rfl rfl ?_
      refine v_aload_n 0 0 hX dX10_laysDrift_202 rfl rfl ?_
      refine v_getI hX fa_RX10_138 (fun _ _ => rfl) g54 dX10_laysDrift_203 ?_
      obtain ⟨g56, hf⟩ := q_gd_some hf
      refine v_if_eq (tgt := 225) hX g56 dX10_laysDrift_206 (by decide) (fun c57 => ?_) (fun c57 => ?_)
      · replace hf := q_ifp c57 hf
        refine v_iconst hX dX10_laysDrift_225 ?_
        obtain ⟨g58, hf⟩ := q_gd_some hf
        refine v_iastore hX g55 g58 dX10_laysDrift_226 ?_
        obtain ⟨I59, e60, hf⟩ := q_lt_nm hf
        rw [e60]
        refine v_iinc 2 (lw := [(3, .int (q_i (v3 + 1))), (0, .ref p0), (1, .long (q_l p1))]) hX dX10_laysDrift_227 rfl (by decide) rfl ?_
        refine v_goto (tgt := 192) hX dX10_laysDrift_230 (by decide) ?_
        refine v_sub (lv' := [(0, .ref p0), (1, .long (q_l p1)), (3, .int (q_i (v3 + 1)))]) [1, 2, 0] rfl ?_
        exact ih _ _ hf
      · replace hf := q_ifn c57 hf
        refine v_aload_n 0 0 hX dX10_laysDrift_209 rfl rfl ?_
        obtain ⟨g61, hf⟩ := q_gd_some hf
        refine v_getA hX fa_RX10_32 (fun _ _ => rfl) g54 g61 (by decide) dX10_laysDrift_210 ?_
        refine v_iload_n 3 2 hX dX10_laysDrift_213 rfl rfl ?_
        obtain ⟨g62, hf⟩ := q_gd_some hf
        refine v_laload hX g61 g62 dX10_laysDrift_214 ?_
        refine v_ldc2 1000 hX kl_RX10_125 (by decide) dX10_laysDrift_215 ?_
        refine v_lmul hX dX10_laysDrift_218 ?_
        refine v_lload_n 1 1 hX dX10_laysDrift_219 rfl rfl ?_
        obtain ⟨g63, hf⟩ := q_gd_some hf
        obtain ⟨g64, hf⟩ := q_gd_some hf
        obtain ⟨g65, hf⟩ := q_gd_some hf
        refine v_ldiv hX g63 g64 g65 dX10_laysDrift_220 ?_
        refine v_l2i hX dX10_laysDrift_221 ?_
        refine v_goto (tgt := 226) hX dX10_laysDrift_222 (by decide) ?_
        obtain ⟨g66, hf⟩ := q_gd_some hf
        refine v_iastore hX g55 g66 dX10_laysDrift_226 ?_
        obtain ⟨I67, e68, hf⟩ := q_lt_nm hf
        rw [e68]
        refine v_iinc 2 (lw := [(3, .int (q_i (v3 + 1))), (0, .ref p0), (1, .long (q_l p1))]) hX dX10_laysDrift_227 rfl (by decide) rfl ?_
        refine v_goto (tgt := 192) hX dX10_laysDrift_230 (by decide) ?_
        refine v_sub (lv' := [(0, .ref p0), (1, .long (q_l p1)), (3, .int (q_i (v3 + 1)))]) [1, 2, 0] rfl ?_
        exact ih _ _ hf
set_option maxRecDepth 20000 in
theorem c_X10_laysDrift {S : q_S} {R : q_HR} {I : q_HI} {a0 : Nat} {Iz : q_HI} (hf : f_X10_laysDrift S R I a0 = some Iz) : ∀ (l : Launch) (D : va_G) (cy : Nat → ClassId) (B : Nat), Met l yX10_laysDrift [Cond.code yX10_laysDrift cX10_laysDrift 12 none] rmX10_laysDrift (q_Pc B D cy [.ref a0] S R I) (q_Qc B D cy none S R Iz) 0 0 (fun q => B ≤ q) := by
  refine q_met (lv := [(0, .ref a0)]) (own := RX10) (nm := "laysDrift") (by decide) rfl rfl (Nat.le_of_ble_eq_true rfl) rfl (fun X hX hE => ?_)
  unfold f_X10_laysDrift at hf
  refine v_lconst 0 hX dX10_laysDrift_0 (by decide) ?_
  refine v_lstore_n 1 (lw := [(1, .long (q_l 0)), (0, .ref a0)]) hX dX10_laysDrift_1 rfl (by decide) rfl ?_
  refine v_iconst hX dX10_laysDrift_2 ?_
  refine v_istore_n 3 (lw := [(3, .int (q_i 0)), (1, .long (q_l 0)), (0, .ref a0)]) hX dX10_laysDrift_3 rfl (by decide) rfl ?_
  refine v_sub (lv' := [(0, .ref a0), (1, .long (q_l 0)), (3, .int (q_i 0))]) [2, 1, 0] rfl ?_
  refine l_X10_laysDrift_4 hX hE (fun w44 w45 I46 hk => ?_) 100 _ _ _ hf
  clear hf
  have hf := hk
  clear hk
  refine v_aload_n 0 0 hX dX10_laysDrift_175 rfl rfl ?_
  refine v_lload_n 1 1 hX dX10_laysDrift_176 rfl rfl ?_
  refine v_lconst 0 hX dX10_laysDrift_177 (by decide) ?_
  obtain ⟨g47, hf⟩ := q_gd_some hf
  refine v_lcmp hX g47 (by unfold r_l; omega) dX10_laysDrift_178 ?_
  refine v_ifc_le (tgt := 186) hX dX10_laysDrift_179 (by decide) (fun c48 => ?_) (fun c48 => ?_)
  · replace hf := q_ifp c48 hf
    refine v_iconst hX dX10_laysDrift_186 ?_
    obtain ⟨g49, hf⟩ := q_gd_some hf
    refine v_putZ hX fa_RX10_138 rfl (Or.inl rfl) g49 dX10_laysDrift_187 ?_
    obtain ⟨I50, e51, hf⟩ := q_lt_nm hf
    rw [e51]
    refine v_iconst hX dX10_laysDrift_190 ?_
    refine v_istore_n 3 (lw := [(3, .int (q_i 0)), (0, .ref a0), (1, .long (q_l w44))]) hX dX10_laysDrift_191 rfl (by decide) rfl ?_
    refine v_sub (lv' := [(0, .ref a0), (1, .long (q_l w44)), (3, .int (q_i 0))]) [1, 2, 0] rfl ?_
    refine l_X10_laysDrift_192 hX hE (fun w69 I70 hk => ?_) 100 _ _ hf
    clear hf
    have hf := hk
    clear hk
    cases hf
    exact v_vret hX hE (Nat.le_of_ble_eq_true rfl) (Nat.le_of_ble_eq_true rfl) dX10_laysDrift_233
  · replace hf := q_ifn c48 hf
    refine v_iconst hX dX10_laysDrift_182 ?_
    refine v_goto (tgt := 187) hX dX10_laysDrift_183 (by decide) ?_
    obtain ⟨g71, hf⟩ := q_gd_some hf
    refine v_putZ hX fa_RX10_138 rfl (Or.inr rfl) g71 dX10_laysDrift_187 ?_
    obtain ⟨I72, e73, hf⟩ := q_lt_nm hf
    rw [e73]
    refine v_iconst hX dX10_laysDrift_190 ?_
    refine v_istore_n 3 (lw := [(3, .int (q_i 0)), (0, .ref a0), (1, .long (q_l w44))]) hX dX10_laysDrift_191 rfl (by decide) rfl ?_
    refine v_sub (lv' := [(0, .ref a0), (1, .long (q_l w44)), (3, .int (q_i 0))]) [1, 2, 0] rfl ?_
    refine l_X10_laysDrift_192 hX hE (fun w74 I75 hk => ?_) 100 _ _ hf
    clear hf
    have hf := hk
    clear hk
    cases hf
    exact v_vret hX hE (Nat.le_of_ble_eq_true rfl) (Nat.le_of_ble_eq_true rfl) dX10_laysDrift_233
noncomputable def f_X10_lays_L21 (S : q_S) (R : q_HR) (p0 : Nat) (p1 : Int) (p2 : Int) (k : Int → q_HI → Option (q_HI)) : Nat → Int → q_HI → Option (q_HI)
  | 0, _, _ => none
  | n + 1, v3, I => q_gd (r_i v3) (if 5 ≤ v3 then k v3 I else q_gd (S.1 p0 = 11) (q_gd (S.1 (R p0 16) = 12) (q_gd (r_i (I p0 1)) (if I p0 1 ≤ v3 then q_gd ((0 : Int) ≤ (5 * p2) + v3 ∧ (5 * p2) + v3 < (S.2.1 (R p0 16) : Int)) (q_lt (q_up I (R p0 16) (Int.toNat ((5 * p2) + v3)) 0) fun I15 => f_X10_lays_L21 S R p0 p1 p2 k n (v3 + 1) I15) else q_bd2 (f_X10_featureOf S R I p0 p2 v3) fun r17 I18 => q_gd ((0 : Int) ≤ (5 * p2) + v3 ∧ (5 * p2) + v3 < (S.2.1 (R p0 16) : Int)) (q_lt (q_up I18 (R p0 16) (Int.toNat ((5 * p2) + v3)) r17) fun I21 => f_X10_lays_L21 S R p0 p1 p2 k n (v3 + 1) I21)))))
noncomputable def f_X10_lays_L2 (S : q_S) (R : q_HR) (p0 : Nat) (p1 : Int) (k : Int → q_HI → Option (q_HI)) : Nat → Int → q_HI → Option (q_HI)
  | 0, _, _ => none
  | n + 1, v2, I => q_gd (r_i v2) (if 87 ≤ v2 then k v2 I else q_gd (S.1 p0 = 11) (q_bd (f_X10_isPlace S R I p0 v2) fun r4 => q_gd (r_i r4) (if r4 = 0 then f_X10_lays_L2 S R p0 p1 k n (v2 + 1) I else f_X10_lays_L21 S R p0 p1 v2 (fun w23 I24 => f_X10_lays_L2 S R p0 p1 k n (v2 + 1) I24) 100 0 I)))
noncomputable def f_X10_lays_L93 (S : q_S) (R : q_HR) (p0 : Nat) (p1 : Int) (p2 : Int) (k : Int → q_HI → Option (q_HI)) : Nat → Int → q_HI → Option (q_HI)
  | 0, _, _ => none
  | n + 1, v3, I => q_gd (r_i v3) (if 87 ≤ v3 then k v3 I else q_gd (S.1 p0 = 11) (q_gd (S.1 (R p0 16) = 12) (q_gd ((0 : Int) ≤ (5 * v3) + p2 ∧ (5 * v3) + p2 < (S.2.1 (R p0 16) : Int)) (q_lt (q_up I (R p0 16) (Int.toNat ((5 * v3) + p2)) 0) fun I41 => f_X10_lays_L93 S R p0 p1 p2 k n (v3 + 1) I41))))
noncomputable def f_X10_lays_L72 (S : q_S) (R : q_HR) (p0 : Nat) (p1 : Int) (k : Int → q_HI → Option (q_HI)) : Nat → Int → q_HI → Option (q_HI)
  | 0, _, _ => none
  | n + 1, v2, I => q_gd (S.1 p0 = 11) (q_gd (r_i v2) (q_gd (r_i (I p0 1)) (if I p0 1 ≤ v2 then k v2 I else q_gd (r_i (q_and (q_shr p1 v2) 1)) (if q_and (q_shr p1 v2) 1 = 0 then f_X10_lays_L72 S R p0 p1 k n (v2 + 1) I else f_X10_lays_L93 S R p0 p1 v2 (fun w43 I44 => q_gd (S.1 (R p0 17) = 12) (q_gd ((0 : Int) ≤ v2 ∧ v2 < (S.2.1 (R p0 17) : Int)) (q_lt (q_up I44 (R p0 17) (Int.toNat v2) 0) fun I47 => f_X10_lays_L72 S R p0 p1 k n (v2 + 1) I47))) 100 0 I))))
noncomputable def f_X10_lays_L134 (S : q_S) (R : q_HR) (I : q_HI) (p0 : Nat) (k : Int → Int → Option (q_HI)) : Nat → Int → Int → Option (q_HI)
  | 0, _, _ => none
  | n + 1, v2, v4 => q_gd (S.1 p0 = 11) (q_gd (r_i v4) (q_gd (r_i (I p0 1)) (if I p0 1 ≤ v4 then k v2 v4 else q_gd (S.1 (R p0 17) = 12) (q_gd ((0 : Int) ≤ v4 ∧ v4 < (S.2.1 (R p0 17) : Int)) (q_gd (r_i ((I (R p0 17) (Int.toNat v4)) * (I (R p0 17) (Int.toNat v4)))) (q_lt (v2 + ((I (R p0 17) (Int.toNat v4)) * (I (R p0 17) (Int.toNat v4)))) fun x58 => f_X10_lays_L134 S R I p0 k n x58 (v4 + 1)))))))
noncomputable def f_X10_lays (S : q_S) (R : q_HR) (I : q_HI) (a0 : Nat) (a1 : Int) : Option (q_HI) := f_X10_lays_L2 S R a0 a1 (fun w25 I26 => q_gd (S.1 a0 = 11) (q_bd (f_X10_laysDrift S R I26 a0) fun I28 => f_X10_lays_L72 S R a0 a1 (fun w49 I50 => f_X10_lays_L134 S R I50 a0 (fun w60 w61 => q_gd (r_i (I50 a0 9)) (if I50 a0 9 = 0 then q_lt (q_up I50 a0 18 0) fun I64 => some I64 else q_gd (r_l w60) (if w60 ≤ 0 then q_lt (q_up I50 a0 18 0) fun I68 => some I68 else q_lt (q_up I50 a0 18 1) fun I70 => some I70))) 100 0 0) 100 0 I28)) 100 0 I
abbrev rmX10_lays : Room := { frames := 3, cells := 0, slots := 0, locals := 81 }
set_option maxRecDepth 20000 in
theorem l_X10_lays_21 {X : q_X} {S : q_S} {R : q_HR} {p0 : Nat} {p1 : Int} {p2 : Int} {Iz : q_HI} (hX : q_C X cX10_lays 5 RX10 none "lays") (hE : q_E X 0 0 none S R Iz) {k : Int → q_HI → Option (q_HI)} (hk : ∀ (v3 : Int) (I : q_HI), k v3 I = some Iz → q_V X rmX10_lays cX10_lays 5 0 0 60 [(0, .ref p0), (1, .int (q_i p1)), (2, .int (q_i p2))] [] S R I) :
    ∀ (n : Nat), ∀ (v3 : Int) (I : q_HI), f_X10_lays_L21 S R p0 p1 p2 k n v3 I = some Iz → q_V X rmX10_lays cX10_lays 5 0 0 21 [(0, .ref p0), (1, .int (q_i p1)), (2, .int (q_i p2)), (3, .int (q_i v3))] [] S R I := by
  intro n
  induction n with
  | zero =>
    intro v3 I hf
    cases (show (none : Option (q_HI)) = some _ from hf)
  | succ n ih =>
    intro v3 I hf
    rw [f_X10_lays_L21] at hf
    refine v_iload_n 3 3 hX dX10_lays_21 rfl rfl ?_
    refine v_iconst hX dX10_lays_22 ?_
    obtain ⟨g8, hf⟩ := q_gd_some hf
    refine v_icmp_ge (tgt := 60) hX g8 (by unfold r_i; omega) dX10_lays_23 (by decide) (fun c9 => ?_) (fun c9 => ?_)
    · replace hf := q_ifp c9 hf
      refine v_sub (lv' := [(0, .ref p0), (1, .int (q_i p1)), (2, .int (q_i p2))]) [0, 1, 2] rfl ?_
      exact hk _ _ hf
    · replace hf := q_ifn c9 hf
      refine v_aload_n 0 0 hX dX10_lays_26 rfl rfl ?_
      obtain ⟨g10, hf⟩ := q_gd_some hf
      obtain ⟨g11, hf⟩ := q_gd_some hf
      refine v_getA hX fa_RX10_26 (fun _ _ => rfl) g10 g11 (by decide) dX10_lays_27 ?_
      refine v_iconst hX dX10_lays_30 ?_
      refine v_iload_n 2 2 hX dX10_lays_31 rfl rfl ?_
      refine v_imul hX dX10_lays_32 ?_
      refine v_iload_n 3 3 hX dX10_lays_33 rfl rfl ?_
      refine v_iadd hX dX10_lays_34 ?_
      refine v_iload_n 3 3 hX dX10_lays_35 rfl rfl ?_
      refine v_aload_n 0 0 hX dX10_lays_36 rfl rfl ?_
      refine v_getI hX fa_RX10_52 (fun _ _ => rfl) g10 dX10_lays_37 ?_
      obtain ⟨g12, hf⟩ := q_gd_some hf
      refine v_icmp_ge (tgt := 52) hX g8 g12 dX10_lays_40 (by decide) (fun c13 => ?_) (fun c13 => ?_)
      · replace hf := q_ifp c13 hf
        refine v_iconst hX dX10_lays_52 ?_
        obtain ⟨g14, hf⟩ := q_gd_some hf
        refine v_iastore hX g11 g14 dX10_lays_53 ?_
        obtain ⟨I15, e16, hf⟩ := q_lt_nm hf
        rw [e16]
        refine v_iinc 3 (lw := [(3, .int (q_i (v3 + 1))), (0, .ref p0), (1, .int (q_i p1)), (2, .int (q_i p2))]) hX dX10_lays_54 rfl (by decide) rfl ?_
        refine v_goto (tgt := 21) hX dX10_lays_57 (by decide) ?_
        refine v_sub (lv' := [(0, .ref p0), (1, .int (q_i p1)), (2, .int (q_i p2)), (3, .int (q_i (v3 + 1)))]) [1, 2, 3, 0] rfl ?_
        exact ih _ _ hf
      · replace hf := q_ifn c13 hf
        refine v_aload_n 0 0 hX dX10_lays_43 rfl rfl ?_
        refine v_iload_n 2 2 hX dX10_lays_44 rfl rfl ?_
        refine v_iload_n 3 3 hX dX10_lays_45 rfl rfl ?_
        obtain ⟨r17, I18, h19, hf⟩ := q_bd2_some hf
        refine v_callV (As := [.int (q_i p2), .int (q_i v3)]) (rest := [.int (q_i ((5 * p2) + v3)), .ref (R p0 16)]) (st1 := [.int (q_i r17), .int (q_i ((5 * p2) + v3)), .ref (R p0 16)]) (some (.int (q_i r17))) hX mv_RX10_118 (c_X10_featureOf h19) ⟨rfl, rfl⟩ ⟨Nat.le_of_ble_eq_true rfl, Nat.le_of_ble_eq_true rfl⟩ g10 rfl rfl (Nat.le_of_ble_eq_true rfl) ⟨Nat.le_of_ble_eq_true rfl, Nat.le_of_ble_eq_true rfl⟩ dX10_lays_46 rfl ?_
        refine v_goto (tgt := 53) hX dX10_lays_49 (by decide) ?_
        obtain ⟨g20, hf⟩ := q_gd_some hf
        refine v_iastore hX g11 g20 dX10_lays_53 ?_
        obtain ⟨I21, e22, hf⟩ := q_lt_nm hf
        rw [e22]
        refine v_iinc 3 (lw := [(3, .int (q_i (v3 + 1))), (0, .ref p0), (1, .int (q_i p1)), (2, .int (q_i p2))]) hX dX10_lays_54 rfl (by decide) rfl ?_
        refine v_goto (tgt := 21) hX dX10_lays_57 (by decide) ?_
        refine v_sub (lv' := [(0, .ref p0), (1, .int (q_i p1)), (2, .int (q_i p2)), (3, .int (q_i (v3 + 1)))]) [1, 2, 3, 0] rfl ?_
        exact ih _ _ hf
set_option maxRecDepth 20000 in
theorem l_X10_lays_2 {X : q_X} {S : q_S} {R : q_HR} {p0 : Nat} {p1 : Int} {Iz : q_HI} (hX : q_C X cX10_lays 5 RX10 none "lays") (hE : q_E X 0 0 none S R Iz) {k : Int → q_HI → Option (q_HI)} (hk : ∀ (v2 : Int) (I : q_HI), k v2 I = some Iz → q_V X rmX10_lays cX10_lays 5 0 0 66 [(0, .ref p0), (1, .int (q_i p1))] [] S R I) :
    ∀ (n : Nat), ∀ (v2 : Int) (I : q_HI), f_X10_lays_L2 S R p0 p1 k n v2 I = some Iz → q_V X rmX10_lays cX10_lays 5 0 0 2 [(0, .ref p0), (1, .int (q_i p1)), (2, .int (q_i v2))] [] S R I := by
  intro n
  induction n with
  | zero =>
    intro v2 I hf
    cases (show (none : Option (q_HI)) = some _ from hf)
  | succ n ih =>
    intro v2 I hf
    rw [f_X10_lays_L2] at hf
    refine v_iload_n 2 2 hX dX10_lays_2 rfl rfl ?_
    refine v_bipush 87 hX dX10_lays_3 (by decide) ?_
    obtain ⟨g1, hf⟩ := q_gd_some hf
    refine v_icmp_ge (tgt := 66) hX g1 (by unfold r_i; omega) dX10_lays_5 (by decide) (fun c2 => ?_) (fun c2 => ?_)
    · replace hf := q_ifp c2 hf
      refine v_sub (lv' := [(0, .ref p0), (1, .int (q_i p1))]) [0, 1] rfl ?_
      exact hk _ _ hf
    · replace hf := q_ifn c2 hf
      refine v_aload_n 0 0 hX dX10_lays_8 rfl rfl ?_
      refine v_iload_n 2 2 hX dX10_lays_9 rfl rfl ?_
      obtain ⟨g3, hf⟩ := q_gd_some hf
      obtain ⟨r4, h5, hf⟩ := q_bd_some hf
      refine v_callV (As := [.int (q_i v2)]) (rest := []) (st1 := [.int (q_i r4)]) (some (.int (q_i r4))) hX mv_RX10_129 (c_X10_isPlace h5) ⟨rfl, rfl⟩ ⟨Nat.le_of_ble_eq_true rfl, Nat.le_of_ble_eq_true rfl⟩ g3 rfl rfl (Nat.le_of_ble_eq_true rfl) ⟨Nat.le_of_ble_eq_true rfl, Nat.le_of_ble_eq_true rfl⟩ dX10_lays_10 rfl ?_
      obtain ⟨g6, hf⟩ := q_gd_some hf
      refine v_if_ne (tgt := 19) hX g6 dX10_lays_13 (by decide) (fun c7 => ?_) (fun c7 => ?_)
      · replace hf := q_ifp c7 hf
        refine v_goto (tgt := 60) hX dX10_lays_16 (by decide) ?_
        refine v_iinc 2 (lw := [(2, .int (q_i (v2 + 1))), (0, .ref p0), (1, .int (q_i p1))]) hX dX10_lays_60 rfl (by decide) rfl ?_
        refine v_goto (tgt := 2) hX dX10_lays_63 (by decide) ?_
        refine v_sub (lv' := [(0, .ref p0), (1, .int (q_i p1)), (2, .int (q_i (v2 + 1)))]) [1, 2, 0] rfl ?_
        exact ih _ _ hf
      · replace hf := q_ifn c7 hf
        refine v_iconst hX dX10_lays_19 ?_
        refine v_istore_n 3 (lw := [(3, .int (q_i 0)), (0, .ref p0), (1, .int (q_i p1)), (2, .int (q_i v2))]) hX dX10_lays_20 rfl (by decide) rfl ?_
        refine v_sub (lv' := [(0, .ref p0), (1, .int (q_i p1)), (2, .int (q_i v2)), (3, .int (q_i 0))]) [1, 2, 3, 0] rfl ?_
        refine l_X10_lays_21 hX hE (fun w23 I24 hk => ?_) 100 _ _ hf
        clear hf
        have hf := hk
        clear hk
        refine v_iinc 2 (lw := [(2, .int (q_i (v2 + 1))), (0, .ref p0), (1, .int (q_i p1))]) hX dX10_lays_60 rfl (by decide) rfl ?_
        refine v_goto (tgt := 2) hX dX10_lays_63 (by decide) ?_
        refine v_sub (lv' := [(0, .ref p0), (1, .int (q_i p1)), (2, .int (q_i (v2 + 1)))]) [1, 2, 0] rfl ?_
        exact ih _ _ hf
set_option maxRecDepth 20000 in
theorem l_X10_lays_93 {X : q_X} {S : q_S} {R : q_HR} {p0 : Nat} {p1 : Int} {p2 : Int} {Iz : q_HI} (hX : q_C X cX10_lays 5 RX10 none "lays") (hE : q_E X 0 0 none S R Iz) {k : Int → q_HI → Option (q_HI)} (hk : ∀ (v3 : Int) (I : q_HI), k v3 I = some Iz → q_V X rmX10_lays cX10_lays 5 0 0 116 [(0, .ref p0), (1, .int (q_i p1)), (2, .int (q_i p2))] [] S R I) :
    ∀ (n : Nat), ∀ (v3 : Int) (I : q_HI), f_X10_lays_L93 S R p0 p1 p2 k n v3 I = some Iz → q_V X rmX10_lays cX10_lays 5 0 0 93 [(0, .ref p0), (1, .int (q_i p1)), (2, .int (q_i p2)), (3, .int (q_i v3))] [] S R I := by
  intro n
  induction n with
  | zero =>
    intro v3 I hf
    cases (show (none : Option (q_HI)) = some _ from hf)
  | succ n ih =>
    intro v3 I hf
    rw [f_X10_lays_L93] at hf
    refine v_iload_n 3 3 hX dX10_lays_93 rfl rfl ?_
    refine v_bipush 87 hX dX10_lays_94 (by decide) ?_
    obtain ⟨g36, hf⟩ := q_gd_some hf
    refine v_icmp_ge (tgt := 116) hX g36 (by unfold r_i; omega) dX10_lays_96 (by decide) (fun c37 => ?_) (fun c37 => ?_)
    · replace hf := q_ifp c37 hf
      refine v_sub (lv' := [(0, .ref p0), (1, .int (q_i p1)), (2, .int (q_i p2))]) [0, 1, 2] rfl ?_
      exact hk _ _ hf
    · replace hf := q_ifn c37 hf
      refine v_aload_n 0 0 hX dX10_lays_99 rfl rfl ?_
      obtain ⟨g38, hf⟩ := q_gd_some hf
      obtain ⟨g39, hf⟩ := q_gd_some hf
      refine v_getA hX fa_RX10_26 (fun _ _ => rfl) g38 g39 (by decide) dX10_lays_100 ?_
      refine v_iconst hX dX10_lays_103 ?_
      refine v_iload_n 3 3 hX dX10_lays_104 rfl rfl ?_
      refine v_imul hX dX10_lays_105 ?_
      refine v_iload_n 2 2 hX dX10_lays_106 rfl rfl ?_
      refine v_iadd hX dX10_lays_107 ?_
      refine v_iconst hX dX10_lays_108 ?_
      obtain ⟨g40, hf⟩ := q_gd_some hf
      refine v_iastore hX g39 g40 dX10_lays_109 ?_
      obtain ⟨I41, e42, hf⟩ := q_lt_nm hf
      rw [e42]
      refine v_iinc 3 (lw := [(3, .int (q_i (v3 + 1))), (0, .ref p0), (1, .int (q_i p1)), (2, .int (q_i p2))]) hX dX10_lays_110 rfl (by decide) rfl ?_
      refine v_goto (tgt := 93) hX dX10_lays_113 (by decide) ?_
      refine v_sub (lv' := [(0, .ref p0), (1, .int (q_i p1)), (2, .int (q_i p2)), (3, .int (q_i (v3 + 1)))]) [1, 2, 3, 0] rfl ?_
      exact ih _ _ hf
set_option maxRecDepth 20000 in
theorem l_X10_lays_72 {X : q_X} {S : q_S} {R : q_HR} {p0 : Nat} {p1 : Int} {Iz : q_HI} (hX : q_C X cX10_lays 5 RX10 none "lays") (hE : q_E X 0 0 none S R Iz) {k : Int → q_HI → Option (q_HI)} (hk : ∀ (v2 : Int) (I : q_HI), k v2 I = some Iz → q_V X rmX10_lays cX10_lays 5 0 0 129 [(0, .ref p0)] [] S R I) :
    ∀ (n : Nat), ∀ (v2 : Int) (I : q_HI), f_X10_lays_L72 S R p0 p1 k n v2 I = some Iz → q_V X rmX10_lays cX10_lays 5 0 0 72 [(0, .ref p0), (1, .int (q_i p1)), (2, .int (q_i v2))] [] S R I := by
  intro n
  induction n with
  | zero =>
    intro v2 I hf
    cases (show (none : Option (q_HI)) = some _ from hf)
  | succ n ih =>
    intro v2 I hf
    rw [f_X10_lays_L72] at hf
    refine v_iload_n 2 2 hX dX10_lays_72 rfl rfl ?_
    refine v_aload_n 0 0 hX dX10_lays_73 rfl rfl ?_
    obtain ⟨g30, hf⟩ := q_gd_some hf
    refine v_getI hX fa_RX10_52 (fun _ _ => rfl) g30 dX10_lays_74 ?_
    obtain ⟨g31, hf⟩ := q_gd_some hf
    obtain ⟨g32, hf⟩ := q_gd_some hf
    refine v_icmp_ge (tgt := 129) hX g31 g32 dX10_lays_77 (by decide) (fun c33 => ?_) (fun c33 => ?_)
    · replace hf := q_ifp c33 hf
      refine v_sub (lv' := [(0, .ref p0)]) [0] rfl ?_
      exact hk _ _ hf
    · replace hf := q_ifn c33 hf
      refine v_iload_n 1 1 hX dX10_lays_80 rfl rfl ?_
      refine v_iload_n 2 2 hX dX10_lays_81 rfl rfl ?_
      refine v_ishr hX dX10_lays_82 ?_
      refine v_iconst hX dX10_lays_83 ?_
      refine v_iand hX dX10_lays_84 ?_
      obtain ⟨g34, hf⟩ := q_gd_some hf
      refine v_if_ne (tgt := 91) hX g34 dX10_lays_85 (by decide) (fun c35 => ?_) (fun c35 => ?_)
      · replace hf := q_ifp c35 hf
        refine v_goto (tgt := 123) hX dX10_lays_88 (by decide) ?_
        refine v_iinc 2 (lw := [(2, .int (q_i (v2 + 1))), (0, .ref p0), (1, .int (q_i p1))]) hX dX10_lays_123 rfl (by decide) rfl ?_
        refine v_goto (tgt := 72) hX dX10_lays_126 (by decide) ?_
        refine v_sub (lv' := [(0, .ref p0), (1, .int (q_i p1)), (2, .int (q_i (v2 + 1)))]) [1, 2, 0] rfl ?_
        exact ih _ _ hf
      · replace hf := q_ifn c35 hf
        refine v_iconst hX dX10_lays_91 ?_
        refine v_istore_n 3 (lw := [(3, .int (q_i 0)), (0, .ref p0), (1, .int (q_i p1)), (2, .int (q_i v2))]) hX dX10_lays_92 rfl (by decide) rfl ?_
        refine v_sub (lv' := [(0, .ref p0), (1, .int (q_i p1)), (2, .int (q_i v2)), (3, .int (q_i 0))]) [1, 2, 3, 0] rfl ?_
        refine l_X10_lays_93 hX hE (fun w43 I44 hk => ?_) 100 _ _ hf
        clear hf
        have hf := hk
        clear hk
        refine v_aload_n 0 0 hX dX10_lays_116 rfl rfl ?_
        obtain ⟨g45, hf⟩ := q_gd_some hf
        refine v_getA hX fa_RX10_29 (fun _ _ => rfl) g30 g45 (by decide) dX10_lays_117 ?_
        refine v_iload_n 2 2 hX dX10_lays_120 rfl rfl ?_
        refine v_iconst hX dX10_lays_121 ?_
        obtain ⟨g46, hf⟩ := q_gd_some hf
        refine v_iastore hX g45 g46 dX10_lays_122 ?_
        obtain ⟨I47, e48, hf⟩ := q_lt_nm hf
        rw [e48]
        refine v_iinc 2 (lw := [(2, .int (q_i (v2 + 1))), (0, .ref p0), (1, .int (q_i p1))]) hX dX10_lays_123 rfl (by decide) rfl ?_
        refine v_goto (tgt := 72) hX dX10_lays_126 (by decide) ?_
        refine v_sub (lv' := [(0, .ref p0), (1, .int (q_i p1)), (2, .int (q_i (v2 + 1)))]) [1, 2, 0] rfl ?_
        exact ih _ _ hf
set_option maxRecDepth 20000 in
theorem l_X10_lays_134 {X : q_X} {S : q_S} {R : q_HR} {I : q_HI} {p0 : Nat} {Iz : q_HI} (hX : q_C X cX10_lays 5 RX10 none "lays") (hE : q_E X 0 0 none S R Iz) {k : Int → Int → Option (q_HI)} (hk : ∀ (v2 : Int) (v4 : Int), k v2 v4 = some Iz → q_V X rmX10_lays cX10_lays 5 0 0 168 [(0, .ref p0), (2, .long (q_l v2))] [] S R I) :
    ∀ (n : Nat), ∀ (v2 : Int) (v4 : Int), f_X10_lays_L134 S R I p0 k n v2 v4 = some Iz → q_V X rmX10_lays cX10_lays 5 0 0 134 [(0, .ref p0), (2, .long (q_l v2)), (4, .int (q_i v4))] [] S R I := by
  intro n
  induction n with
  | zero =>
    intro v2 v4 hf
    cases (show (none : Option (q_HI)) = some _ from hf)
  | succ n ih =>
    intro v2 v4 hf
    rw [f_X10_lays_L134] at hf
    refine v_iload 2 hX dX10_lays_134 rfl ?_
    refine v_aload_n 0 0 hX dX10_lays_136 rfl rfl ?_
    obtain ⟨g51, hf⟩ := q_gd_some hf
    refine v_getI hX fa_RX10_52 (fun _ _ => rfl) g51 dX10_lays_137 ?_
    obtain ⟨g52, hf⟩ := q_gd_some hf
    obtain ⟨g53, hf⟩ := q_gd_some hf
    refine v_icmp_ge (tgt := 168) hX g52 g53 dX10_lays_140 (by decide) (fun c54 => ?_) (fun c54 => ?_)
    · replace hf := q_ifp c54 hf
      refine v_sub (lv' := [(0, .ref p0), (2, .long (q_l v2))]) [0, 1] rfl ?_
      exact hk _ _ hf
    · replace hf := q_ifn c54 hf
      refine v_lload_n 2 1 hX dX10_lays_143 rfl rfl ?_
      refine v_aload_n 0 0 hX dX10_lays_144 rfl rfl ?_
      obtain ⟨g55, hf⟩ := q_gd_some hf
      refine v_getA hX fa_RX10_29 (fun _ _ => rfl) g51 g55 (by decide) dX10_lays_145 ?_
      refine v_iload 2 hX dX10_lays_148 rfl ?_
      obtain ⟨g56, hf⟩ := q_gd_some hf
      refine v_iaload hX g55 g56 dX10_lays_150 ?_
      refine v_aload_n 0 0 hX dX10_lays_151 rfl rfl ?_
      refine v_getA hX fa_RX10_29 (fun _ _ => rfl) g51 g55 (by decide) dX10_lays_152 ?_
      refine v_iload 2 hX dX10_lays_155 rfl ?_
      refine v_iaload hX g55 g56 dX10_lays_157 ?_
      refine v_imul hX dX10_lays_158 ?_
      obtain ⟨g57, hf⟩ := q_gd_some hf
      refine v_i2l hX g57 dX10_lays_159 ?_
      refine v_ladd hX dX10_lays_160 ?_
      obtain ⟨x58, e59, hf⟩ := q_lt_nm hf
      rw [e59]
      refine v_lstore_n 2 (lw := [(2, .long (q_l x58)), (0, .ref p0), (4, .int (q_i v4))]) hX dX10_lays_161 rfl (by decide) rfl ?_
      refine v_iinc 2 (lw := [(4, .int (q_i (v4 + 1))), (2, .long (q_l x58)), (0, .ref p0)]) hX dX10_lays_162 rfl (by decide) rfl ?_
      refine v_goto (tgt := 134) hX dX10_lays_165 (by decide) ?_
      refine v_sub (lv' := [(0, .ref p0), (2, .long (q_l x58)), (4, .int (q_i (v4 + 1)))]) [2, 1, 0] rfl ?_
      exact ih _ _ hf
set_option maxRecDepth 20000 in
theorem c_X10_lays {S : q_S} {R : q_HR} {I : q_HI} {a0 : Nat} {a1 : Int} {Iz : q_HI} (hf : f_X10_lays S R I a0 a1 = some Iz) : ∀ (l : Launch) (D : va_G) (cy : Nat → ClassId) (B : Nat), Met l yX10_lays [Cond.code yX10_lays cX10_lays 5 none] rmX10_lays (q_Pc B D cy [.ref a0, .int (q_i a1)] S R I) (q_Qc B D cy none S R Iz) 0 0 (fun q => B ≤ q) := by
  refine q_met (lv := [(0, .ref a0), (1, .int (q_i a1))]) (own := RX10) (nm := "lays") (by decide) rfl rfl (Nat.le_of_ble_eq_true rfl) rfl (fun X hX hE => ?_)
  unfold f_X10_lays at hf
  refine v_iconst hX dX10_lays_0 ?_
  refine v_istore_n 2 (lw := [(2, .int (q_i 0)), (0, .ref a0), (1, .int (q_i a1))]) hX dX10_lays_1 rfl (by decide) rfl ?_
  refine v_sub (lv' := [(0, .ref a0), (1, .int (q_i a1)), (2, .int (q_i 0))]) [1, 2, 0] rfl ?_
  refine l_X10_lays_2 hX hE (fun w25 I26 hk => ?_) 100 _ _ hf
  clear hf
  have hf := hk
  clear hk
  refine v_aload_n 0 0 hX dX10_lays_66 rfl rfl ?_
  obtain ⟨g27, hf⟩ := q_gd_some hf
  obtain ⟨I28, h29, hf⟩ := q_bd_some hf
  refine v_callV (As := []) (rest := []) (st1 := []) none hX mv_RX10_132 (c_X10_laysDrift h29) ⟨rfl, rfl⟩ ⟨Nat.le_of_ble_eq_true rfl, Nat.le_of_ble_eq_true rfl⟩ g27 rfl rfl (Nat.le_of_ble_eq_true rfl) ⟨Nat.le_of_ble_eq_true rfl, Nat.le_of_ble_eq_true rfl⟩ dX10_lays_67 rfl ?_
  refine v_iconst hX dX10_lays_70 ?_
  refine v_istore_n 2 (lw := [(2, .int (q_i 0)), (0, .ref a0), (1, .int (q_i a1))]) hX dX10_lays_71 rfl (by decide) rfl ?_
  refine v_sub (lv' := [(0, .ref a0), (1, .int (q_i a1)), (2, .int (q_i 0))]) [1, 2, 0] rfl ?_
  refine l_X10_lays_72 hX hE (fun w49 I50 hk => ?_) 100 _ _ hf
  clear hf
  have hf := hk
  clear hk
  refine v_lconst 0 hX dX10_lays_129 (by decide) ?_
  refine v_lstore_n 2 (lw := [(2, .long (q_l 0)), (0, .ref a0)]) hX dX10_lays_130 rfl (by decide) rfl ?_
  refine v_iconst hX dX10_lays_131 ?_
  refine v_istore (lw := [(4, .int (q_i 0)), (2, .long (q_l 0)), (0, .ref a0)]) hX dX10_lays_132 (by decide) rfl ?_
  refine v_sub (lv' := [(0, .ref a0), (2, .long (q_l 0)), (4, .int (q_i 0))]) [2, 1, 0] rfl ?_
  refine l_X10_lays_134 hX hE (fun w60 w61 hk => ?_) 100 _ _ hf
  clear hf
  have hf := hk
  clear hk
  refine v_aload_n 0 0 hX dX10_lays_168 rfl rfl ?_
  refine v_aload_n 0 0 hX dX10_lays_169 rfl rfl ?_
  refine v_getI hX fa_RX10_77 (fun _ _ => rfl) g27 dX10_lays_170 ?_
  obtain ⟨g62, hf⟩ := q_gd_some hf
  refine v_if_eq (tgt := 186) hX g62 dX10_lays_173 (by decide) (fun c63 => ?_) (fun c63 => ?_)
  · replace hf := q_ifp c63 hf
    refine v_iconst hX dX10_lays_186 ?_
    refine v_putZ hX fa_RX10_135 rfl (Or.inl rfl) g27 dX10_lays_187 ?_
    obtain ⟨I64, e65, hf⟩ := q_lt_nm hf
    rw [e65]
    cases hf
    exact v_vret hX hE (Nat.le_of_ble_eq_true rfl) (Nat.le_of_ble_eq_true rfl) dX10_lays_190
  · replace hf := q_ifn c63 hf
    refine v_lload_n 2 1 hX dX10_lays_176 rfl rfl ?_
    refine v_lconst 0 hX dX10_lays_177 (by decide) ?_
    obtain ⟨g66, hf⟩ := q_gd_some hf
    refine v_lcmp hX g66 (by unfold r_l; omega) dX10_lays_178 ?_
    refine v_ifc_le (tgt := 186) hX dX10_lays_179 (by decide) (fun c67 => ?_) (fun c67 => ?_)
    · replace hf := q_ifp c67 hf
      refine v_iconst hX dX10_lays_186 ?_
      refine v_putZ hX fa_RX10_135 rfl (Or.inl rfl) g27 dX10_lays_187 ?_
      obtain ⟨I68, e69, hf⟩ := q_lt_nm hf
      rw [e69]
      cases hf
      exact v_vret hX hE (Nat.le_of_ble_eq_true rfl) (Nat.le_of_ble_eq_true rfl) dX10_lays_190
    · replace hf := q_ifn c67 hf
      refine v_iconst hX dX10_lays_182 ?_
      refine v_goto (tgt := 187) hX dX10_lays_183 (by decide) ?_
      refine v_putZ hX fa_RX10_135 rfl (Or.inr rfl) g27 dX10_lays_187 ?_
      obtain ⟨I70, e71, hf⟩ := q_lt_nm hf
      rw [e71]
      cases hf
      exact v_vret hX hE (Nat.le_of_ble_eq_true rfl) (Nat.le_of_ble_eq_true rfl) dX10_lays_190
noncomputable def f_X10_addReference (S : q_S) (R : q_HR) (I : q_HI) (a0 : Nat) (a1 : Int) : Option (Int × q_HI) := q_gd (S.1 a0 = 11) (q_lt (q_up I a0 0 0) fun I2 => q_gd (r_i (I2 a0 7)) (if I2 a0 7 = 0 then some ((-5), I2) else q_gd (r_i a1) (q_bd (f_X10_isIn a1 0 999) fun r7 => q_gd (r_i r7) (if r7 = 0 then some ((-3), I2) else q_gd (r_i (I2 a0 3)) (if I2 a0 3 ≤ 0 then if I2 a0 3 = 10 then some ((-4), I2) else q_bd (f_X10_copies S R I2 a0 0 (13 + (I2 a0 3))) fun I14 => q_gd (S.1 (R a0 12) = 12) (q_gd ((0 : Int) ≤ I14 a0 3 ∧ I14 a0 3 < (S.2.1 (R a0 12) : Int)) (q_lt (q_up I14 (R a0 12) (Int.toNat (I14 a0 3)) a1) fun I18 => q_lt (q_up I18 a0 3 ((I18 a0 3) + 1)) fun I20 => some (I20 a0 3, I20))) else q_gd (S.1 (R a0 12) = 12) (q_gd ((0 : Int) ≤ (I2 a0 3) - 1 ∧ (I2 a0 3) - 1 < (S.2.1 (R a0 12) : Int)) (q_gd (r_i (I2 (R a0 12) (Int.toNat ((I2 a0 3) - 1)))) (if I2 (R a0 12) (Int.toNat ((I2 a0 3) - 1)) < a1 then if I2 a0 3 = 10 then some ((-4), I2) else q_bd (f_X10_copies S R I2 a0 0 (13 + (I2 a0 3))) fun I27 => q_gd ((0 : Int) ≤ I27 a0 3 ∧ I27 a0 3 < (S.2.1 (R a0 12) : Int)) (q_lt (q_up I27 (R a0 12) (Int.toNat (I27 a0 3)) a1) fun I30 => q_lt (q_up I30 a0 3 ((I30 a0 3) + 1)) fun I32 => some (I32 a0 3, I32)) else some ((-3), I2)))))))))
abbrev rmX10_addReference : Room := { frames := 1, cells := 0, slots := 0, locals := 25 }
set_option maxRecDepth 20000 in
theorem c_X10_addReference {S : q_S} {R : q_HR} {I : q_HI} {a0 : Nat} {a1 : Int} {rz : Int} {Iz : q_HI} (hf : f_X10_addReference S R I a0 a1 = some (rz, Iz)) : ∀ (l : Launch) (D : va_G) (cy : Nat → ClassId) (B : Nat), Met l yX10_addReference [Cond.code yX10_addReference cX10_addReference 2 (some .int)] rmX10_addReference (q_Pc B D cy [.ref a0, .int (q_i a1)] S R I) (q_Qc B D cy (some (.int (q_i rz))) S R Iz) 0 0 (fun q => B ≤ q) := by
  refine q_met (lv := [(0, .ref a0), (1, .int (q_i a1))]) (own := RX10) (nm := "addReference") (by decide) rfl rfl (Nat.le_of_ble_eq_true rfl) rfl (fun X hX hE => ?_)
  unfold f_X10_addReference at hf
  refine v_aload_n 0 0 hX dX10_addReference_0 rfl rfl ?_
  refine v_iconst hX dX10_addReference_1 ?_
  obtain ⟨g1, hf⟩ := q_gd_some hf
  refine v_putI hX fa_RX10_1 rfl g1 dX10_addReference_2 ?_
  obtain ⟨I2, e3, hf⟩ := q_lt_nm hf
  rw [e3]
  refine v_aload_n 0 0 hX dX10_addReference_5 rfl rfl ?_
  refine v_getI hX fa_RX10_70 (fun _ _ => rfl) g1 dX10_addReference_6 ?_
  obtain ⟨g4, hf⟩ := q_gd_some hf
  refine v_if_ne (tgt := 15) hX g4 dX10_addReference_9 (by decide) (fun c5 => ?_) (fun c5 => ?_)
  · replace hf := q_ifp c5 hf
    refine v_bipush (-5) hX dX10_addReference_12 (by decide) ?_
    cases hf
    exact v_iret hX hE (Nat.le_of_ble_eq_true rfl) (Nat.le_of_ble_eq_true rfl) dX10_addReference_14
  · replace hf := q_ifn c5 hf
    refine v_iload_n 1 1 hX dX10_addReference_15 rfl rfl ?_
    obtain ⟨g6, hf⟩ := q_gd_some hf
    refine v_i2l hX g6 dX10_addReference_16 ?_
    refine v_lconst 0 hX dX10_addReference_17 (by decide) ?_
    refine v_ldc2 999 hX kl_RX10_141 (by decide) dX10_addReference_18 ?_
    obtain ⟨r7, h8, hf⟩ := q_bd_some hf
    refine v_callS (As := [.long (q_l a1), .long (q_l 0), .long (q_l 999)]) (rest := []) (st1 := [.int (q_i r7)]) (some (.int (q_i r7))) hX ms_RX10_84 (c_X10_isIn h8) ⟨rfl, rfl⟩ ⟨Nat.le_of_ble_eq_true rfl, Nat.le_of_ble_eq_true rfl⟩ rfl rfl (Nat.le_of_ble_eq_true rfl) ⟨Nat.le_of_ble_eq_true rfl, Nat.le_of_ble_eq_true rfl⟩ dX10_addReference_21 rfl ?_
    obtain ⟨g9, hf⟩ := q_gd_some hf
    refine v_if_eq (tgt := 49) hX g9 dX10_addReference_24 (by decide) (fun c10 => ?_) (fun c10 => ?_)
    · replace hf := q_ifp c10 hf
      refine v_bipush (-3) hX dX10_addReference_49 (by decide) ?_
      cases hf
      exact v_iret hX hE (Nat.le_of_ble_eq_true rfl) (Nat.le_of_ble_eq_true rfl) dX10_addReference_51
    · replace hf := q_ifn c10 hf
      refine v_aload_n 0 0 hX dX10_addReference_27 rfl rfl ?_
      refine v_getI hX fa_RX10_58 (fun _ _ => rfl) g1 dX10_addReference_28 ?_
      obtain ⟨g11, hf⟩ := q_gd_some hf
      refine v_if_le (tgt := 52) hX g11 dX10_addReference_31 (by decide) (fun c12 => ?_) (fun c12 => ?_)
      · replace hf := q_ifp c12 hf
        refine v_aload_n 0 0 hX dX10_addReference_52 rfl rfl ?_
        refine v_getI hX fa_RX10_58 (fun _ _ => rfl) g1 dX10_addReference_53 ?_
        refine v_bipush 10 hX dX10_addReference_56 (by decide) ?_
        refine v_icmp_ne (tgt := 64) hX g11 (by unfold r_i; omega) dX10_addReference_58 (by decide) (fun c13 => ?_) (fun c13 => ?_)
        · replace hf := q_ifp c13 hf
          refine v_bipush (-4) hX dX10_addReference_61 (by decide) ?_
          cases hf
          exact v_iret hX hE (Nat.le_of_ble_eq_true rfl) (Nat.le_of_ble_eq_true rfl) dX10_addReference_63
        · replace hf := q_ifn c13 hf
          refine v_aload_n 0 0 hX dX10_addReference_64 rfl rfl ?_
          refine v_iconst hX dX10_addReference_65 ?_
          refine v_bipush 13 hX dX10_addReference_66 (by decide) ?_
          refine v_aload_n 0 0 hX dX10_addReference_68 rfl rfl ?_
          refine v_getI hX fa_RX10_58 (fun _ _ => rfl) g1 dX10_addReference_69 ?_
          refine v_iadd hX dX10_addReference_72 ?_
          obtain ⟨I14, h15, hf⟩ := q_bd_some hf
          refine v_callV (As := [.int (q_i 0), .int (q_i (13 + (I2 a0 3)))]) (rest := []) (st1 := []) none hX mv_RX10_121 (c_X10_copies h15) ⟨rfl, rfl⟩ ⟨Nat.le_of_ble_eq_true rfl, Nat.le_of_ble_eq_true rfl⟩ g1 rfl rfl (Nat.le_of_ble_eq_true rfl) ⟨Nat.le_of_ble_eq_true rfl, Nat.le_of_ble_eq_true rfl⟩ dX10_addReference_73 rfl ?_
          refine v_aload_n 0 0 hX dX10_addReference_76 rfl rfl ?_
          obtain ⟨g16, hf⟩ := q_gd_some hf
          refine v_getA hX fa_RX10_20 (fun _ _ => rfl) g1 g16 (by decide) dX10_addReference_77 ?_
          refine v_aload_n 0 0 hX dX10_addReference_80 rfl rfl ?_
          refine v_getI hX fa_RX10_58 (fun _ _ => rfl) g1 dX10_addReference_81 ?_
          refine v_iload_n 1 1 hX dX10_addReference_84 rfl rfl ?_
          obtain ⟨g17, hf⟩ := q_gd_some hf
          refine v_iastore hX g16 g17 dX10_addReference_85 ?_
          obtain ⟨I18, e19, hf⟩ := q_lt_nm hf
          rw [e19]
          refine v_aload_n 0 0 hX dX10_addReference_86 rfl rfl ?_
          refine v_dup hX dX10_addReference_87 rfl ?_
          refine v_getI hX fa_RX10_58 (fun _ _ => rfl) g1 dX10_addReference_88 ?_
          refine v_iconst hX dX10_addReference_91 ?_
          refine v_iadd hX dX10_addReference_92 ?_
          refine v_putI hX fa_RX10_58 rfl g1 dX10_addReference_93 ?_
          obtain ⟨I20, e21, hf⟩ := q_lt_nm hf
          rw [e21]
          refine v_aload_n 0 0 hX dX10_addReference_96 rfl rfl ?_
          refine v_getI hX fa_RX10_58 (fun _ _ => rfl) g1 dX10_addReference_97 ?_
          cases hf
          exact v_iret hX hE (Nat.le_of_ble_eq_true rfl) (Nat.le_of_ble_eq_true rfl) dX10_addReference_100
      · replace hf := q_ifn c12 hf
        refine v_iload_n 1 1 hX dX10_addReference_34 rfl rfl ?_
        refine v_aload_n 0 0 hX dX10_addReference_35 rfl rfl ?_
        obtain ⟨g22, hf⟩ := q_gd_some hf
        refine v_getA hX fa_RX10_20 (fun _ _ => rfl) g1 g22 (by decide) dX10_addReference_36 ?_
        refine v_aload_n 0 0 hX dX10_addReference_39 rfl rfl ?_
        refine v_getI hX fa_RX10_58 (fun _ _ => rfl) g1 dX10_addReference_40 ?_
        refine v_iconst hX dX10_addReference_43 ?_
        refine v_isub hX dX10_addReference_44 ?_
        obtain ⟨g23, hf⟩ := q_gd_some hf
        refine v_iaload hX g22 g23 dX10_addReference_45 ?_
        obtain ⟨g24, hf⟩ := q_gd_some hf
        refine v_icmp_gt (tgt := 52) hX g6 g24 dX10_addReference_46 (by decide) (fun c25 => ?_) (fun c25 => ?_)
        · replace hf := q_ifp c25 hf
          refine v_aload_n 0 0 hX dX10_addReference_52 rfl rfl ?_
          refine v_getI hX fa_RX10_58 (fun _ _ => rfl) g1 dX10_addReference_53 ?_
          refine v_bipush 10 hX dX10_addReference_56 (by decide) ?_
          refine v_icmp_ne (tgt := 64) hX g11 (by unfold r_i; omega) dX10_addReference_58 (by decide) (fun c26 => ?_) (fun c26 => ?_)
          · replace hf := q_ifp c26 hf
            refine v_bipush (-4) hX dX10_addReference_61 (by decide) ?_
            cases hf
            exact v_iret hX hE (Nat.le_of_ble_eq_true rfl) (Nat.le_of_ble_eq_true rfl) dX10_addReference_63
          · replace hf := q_ifn c26 hf
            refine v_aload_n 0 0 hX dX10_addReference_64 rfl rfl ?_
            refine v_iconst hX dX10_addReference_65 ?_
            refine v_bipush 13 hX dX10_addReference_66 (by decide) ?_
            refine v_aload_n 0 0 hX dX10_addReference_68 rfl rfl ?_
            refine v_getI hX fa_RX10_58 (fun _ _ => rfl) g1 dX10_addReference_69 ?_
            refine v_iadd hX dX10_addReference_72 ?_
            obtain ⟨I27, h28, hf⟩ := q_bd_some hf
            refine v_callV (As := [.int (q_i 0), .int (q_i (13 + (I2 a0 3)))]) (rest := []) (st1 := []) none hX mv_RX10_121 (c_X10_copies h28) ⟨rfl, rfl⟩ ⟨Nat.le_of_ble_eq_true rfl, Nat.le_of_ble_eq_true rfl⟩ g1 rfl rfl (Nat.le_of_ble_eq_true rfl) ⟨Nat.le_of_ble_eq_true rfl, Nat.le_of_ble_eq_true rfl⟩ dX10_addReference_73 rfl ?_
            refine v_aload_n 0 0 hX dX10_addReference_76 rfl rfl ?_
            refine v_getA hX fa_RX10_20 (fun _ _ => rfl) g1 g22 (by decide) dX10_addReference_77 ?_
            refine v_aload_n 0 0 hX dX10_addReference_80 rfl rfl ?_
            refine v_getI hX fa_RX10_58 (fun _ _ => rfl) g1 dX10_addReference_81 ?_
            refine v_iload_n 1 1 hX dX10_addReference_84 rfl rfl ?_
            obtain ⟨g29, hf⟩ := q_gd_some hf
            refine v_iastore hX g22 g29 dX10_addReference_85 ?_
            obtain ⟨I30, e31, hf⟩ := q_lt_nm hf
            rw [e31]
            refine v_aload_n 0 0 hX dX10_addReference_86 rfl rfl ?_
            refine v_dup hX dX10_addReference_87 rfl ?_
            refine v_getI hX fa_RX10_58 (fun _ _ => rfl) g1 dX10_addReference_88 ?_
            refine v_iconst hX dX10_addReference_91 ?_
            refine v_iadd hX dX10_addReference_92 ?_
            refine v_putI hX fa_RX10_58 rfl g1 dX10_addReference_93 ?_
            obtain ⟨I32, e33, hf⟩ := q_lt_nm hf
            rw [e33]
            refine v_aload_n 0 0 hX dX10_addReference_96 rfl rfl ?_
            refine v_getI hX fa_RX10_58 (fun _ _ => rfl) g1 dX10_addReference_97 ?_
            cases hf
            exact v_iret hX hE (Nat.le_of_ble_eq_true rfl) (Nat.le_of_ble_eq_true rfl) dX10_addReference_100
        · replace hf := q_ifn c25 hf
          refine v_bipush (-3) hX dX10_addReference_49 (by decide) ?_
          cases hf
          exact v_iret hX hE (Nat.le_of_ble_eq_true rfl) (Nat.le_of_ble_eq_true rfl) dX10_addReference_51
noncomputable def f_X10_removeReference (S : q_S) (R : q_HR) (I : q_HI) (a0 : Nat) : Option (Int × q_HI) := q_gd (S.1 a0 = 11) (q_lt (q_up I a0 0 0) fun I2 => q_gd (r_i (I2 a0 3)) (if I2 a0 3 = 0 then some ((-2), I2) else q_lt (q_up I2 a0 3 ((I2 a0 3) - 1)) fun I6 => some (I6 a0 3, I6)))
abbrev rmX10_removeReference : Room := { frames := 0, cells := 0, slots := 0, locals := 0 }
set_option maxRecDepth 20000 in
theorem c_X10_removeReference {S : q_S} {R : q_HR} {I : q_HI} {a0 : Nat} {rz : Int} {Iz : q_HI} (hf : f_X10_removeReference S R I a0 = some (rz, Iz)) : ∀ (l : Launch) (D : va_G) (cy : Nat → ClassId) (B : Nat), Met l yX10_removeReference [Cond.code yX10_removeReference cX10_removeReference 1 (some .int)] rmX10_removeReference (q_Pc B D cy [.ref a0] S R I) (q_Qc B D cy (some (.int (q_i rz))) S R Iz) 0 0 (fun q => B ≤ q) := by
  refine q_met (lv := [(0, .ref a0)]) (own := RX10) (nm := "removeReference") (by decide) rfl rfl (Nat.le_of_ble_eq_true rfl) rfl (fun X hX hE => ?_)
  unfold f_X10_removeReference at hf
  refine v_aload_n 0 0 hX dX10_removeReference_0 rfl rfl ?_
  refine v_iconst hX dX10_removeReference_1 ?_
  obtain ⟨g1, hf⟩ := q_gd_some hf
  refine v_putI hX fa_RX10_1 rfl g1 dX10_removeReference_2 ?_
  obtain ⟨I2, e3, hf⟩ := q_lt_nm hf
  rw [e3]
  refine v_aload_n 0 0 hX dX10_removeReference_5 rfl rfl ?_
  refine v_getI hX fa_RX10_58 (fun _ _ => rfl) g1 dX10_removeReference_6 ?_
  obtain ⟨g4, hf⟩ := q_gd_some hf
  refine v_if_ne (tgt := 15) hX g4 dX10_removeReference_9 (by decide) (fun c5 => ?_) (fun c5 => ?_)
  · replace hf := q_ifp c5 hf
    refine v_bipush (-2) hX dX10_removeReference_12 (by decide) ?_
    cases hf
    exact v_iret hX hE (Nat.le_of_ble_eq_true rfl) (Nat.le_of_ble_eq_true rfl) dX10_removeReference_14
  · replace hf := q_ifn c5 hf
    refine v_aload_n 0 0 hX dX10_removeReference_15 rfl rfl ?_
    refine v_dup hX dX10_removeReference_16 rfl ?_
    refine v_getI hX fa_RX10_58 (fun _ _ => rfl) g1 dX10_removeReference_17 ?_
    refine v_iconst hX dX10_removeReference_20 ?_
    refine v_isub hX dX10_removeReference_21 ?_
    refine v_putI hX fa_RX10_58 rfl g1 dX10_removeReference_22 ?_
    obtain ⟨I6, e7, hf⟩ := q_lt_nm hf
    rw [e7]
    refine v_aload_n 0 0 hX dX10_removeReference_25 rfl rfl ?_
    refine v_getI hX fa_RX10_58 (fun _ _ => rfl) g1 dX10_removeReference_26 ?_
    cases hf
    exact v_iret hX hE (Nat.le_of_ble_eq_true rfl) (Nat.le_of_ble_eq_true rfl) dX10_removeReference_29
noncomputable def f_X10_driftComponent (S : q_S) (R : q_HR) (I : q_HI) (a0 : Nat) (a1 : Int) : Option (Int × q_HI) := q_gd (S.1 a0 = 11) (q_lt (q_up I a0 0 0) fun I2 => q_bd (f_X10_isSensor S R I2 a0 a1) fun r4 => q_gd (r_i r4) (if r4 = 0 then some ((-2), I2) else q_bd (f_X10_lays S R I2 a0 0) fun I8 => q_gd (S.1 (R a0 17) = 12) (q_gd ((0 : Int) ≤ a1 ∧ a1 < (S.2.1 (R a0 17) : Int)) (some ((I8 (R a0 17) (Int.toNat a1)) + 1000, I8)))))
abbrev rmX10_driftComponent : Room := { frames := 4, cells := 0, slots := 0, locals := 105 }
set_option maxRecDepth 20000 in
theorem c_X10_driftComponent {S : q_S} {R : q_HR} {I : q_HI} {a0 : Nat} {a1 : Int} {rz : Int} {Iz : q_HI} (hf : f_X10_driftComponent S R I a0 a1 = some (rz, Iz)) : ∀ (l : Launch) (D : va_G) (cy : Nat → ClassId) (B : Nat), Met l yX10_driftComponent [Cond.code yX10_driftComponent cX10_driftComponent 2 (some .int)] rmX10_driftComponent (q_Pc B D cy [.ref a0, .int (q_i a1)] S R I) (q_Qc B D cy (some (.int (q_i rz))) S R Iz) 0 0 (fun q => B ≤ q) := by
  refine q_met (lv := [(0, .ref a0), (1, .int (q_i a1))]) (own := RX10) (nm := "driftComponent") (by decide) rfl rfl (Nat.le_of_ble_eq_true rfl) rfl (fun X hX hE => ?_)
  unfold f_X10_driftComponent at hf
  refine v_aload_n 0 0 hX dX10_driftComponent_0 rfl rfl ?_
  refine v_iconst hX dX10_driftComponent_1 ?_
  obtain ⟨g1, hf⟩ := q_gd_some hf
  refine v_putI hX fa_RX10_1 rfl g1 dX10_driftComponent_2 ?_
  obtain ⟨I2, e3, hf⟩ := q_lt_nm hf
  rw [e3]
  refine v_aload_n 0 0 hX dX10_driftComponent_5 rfl rfl ?_
  refine v_iload_n 1 1 hX dX10_driftComponent_6 rfl rfl ?_
  obtain ⟨r4, h5, hf⟩ := q_bd_some hf
  refine v_callV (As := [.int (q_i a1)]) (rest := []) (st1 := [.int (q_i r4)]) (some (.int (q_i r4))) hX mv_RX10_88 (c_X10_isSensor h5) ⟨rfl, rfl⟩ ⟨Nat.le_of_ble_eq_true rfl, Nat.le_of_ble_eq_true rfl⟩ g1 rfl rfl (Nat.le_of_ble_eq_true rfl) ⟨Nat.le_of_ble_eq_true rfl, Nat.le_of_ble_eq_true rfl⟩ dX10_driftComponent_7 rfl ?_
  obtain ⟨g6, hf⟩ := q_gd_some hf
  refine v_if_ne (tgt := 16) hX g6 dX10_driftComponent_10 (by decide) (fun c7 => ?_) (fun c7 => ?_)
  · replace hf := q_ifp c7 hf
    refine v_bipush (-2) hX dX10_driftComponent_13 (by decide) ?_
    cases hf
    exact v_iret hX hE (Nat.le_of_ble_eq_true rfl) (Nat.le_of_ble_eq_true rfl) dX10_driftComponent_15
  · replace hf := q_ifn c7 hf
    refine v_aload_n 0 0 hX dX10_driftComponent_16 rfl rfl ?_
    refine v_iconst hX dX10_driftComponent_17 ?_
    obtain ⟨I8, h9, hf⟩ := q_bd_some hf
    refine v_callV (As := [.int (q_i 0)]) (rest := []) (st1 := []) none hX mv_RX10_143 (c_X10_lays h9) ⟨rfl, rfl⟩ ⟨Nat.le_of_ble_eq_true rfl, Nat.le_of_ble_eq_true rfl⟩ g1 rfl rfl (Nat.le_of_ble_eq_true rfl) ⟨Nat.le_of_ble_eq_true rfl, Nat.le_of_ble_eq_true rfl⟩ dX10_driftComponent_18 rfl ?_
    refine v_aload_n 0 0 hX dX10_driftComponent_21 rfl rfl ?_
    obtain ⟨g10, hf⟩ := q_gd_some hf
    refine v_getA hX fa_RX10_29 (fun _ _ => rfl) g1 g10 (by decide) dX10_driftComponent_22 ?_
    refine v_iload_n 1 1 hX dX10_driftComponent_25 rfl rfl ?_
    obtain ⟨g11, hf⟩ := q_gd_some hf
    refine v_iaload hX g10 g11 dX10_driftComponent_26 ?_
    refine v_sipush 1000 hX dX10_driftComponent_27 (by decide) ?_
    refine v_iadd hX dX10_driftComponent_30 ?_
    cases hf
    exact v_iret hX hE (Nat.le_of_ble_eq_true rfl) (Nat.le_of_ble_eq_true rfl) dX10_driftComponent_31
noncomputable def f_X10_driftPosition_L36 (S : q_S) (R : q_HR) (I : q_HI) (p0 : Nat) (k : Int → Int → Int → Option (Int × q_HI)) : Nat → Int → Int → Int → Option (Int × q_HI)
  | 0, _, _, _ => none
  | n + 1, v1, v3, v5 => q_gd (S.1 p0 = 11) (q_gd (r_i v5) (q_gd (r_i (I p0 1)) (if I p0 1 ≤ v5 then k v1 v3 v5 else q_gd (S.1 (R p0 16) = 12) (q_gd ((0 : Int) ≤ v5 ∧ v5 < (S.2.1 (R p0 16) : Int)) (q_gd ((0 : Int) ≤ 65 + v5 ∧ 65 + v5 < (S.2.1 (R p0 16) : Int)) (q_gd (r_i ((I (R p0 16) (Int.toNat v5)) - (I (R p0 16) (Int.toNat (65 + v5))))) (q_gd (S.1 (R p0 17) = 12) (q_gd ((0 : Int) ≤ v5 ∧ v5 < (S.2.1 (R p0 17) : Int)) (q_gd (r_i (I (R p0 17) (Int.toNat v5))) (q_lt (v1 + (((I (R p0 16) (Int.toNat v5)) - (I (R p0 16) (Int.toNat (65 + v5)))) * (I (R p0 17) (Int.toNat v5)))) fun x21 => q_gd (r_i ((I (R p0 17) (Int.toNat v5)) * (I (R p0 17) (Int.toNat v5)))) (q_lt (v3 + ((I (R p0 17) (Int.toNat v5)) * (I (R p0 17) (Int.toNat v5)))) fun x24 => f_X10_driftPosition_L36 S R I p0 k n x21 x24 (v5 + 1))))))))))))
noncomputable def f_X10_driftPosition (S : q_S) (R : q_HR) (I : q_HI) (a0 : Nat) : Option (Int × q_HI) := q_gd (S.1 a0 = 11) (q_lt (q_up I a0 0 0) fun I2 => q_gd (r_i (I2 a0 7)) (if I2 a0 7 = 0 then some ((-5), I2) else q_bd (f_X10_lays S R I2 a0 0) fun I6 => q_gd (r_i (I6 a0 19)) (if I6 a0 19 = 0 then some ((-1), I6) else f_X10_driftPosition_L36 S R I6 a0 (fun w26 w27 w28 => q_bd (f_X10_down (1000 * w26) w27) fun r29 => some (r29 + 1000000, I6)) 100 0 0 0)))
abbrev rmX10_driftPosition : Room := { frames := 4, cells := 0, slots := 0, locals := 105 }
set_option maxRecDepth 20000 in
theorem l_X10_driftPosition_36 {X : q_X} {S : q_S} {R : q_HR} {I : q_HI} {p0 : Nat} {rz : Int} {Iz : q_HI} (hX : q_C X cX10_driftPosition 6 RX10 (some .int) "driftPosition") (hE : q_E X 0 0 (some (.int (q_i rz))) S R Iz) {k : Int → Int → Int → Option (Int × q_HI)} (hk : ∀ (v1 : Int) (v3 : Int) (v5 : Int), k v1 v3 v5 = some (rz, Iz) → q_V X rmX10_driftPosition cX10_driftPosition 6 0 0 101 [(1, .long (q_l v1)), (3, .long (q_l v3))] [] S R I) :
    ∀ (n : Nat), ∀ (v1 : Int) (v3 : Int) (v5 : Int), f_X10_driftPosition_L36 S R I p0 k n v1 v3 v5 = some (rz, Iz) → q_V X rmX10_driftPosition cX10_driftPosition 6 0 0 36 [(0, .ref p0), (1, .long (q_l v1)), (3, .long (q_l v3)), (5, .int (q_i v5))] [] S R I := by
  intro n
  induction n with
  | zero =>
    intro v1 v3 v5 hf
    cases (show (none : Option (Int × q_HI)) = some _ from hf)
  | succ n ih =>
    intro v1 v3 v5 hf
    rw [f_X10_driftPosition_L36] at hf
    refine v_iload 3 hX dX10_driftPosition_36 rfl ?_
    refine v_aload_n 0 0 hX dX10_driftPosition_38 rfl rfl ?_
    obtain ⟨g10, hf⟩ := q_gd_some hf
    refine v_getI hX fa_RX10_52 (fun _ _ => rfl) g10 dX10_driftPosition_39 ?_
    obtain ⟨g11, hf⟩ := q_gd_some hf
    obtain ⟨g12, hf⟩ := q_gd_some hf
    refine v_icmp_ge (tgt := 101) hX g11 g12 dX10_driftPosition_42 (by decide) (fun c13 => ?_) (fun c13 => ?_)
    · replace hf := q_ifp c13 hf
      refine v_sub (lv' := [(1, .long (q_l v1)), (3, .long (q_l v3))]) [1, 2] rfl ?_
      exact hk _ _ _ hf
    · replace hf := q_ifn c13 hf
      refine v_lload_n 1 1 hX dX10_driftPosition_45 rfl rfl ?_
      refine v_aload_n 0 0 hX dX10_driftPosition_46 rfl rfl ?_
      obtain ⟨g14, hf⟩ := q_gd_some hf
      refine v_getA hX fa_RX10_26 (fun _ _ => rfl) g10 g14 (by decide) dX10_driftPosition_47 ?_
      refine v_iload 3 hX dX10_driftPosition_50 rfl ?_
      obtain ⟨g15, hf⟩ := q_gd_some hf
      refine v_iaload hX g14 g15 dX10_driftPosition_52 ?_
      refine v_aload_n 0 0 hX dX10_driftPosition_53 rfl rfl ?_
      refine v_getA hX fa_RX10_26 (fun _ _ => rfl) g10 g14 (by decide) dX10_driftPosition_54 ?_
      refine v_bipush 65 hX dX10_driftPosition_57 (by decide) ?_
      refine v_iload 3 hX dX10_driftPosition_59 rfl ?_
      refine v_iadd hX dX10_driftPosition_61 ?_
      obtain ⟨g16, hf⟩ := q_gd_some hf
      refine v_iaload hX g14 g16 dX10_driftPosition_62 ?_
      refine v_isub hX dX10_driftPosition_63 ?_
      obtain ⟨g17, hf⟩ := q_gd_some hf
      refine v_i2l hX g17 dX10_driftPosition_64 ?_
      refine v_aload_n 0 0 hX dX10_driftPosition_65 rfl rfl ?_
      obtain ⟨g18, hf⟩ := q_gd_some hf
      refine v_getA hX fa_RX10_29 (fun _ _ => rfl) g10 g18 (by decide) dX10_driftPosition_66 ?_
      refine v_iload 3 hX dX10_driftPosition_69 rfl ?_
      obtain ⟨g19, hf⟩ := q_gd_some hf
      refine v_iaload hX g18 g19 dX10_driftPosition_71 ?_
      obtain ⟨g20, hf⟩ := q_gd_some hf
      refine v_i2l hX g20 dX10_driftPosition_72 ?_
      refine v_lmul hX dX10_driftPosition_73 ?_
      refine v_ladd hX dX10_driftPosition_74 ?_
      obtain ⟨x21, e22, hf⟩ := q_lt_nm hf
      rw [e22]
      refine v_lstore_n 1 (lw := [(1, .long (q_l x21)), (0, .ref p0), (3, .long (q_l v3)), (5, .int (q_i v5))]) hX dX10_driftPosition_75 rfl (by decide) rfl ?_
      refine v_lload_n 3 2 hX dX10_driftPosition_76 rfl rfl ?_
      refine v_aload_n 0 1 hX dX10_driftPosition_77 rfl rfl ?_
      refine v_getA hX fa_RX10_29 (fun _ _ => rfl) g10 g18 (by decide) dX10_driftPosition_78 ?_
      refine v_iload 3 hX dX10_driftPosition_81 rfl ?_
      refine v_iaload hX g18 g19 dX10_driftPosition_83 ?_
      refine v_aload_n 0 1 hX dX10_driftPosition_84 rfl rfl ?_
      refine v_getA hX fa_RX10_29 (fun _ _ => rfl) g10 g18 (by decide) dX10_driftPosition_85 ?_
      refine v_iload 3 hX dX10_driftPosition_88 rfl ?_
      refine v_iaload hX g18 g19 dX10_driftPosition_90 ?_
      refine v_imul hX dX10_driftPosition_91 ?_
      obtain ⟨g23, hf⟩ := q_gd_some hf
      refine v_i2l hX g23 dX10_driftPosition_92 ?_
      refine v_ladd hX dX10_driftPosition_93 ?_
      obtain ⟨x24, e25, hf⟩ := q_lt_nm hf
      rw [e25]
      refine v_lstore_n 3 (lw := [(3, .long (q_l x24)), (1, .long (q_l x21)), (0, .ref p0), (5, .int (q_i v5))]) hX dX10_driftPosition_94 rfl (by decide) rfl ?_
      refine v_iinc 3 (lw := [(5, .int (q_i (v5 + 1))), (3, .long (q_l x24)), (1, .long (q_l x21)), (0, .ref p0)]) hX dX10_driftPosition_95 rfl (by decide) rfl ?_
      refine v_goto (tgt := 36) hX dX10_driftPosition_98 (by decide) ?_
      refine v_sub (lv' := [(0, .ref p0), (1, .long (q_l x21)), (3, .long (q_l x24)), (5, .int (q_i (v5 + 1)))]) [3, 2, 1, 0] rfl ?_
      exact ih _ _ _ hf
set_option maxRecDepth 20000 in
theorem c_X10_driftPosition {S : q_S} {R : q_HR} {I : q_HI} {a0 : Nat} {rz : Int} {Iz : q_HI} (hf : f_X10_driftPosition S R I a0 = some (rz, Iz)) : ∀ (l : Launch) (D : va_G) (cy : Nat → ClassId) (B : Nat), Met l yX10_driftPosition [Cond.code yX10_driftPosition cX10_driftPosition 6 (some .int)] rmX10_driftPosition (q_Pc B D cy [.ref a0] S R I) (q_Qc B D cy (some (.int (q_i rz))) S R Iz) 0 0 (fun q => B ≤ q) := by
  refine q_met (lv := [(0, .ref a0)]) (own := RX10) (nm := "driftPosition") (by decide) rfl rfl (Nat.le_of_ble_eq_true rfl) rfl (fun X hX hE => ?_)
  unfold f_X10_driftPosition at hf
  refine v_aload_n 0 0 hX dX10_driftPosition_0 rfl rfl ?_
  refine v_iconst hX dX10_driftPosition_1 ?_
  obtain ⟨g1, hf⟩ := q_gd_some hf
  refine v_putI hX fa_RX10_1 rfl g1 dX10_driftPosition_2 ?_
  obtain ⟨I2, e3, hf⟩ := q_lt_nm hf
  rw [e3]
  refine v_aload_n 0 0 hX dX10_driftPosition_5 rfl rfl ?_
  refine v_getI hX fa_RX10_70 (fun _ _ => rfl) g1 dX10_driftPosition_6 ?_
  obtain ⟨g4, hf⟩ := q_gd_some hf
  refine v_if_ne (tgt := 15) hX g4 dX10_driftPosition_9 (by decide) (fun c5 => ?_) (fun c5 => ?_)
  · replace hf := q_ifp c5 hf
    refine v_bipush (-5) hX dX10_driftPosition_12 (by decide) ?_
    cases hf
    exact v_iret hX hE (Nat.le_of_ble_eq_true rfl) (Nat.le_of_ble_eq_true rfl) dX10_driftPosition_14
  · replace hf := q_ifn c5 hf
    refine v_aload_n 0 0 hX dX10_driftPosition_15 rfl rfl ?_
    refine v_iconst hX dX10_driftPosition_16 ?_
    obtain ⟨I6, h7, hf⟩ := q_bd_some hf
    refine v_callV (As := [.int (q_i 0)]) (rest := []) (st1 := []) none hX mv_RX10_143 (c_X10_lays h7) ⟨rfl, rfl⟩ ⟨Nat.le_of_ble_eq_true rfl, Nat.le_of_ble_eq_true rfl⟩ g1 rfl rfl (Nat.le_of_ble_eq_true rfl) ⟨Nat.le_of_ble_eq_true rfl, Nat.le_of_ble_eq_true rfl⟩ dX10_driftPosition_17 rfl ?_
    refine v_aload_n 0 0 hX dX10_driftPosition_20 rfl rfl ?_
    refine v_getI hX fa_RX10_138 (fun _ _ => rfl) g1 dX10_driftPosition_21 ?_
    obtain ⟨g8, hf⟩ := q_gd_some hf
    refine v_if_ne (tgt := 29) hX g8 dX10_driftPosition_24 (by decide) (fun c9 => ?_) (fun c9 => ?_)
    · replace hf := q_ifp c9 hf
      refine v_iconst hX dX10_driftPosition_27 ?_
      cases hf
      exact v_iret hX hE (Nat.le_of_ble_eq_true rfl) (Nat.le_of_ble_eq_true rfl) dX10_driftPosition_28
    · replace hf := q_ifn c9 hf
      refine v_lconst 0 hX dX10_driftPosition_29 (by decide) ?_
      refine v_lstore_n 1 (lw := [(1, .long (q_l 0)), (0, .ref a0)]) hX dX10_driftPosition_30 rfl (by decide) rfl ?_
      refine v_lconst 0 hX dX10_driftPosition_31 (by decide) ?_
      refine v_lstore_n 3 (lw := [(3, .long (q_l 0)), (1, .long (q_l 0)), (0, .ref a0)]) hX dX10_driftPosition_32 rfl (by decide) rfl ?_
      refine v_iconst hX dX10_driftPosition_33 ?_
      refine v_istore (lw := [(5, .int (q_i 0)), (3, .long (q_l 0)), (1, .long (q_l 0)), (0, .ref a0)]) hX dX10_driftPosition_34 (by decide) rfl ?_
      refine v_sub (lv' := [(0, .ref a0), (1, .long (q_l 0)), (3, .long (q_l 0)), (5, .int (q_i 0))]) [3, 2, 1, 0] rfl ?_
      refine l_X10_driftPosition_36 hX hE (fun w26 w27 w28 hk => ?_) 100 _ _ _ hf
      clear hf
      have hf := hk
      clear hk
      refine v_ldc2 1000 hX kl_RX10_125 (by decide) dX10_driftPosition_101 ?_
      refine v_lload_n 1 0 hX dX10_driftPosition_104 rfl rfl ?_
      refine v_lmul hX dX10_driftPosition_105 ?_
      refine v_lload_n 3 1 hX dX10_driftPosition_106 rfl rfl ?_
      obtain ⟨r29, h30, hf⟩ := q_bd_some hf
      refine v_callS (As := [.long (q_l (1000 * w26)), .long (q_l w27)]) (rest := []) (st1 := [.long (q_l r29)]) (some (.long (q_l r29))) hX ms_RX10_110 (c_X10_down h30) ⟨rfl, rfl⟩ ⟨Nat.le_of_ble_eq_true rfl, Nat.le_of_ble_eq_true rfl⟩ rfl rfl (Nat.le_of_ble_eq_true rfl) ⟨Nat.le_of_ble_eq_true rfl, Nat.le_of_ble_eq_true rfl⟩ dX10_driftPosition_107 rfl ?_
      refine v_ldc2 1000000 hX kl_RX10_146 (by decide) dX10_driftPosition_110 ?_
      refine v_ladd hX dX10_driftPosition_113 ?_
      refine v_l2i hX dX10_driftPosition_114 ?_
      cases hf
      exact v_iret hX hE (Nat.le_of_ble_eq_true rfl) (Nat.le_of_ble_eq_true rfl) dX10_driftPosition_115
