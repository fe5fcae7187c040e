noncomputable def f_X10_predictedReference_L60 (S : q_S) (R : q_HR) (I : q_HI) (p0 : Nat) (p1 : Int) (p2 : Int) (k : Int → Int → Int → Int → Int → Option (Int × q_HI)) : Nat → Int → Int → Int → Int → Int → Option (Int × q_HI)
  | 0, _, _, _, _, _ => none
  | n + 1, v3, v5, v7, v9, v11 => q_gd (S.1 p0 = 11) (q_gd (r_i v11) (q_gd (r_i (I p0 3)) (if I p0 3 ≤ v11 then k v3 v5 v7 v9 v11 else q_gd (S.1 (R p0 12) = 12) (q_gd ((0 : Int) ≤ v11 ∧ v11 < (S.2.1 (R p0 12) : Int)) (q_gd (r_i (I (R p0 12) (Int.toNat v11))) (q_lt (I (R p0 12) (Int.toNat v11)) fun x24 => q_gd (S.1 (R p0 16) = 12) (q_gd ((0 : Int) ≤ (5 * (13 + v11)) + p1 ∧ (5 * (13 + v11)) + p1 < (S.2.1 (R p0 16) : Int)) (q_gd (r_i (I (R p0 16) (Int.toNat ((5 * (13 + v11)) + p1)))) (q_lt (I (R p0 16) (Int.toNat ((5 * (13 + v11)) + p1))) fun x30 => q_lt (v3 + x24) fun x33 => q_lt (v5 + x30) fun x35 => q_lt (v7 + (x24 * x30)) fun x37 => q_lt (v9 + (x24 * x24)) fun x39 => f_X10_predictedReference_L60 S R I p0 p1 p2 k n x33 x35 x37 x39 (v11 + 1))))))))))
noncomputable def f_X10_predictedReference (S : q_S) (R : q_HR) (I : q_HI) (a0 : Nat) (a1 : Int) (a2 : Int) : Option (Int × q_HI) := q_gd (S.1 a0 = 11) (q_lt (q_up I a0 0 0) fun I2 => q_bd (f_X10_isSensor S R I2 a0 a1) fun r4 => q_gd (r_i r4) (if r4 = 0 then some ((-2), I2) else q_gd (r_i a2) (q_bd (f_X10_isIn a2 0 999) fun r9 => q_gd (r_i r9) (if r9 = 0 then some ((-3), I2) else q_gd (r_i (I2 a0 3)) (if 2 ≤ I2 a0 3 then q_bd (f_X10_lays S R I2 a0 0) fun I15 => f_X10_predictedReference_L60 S R I15 a0 a1 a2 (fun w41 w42 w43 w44 w45 => q_gd (r_i (I15 a0 3)) (q_lt (((I15 a0 3) * w43) - (w41 * w42)) fun x47 => q_lt (((I15 a0 3) * w44) - (w41 * w41)) fun x49 => q_bd (f_X10_down ((x49 * w42) + (x47 * (((I15 a0 3) * a2) - w41))) ((I15 a0 3) * x49)) fun r51 => some (r51 + 10000000, I15))) 100 0 0 0 0 0 else some ((-1), I2))))))
abbrev rmX10_predictedReference : Room := { frames := 4, cells := 0, slots := 0, locals := 105 }
set_option maxRecDepth 20000 in
theorem l_X10_predictedReference_60 {X : q_X} {S : q_S} {R : q_HR} {I : q_HI} {p0 : Nat} {p1 : Int} {p2 : Int} {rz : Int} {Iz : q_HI} (hX : q_C X cX10_predictedReference 16 RX10 (some .int) "predictedReference") (hE : q_E X 0 0 (some (.int (q_i rz))) S R Iz) {k : Int → Int → Int → Int → Int → Option (Int × q_HI)} (hk : ∀ (v3 : Int) (v5 : Int) (v7 : Int) (v9 : Int) (v11 : Int), k v3 v5 v7 v9 v11 = some (rz, Iz) → q_V X rmX10_predictedReference cX10_predictedReference 16 0 0 134 [(0, .ref p0), (2, .int (q_i p2)), (3, .long (q_l v3)), (5, .long (q_l v5)), (7, .long (q_l v7)), (9, .long (q_l v9))] [] S R I) :
    ∀ (n : Nat), ∀ (v3 : Int) (v5 : Int) (v7 : Int) (v9 : Int) (v11 : Int), f_X10_predictedReference_L60 S R I p0 p1 p2 k n v3 v5 v7 v9 v11 = some (rz, Iz) → q_V X rmX10_predictedReference cX10_predictedReference 16 0 0 60 [(0, .ref p0), (1, .int (q_i p1)), (2, .int (q_i p2)), (3, .long (q_l v3)), (5, .long (q_l v5)), (7, .long (q_l v7)), (9, .long (q_l v9)), (11, .int (q_i v11))] [] S R I := by
  intro n
  induction n with
  | zero =>
    intro v3 v5 v7 v9 v11 hf
    cases (show (none : Option (Int × q_HI)) = some _ from hf)
  | succ n ih =>
    intro v3 v5 v7 v9 v11 hf
    rw [f_X10_predictedReference_L60] at hf
    refine v_iload 7 hX dX10_predictedReference_60 rfl ?_
    refine v_aload_n 0 0 hX dX10_predictedReference_62 rfl rfl ?_
    obtain ⟨g17, hf⟩ := q_gd_some hf
    refine v_getI hX fa_RX10_58 (fun _ _ => rfl) g17 dX10_predictedReference_63 ?_
    obtain ⟨g18, hf⟩ := q_gd_some hf
    obtain ⟨g19, hf⟩ := q_gd_some hf
    refine v_icmp_ge (tgt := 134) hX g18 g19 dX10_predictedReference_66 (by decide) (fun c20 => ?_) (fun c20 => ?_)
    · replace hf := q_ifp c20 hf
      refine v_sub (lv' := [(0, .ref p0), (2, .int (q_i p2)), (3, .long (q_l v3)), (5, .long (q_l v5)), (7, .long (q_l v7)), (9, .long (q_l v9))]) [0, 2, 3, 4, 5, 6] rfl ?_
      exact hk _ _ _ _ _ hf
    · replace hf := q_ifn c20 hf
      refine v_aload_n 0 0 hX dX10_predictedReference_69 rfl rfl ?_
      obtain ⟨g21, hf⟩ := q_gd_some hf
      refine v_getA hX fa_RX10_20 (fun _ _ => rfl) g17 g21 (by decide) dX10_predictedReference_70 ?_
      refine v_iload 7 hX dX10_predictedReference_73 rfl ?_
      obtain ⟨g22, hf⟩ := q_gd_some hf
      refine v_iaload hX g21 g22 dX10_predictedReference_75 ?_
      obtain ⟨g23, hf⟩ := q_gd_some hf
      refine v_i2l hX g23 dX10_predictedReference_76 ?_
      obtain ⟨x24, e25, hf⟩ := q_lt_nm hf
      rw [e25]
      have g26 := g23
      rw [e25] at g26
      refine v_lstore (lw := [(12, .long (q_l x24)), (0, .ref p0), (1, .int (q_i p1)), (2, .int (q_i p2)), (3, .long (q_l v3)), (5, .long (q_l v5)), (7, .long (q_l v7)), (9, .long (q_l v9)), (11, .int (q_i v11))]) hX dX10_predictedReference_77 (by decide) rfl ?_
      refine v_aload_n 0 1 hX dX10_predictedReference_79 rfl rfl ?_
      obtain ⟨g27, hf⟩ := q_gd_some hf
      refine v_getA hX fa_RX10_26 (fun _ _ => rfl) g17 g27 (by decide) dX10_predictedReference_80 ?_
      refine v_iconst hX dX10_predictedReference_83 ?_
      refine v_bipush 13 hX dX10_predictedReference_84 (by decide) ?_
      refine v_iload 8 hX dX10_predictedReference_86 rfl ?_
      refine v_iadd hX dX10_predictedReference_88 ?_
      refine v_imul hX dX10_predictedReference_89 ?_
      refine v_iload_n 1 2 hX dX10_predictedReference_90 rfl rfl ?_
      refine v_iadd hX dX10_predictedReference_91 ?_
      obtain ⟨g28, hf⟩ := q_gd_some hf
      refine v_iaload hX g27 g28 dX10_predictedReference_92 ?_
      obtain ⟨g29, hf⟩ := q_gd_some hf
      refine v_i2l hX g29 dX10_predictedReference_93 ?_
      obtain ⟨x30, e31, hf⟩ := q_lt_nm hf
      rw [e31]
      have g32 := g29
      rw [e31] at g32
      refine v_lstore (lw := [(14, .long (q_l x30)), (12, .long (q_l x24)), (0, .ref p0), (1, .int (q_i p1)), (2, .int (q_i p2)), (3, .long (q_l v3)), (5, .long (q_l v5)), (7, .long (q_l v7)), (9, .long (q_l v9)), (11, .int (q_i v11))]) hX dX10_predictedReference_94 (by decide) rfl ?_
      refine v_lload_n 3 5 hX dX10_predictedReference_96 rfl rfl ?_
      refine v_lload 1 hX dX10_predictedReference_97 rfl ?_
      refine v_ladd hX dX10_predictedReference_99 ?_
      obtain ⟨x33, e34, hf⟩ := q_lt_nm hf
      rw [e34]
      refine v_lstore_n 3 (lw := [(3, .long (q_l x33)), (14, .long (q_l x30)), (12, .long (q_l x24)), (0, .ref p0), (1, .int (q_i p1)), (2, .int (q_i p2)), (5, .long (q_l v5)), (7, .long (q_l v7)), (9, .long (q_l v9)), (11, .int (q_i v11))]) hX dX10_predictedReference_100 rfl (by decide) rfl ?_
      refine v_lload 6 hX dX10_predictedReference_101 rfl ?_
      refine v_lload 1 hX dX10_predictedReference_103 rfl ?_
      refine v_ladd hX dX10_predictedReference_105 ?_
      obtain ⟨x35, e36, hf⟩ := q_lt_nm hf
      rw [e36]
      refine v_lstore (lw := [(5, .long (q_l x35)), (3, .long (q_l x33)), (14, .long (q_l x30)), (12, .long (q_l x24)), (0, .ref p0), (1, .int (q_i p1)), (2, .int (q_i p2)), (7, .long (q_l v7)), (9, .long (q_l v9)), (11, .int (q_i v11))]) hX dX10_predictedReference_106 (by decide) rfl ?_
      refine v_lload 7 hX dX10_predictedReference_108 rfl ?_
      refine v_lload 3 hX dX10_predictedReference_110 rfl ?_
      refine v_lload 2 hX dX10_predictedReference_112 rfl ?_
      refine v_lmul hX dX10_predictedReference_114 ?_
      refine v_ladd hX dX10_predictedReference_115 ?_
      obtain ⟨x37, e38, hf⟩ := q_lt_nm hf
      rw [e38]
      refine v_lstore (lw := [(7, .long (q_l x37)), (5, .long (q_l x35)), (3, .long (q_l x33)), (14, .long (q_l x30)), (12, .long (q_l x24)), (0, .ref p0), (1, .int (q_i p1)), (2, .int (q_i p2)), (9, .long (q_l v9)), (11, .int (q_i v11))]) hX dX10_predictedReference_116 (by decide) rfl ?_
      refine v_lload 8 hX dX10_predictedReference_118 rfl ?_
      refine v_lload 4 hX dX10_predictedReference_120 rfl ?_
      refine v_lload 4 hX dX10_predictedReference_122 rfl ?_
      refine v_lmul hX dX10_predictedReference_124 ?_
      refine v_ladd hX dX10_predictedReference_125 ?_
      obtain ⟨x39, e40, hf⟩ := q_lt_nm hf
      rw [e40]
      refine v_lstore (lw := [(9, .long (q_l x39)), (7, .long (q_l x37)), (5, .long (q_l x35)), (3, .long (q_l x33)), (14, .long (q_l x30)), (12, .long (q_l x24)), (0, .ref p0), (1, .int (q_i p1)), (2, .int (q_i p2)), (11, .int (q_i v11))]) hX dX10_predictedReference_126 (by decide) rfl ?_
      refine v_iinc 9 (lw := [(11, .int (q_i (v11 + 1))), (9, .long (q_l x39)), (7, .long (q_l x37)), (5, .long (q_l x35)), (3, .long (q_l x33)), (14, .long (q_l x30)), (12, .long (q_l x24)), (0, .ref p0), (1, .int (q_i p1)), (2, .int (q_i p2))]) hX dX10_predictedReference_128 rfl (by decide) rfl ?_
      refine v_goto (tgt := 60) hX dX10_predictedReference_131 (by decide) ?_
      refine v_sub (lv' := [(0, .ref p0), (1, .int (q_i p1)), (2, .int (q_i p2)), (3, .long (q_l x33)), (5, .long (q_l x35)), (7, .long (q_l x37)), (9, .long (q_l x39)), (11, .int (q_i (v11 + 1)))]) [7, 8, 9, 4, 3, 2, 1, 0] rfl ?_
      exact ih _ _ _ _ _ hf
set_option maxRecDepth 20000 in
theorem c_X10_predictedReference {S : q_S} {R : q_HR} {I : q_HI} {a0 : Nat} {a1 : Int} {a2 : Int} {rz : Int} {Iz : q_HI} (hf : f_X10_predictedReference S R I a0 a1 a2 = some (rz, Iz)) : ∀ (l : Launch) (D : va_G) (cy : Nat → ClassId) (B : Nat), Met l yX10_predictedReference [Cond.code yX10_predictedReference cX10_predictedReference 16 (some .int)] rmX10_predictedReference (q_Pc B D cy [.ref a0, .int (q_i a1), .int (q_i a2)] S R I) (q_Qc B D cy (some (.int (q_i rz))) S R Iz) 0 0 (fun q => B ≤ q) := by
  refine q_met (lv := [(0, .ref a0), (1, .int (q_i a1)), (2, .int (q_i a2))]) (own := RX10) (nm := "predictedReference") (by decide) rfl rfl (Nat.le_of_ble_eq_true rfl) rfl (fun X hX hE => ?_)
  unfold f_X10_predictedReference at hf
  refine v_aload_n 0 0 hX dX10_predictedReference_0 rfl rfl ?_
  refine v_iconst hX dX10_predictedReference_1 ?_
  obtain ⟨g1, hf⟩ := q_gd_some hf
  refine v_putI hX fa_RX10_1 rfl g1 dX10_predictedReference_2 ?_
  obtain ⟨I2, e3, hf⟩ := q_lt_nm hf
  rw [e3]
  refine v_aload_n 0 0 hX dX10_predictedReference_5 rfl rfl ?_
  refine v_iload_n 1 1 hX dX10_predictedReference_6 rfl rfl ?_
  obtain ⟨r4, h5, hf⟩ := q_bd_some hf
  refine v_callV (As := [.int (q_i a1)]) (rest := []) (st1 := [.int (q_i r4)]) (some (.int (q_i r4))) hX mv_RX10_88 (c_X10_isSensor h5) ⟨rfl, rfl⟩ ⟨Nat.le_of_ble_eq_true rfl, Nat.le_of_ble_eq_true rfl⟩ g1 rfl rfl (Nat.le_of_ble_eq_true rfl) ⟨Nat.le_of_ble_eq_true rfl, Nat.le_of_ble_eq_true rfl⟩ dX10_predictedReference_7 rfl ?_
  obtain ⟨g6, hf⟩ := q_gd_some hf
  refine v_if_ne (tgt := 16) hX g6 dX10_predictedReference_10 (by decide) (fun c7 => ?_) (fun c7 => ?_)
  · replace hf := q_ifp c7 hf
    refine v_bipush (-2) hX dX10_predictedReference_13 (by decide) ?_
    cases hf
    exact v_iret hX hE (Nat.le_of_ble_eq_true rfl) (Nat.le_of_ble_eq_true rfl) dX10_predictedReference_15
  · replace hf := q_ifn c7 hf
    refine v_iload_n 2 2 hX dX10_predictedReference_16 rfl rfl ?_
    obtain ⟨g8, hf⟩ := q_gd_some hf
    refine v_i2l hX g8 dX10_predictedReference_17 ?_
    refine v_lconst 0 hX dX10_predictedReference_18 (by decide) ?_
    refine v_ldc2 999 hX kl_RX10_141 (by decide) dX10_predictedReference_19 ?_
    obtain ⟨r9, h10, hf⟩ := q_bd_some hf
    refine v_callS (As := [.long (q_l a2), .long (q_l 0), .long (q_l 999)]) (rest := []) (st1 := [.int (q_i r9)]) (some (.int (q_i r9))) hX ms_RX10_84 (c_X10_isIn h10) ⟨rfl, rfl⟩ ⟨Nat.le_of_ble_eq_true rfl, Nat.le_of_ble_eq_true rfl⟩ rfl rfl (Nat.le_of_ble_eq_true rfl) ⟨Nat.le_of_ble_eq_true rfl, Nat.le_of_ble_eq_true rfl⟩ dX10_predictedReference_22 rfl ?_
    obtain ⟨g11, hf⟩ := q_gd_some hf
    refine v_if_ne (tgt := 31) hX g11 dX10_predictedReference_25 (by decide) (fun c12 => ?_) (fun c12 => ?_)
    · replace hf := q_ifp c12 hf
      refine v_bipush (-3) hX dX10_predictedReference_28 (by decide) ?_
      cases hf
      exact v_iret hX hE (Nat.le_of_ble_eq_true rfl) (Nat.le_of_ble_eq_true rfl) dX10_predictedReference_30
    · replace hf := q_ifn c12 hf
      refine v_aload_n 0 0 hX dX10_predictedReference_31 rfl rfl ?_
      refine v_getI hX fa_RX10_58 (fun _ _ => rfl) g1 dX10_predictedReference_32 ?_
      refine v_iconst hX dX10_predictedReference_35 ?_
      obtain ⟨g13, hf⟩ := q_gd_some hf
      refine v_icmp_ge (tgt := 41) hX g13 (by unfold r_i; omega) dX10_predictedReference_36 (by decide) (fun c14 => ?_) (fun c14 => ?_)
      · replace hf := q_ifp c14 hf
        refine v_aload_n 0 0 hX dX10_predictedReference_41 rfl rfl ?_
        refine v_iconst hX dX10_predictedReference_42 ?_
        obtain ⟨I15, h16, hf⟩ := q_bd_some hf
        refine v_callV (As := [.int (q_i 0)]) (rest := []) (st1 := []) none hX mv_RX10_143 (c_X10_lays h16) ⟨rfl, rfl⟩ ⟨Nat.le_of_ble_eq_true rfl, Nat.le_of_ble_eq_true rfl⟩ g1 rfl rfl (Nat.le_of_ble_eq_true rfl) ⟨Nat.le_of_ble_eq_true rfl, Nat.le_of_ble_eq_true rfl⟩ dX10_predictedReference_43 rfl ?_
        refine v_lconst 0 hX dX10_predictedReference_46 (by decide) ?_
        refine v_lstore_n 3 (lw := [(3, .long (q_l 0)), (0, .ref a0), (1, .int (q_i a1)), (2, .int (q_i a2))]) hX dX10_predictedReference_47 rfl (by decide) rfl ?_
        refine v_lconst 0 hX dX10_predictedReference_48 (by decide) ?_
        refine v_lstore (lw := [(5, .long (q_l 0)), (3, .long (q_l 0)), (0, .ref a0), (1, .int (q_i a1)), (2, .int (q_i a2))]) hX dX10_predictedReference_49 (by decide) rfl ?_
        refine v_lconst 0 hX dX10_predictedReference_51 (by decide) ?_
        refine v_lstore (lw := [(7, .long (q_l 0)), (5, .long (q_l 0)), (3, .long (q_l 0)), (0, .ref a0), (1, .int (q_i a1)), (2, .int (q_i a2))]) hX dX10_predictedReference_52 (by decide) rfl ?_
        refine v_lconst 0 hX dX10_predictedReference_54 (by decide) ?_
        refine v_lstore (lw := [(9, .long (q_l 0)), (7, .long (q_l 0)), (5, .long (q_l 0)), (3, .long (q_l 0)), (0, .ref a0), (1, .int (q_i a1)), (2, .int (q_i a2))]) hX dX10_predictedReference_55 (by decide) rfl ?_
        refine v_iconst hX dX10_predictedReference_57 ?_
        refine v_istore (lw := [(11, .int (q_i 0)), (9, .long (q_l 0)), (7, .long (q_l 0)), (5, .long (q_l 0)), (3, .long (q_l 0)), (0, .ref a0), (1, .int (q_i a1)), (2, .int (q_i a2))]) hX dX10_predictedReference_58 (by decide) rfl ?_
        refine v_sub (lv' := [(0, .ref a0), (1, .int (q_i a1)), (2, .int (q_i a2)), (3, .long (q_l 0)), (5, .long (q_l 0)), (7, .long (q_l 0)), (9, .long (q_l 0)), (11, .int (q_i 0))]) [5, 6, 7, 4, 3, 2, 1, 0] rfl ?_
        refine l_X10_predictedReference_60 hX hE (fun w41 w42 w43 w44 w45 hk => ?_) 100 _ _ _ _ _ hf
        clear hf
        have hf := hk
        clear hk
        refine v_aload_n 0 0 hX dX10_predictedReference_134 rfl rfl ?_
        refine v_getI hX fa_RX10_58 (fun _ _ => rfl) g1 dX10_predictedReference_135 ?_
        obtain ⟨g46, hf⟩ := q_gd_some hf
        refine v_i2l hX g46 dX10_predictedReference_138 ?_
        refine v_lload 4 hX dX10_predictedReference_139 rfl ?_
        refine v_lmul hX dX10_predictedReference_141 ?_
        refine v_lload_n 3 2 hX dX10_predictedReference_142 rfl rfl ?_
        refine v_lload 3 hX dX10_predictedReference_143 rfl ?_
        refine v_lmul hX dX10_predictedReference_145 ?_
        refine v_lsub hX dX10_predictedReference_146 ?_
        obtain ⟨x47, e48, hf⟩ := q_lt_nm hf
        rw [e48]
        refine v_lstore (lw := [(11, .long (q_l x47)), (0, .ref a0), (2, .int (q_i a2)), (3, .long (q_l w41)), (5, .long (q_l w42)), (7, .long (q_l w43)), (9, .long (q_l w44))]) hX dX10_predictedReference_147 (by decide) rfl ?_
        refine v_aload_n 0 1 hX dX10_predictedReference_149 rfl rfl ?_
        refine v_getI hX fa_RX10_58 (fun _ _ => rfl) g1 dX10_predictedReference_150 ?_
        refine v_i2l hX g46 dX10_predictedReference_153 ?_
        refine v_lload 6 hX dX10_predictedReference_154 rfl ?_
        refine v_lmul hX dX10_predictedReference_156 ?_
        refine v_lload_n 3 3 hX dX10_predictedReference_157 rfl rfl ?_
        refine v_lload_n 3 3 hX dX10_predictedReference_158 rfl rfl ?_
        refine v_lmul hX dX10_predictedReference_159 ?_
        refine v_lsub hX dX10_predictedReference_160 ?_
        obtain ⟨x49, e50, hf⟩ := q_lt_nm hf
        rw [e50]
        refine v_lstore (lw := [(13, .long (q_l x49)), (11, .long (q_l x47)), (0, .ref a0), (2, .int (q_i a2)), (3, .long (q_l w41)), (5, .long (q_l w42)), (7, .long (q_l w43)), (9, .long (q_l w44))]) hX dX10_predictedReference_161 (by decide) rfl ?_
        refine v_lload 0 hX dX10_predictedReference_163 rfl ?_
        refine v_lload 5 hX dX10_predictedReference_165 rfl ?_
        refine v_lmul hX dX10_predictedReference_167 ?_
        refine v_lload 1 hX dX10_predictedReference_168 rfl ?_
        refine v_aload_n 0 2 hX dX10_predictedReference_170 rfl rfl ?_
        refine v_getI hX fa_RX10_58 (fun _ _ => rfl) g1 dX10_predictedReference_171 ?_
        refine v_i2l hX g46 dX10_predictedReference_174 ?_
        refine v_iload_n 2 3 hX dX10_predictedReference_175 rfl rfl ?_
        refine v_i2l hX g8 dX10_predictedReference_176 ?_
        refine v_lmul hX dX10_predictedReference_177 ?_
        refine v_lload_n 3 4 hX dX10_predictedReference_178 rfl rfl ?_
        refine v_lsub hX dX10_predictedReference_179 ?_
        refine v_lmul hX dX10_predictedReference_180 ?_
        refine v_ladd hX dX10_predictedReference_181 ?_
        refine v_aload_n 0 2 hX dX10_predictedReference_182 rfl rfl ?_
        refine v_getI hX fa_RX10_58 (fun _ _ => rfl) g1 dX10_predictedReference_183 ?_
        refine v_i2l hX g46 dX10_predictedReference_186 ?_
        refine v_lload 0 hX dX10_predictedReference_187 rfl ?_
        refine v_lmul hX dX10_predictedReference_189 ?_
        obtain ⟨r51, h52, hf⟩ := q_bd_some hf
        refine v_callS (As := [.long (q_l ((x49 * w42) + (x47 * (((I15 a0 3) * a2) - w41)))), .long (q_l ((I15 a0 3) * x49))]) (rest := []) (st1 := [.long (q_l r51)]) (some (.long (q_l r51))) hX ms_RX10_110 (c_X10_down h52) ⟨rfl, rfl⟩ ⟨Nat.le_of_ble_eq_true rfl, Nat.le_of_ble_eq_true rfl⟩ rfl rfl (Nat.le_of_ble_eq_true rfl) ⟨Nat.le_of_ble_eq_true rfl, Nat.le_of_ble_eq_true rfl⟩ dX10_predictedReference_190 rfl ?_
        refine v_ldc2 10000000 hX kl_RX10_127 (by decide) dX10_predictedReference_193 ?_
        refine v_ladd hX dX10_predictedReference_196 ?_
        refine v_l2i hX dX10_predictedReference_197 ?_
        cases hf
        exact v_iret hX hE (Nat.le_of_ble_eq_true rfl) (Nat.le_of_ble_eq_true rfl) dX10_predictedReference_198
      · replace hf := q_ifn c14 hf
        refine v_iconst hX dX10_predictedReference_39 ?_
        cases hf
        exact v_iret hX hE (Nat.le_of_ble_eq_true rfl) (Nat.le_of_ble_eq_true rfl) dX10_predictedReference_40
noncomputable def f_X10_useDrift (S : q_S) (R : q_HR) (I : q_HI) (a0 : Nat) (a1 : Int) : Option (Int × q_HI) := q_gd (S.1 a0 = 11) (q_lt (q_up I a0 0 0) fun I2 => q_gd (r_i (I2 a0 9)) (if I2 a0 9 = 0 then q_gd (a1 = 0 ∨ a1 = 1) (q_lt (q_up I2 a0 9 a1) fun I7 => some (0, I7)) else q_gd (a1 = 0 ∨ a1 = 1) (q_lt (q_up I2 a0 9 a1) fun I10 => some (1, I10))))
abbrev rmX10_useDrift : Room := { frames := 0, cells := 0, slots := 0, locals := 0 }
set_option maxRecDepth 20000 in
theorem c_X10_useDrift {S : q_S} {R : q_HR} {I : q_HI} {a0 : Nat} {a1 : Int} {rz : Int} {Iz : q_HI} (hf : f_X10_useDrift S R I a0 a1 = some (rz, Iz)) : ∀ (l : Launch) (D : va_G) (cy : Nat → ClassId) (B : Nat), Met l yX10_useDrift [Cond.code yX10_useDrift cX10_useDrift 3 (some .int)] rmX10_useDrift (q_Pc B D cy [.ref a0, .int (q_i a1)] S R I) (q_Qc B D cy (some (.int (q_i rz))) S R Iz) 0 0 (fun q => B ≤ q) := by
  refine q_met (lv := [(0, .ref a0), (1, .int (q_i a1))]) (own := RX10) (nm := "useDrift") (by decide) rfl rfl (Nat.le_of_ble_eq_true rfl) rfl (fun X hX hE => ?_)
  unfold f_X10_useDrift at hf
  refine v_aload_n 0 0 hX dX10_useDrift_0 rfl rfl ?_
  refine v_iconst hX dX10_useDrift_1 ?_
  obtain ⟨g1, hf⟩ := q_gd_some hf
  refine v_putI hX fa_RX10_1 rfl g1 dX10_useDrift_2 ?_
  obtain ⟨I2, e3, hf⟩ := q_lt_nm hf
  rw [e3]
  refine v_aload_n 0 0 hX dX10_useDrift_5 rfl rfl ?_
  refine v_getI hX fa_RX10_77 (fun _ _ => rfl) g1 dX10_useDrift_6 ?_
  obtain ⟨g4, hf⟩ := q_gd_some hf
  refine v_if_eq (tgt := 16) hX g4 dX10_useDrift_9 (by decide) (fun c5 => ?_) (fun c5 => ?_)
  · replace hf := q_ifp c5 hf
    refine v_iconst hX dX10_useDrift_16 ?_
    refine v_istore_n 2 (lw := [(2, .int (q_i 0)), (0, .ref a0), (1, .int (q_i a1))]) hX dX10_useDrift_17 rfl (by decide) rfl ?_
    refine v_aload_n 0 1 hX dX10_useDrift_18 rfl rfl ?_
    refine v_iload_n 1 2 hX dX10_useDrift_19 rfl rfl ?_
    obtain ⟨g6, hf⟩ := q_gd_some hf
    refine v_putZ hX fa_RX10_77 rfl g6 g1 dX10_useDrift_20 ?_
    obtain ⟨I7, e8, hf⟩ := q_lt_nm hf
    rw [e8]
    refine v_iload_n 2 0 hX dX10_useDrift_23 rfl rfl ?_
    cases hf
    exact v_iret hX hE (Nat.le_of_ble_eq_true rfl) (Nat.le_of_ble_eq_true rfl) dX10_useDrift_24
  · replace hf := q_ifn c5 hf
    refine v_iconst hX dX10_useDrift_12 ?_
    refine v_goto (tgt := 17) hX dX10_useDrift_13 (by decide) ?_
    refine v_istore_n 2 (lw := [(2, .int (q_i 1)), (0, .ref a0), (1, .int (q_i a1))]) hX dX10_useDrift_17 rfl (by decide) rfl ?_
    refine v_aload_n 0 1 hX dX10_useDrift_18 rfl rfl ?_
    refine v_iload_n 1 2 hX dX10_useDrift_19 rfl rfl ?_
    obtain ⟨g9, hf⟩ := q_gd_some hf
    refine v_putZ hX fa_RX10_77 rfl g9 g1 dX10_useDrift_20 ?_
    obtain ⟨I10, e11, hf⟩ := q_lt_nm hf
    rw [e11]
    refine v_iload_n 2 0 hX dX10_useDrift_23 rfl rfl ?_
    cases hf
    exact v_iret hX hE (Nat.le_of_ble_eq_true rfl) (Nat.le_of_ble_eq_true rfl) dX10_useDrift_24
noncomputable def f_X10_isClass (S : q_S) (R : q_HR) (I : q_HI) (a0 : Nat) (a1 : Int) : Option (Int) := q_gd (r_i a1) (q_gd (S.1 a0 = 11) (q_gd (r_i ((I a0 4) - 1)) (q_bd (f_X10_isIn a1 0 ((I a0 4) - 1)) fun r4 => q_gd (r4 = 0 ∨ r4 = 1) (some r4))))
abbrev rmX10_isClass : Room := { frames := 1, cells := 0, slots := 0, locals := 25 }
set_option maxRecDepth 20000 in
theorem c_X10_isClass {S : q_S} {R : q_HR} {I : q_HI} {a0 : Nat} {a1 : Int} {rz : Int} (hf : f_X10_isClass S R I a0 a1 = some rz) : ∀ (l : Launch) (D : va_G) (cy : Nat → ClassId) (B : Nat), Met l yX10_isClass [Cond.code yX10_isClass cX10_isClass 2 (some .boolean)] rmX10_isClass (q_Pc B D cy [.ref a0, .int (q_i a1)] S R I) (q_Qc B D cy (some (.int (q_i rz))) S R I) 0 0 (fun q => B ≤ q) := by
  refine q_met (lv := [(0, .ref a0), (1, .int (q_i a1))]) (own := RX10) (nm := "isClass") (by decide) rfl rfl (Nat.le_of_ble_eq_true rfl) rfl (fun X hX hE => ?_)
  unfold f_X10_isClass at hf
  refine v_iload_n 1 1 hX dX10_isClass_0 rfl rfl ?_
  obtain ⟨g1, hf⟩ := q_gd_some hf
  refine v_i2l hX g1 dX10_isClass_1 ?_
  refine v_lconst 0 hX dX10_isClass_2 (by decide) ?_
  refine v_aload_n 0 0 hX dX10_isClass_3 rfl rfl ?_
  obtain ⟨g2, hf⟩ := q_gd_some hf
  refine v_getI hX fa_RX10_61 (fun _ _ => rfl) g2 dX10_isClass_4 ?_
  refine v_iconst hX dX10_isClass_7 ?_
  refine v_isub hX dX10_isClass_8 ?_
  obtain ⟨g3, hf⟩ := q_gd_some hf
  refine v_i2l hX g3 dX10_isClass_9 ?_
  obtain ⟨r4, h5, hf⟩ := q_bd_some hf
  refine v_callS (As := [.long (q_l a1), .long (q_l 0), .long (q_l ((I a0 4) - 1))]) (rest := []) (st1 := [.int (q_i r4)]) (some (.int (q_i r4))) hX ms_RX10_84 (c_X10_isIn h5) ⟨rfl, rfl⟩ ⟨Nat.le_of_ble_eq_true rfl, Nat.le_of_ble_eq_true rfl⟩ rfl rfl (Nat.le_of_ble_eq_true rfl) ⟨Nat.le_of_ble_eq_true rfl, Nat.le_of_ble_eq_true rfl⟩ dX10_isClass_10 rfl ?_
  obtain ⟨g6, hf⟩ := q_gd_some hf
  cases hf
  exact v_zret hX g6 hE (Nat.le_of_ble_eq_true rfl) (Nat.le_of_ble_eq_true rfl) dX10_isClass_13
noncomputable def f_X10_isSample (S : q_S) (R : q_HR) (I : q_HI) (a0 : Nat) (a1 : Int) (a2 : Int) : Option (Int) := q_gd (S.1 a0 = 11) (q_bd (f_X10_isClass S R I a0 a1) fun r2 => q_gd (r_i r2) (if r2 = 0 then some 0 else q_gd (r_i a2) (q_gd (S.1 (R a0 13) = 12) (q_gd ((0 : Int) ≤ a1 ∧ a1 < (S.2.1 (R a0 13) : Int)) (q_gd (r_i ((I (R a0 13) (Int.toNat a1)) - 1)) (q_bd (f_X10_isIn a2 0 ((I (R a0 13) (Int.toNat a1)) - 1)) fun r10 => q_gd (r_i r10) (if r10 = 0 then some 0 else some 1)))))))
abbrev rmX10_isSample : Room := { frames := 2, cells := 0, slots := 0, locals := 46 }
set_option maxRecDepth 20000 in
theorem c_X10_isSample {S : q_S} {R : q_HR} {I : q_HI} {a0 : Nat} {a1 : Int} {a2 : Int} {rz : Int} (hf : f_X10_isSample S R I a0 a1 a2 = some rz) : ∀ (l : Launch) (D : va_G) (cy : Nat → ClassId) (B : Nat), Met l yX10_isSample [Cond.code yX10_isSample cX10_isSample 3 (some .boolean)] rmX10_isSample (q_Pc B D cy [.ref a0, .int (q_i a1), .int (q_i a2)] S R I) (q_Qc B D cy (some (.int (q_i rz))) S R I) 0 0 (fun q => B ≤ q) := by
  refine q_met (lv := [(0, .ref a0), (1, .int (q_i a1)), (2, .int (q_i a2))]) (own := RX10) (nm := "isSample") (by decide) rfl rfl (Nat.le_of_ble_eq_true rfl) rfl (fun X hX hE => ?_)
  unfold f_X10_isSample at hf
  refine v_aload_n 0 0 hX dX10_isSample_0 rfl rfl ?_
  refine v_iload_n 1 1 hX dX10_isSample_1 rfl rfl ?_
  obtain ⟨g1, hf⟩ := q_gd_some hf
  obtain ⟨r2, h3, hf⟩ := q_bd_some hf
  refine v_callV (As := [.int (q_i a1)]) (rest := []) (st1 := [.int (q_i r2)]) (some (.int (q_i r2))) hX mv_RX10_148 (c_X10_isClass h3) ⟨rfl, rfl⟩ ⟨Nat.le_of_ble_eq_true rfl, Nat.le_of_ble_eq_true rfl⟩ g1 rfl rfl (Nat.le_of_ble_eq_true rfl) ⟨Nat.le_of_ble_eq_true rfl, Nat.le_of_ble_eq_true rfl⟩ dX10_isSample_2 rfl ?_
  obtain ⟨g4, hf⟩ := q_gd_some hf
  refine v_if_eq (tgt := 30) hX g4 dX10_isSample_5 (by decide) (fun c5 => ?_) (fun c5 => ?_)
  · replace hf := q_ifp c5 hf
    refine v_iconst hX dX10_isSample_30 ?_
    cases hf
    exact v_zret hX (Or.inl rfl) hE (Nat.le_of_ble_eq_true rfl) (Nat.le_of_ble_eq_true rfl) dX10_isSample_31
  · replace hf := q_ifn c5 hf
    refine v_iload_n 2 2 hX dX10_isSample_8 rfl rfl ?_
    obtain ⟨g6, hf⟩ := q_gd_some hf
    refine v_i2l hX g6 dX10_isSample_9 ?_
    refine v_lconst 0 hX dX10_isSample_10 (by decide) ?_
    refine v_aload_n 0 0 hX dX10_isSample_11 rfl rfl ?_
    obtain ⟨g7, hf⟩ := q_gd_some hf
    refine v_getA hX fa_RX10_23 (fun _ _ => rfl) g1 g7 (by decide) dX10_isSample_12 ?_
    refine v_iload_n 1 1 hX dX10_isSample_15 rfl rfl ?_
    obtain ⟨g8, hf⟩ := q_gd_some hf
    refine v_iaload hX g7 g8 dX10_isSample_16 ?_
    refine v_iconst hX dX10_isSample_17 ?_
    refine v_isub hX dX10_isSample_18 ?_
    obtain ⟨g9, hf⟩ := q_gd_some hf
    refine v_i2l hX g9 dX10_isSample_19 ?_
    obtain ⟨r10, h11, hf⟩ := q_bd_some hf
    refine v_callS (As := [.long (q_l a2), .long (q_l 0), .long (q_l ((I (R a0 13) (Int.toNat a1)) - 1))]) (rest := []) (st1 := [.int (q_i r10)]) (some (.int (q_i r10))) hX ms_RX10_84 (c_X10_isIn h11) ⟨rfl, rfl⟩ ⟨Nat.le_of_ble_eq_true rfl, Nat.le_of_ble_eq_true rfl⟩ rfl rfl (Nat.le_of_ble_eq_true rfl) ⟨Nat.le_of_ble_eq_true rfl, Nat.le_of_ble_eq_true rfl⟩ dX10_isSample_20 rfl ?_
    obtain ⟨g12, hf⟩ := q_gd_some hf
    refine v_if_eq (tgt := 30) hX g12 dX10_isSample_23 (by decide) (fun c13 => ?_) (fun c13 => ?_)
    · replace hf := q_ifp c13 hf
      refine v_iconst hX dX10_isSample_30 ?_
      cases hf
      exact v_zret hX (Or.inl rfl) hE (Nat.le_of_ble_eq_true rfl) (Nat.le_of_ble_eq_true rfl) dX10_isSample_31
    · replace hf := q_ifn c13 hf
      refine v_iconst hX dX10_isSample_26 ?_
      refine v_goto (tgt := 31) hX dX10_isSample_27 (by decide) ?_
      cases hf
      exact v_zret hX (Or.inr rfl) hE (Nat.le_of_ble_eq_true rfl) (Nat.le_of_ble_eq_true rfl) dX10_isSample_31
noncomputable def f_X10_placeOf (a0 : Int) (a1 : Int) : Option (Int) := some ((23 + (8 * a0)) + a1)
abbrev rmX10_placeOf : Room := { frames := 0, cells := 0, slots := 0, locals := 0 }
set_option maxRecDepth 20000 in
theorem c_X10_placeOf {S : q_S} {R : q_HR} {I : q_HI} {a0 : Int} {a1 : Int} {rz : Int} (hf : f_X10_placeOf a0 a1 = some rz) : ∀ (l : Launch) (D : va_G) (cy : Nat → ClassId) (B : Nat), Met l yX10_placeOf [Cond.code yX10_placeOf cX10_placeOf 2 (some .int)] rmX10_placeOf (q_Pc B D cy [.int (q_i a0), .int (q_i a1)] S R I) (q_Qc B D cy (some (.int (q_i rz))) S R I) 0 0 (fun q => B ≤ q) := by
  refine q_met (lv := [(0, .int (q_i a0)), (1, .int (q_i a1))]) (own := RX10) (nm := "placeOf") (by decide) rfl rfl (Nat.le_of_ble_eq_true rfl) rfl (fun X hX hE => ?_)
  unfold f_X10_placeOf at hf
  refine v_bipush 23 hX dX10_placeOf_0 (by decide) ?_
  refine v_bipush 8 hX dX10_placeOf_2 (by decide) ?_
  refine v_iload_n 0 0 hX dX10_placeOf_4 rfl rfl ?_
  refine v_imul hX dX10_placeOf_5 ?_
  refine v_iadd hX dX10_placeOf_6 ?_
  refine v_iload_n 1 1 hX dX10_placeOf_7 rfl rfl ?_
  refine v_iadd hX dX10_placeOf_8 ?_
  cases hf
  exact v_iret hX hE (Nat.le_of_ble_eq_true rfl) (Nat.le_of_ble_eq_true rfl) dX10_placeOf_9
noncomputable def f_X10_addClass (S : q_S) (R : q_HR) (I : q_HI) (a0 : Nat) : Option (Int × q_HI) := q_gd (S.1 a0 = 11) (q_lt (q_up I a0 0 0) fun I2 => q_gd (r_i (I2 a0 4)) (if I2 a0 4 = 8 then some ((-4), I2) else q_gd (S.1 (R a0 13) = 12) (q_gd ((0 : Int) ≤ I2 a0 4 ∧ I2 a0 4 < (S.2.1 (R a0 13) : Int)) (q_lt (q_up I2 (R a0 13) (Int.toNat (I2 a0 4)) 0) fun I8 => q_lt (q_up I8 a0 4 ((I8 a0 4) + 1)) fun I10 => some ((I10 a0 4) - 1, I10)))))
abbrev rmX10_addClass : Room := { frames := 0, cells := 0, slots := 0, locals := 0 }
set_option maxRecDepth 20000 in
theorem c_X10_addClass {S : q_S} {R : q_HR} {I : q_HI} {a0 : Nat} {rz : Int} {Iz : q_HI} (hf : f_X10_addClass S R I a0 = some (rz, Iz)) : ∀ (l : Launch) (D : va_G) (cy : Nat → ClassId) (B : Nat), Met l yX10_addClass [Cond.code yX10_addClass cX10_addClass 1 (some .int)] rmX10_addClass (q_Pc B D cy [.ref a0] S R I) (q_Qc B D cy (some (.int (q_i rz))) S R Iz) 0 0 (fun q => B ≤ q) := by
  refine q_met (lv := [(0, .ref a0)]) (own := RX10) (nm := "addClass") (by decide) rfl rfl (Nat.le_of_ble_eq_true rfl) rfl (fun X hX hE => ?_)
  unfold f_X10_addClass at hf
  refine v_aload_n 0 0 hX dX10_addClass_0 rfl rfl ?_
  refine v_iconst hX dX10_addClass_1 ?_
  obtain ⟨g1, hf⟩ := q_gd_some hf
  refine v_putI hX fa_RX10_1 rfl g1 dX10_addClass_2 ?_
  obtain ⟨I2, e3, hf⟩ := q_lt_nm hf
  rw [e3]
  refine v_aload_n 0 0 hX dX10_addClass_5 rfl rfl ?_
  refine v_getI hX fa_RX10_61 (fun _ _ => rfl) g1 dX10_addClass_6 ?_
  refine v_bipush 8 hX dX10_addClass_9 (by decide) ?_
  obtain ⟨g4, hf⟩ := q_gd_some hf
  refine v_icmp_ne (tgt := 17) hX g4 (by unfold r_i; omega) dX10_addClass_11 (by decide) (fun c5 => ?_) (fun c5 => ?_)
  · replace hf := q_ifp c5 hf
    refine v_bipush (-4) hX dX10_addClass_14 (by decide) ?_
    cases hf
    exact v_iret hX hE (Nat.le_of_ble_eq_true rfl) (Nat.le_of_ble_eq_true rfl) dX10_addClass_16
  · replace hf := q_ifn c5 hf
    refine v_aload_n 0 0 hX dX10_addClass_17 rfl rfl ?_
    obtain ⟨g6, hf⟩ := q_gd_some hf
    refine v_getA hX fa_RX10_23 (fun _ _ => rfl) g1 g6 (by decide) dX10_addClass_18 ?_
    refine v_aload_n 0 0 hX dX10_addClass_21 rfl rfl ?_
    refine v_getI hX fa_RX10_61 (fun _ _ => rfl) g1 dX10_addClass_22 ?_
    refine v_iconst hX dX10_addClass_25 ?_
    obtain ⟨g7, hf⟩ := q_gd_some hf
    refine v_iastore hX g6 g7 dX10_addClass_26 ?_
    obtain ⟨I8, e9, hf⟩ := q_lt_nm hf
    rw [e9]
    refine v_aload_n 0 0 hX dX10_addClass_27 rfl rfl ?_
    refine v_dup hX dX10_addClass_28 rfl ?_
    refine v_getI hX fa_RX10_61 (fun _ _ => rfl) g1 dX10_addClass_29 ?_
    refine v_iconst hX dX10_addClass_32 ?_
    refine v_iadd hX dX10_addClass_33 ?_
    refine v_putI hX fa_RX10_61 rfl g1 dX10_addClass_34 ?_
    obtain ⟨I10, e11, hf⟩ := q_lt_nm hf
    rw [e11]
    refine v_aload_n 0 0 hX dX10_addClass_37 rfl rfl ?_
    refine v_getI hX fa_RX10_61 (fun _ _ => rfl) g1 dX10_addClass_38 ?_
    refine v_iconst hX dX10_addClass_41 ?_
    refine v_isub hX dX10_addClass_42 ?_
    cases hf
    exact v_iret hX hE (Nat.le_of_ble_eq_true rfl) (Nat.le_of_ble_eq_true rfl) dX10_addClass_43
noncomputable def f_X10_classCount (S : q_S) (R : q_HR) (I : q_HI) (a0 : Nat) : Option (Int × q_HI) := q_gd (S.1 a0 = 11) (q_lt (q_up I a0 0 0) fun I2 => some (I2 a0 4, I2))
abbrev rmX10_classCount : Room := { frames := 0, cells := 0, slots := 0, locals := 0 }
set_option maxRecDepth 20000 in
theorem c_X10_classCount {S : q_S} {R : q_HR} {I : q_HI} {a0 : Nat} {rz : Int} {Iz : q_HI} (hf : f_X10_classCount S R I a0 = some (rz, Iz)) : ∀ (l : Launch) (D : va_G) (cy : Nat → ClassId) (B : Nat), Met l yX10_classCount [Cond.code yX10_classCount cX10_classCount 1 (some .int)] rmX10_classCount (q_Pc B D cy [.ref a0] S R I) (q_Qc B D cy (some (.int (q_i rz))) S R Iz) 0 0 (fun q => B ≤ q) := by
  refine q_met (lv := [(0, .ref a0)]) (own := RX10) (nm := "classCount") (by decide) rfl rfl (Nat.le_of_ble_eq_true rfl) rfl (fun X hX hE => ?_)
  unfold f_X10_classCount at hf
  refine v_aload_n 0 0 hX dX10_classCount_0 rfl rfl ?_
  refine v_iconst hX dX10_classCount_1 ?_
  obtain ⟨g1, hf⟩ := q_gd_some hf
  refine v_putI hX fa_RX10_1 rfl g1 dX10_classCount_2 ?_
  obtain ⟨I2, e3, hf⟩ := q_lt_nm hf
  rw [e3]
  refine v_aload_n 0 0 hX dX10_classCount_5 rfl rfl ?_
  refine v_getI hX fa_RX10_61 (fun _ _ => rfl) g1 dX10_classCount_6 ?_
  cases hf
  exact v_iret hX hE (Nat.le_of_ble_eq_true rfl) (Nat.le_of_ble_eq_true rfl) dX10_classCount_9
noncomputable def f_X10_addSample (S : q_S) (R : q_HR) (I : q_HI) (a0 : Nat) (a1 : Int) : Option (Int × q_HI) := q_gd (S.1 a0 = 11) (q_lt (q_up I a0 0 0) fun I2 => q_bd (f_X10_isClass S R I2 a0 a1) fun r4 => q_gd (r_i r4) (if r4 = 0 then some ((-2), I2) else q_gd (r_i (I2 a0 7)) (if I2 a0 7 = 0 then some ((-5), I2) else q_gd (S.1 (R a0 13) = 12) (q_gd ((0 : Int) ≤ a1 ∧ a1 < (S.2.1 (R a0 13) : Int)) (q_gd (r_i (I2 (R a0 13) (Int.toNat a1))) (if I2 (R a0 13) (Int.toNat a1) = 8 then some ((-4), I2) else q_bd (f_X10_placeOf a1 (I2 (R a0 13) (Int.toNat a1))) fun r14 => q_bd (f_X10_copies S R I2 a0 0 r14) fun I16 => q_lt (q_up I16 (R a0 13) (Int.toNat a1) ((I16 (R a0 13) (Int.toNat a1)) + 1)) fun I18 => some ((I18 (R a0 13) (Int.toNat a1)) - 1, I18)))))))
abbrev rmX10_addSample : Room := { frames := 2, cells := 0, slots := 0, locals := 46 }
set_option maxRecDepth 20000 in
theorem c_X10_addSample {S : q_S} {R : q_HR} {I : q_HI} {a0 : Nat} {a1 : Int} {rz : Int} {Iz : q_HI} (hf : f_X10_addSample S R I a0 a1 = some (rz, Iz)) : ∀ (l : Launch) (D : va_G) (cy : Nat → ClassId) (B : Nat), Met l yX10_addSample [Cond.code yX10_addSample cX10_addSample 2 (some .int)] rmX10_addSample (q_Pc B D cy [.ref a0, .int (q_i a1)] S R I) (q_Qc B D cy (some (.int (q_i rz))) S R Iz) 0 0 (fun q => B ≤ q) := by
  refine q_met (lv := [(0, .ref a0), (1, .int (q_i a1))]) (own := RX10) (nm := "addSample") (by decide) rfl rfl (Nat.le_of_ble_eq_true rfl) rfl (fun X hX hE => ?_)
  unfold f_X10_addSample at hf
  refine v_aload_n 0 0 hX dX10_addSample_0 rfl rfl ?_
  refine v_iconst hX dX10_addSample_1 ?_
  obtain ⟨g1, hf⟩ := q_gd_some hf
  refine v_putI hX fa_RX10_1 rfl g1 dX10_addSample_2 ?_
  obtain ⟨I2, e3, hf⟩ := q_lt_nm hf
  rw [e3]
  refine v_aload_n 0 0 hX dX10_addSample_5 rfl rfl ?_
  refine v_iload_n 1 1 hX dX10_addSample_6 rfl rfl ?_
  obtain ⟨r4, h5, hf⟩ := q_bd_some hf
  refine v_callV (As := [.int (q_i a1)]) (rest := []) (st1 := [.int (q_i r4)]) (some (.int (q_i r4))) hX mv_RX10_148 (c_X10_isClass h5) ⟨rfl, rfl⟩ ⟨Nat.le_of_ble_eq_true rfl, Nat.le_of_ble_eq_true rfl⟩ g1 rfl rfl (Nat.le_of_ble_eq_true rfl) ⟨Nat.le_of_ble_eq_true rfl, Nat.le_of_ble_eq_true rfl⟩ dX10_addSample_7 rfl ?_
  obtain ⟨g6, hf⟩ := q_gd_some hf
  refine v_if_ne (tgt := 16) hX g6 dX10_addSample_10 (by decide) (fun c7 => ?_) (fun c7 => ?_)
  · replace hf := q_ifp c7 hf
    refine v_bipush (-2) hX dX10_addSample_13 (by decide) ?_
    cases hf
    exact v_iret hX hE (Nat.le_of_ble_eq_true rfl) (Nat.le_of_ble_eq_true rfl) dX10_addSample_15
  · replace hf := q_ifn c7 hf
    refine v_aload_n 0 0 hX dX10_addSample_16 rfl rfl ?_
    refine v_getI hX fa_RX10_70 (fun _ _ => rfl) g1 dX10_addSample_17 ?_
    obtain ⟨g8, hf⟩ := q_gd_some hf
    refine v_if_ne (tgt := 26) hX g8 dX10_addSample_20 (by decide) (fun c9 => ?_) (fun c9 => ?_)
    · replace hf := q_ifp c9 hf
      refine v_bipush (-5) hX dX10_addSample_23 (by decide) ?_
      cases hf
      exact v_iret hX hE (Nat.le_of_ble_eq_true rfl) (Nat.le_of_ble_eq_true rfl) dX10_addSample_25
    · replace hf := q_ifn c9 hf
      refine v_aload_n 0 0 hX dX10_addSample_26 rfl rfl ?_
      obtain ⟨g10, hf⟩ := q_gd_some hf
      refine v_getA hX fa_RX10_23 (fun _ _ => rfl) g1 g10 (by decide) dX10_addSample_27 ?_
      refine v_iload_n 1 1 hX dX10_addSample_30 rfl rfl ?_
      obtain ⟨g11, hf⟩ := q_gd_some hf
      refine v_iaload hX g10 g11 dX10_addSample_31 ?_
      refine v_bipush 8 hX dX10_addSample_32 (by decide) ?_
      obtain ⟨g12, hf⟩ := q_gd_some hf
      refine v_icmp_ne (tgt := 40) hX g12 (by unfold r_i; omega) dX10_addSample_34 (by decide) (fun c13 => ?_) (fun c13 => ?_)
      · replace hf := q_ifp c13 hf
        refine v_bipush (-4) hX dX10_addSample_37 (by decide) ?_
        cases hf
        exact v_iret hX hE (Nat.le_of_ble_eq_true rfl) (Nat.le_of_ble_eq_true rfl) dX10_addSample_39
      · replace hf := q_ifn c13 hf
        refine v_aload_n 0 0 hX dX10_addSample_40 rfl rfl ?_
        refine v_iconst hX dX10_addSample_41 ?_
        refine v_iload_n 1 1 hX dX10_addSample_42 rfl rfl ?_
        refine v_aload_n 0 0 hX dX10_addSample_43 rfl rfl ?_
        refine v_getA hX fa_RX10_23 (fun _ _ => rfl) g1 g10 (by decide) dX10_addSample_44 ?_
        refine v_iload_n 1 1 hX dX10_addSample_47 rfl rfl ?_
        refine v_iaload hX g10 g11 dX10_addSample_48 ?_
        obtain ⟨r14, h15, hf⟩ := q_bd_some hf
        refine v_callS (As := [.int (q_i a1), .int (q_i (I2 (R a0 13) (Int.toNat a1)))]) (rest := [.int (q_i 0), .ref a0]) (st1 := [.int (q_i r14), .int (q_i 0), .ref a0]) (some (.int (q_i r14))) hX ms_RX10_151 (c_X10_placeOf h15) ⟨rfl, rfl⟩ ⟨Nat.le_of_ble_eq_true rfl, Nat.le_of_ble_eq_true rfl⟩ rfl rfl (Nat.le_of_ble_eq_true rfl) ⟨Nat.le_of_ble_eq_true rfl, Nat.le_of_ble_eq_true rfl⟩ dX10_addSample_49 rfl ?_
        obtain ⟨I16, h17, hf⟩ := q_bd_some hf
        refine v_callV (As := [.int (q_i 0), .int (q_i r14)]) (rest := []) (st1 := []) none hX mv_RX10_121 (c_X10_copies h17) ⟨rfl, rfl⟩ ⟨Nat.le_of_ble_eq_true rfl, Nat.le_of_ble_eq_true rfl⟩ g1 rfl rfl (Nat.le_of_ble_eq_true rfl) ⟨Nat.le_of_ble_eq_true rfl, Nat.le_of_ble_eq_true rfl⟩ dX10_addSample_52 rfl ?_
        refine v_aload_n 0 0 hX dX10_addSample_55 rfl rfl ?_
        refine v_getA hX fa_RX10_23 (fun _ _ => rfl) g1 g10 (by decide) dX10_addSample_56 ?_
        refine v_iload_n 1 1 hX dX10_addSample_59 rfl rfl ?_
        refine v_dup2 hX dX10_addSample_60 rfl rfl ?_
        refine v_iaload hX g10 g11 dX10_addSample_61 ?_
        refine v_iconst hX dX10_addSample_62 ?_
        refine v_iadd hX dX10_addSample_63 ?_
        refine v_iastore hX g10 g11 dX10_addSample_64 ?_
        obtain ⟨I18, e19, hf⟩ := q_lt_nm hf
        rw [e19]
        refine v_aload_n 0 0 hX dX10_addSample_65 rfl rfl ?_
        refine v_getA hX fa_RX10_23 (fun _ _ => rfl) g1 g10 (by decide) dX10_addSample_66 ?_
        refine v_iload_n 1 1 hX dX10_addSample_69 rfl rfl ?_
        refine v_iaload hX g10 g11 dX10_addSample_70 ?_
        refine v_iconst hX dX10_addSample_71 ?_
        refine v_isub hX dX10_addSample_72 ?_
        cases hf
        exact v_iret hX hE (Nat.le_of_ble_eq_true rfl) (Nat.le_of_ble_eq_true rfl) dX10_addSample_73
noncomputable def f_X10_removeSample_L29 (S : q_S) (R : q_HR) (p0 : Nat) (p1 : Int) (k : Int → q_HI → Option (Int × q_HI)) : Nat → Int → q_HI → Option (Int × q_HI)
  | 0, _, _ => none
  | n + 1, v3, I => q_gd (S.1 p0 = 11) (q_gd (S.1 (R p0 13) = 12) (q_gd ((0 : Int) ≤ p1 ∧ p1 < (S.2.1 (R p0 13) : Int)) (q_gd (r_i v3) (q_gd (r_i (I (R p0 13) (Int.toNat p1))) (if I (R p0 13) (Int.toNat p1) ≤ v3 then k v3 I else q_bd (f_X10_placeOf p1 (v3 + 1)) fun r18 => q_bd (f_X10_placeOf p1 v3) fun r20 => q_bd (f_X10_copies S R I p0 r18 r20) fun I22 => f_X10_removeSample_L29 S R p0 p1 k n (v3 + 1) I22)))))
noncomputable def f_X10_removeSample (S : q_S) (R : q_HR) (I : q_HI) (a0 : Nat) (a1 : Int) (a2 : Int) : Option (Int × q_HI) := q_gd (S.1 a0 = 11) (q_lt (q_up I a0 0 0) fun I2 => q_bd (f_X10_isSample S R I2 a0 a1 a2) fun r4 => q_gd (r_i r4) (if r4 = 0 then some ((-2), I2) else q_gd (S.1 (R a0 13) = 12) (q_gd ((0 : Int) ≤ a1 ∧ a1 < (S.2.1 (R a0 13) : Int)) (q_lt (q_up I2 (R a0 13) (Int.toNat a1) ((I2 (R a0 13) (Int.toNat a1)) - 1)) fun I10 => f_X10_removeSample_L29 S R a0 a1 (fun w24 I25 => some (I25 (R a0 13) (Int.toNat a1), I25)) 100 a2 I10))))
abbrev rmX10_removeSample : Room := { frames := 3, cells := 0, slots := 0, locals := 68 }
set_option maxRecDepth 20000 in
theorem l_X10_removeSample_29 {X : q_X} {S : q_S} {R : q_HR} {p0 : Nat} {p1 : Int} {rz : Int} {Iz : q_HI} (hX : q_C X cX10_removeSample 4 RX10 (some .int) "removeSample") (hE : q_E X 0 0 (some (.int (q_i rz))) S R Iz) {k : Int → q_HI → Option (Int × q_HI)} (hk : ∀ (v3 : Int) (I : q_HI), k v3 I = some (rz, Iz) → q_V X rmX10_removeSample cX10_removeSample 4 0 0 61 [(0, .ref p0), (1, .int (q_i p1))] [] S R I) :
    ∀ (n : Nat), ∀ (v3 : Int) (I : q_HI), f_X10_removeSample_L29 S R p0 p1 k n v3 I = some (rz, Iz) → q_V X rmX10_removeSample cX10_removeSample 4 0 0 29 [(0, .ref p0), (1, .int (q_i p1)), (3, .int (q_i v3))] [] S R I := by
  intro n
  induction n with
  | zero =>
    intro v3 I hf
    cases (show (none : Option (Int × q_HI)) = some _ from hf)
  | succ n ih =>
    intro v3 I hf
    rw [f_X10_removeSample_L29] at hf
    refine v_iload_n 3 2 hX dX10_removeSample_29 rfl rfl ?_
    refine v_aload_n 0 0 hX dX10_removeSample_30 rfl rfl ?_
    obtain ⟨g12, hf⟩ := q_gd_some hf
    obtain ⟨g13, hf⟩ := q_gd_some hf
    refine v_getA hX fa_RX10_23 (fun _ _ => rfl) g12 g13 (by decide) dX10_removeSample_31 ?_
    refine v_iload_n 1 1 hX dX10_removeSample_34 rfl rfl ?_
    obtain ⟨g14, hf⟩ := q_gd_some hf
    refine v_iaload hX g13 g14 dX10_removeSample_35 ?_
    obtain ⟨g15, hf⟩ := q_gd_some hf
    obtain ⟨g16, hf⟩ := q_gd_some hf
    refine v_icmp_ge (tgt := 61) hX g15 g16 dX10_removeSample_36 (by decide) (fun c17 => ?_) (fun c17 => ?_)
    · replace hf := q_ifp c17 hf
      refine v_sub (lv' := [(0, .ref p0), (1, .int (q_i p1))]) [0, 1] rfl ?_
      exact hk _ _ hf
    · replace hf := q_ifn c17 hf
      refine v_aload_n 0 0 hX dX10_removeSample_39 rfl rfl ?_
      refine v_iload_n 1 1 hX dX10_removeSample_40 rfl rfl ?_
      refine v_iload_n 3 2 hX dX10_removeSample_41 rfl rfl ?_
      refine v_iconst hX dX10_removeSample_42 ?_
      refine v_iadd hX dX10_removeSample_43 ?_
      obtain ⟨r18, h19, hf⟩ := q_bd_some hf
      refine v_callS (As := [.int (q_i p1), .int (q_i (v3 + 1))]) (rest := [.ref p0]) (st1 := [.int (q_i r18), .ref p0]) (some (.int (q_i r18))) hX ms_RX10_151 (c_X10_placeOf h19) ⟨rfl, rfl⟩ ⟨Nat.le_of_ble_eq_true rfl, Nat.le_of_ble_eq_true rfl⟩ rfl rfl (Nat.le_of_ble_eq_true rfl) ⟨Nat.le_of_ble_eq_true rfl, Nat.le_of_ble_eq_true rfl⟩ dX10_removeSample_44 rfl ?_
      refine v_iload_n 1 1 hX dX10_removeSample_47 rfl rfl ?_
      refine v_iload_n 3 2 hX dX10_removeSample_48 rfl rfl ?_
      obtain ⟨r20, h21, hf⟩ := q_bd_some hf
      refine v_callS (As := [.int (q_i p1), .int (q_i v3)]) (rest := [.int (q_i r18), .ref p0]) (st1 := [.int (q_i r20), .int (q_i r18), .ref p0]) (some (.int (q_i r20))) hX ms_RX10_151 (c_X10_placeOf h21) ⟨rfl, rfl⟩ ⟨Nat.le_of_ble_eq_true rfl, Nat.le_of_ble_eq_true rfl⟩ rfl rfl (Nat.le_of_ble_eq_true rfl) ⟨Nat.le_of_ble_eq_true rfl, Nat.le_of_ble_eq_true rfl⟩ dX10_removeSample_49 rfl ?_
      obtain ⟨I22, h23, hf⟩ := q_bd_some hf
      refine v_callV (As := [.int (q_i r18), .int (q_i r20)]) (rest := []) (st1 := []) none hX mv_RX10_121 (c_X10_copies h23) ⟨rfl, rfl⟩ ⟨Nat.le_of_ble_eq_true rfl, Nat.le_of_ble_eq_true rfl⟩ g12 rfl rfl (Nat.le_of_ble_eq_true rfl) ⟨Nat.le_of_ble_eq_true rfl, Nat.le_of_ble_eq_true rfl⟩ dX10_removeSample_52 rfl ?_
      refine v_iinc 2 (lw := [(3, .int (q_i (v3 + 1))), (0, .ref p0), (1, .int (q_i p1))]) hX dX10_removeSample_55 rfl (by decide) rfl ?_
      refine v_goto (tgt := 29) hX dX10_removeSample_58 (by decide) ?_
      refine v_sub (lv' := [(0, .ref p0), (1, .int (q_i p1)), (3, .int (q_i (v3 + 1)))]) [1, 2, 0] rfl ?_
      exact ih _ _ hf
set_option maxRecDepth 20000 in
theorem c_X10_removeSample {S : q_S} {R : q_HR} {I : q_HI} {a0 : Nat} {a1 : Int} {a2 : Int} {rz : Int} {Iz : q_HI} (hf : f_X10_removeSample S R I a0 a1 a2 = some (rz, Iz)) : ∀ (l : Launch) (D : va_G) (cy : Nat → ClassId) (B : Nat), Met l yX10_removeSample [Cond.code yX10_removeSample cX10_removeSample 4 (some .int)] rmX10_removeSample (q_Pc B D cy [.ref a0, .int (q_i a1), .int (q_i a2)] S R I) (q_Qc B D cy (some (.int (q_i rz))) S R Iz) 0 0 (fun q => B ≤ q) := by
  refine q_met (lv := [(0, .ref a0), (1, .int (q_i a1)), (2, .int (q_i a2))]) (own := RX10) (nm := "removeSample") (by decide) rfl rfl (Nat.le_of_ble_eq_true rfl) rfl (fun X hX hE => ?_)
  unfold f_X10_removeSample at hf
  refine v_aload_n 0 0 hX dX10_removeSample_0 rfl rfl ?_
  refine v_iconst hX dX10_removeSample_1 ?_
  obtain ⟨g1, hf⟩ := q_gd_some hf
  refine v_putI hX fa_RX10_1 rfl g1 dX10_removeSample_2 ?_
  obtain ⟨I2, e3, hf⟩ := q_lt_nm hf
  rw [e3]
  refine v_aload_n 0 0 hX dX10_removeSample_5 rfl rfl ?_
  refine v_iload_n 1 1 hX dX10_removeSample_6 rfl rfl ?_
  refine v_iload_n 2 2 hX dX10_removeSample_7 rfl rfl ?_
  obtain ⟨r4, h5, hf⟩ := q_bd_some hf
  refine v_callV (As := [.int (q_i a1), .int (q_i a2)]) (rest := []) (st1 := [.int (q_i r4)]) (some (.int (q_i r4))) hX mv_RX10_154 (c_X10_isSample h5) ⟨rfl, rfl⟩ ⟨Nat.le_of_ble_eq_true rfl, Nat.le_of_ble_eq_true rfl⟩ g1 rfl rfl (Nat.le_of_ble_eq_true rfl) ⟨Nat.le_of_ble_eq_true rfl, Nat.le_of_ble_eq_true rfl⟩ dX10_removeSample_8 rfl ?_
  obtain ⟨g6, hf⟩ := q_gd_some hf
  refine v_if_ne (tgt := 17) hX g6 dX10_removeSample_11 (by decide) (fun c7 => ?_) (fun c7 => ?_)
  · replace hf := q_ifp c7 hf
    refine v_bipush (-2) hX dX10_removeSample_14 (by decide) ?_
    cases hf
    exact v_iret hX hE (Nat.le_of_ble_eq_true rfl) (Nat.le_of_ble_eq_true rfl) dX10_removeSample_16
  · replace hf := q_ifn c7 hf
    refine v_aload_n 0 0 hX dX10_removeSample_17 rfl rfl ?_
    obtain ⟨g8, hf⟩ := q_gd_some hf
    refine v_getA hX fa_RX10_23 (fun _ _ => rfl) g1 g8 (by decide) dX10_removeSample_18 ?_
    refine v_iload_n 1 1 hX dX10_removeSample_21 rfl rfl ?_
    refine v_dup2 hX dX10_removeSample_22 rfl rfl ?_
    obtain ⟨g9, hf⟩ := q_gd_some hf
    refine v_iaload hX g8 g9 dX10_removeSample_23 ?_
    refine v_iconst hX dX10_removeSample_24 ?_
    refine v_isub hX dX10_removeSample_25 ?_
    refine v_iastore hX g8 g9 dX10_removeSample_26 ?_
    obtain ⟨I10, e11, hf⟩ := q_lt_nm hf
    rw [e11]
    refine v_iload_n 2 2 hX dX10_removeSample_27 rfl rfl ?_
    refine v_istore_n 3 (lw := [(3, .int (q_i a2)), (0, .ref a0), (1, .int (q_i a1)), (2, .int (q_i a2))]) hX dX10_removeSample_28 rfl (by decide) rfl ?_
    refine v_sub (lv' := [(0, .ref a0), (1, .int (q_i a1)), (3, .int (q_i a2))]) [1, 2, 0] rfl ?_
    refine l_X10_removeSample_29 hX hE (fun w24 I25 hk => ?_) 100 _ _ hf
    clear hf
    have hf := hk
    clear hk
    refine v_aload_n 0 0 hX dX10_removeSample_61 rfl rfl ?_
    refine v_getA hX fa_RX10_23 (fun _ _ => rfl) g1 g8 (by decide) dX10_removeSample_62 ?_
    refine v_iload_n 1 1 hX dX10_removeSample_65 rfl rfl ?_
    refine v_iaload hX g8 g9 dX10_removeSample_66 ?_
    cases hf
    exact v_iret hX hE (Nat.le_of_ble_eq_true rfl) (Nat.le_of_ble_eq_true rfl) dX10_removeSample_67
noncomputable def f_X10_recall (S : q_S) (R : q_HR) (I : q_HI) (a0 : Nat) (a1 : Int) (a2 : Int) : Option (Int × q_HI) := q_gd (S.1 a0 = 11) (q_lt (q_up I a0 0 0) fun I2 => q_bd (f_X10_isSample S R I2 a0 a1 a2) fun r4 => q_gd (r_i r4) (if r4 = 0 then some ((-2), I2) else q_lt (q_up I2 a0 7 1) fun I8 => q_bd (f_X10_placeOf a1 a2) fun r10 => q_bd (f_X10_copies S R I8 a0 r10 0) fun I12 => q_gd (S.1 (R a0 11) = 12) (q_gd ((0 : Int) ≤ 0 ∧ 0 < (S.2.1 (R a0 11) : Int)) (some (I12 (R a0 11) (Int.toNat 0), I12)))))
abbrev rmX10_recall : Room := { frames := 3, cells := 0, slots := 0, locals := 68 }
set_option maxRecDepth 20000 in
theorem c_X10_recall {S : q_S} {R : q_HR} {I : q_HI} {a0 : Nat} {a1 : Int} {a2 : Int} {rz : Int} {Iz : q_HI} (hf : f_X10_recall S R I a0 a1 a2 = some (rz, Iz)) : ∀ (l : Launch) (D : va_G) (cy : Nat → ClassId) (B : Nat), Met l yX10_recall [Cond.code yX10_recall cX10_recall 3 (some .int)] rmX10_recall (q_Pc B D cy [.ref a0, .int (q_i a1), .int (q_i a2)] S R I) (q_Qc B D cy (some (.int (q_i rz))) S R Iz) 0 0 (fun q => B ≤ q) := by
  refine q_met (lv := [(0, .ref a0), (1, .int (q_i a1)), (2, .int (q_i a2))]) (own := RX10) (nm := "recall") (by decide) rfl rfl (Nat.le_of_ble_eq_true rfl) rfl (fun X hX hE => ?_)
  unfold f_X10_recall at hf
  refine v_aload_n 0 0 hX dX10_recall_0 rfl rfl ?_
  refine v_iconst hX dX10_recall_1 ?_
  obtain ⟨g1, hf⟩ := q_gd_some hf
  refine v_putI hX fa_RX10_1 rfl g1 dX10_recall_2 ?_
  obtain ⟨I2, e3, hf⟩ := q_lt_nm hf
  rw [e3]
  refine v_aload_n 0 0 hX dX10_recall_5 rfl rfl ?_
  refine v_iload_n 1 1 hX dX10_recall_6 rfl rfl ?_
  refine v_iload_n 2 2 hX dX10_recall_7 rfl rfl ?_
  obtain ⟨r4, h5, hf⟩ := q_bd_some hf
  refine v_callV (As := [.int (q_i a1), .int (q_i a2)]) (rest := []) (st1 := [.int (q_i r4)]) (some (.int (q_i r4))) hX mv_RX10_154 (c_X10_isSample h5) ⟨rfl, rfl⟩ ⟨Nat.le_of_ble_eq_true rfl, Nat.le_of_ble_eq_true rfl⟩ g1 rfl rfl (Nat.le_of_ble_eq_true rfl) ⟨Nat.le_of_ble_eq_true rfl, Nat.le_of_ble_eq_true rfl⟩ dX10_recall_8 rfl ?_
  obtain ⟨g6, hf⟩ := q_gd_some hf
  refine v_if_ne (tgt := 17) hX g6 dX10_recall_11 (by decide) (fun c7 => ?_) (fun c7 => ?_)
  · replace hf := q_ifp c7 hf
    refine v_bipush (-2) hX dX10_recall_14 (by decide) ?_
    cases hf
    exact v_iret hX hE (Nat.le_of_ble_eq_true rfl) (Nat.le_of_ble_eq_true rfl) dX10_recall_16
  · replace hf := q_ifn c7 hf
    refine v_aload_n 0 0 hX dX10_recall_17 rfl rfl ?_
    refine v_iconst hX dX10_recall_18 ?_
    refine v_putZ hX fa_RX10_70 rfl (Or.inr rfl) g1 dX10_recall_19 ?_
    obtain ⟨I8, e9, hf⟩ := q_lt_nm hf
    rw [e9]
    refine v_aload_n 0 0 hX dX10_recall_22 rfl rfl ?_
    refine v_iload_n 1 1 hX dX10_recall_23 rfl rfl ?_
    refine v_iload_n 2 2 hX dX10_recall_24 rfl rfl ?_
    obtain ⟨r10, h11, hf⟩ := q_bd_some hf
    refine v_callS (As := [.int (q_i a1), .int (q_i a2)]) (rest := [.ref a0]) (st1 := [.int (q_i r10), .ref a0]) (some (.int (q_i r10))) hX ms_RX10_151 (c_X10_placeOf h11) ⟨rfl, rfl⟩ ⟨Nat.le_of_ble_eq_true rfl, Nat.le_of_ble_eq_true rfl⟩ rfl rfl (Nat.le_of_ble_eq_true rfl) ⟨Nat.le_of_ble_eq_true rfl, Nat.le_of_ble_eq_true rfl⟩ dX10_recall_25 rfl ?_
    refine v_iconst hX dX10_recall_28 ?_
    obtain ⟨I12, h13, hf⟩ := q_bd_some hf
    refine v_callV (As := [.int (q_i r10), .int (q_i 0)]) (rest := []) (st1 := []) none hX mv_RX10_121 (c_X10_copies h13) ⟨rfl, rfl⟩ ⟨Nat.le_of_ble_eq_true rfl, Nat.le_of_ble_eq_true rfl⟩ g1 rfl rfl (Nat.le_of_ble_eq_true rfl) ⟨Nat.le_of_ble_eq_true rfl, Nat.le_of_ble_eq_true rfl⟩ dX10_recall_29 rfl ?_
    refine v_aload_n 0 0 hX dX10_recall_32 rfl rfl ?_
    obtain ⟨g14, hf⟩ := q_gd_some hf
    refine v_getA hX fa_RX10_17 (fun _ _ => rfl) g1 g14 (by decide) dX10_recall_33 ?_
    refine v_iconst hX dX10_recall_36 ?_
    obtain ⟨g15, hf⟩ := q_gd_some hf
    refine v_iaload hX g14 g15 dX10_recall_37 ?_
    cases hf
    exact v_iret hX hE (Nat.le_of_ble_eq_true rfl) (Nat.le_of_ble_eq_true rfl) dX10_recall_38
noncomputable def f_X10_sampleCount (S : q_S) (R : q_HR) (I : q_HI) (a0 : Nat) (a1 : Int) : Option (Int × q_HI) := q_gd (S.1 a0 = 11) (q_lt (q_up I a0 0 0) fun I2 => q_bd (f_X10_isClass S R I2 a0 a1) fun r4 => q_gd (r_i r4) (if r4 = 0 then some ((-2), I2) else q_gd (S.1 (R a0 13) = 12) (q_gd ((0 : Int) ≤ a1 ∧ a1 < (S.2.1 (R a0 13) : Int)) (some (I2 (R a0 13) (Int.toNat a1), I2)))))
abbrev rmX10_sampleCount : Room := { frames := 2, cells := 0, slots := 0, locals := 46 }
set_option maxRecDepth 20000 in
theorem c_X10_sampleCount {S : q_S} {R : q_HR} {I : q_HI} {a0 : Nat} {a1 : Int} {rz : Int} {Iz : q_HI} (hf : f_X10_sampleCount S R I a0 a1 = some (rz, Iz)) : ∀ (l : Launch) (D : va_G) (cy : Nat → ClassId) (B : Nat), Met l yX10_sampleCount [Cond.code yX10_sampleCount cX10_sampleCount 2 (some .int)] rmX10_sampleCount (q_Pc B D cy [.ref a0, .int (q_i a1)] S R I) (q_Qc B D cy (some (.int (q_i rz))) S R Iz) 0 0 (fun q => B ≤ q) := by
  refine q_met (lv := [(0, .ref a0), (1, .int (q_i a1))]) (own := RX10) (nm := "sampleCount") (by decide) rfl rfl (Nat.le_of_ble_eq_true rfl) rfl (fun X hX hE => ?_)
  unfold f_X10_sampleCount at hf
  refine v_aload_n 0 0 hX dX10_sampleCount_0 rfl rfl ?_
  refine v_iconst hX dX10_sampleCount_1 ?_
  obtain ⟨g1, hf⟩ := q_gd_some hf
  refine v_putI hX fa_RX10_1 rfl g1 dX10_sampleCount_2 ?_
  obtain ⟨I2, e3, hf⟩ := q_lt_nm hf
  rw [e3]
  refine v_aload_n 0 0 hX dX10_sampleCount_5 rfl rfl ?_
  refine v_iload_n 1 1 hX dX10_sampleCount_6 rfl rfl ?_
  obtain ⟨r4, h5, hf⟩ := q_bd_some hf
  refine v_callV (As := [.int (q_i a1)]) (rest := []) (st1 := [.int (q_i r4)]) (some (.int (q_i r4))) hX mv_RX10_148 (c_X10_isClass h5) ⟨rfl, rfl⟩ ⟨Nat.le_of_ble_eq_true rfl, Nat.le_of_ble_eq_true rfl⟩ g1 rfl rfl (Nat.le_of_ble_eq_true rfl) ⟨Nat.le_of_ble_eq_true rfl, Nat.le_of_ble_eq_true rfl⟩ dX10_sampleCount_7 rfl ?_
  obtain ⟨g6, hf⟩ := q_gd_some hf
  refine v_if_eq (tgt := 22) hX g6 dX10_sampleCount_10 (by decide) (fun c7 => ?_) (fun c7 => ?_)
  · replace hf := q_ifp c7 hf
    refine v_bipush (-2) hX dX10_sampleCount_22 (by decide) ?_
    cases hf
    exact v_iret hX hE (Nat.le_of_ble_eq_true rfl) (Nat.le_of_ble_eq_true rfl) dX10_sampleCount_24
  · replace hf := q_ifn c7 hf
    refine v_aload_n 0 0 hX dX10_sampleCount_13 rfl rfl ?_
    obtain ⟨g8, hf⟩ := q_gd_some hf
    refine v_getA hX fa_RX10_23 (fun _ _ => rfl) g1 g8 (by decide) dX10_sampleCount_14 ?_
    refine v_iload_n 1 1 hX dX10_sampleCount_17 rfl rfl ?_
    obtain ⟨g9, hf⟩ := q_gd_some hf
    refine v_iaload hX g8 g9 dX10_sampleCount_18 ?_
    refine v_goto (tgt := 24) hX dX10_sampleCount_19 (by decide) ?_
    cases hf
    exact v_iret hX hE (Nat.le_of_ble_eq_true rfl) (Nat.le_of_ble_eq_true rfl) dX10_sampleCount_24
noncomputable def f_X10_far_L11 (S : q_S) (R : q_HR) (I : q_HI) (p0 : Nat) (p1 : Int) (k : Int → Int → Int → Int → Option (Int)) : Nat → Int → Int → Int → Int → Option (Int)
  | 0, _, _, _, _ => none
  | n + 1, v3, v5, v7, v9 => q_gd (S.1 p0 = 11) (q_gd (r_i v9) (q_gd (r_i (I p0 1)) (if I p0 1 ≤ v9 then k v3 v5 v7 v9 else q_gd (S.1 (R p0 21) = 13) (q_gd ((0 : Int) ≤ v9 ∧ v9 < (S.2.1 (R p0 21) : Int)) (q_lt (v3 + ((I (R p0 21) (Int.toNat v9)) * (I (R p0 21) (Int.toNat v9)))) fun x7 => q_gd (S.1 (R p0 17) = 12) (q_gd ((0 : Int) ≤ v9 ∧ v9 < (S.2.1 (R p0 17) : Int)) (q_gd (r_i (I (R p0 17) (Int.toNat v9))) (q_lt (v5 + ((I (R p0 21) (Int.toNat v9)) * (I (R p0 17) (Int.toNat v9)))) fun x12 => q_gd (r_i ((I (R p0 17) (Int.toNat v9)) * (I (R p0 17) (Int.toNat v9)))) (q_lt (v7 + ((I (R p0 17) (Int.toNat v9)) * (I (R p0 17) (Int.toNat v9)))) fun x15 => f_X10_far_L11 S R I p0 p1 k n x7 x12 x15 (v9 + 1))))))))))
noncomputable def f_X10_far (S : q_S) (R : q_HR) (I : q_HI) (a0 : Nat) (a1 : Int) : Option (Int) := f_X10_far_L11 S R I a0 a1 (fun w17 w18 w19 w20 => q_gd (S.1 a0 = 11) (q_gd (r_i (I a0 18)) (if I a0 18 = 0 then q_gd (r_l w17) (q_gd (r_l (a1 * a1)) (q_gd (a1 * a1 ≠ 0) (some (Int.tdiv w17 (a1 * a1))))) else q_gd (r_l ((w17 * w19) - (w18 * w18))) (q_gd (r_l ((a1 * a1) * w19)) (q_gd ((a1 * a1) * w19 ≠ 0) (some (Int.tdiv ((w17 * w19) - (w18 * w18)) ((a1 * a1) * w19)))))))) 100 0 0 0 0
abbrev rmX10_far : Room := { frames := 0, cells := 0, slots := 0, locals := 0 }
set_option maxRecDepth 20000 in
theorem l_X10_far_11 {X : q_X} {S : q_S} {R : q_HR} {I : q_HI} {p0 : Nat} {p1 : Int} {rz : Int} (hX : q_C X cX10_far 10 RX10 (some .long) "far") (hE : q_E X 0 0 (some (.long (q_l rz))) S R I) {k : Int → Int → Int → Int → Option (Int)} (hk : ∀ (v3 : Int) (v5 : Int) (v7 : Int) (v9 : Int), k v3 v5 v7 v9 = some rz → q_V X rmX10_far cX10_far 10 0 0 86 [(0, .ref p0), (1, .long (q_l p1)), (3, .long (q_l v3)), (5, .long (q_l v5)), (7, .long (q_l v7))] [] S R I) :
    ∀ (n : Nat), ∀ (v3 : Int) (v5 : Int) (v7 : Int) (v9 : Int), f_X10_far_L11 S R I p0 p1 k n v3 v5 v7 v9 = some rz → q_V X rmX10_far cX10_far 10 0 0 11 [(0, .ref p0), (1, .long (q_l p1)), (3, .long (q_l v3)), (5, .long (q_l v5)), (7, .long (q_l v7)), (9, .int (q_i v9))] [] S R I := by
  intro n
  induction n with
  | zero =>
    intro v3 v5 v7 v9 hf
    cases (show (none : Option (Int)) = some _ from hf)
  | succ n ih =>
    intro v3 v5 v7 v9 hf
    rw [f_X10_far_L11] at hf
    refine v_iload 5 hX dX10_far_11 rfl ?_
    refine v_aload_n 0 0 hX dX10_far_13 rfl rfl ?_
    obtain ⟨g1, hf⟩ := q_gd_some hf
    refine v_getI hX fa_RX10_52 (fun _ _ => rfl) g1 dX10_far_14 ?_
    obtain ⟨g2, hf⟩ := q_gd_some hf
    obtain ⟨g3, hf⟩ := q_gd_some hf
    refine v_icmp_ge (tgt := 86) hX g2 g3 dX10_far_17 (by decide) (fun c4 => ?_) (fun c4 => ?_)
    · replace hf := q_ifp c4 hf
      refine v_sub (lv' := [(0, .ref p0), (1, .long (q_l p1)), (3, .long (q_l v3)), (5, .long (q_l v5)), (7, .long (q_l v7))]) [0, 1, 2, 3, 4] rfl ?_
      exact hk _ _ _ _ hf
    · replace hf := q_ifn c4 hf
      refine v_lload_n 3 2 hX dX10_far_20 rfl rfl ?_
      refine v_aload_n 0 0 hX dX10_far_21 rfl rfl ?_
      obtain ⟨g5, hf⟩ := q_gd_some hf
      refine v_getA hX fa_RX10_36 (fun _ _ => rfl) g1 g5 (by decide) dX10_far_22 ?_
      refine v_iload 5 hX dX10_far_25 rfl ?_
      obtain ⟨g6, hf⟩ := q_gd_some hf
      refine v_laload hX g5 g6 dX10_far_27 ?_
      refine v_aload_n 0 0 hX dX10_far_28 rfl rfl ?_
      refine v_getA hX fa_RX10_36 (fun _ _ => rfl) g1 g5 (by decide) dX10_far_29 ?_
      refine v_iload 5 hX dX10_far_32 rfl ?_
      refine v_laload hX g5 g6 dX10_far_34 ?_
      refine v_lmul hX dX10_far_35 ?_
      refine v_ladd hX dX10_far_36 ?_
      obtain ⟨x7, e8, hf⟩ := q_lt_nm hf
      rw [e8]
      refine v_lstore_n 3 (lw := [(3, .long (q_l x7)), (0, .ref p0), (1, .long (q_l p1)), (5, .long (q_l v5)), (7, .long (q_l v7)), (9, .int (q_i v9))]) hX dX10_far_37 rfl (by decide) rfl ?_
      refine v_lload 3 hX dX10_far_38 rfl ?_
      refine v_aload_n 0 1 hX dX10_far_40 rfl rfl ?_
      refine v_getA hX fa_RX10_36 (fun _ _ => rfl) g1 g5 (by decide) dX10_far_41 ?_
      refine v_iload 5 hX dX10_far_44 rfl ?_
      refine v_laload hX g5 g6 dX10_far_46 ?_
      refine v_aload_n 0 1 hX dX10_far_47 rfl rfl ?_
      obtain ⟨g9, hf⟩ := q_gd_some hf
      refine v_getA hX fa_RX10_29 (fun _ _ => rfl) g1 g9 (by decide) dX10_far_48 ?_
      refine v_iload 5 hX dX10_far_51 rfl ?_
      obtain ⟨g10, hf⟩ := q_gd_some hf
      refine v_iaload hX g9 g10 dX10_far_53 ?_
      obtain ⟨g11, hf⟩ := q_gd_some hf
      refine v_i2l hX g11 dX10_far_54 ?_
      refine v_lmul hX dX10_far_55 ?_
      refine v_ladd hX dX10_far_56 ?_
      obtain ⟨x12, e13, hf⟩ := q_lt_nm hf
      rw [e13]
      refine v_lstore (lw := [(5, .long (q_l x12)), (3, .long (q_l x7)), (0, .ref p0), (1, .long (q_l p1)), (7, .long (q_l v7)), (9, .int (q_i v9))]) hX dX10_far_57 (by decide) rfl ?_
      refine v_lload 4 hX dX10_far_59 rfl ?_
      refine v_aload_n 0 2 hX dX10_far_61 rfl rfl ?_
      refine v_getA hX fa_RX10_29 (fun _ _ => rfl) g1 g9 (by decide) dX10_far_62 ?_
      refine v_iload 5 hX dX10_far_65 rfl ?_
      refine v_iaload hX g9 g10 dX10_far_67 ?_
      refine v_aload_n 0 2 hX dX10_far_68 rfl rfl ?_
      refine v_getA hX fa_RX10_29 (fun _ _ => rfl) g1 g9 (by decide) dX10_far_69 ?_
      refine v_iload 5 hX dX10_far_72 rfl ?_
      refine v_iaload hX g9 g10 dX10_far_74 ?_
      refine v_imul hX dX10_far_75 ?_
      obtain ⟨g14, hf⟩ := q_gd_some hf
      refine v_i2l hX g14 dX10_far_76 ?_
      refine v_ladd hX dX10_far_77 ?_
      obtain ⟨x15, e16, hf⟩ := q_lt_nm hf
      rw [e16]
      refine v_lstore (lw := [(7, .long (q_l x15)), (5, .long (q_l x12)), (3, .long (q_l x7)), (0, .ref p0), (1, .long (q_l p1)), (9, .int (q_i v9))]) hX dX10_far_78 (by decide) rfl ?_
      refine v_iinc 5 (lw := [(9, .int (q_i (v9 + 1))), (7, .long (q_l x15)), (5, .long (q_l x12)), (3, .long (q_l x7)), (0, .ref p0), (1, .long (q_l p1))]) hX dX10_far_80 rfl (by decide) rfl ?_
      refine v_goto (tgt := 11) hX dX10_far_83 (by decide) ?_
      refine v_sub (lv' := [(0, .ref p0), (1, .long (q_l p1)), (3, .long (q_l x7)), (5, .long (q_l x12)), (7, .long (q_l x15)), (9, .int (q_i (v9 + 1)))]) [4, 5, 3, 2, 1, 0] rfl ?_
      exact ih _ _ _ _ hf
set_option maxRecDepth 20000 in
theorem c_X10_far {S : q_S} {R : q_HR} {I : q_HI} {a0 : Nat} {a1 : Int} {rz : Int} (hf : f_X10_far S R I a0 a1 = some rz) : ∀ (l : Launch) (D : va_G) (cy : Nat → ClassId) (B : Nat), Met l yX10_far [Cond.code yX10_far cX10_far 10 (some .long)] rmX10_far (q_Pc B D cy [.ref a0, .long (q_l a1)] S R I) (q_Qc B D cy (some (.long (q_l rz))) S R I) 0 0 (fun q => B ≤ q) := by
  refine q_met (lv := [(0, .ref a0), (1, .long (q_l a1))]) (own := RX10) (nm := "far") (by decide) rfl rfl (Nat.le_of_ble_eq_true rfl) rfl (fun X hX hE => ?_)
  unfold f_X10_far at hf
  refine v_lconst 0 hX dX10_far_0 (by decide) ?_
  refine v_lstore_n 3 (lw := [(3, .long (q_l 0)), (0, .ref a0), (1, .long (q_l a1))]) hX dX10_far_1 rfl (by decide) rfl ?_
  refine v_lconst 0 hX dX10_far_2 (by decide) ?_
  refine v_lstore (lw := [(5, .long (q_l 0)), (3, .long (q_l 0)), (0, .ref a0), (1, .long (q_l a1))]) hX dX10_far_3 (by decide) rfl ?_
  refine v_lconst 0 hX dX10_far_5 (by decide) ?_
  refine v_lstore (lw := [(7, .long (q_l 0)), (5, .long (q_l 0)), (3, .long (q_l 0)), (0, .ref a0), (1, .long (q_l a1))]) hX dX10_far_6 (by decide) rfl ?_
  refine v_iconst hX dX10_far_8 ?_
  refine v_istore (lw := [(9, .int (q_i 0)), (7, .long (q_l 0)), (5, .long (q_l 0)), (3, .long (q_l 0)), (0, .ref a0), (1, .long (q_l a1))]) hX dX10_far_9 (by decide) rfl ?_
  refine v_sub (lv' := [(0, .ref a0), (1, .long (q_l a1)), (3, .long (q_l 0)), (5, .long (q_l 0)), (7, .long (q_l 0)), (9, .int (q_i 0))]) [4, 5, 3, 2, 1, 0] rfl ?_
  refine l_X10_far_11 hX hE (fun w17 w18 w19 w20 hk => ?_) 100 _ _ _ _ hf
  clear hf
  have hf := hk
  clear hk
  refine v_aload_n 0 0 hX dX10_far_86 rfl rfl ?_
  obtain ⟨g21, hf⟩ := q_gd_some hf
  refine v_getI hX fa_RX10_135 (fun _ _ => rfl) g21 dX10_far_87 ?_
  obtain ⟨g22, hf⟩ := q_gd_some hf
  refine v_if_eq (tgt := 113) hX g22 dX10_far_90 (by decide) (fun c23 => ?_) (fun c23 => ?_)
  · replace hf := q_ifp c23 hf
    refine v_lload_n 3 2 hX dX10_far_113 rfl rfl ?_
    refine v_lload_n 1 1 hX dX10_far_114 rfl rfl ?_
    refine v_lload_n 1 1 hX dX10_far_115 rfl rfl ?_
    refine v_lmul hX dX10_far_116 ?_
    obtain ⟨g24, hf⟩ := q_gd_some hf
    obtain ⟨g25, hf⟩ := q_gd_some hf
    obtain ⟨g26, hf⟩ := q_gd_some hf
    refine v_ldiv hX g24 g25 g26 dX10_far_117 ?_
    cases hf
    exact v_lret hX hE (Nat.le_of_ble_eq_true rfl) (Nat.le_of_ble_eq_true rfl) dX10_far_118
  · replace hf := q_ifn c23 hf
    refine v_lload_n 3 2 hX dX10_far_93 rfl rfl ?_
    refine v_lload 4 hX dX10_far_94 rfl ?_
    refine v_lmul hX dX10_far_96 ?_
    refine v_lload 3 hX dX10_far_97 rfl ?_
    refine v_lload 3 hX dX10_far_99 rfl ?_
    refine v_lmul hX dX10_far_101 ?_
    refine v_lsub hX dX10_far_102 ?_
    refine v_lload_n 1 1 hX dX10_far_103 rfl rfl ?_
    refine v_lload_n 1 1 hX dX10_far_104 rfl rfl ?_
    refine v_lmul hX dX10_far_105 ?_
    refine v_lload 4 hX dX10_far_106 rfl ?_
    refine v_lmul hX dX10_far_108 ?_
    obtain ⟨g27, hf⟩ := q_gd_some hf
    obtain ⟨g28, hf⟩ := q_gd_some hf
    obtain ⟨g29, hf⟩ := q_gd_some hf
    refine v_ldiv hX g27 g28 g29 dX10_far_109 ?_
    refine v_goto (tgt := 118) hX dX10_far_110 (by decide) ?_
    cases hf
    exact v_lret hX hE (Nat.le_of_ble_eq_true rfl) (Nat.le_of_ble_eq_true rfl) dX10_far_118
noncomputable def f_X10_sumOf_L6 (S : q_S) (R : q_HR) (I : q_HI) (p0 : Nat) (p1 : Int) (p2 : Int) (p3 : Int) (k : Int → Int → Option (Int)) : Nat → Int → Int → Option (Int)
  | 0, _, _ => none
  | n + 1, v4, v6 => q_gd (S.1 p0 = 11) (q_gd (S.1 (R p0 13) = 12) (q_gd ((0 : Int) ≤ p1 ∧ p1 < (S.2.1 (R p0 13) : Int)) (q_gd (r_i v6) (q_gd (r_i (I (R p0 13) (Int.toNat p1))) (if I (R p0 13) (Int.toNat p1) ≤ v6 then k v4 v6 else q_gd (r_i p3) (if v6 = p3 then q_lt (v4 + 0) fun x9 => f_X10_sumOf_L6 S R I p0 p1 p2 p3 k n x9 (v6 + 1) else q_gd (S.1 (R p0 16) = 12) (q_bd (f_X10_placeOf p1 v6) fun r12 => q_gd ((0 : Int) ≤ (5 * r12) + p2 ∧ (5 * r12) + p2 < (S.2.1 (R p0 16) : Int)) (q_gd (r_i (I (R p0 16) (Int.toNat ((5 * r12) + p2)))) (q_lt (v4 + (I (R p0 16) (Int.toNat ((5 * r12) + p2)))) fun x16 => f_X10_sumOf_L6 S R I p0 p1 p2 p3 k n x16 (v6 + 1))))))))))
noncomputable def f_X10_sumOf (S : q_S) (R : q_HR) (I : q_HI) (a0 : Nat) (a1 : Int) (a2 : Int) (a3 : Int) : Option (Int) := f_X10_sumOf_L6 S R I a0 a1 a2 a3 (fun w18 w19 => some w18) 100 0 0
abbrev rmX10_sumOf : Room := { frames := 1, cells := 0, slots := 0, locals := 21 }
set_option maxRecDepth 20000 in
theorem l_X10_sumOf_6 {X : q_X} {S : q_S} {R : q_HR} {I : q_HI} {p0 : Nat} {p1 : Int} {p2 : Int} {p3 : Int} {rz : Int} (hX : q_C X cX10_sumOf 7 RX10 (some .long) "sumOf") (hE : q_E X 0 0 (some (.long (q_l rz))) S R I) {k : Int → Int → Option (Int)} (hk : ∀ (v4 : Int) (v6 : Int), k v4 v6 = some rz → q_V X rmX10_sumOf cX10_sumOf 7 0 0 54 [(4, .long (q_l v4))] [] S R I) :
    ∀ (n : Nat), ∀ (v4 : Int) (v6 : Int), f_X10_sumOf_L6 S R I p0 p1 p2 p3 k n v4 v6 = some rz → q_V X rmX10_sumOf cX10_sumOf 7 0 0 6 [(0, .ref p0), (1, .int (q_i p1)), (2, .int (q_i p2)), (3, .int (q_i p3)), (4, .long (q_l v4)), (6, .int (q_i v6))] [] S R I := by
  intro n
  induction n with
  | zero =>
    intro v4 v6 hf
    cases (show (none : Option (Int)) = some _ from hf)
  | succ n ih =>
    intro v4 v6 hf
    rw [f_X10_sumOf_L6] at hf
    refine v_iload 5 hX dX10_sumOf_6 rfl ?_
    refine v_aload_n 0 0 hX dX10_sumOf_8 rfl rfl ?_
    obtain ⟨g1, hf⟩ := q_gd_some hf
    obtain ⟨g2, hf⟩ := q_gd_some hf
    refine v_getA hX fa_RX10_23 (fun _ _ => rfl) g1 g2 (by decide) dX10_sumOf_9 ?_
    refine v_iload_n 1 1 hX dX10_sumOf_12 rfl rfl ?_
    obtain ⟨g3, hf⟩ := q_gd_some hf
    refine v_iaload hX g2 g3 dX10_sumOf_13 ?_
    obtain ⟨g4, hf⟩ := q_gd_some hf
    obtain ⟨g5, hf⟩ := q_gd_some hf
    refine v_icmp_ge (tgt := 54) hX g4 g5 dX10_sumOf_14 (by decide) (fun c6 => ?_) (fun c6 => ?_)
    · replace hf := q_ifp c6 hf
      refine v_sub (lv' := [(4, .long (q_l v4))]) [4] rfl ?_
      exact hk _ _ hf
    · replace hf := q_ifn c6 hf
      refine v_lload 4 hX dX10_sumOf_17 rfl ?_
      refine v_iload 5 hX dX10_sumOf_19 rfl ?_
      refine v_iload_n 3 3 hX dX10_sumOf_21 rfl rfl ?_
      obtain ⟨g7, hf⟩ := q_gd_some hf
      refine v_icmp_ne (tgt := 29) hX g4 g7 dX10_sumOf_22 (by decide) (fun c8 => ?_) (fun c8 => ?_)
      · replace hf := q_ifp c8 hf
        refine v_lconst 0 hX dX10_sumOf_25 (by decide) ?_
        refine v_goto (tgt := 45) hX dX10_sumOf_26 (by decide) ?_
        refine v_ladd hX dX10_sumOf_45 ?_
        obtain ⟨x9, e10, hf⟩ := q_lt_nm hf
        rw [e10]
        refine v_lstore (lw := [(4, .long (q_l x9)), (0, .ref p0), (1, .int (q_i p1)), (2, .int (q_i p2)), (3, .int (q_i p3)), (6, .int (q_i v6))]) hX dX10_sumOf_46 (by decide) rfl ?_
        refine v_iinc 5 (lw := [(6, .int (q_i (v6 + 1))), (4, .long (q_l x9)), (0, .ref p0), (1, .int (q_i p1)), (2, .int (q_i p2)), (3, .int (q_i p3))]) hX dX10_sumOf_48 rfl (by decide) rfl ?_
        refine v_goto (tgt := 6) hX dX10_sumOf_51 (by decide) ?_
        refine v_sub (lv' := [(0, .ref p0), (1, .int (q_i p1)), (2, .int (q_i p2)), (3, .int (q_i p3)), (4, .long (q_l x9)), (6, .int (q_i (v6 + 1)))]) [2, 3, 4, 5, 1, 0] rfl ?_
        exact ih _ _ hf
      · replace hf := q_ifn c8 hf
        refine v_aload_n 0 0 hX dX10_sumOf_29 rfl rfl ?_
        obtain ⟨g11, hf⟩ := q_gd_some hf
        refine v_getA hX fa_RX10_26 (fun _ _ => rfl) g1 g11 (by decide) dX10_sumOf_30 ?_
        refine v_iconst hX dX10_sumOf_33 ?_
        refine v_iload_n 1 1 hX dX10_sumOf_34 rfl rfl ?_
        refine v_iload 5 hX dX10_sumOf_35 rfl ?_
        obtain ⟨r12, h13, hf⟩ := q_bd_some hf
        refine v_callS (As := [.int (q_i p1), .int (q_i v6)]) (rest := [.int (q_i 5), .ref (R p0 16), .long (q_l v4)]) (st1 := [.int (q_i r12), .int (q_i 5), .ref (R p0 16), .long (q_l v4)]) (some (.int (q_i r12))) hX ms_RX10_151 (c_X10_placeOf h13) ⟨rfl, rfl⟩ ⟨Nat.le_of_ble_eq_true rfl, Nat.le_of_ble_eq_true rfl⟩ rfl rfl (Nat.le_of_ble_eq_true rfl) ⟨Nat.le_of_ble_eq_true rfl, Nat.le_of_ble_eq_true rfl⟩ dX10_sumOf_37 rfl ?_
        refine v_imul hX dX10_sumOf_40 ?_
        refine v_iload_n 2 2 hX dX10_sumOf_41 rfl rfl ?_
        refine v_iadd hX dX10_sumOf_42 ?_
        obtain ⟨g14, hf⟩ := q_gd_some hf
        refine v_iaload hX g11 g14 dX10_sumOf_43 ?_
        obtain ⟨g15, hf⟩ := q_gd_some hf
        refine v_i2l hX g15 dX10_sumOf_44 ?_
        refine v_ladd hX dX10_sumOf_45 ?_
        obtain ⟨x16, e17, hf⟩ := q_lt_nm hf
        rw [e17]
        refine v_lstore (lw := [(4, .long (q_l x16)), (0, .ref p0), (1, .int (q_i p1)), (2, .int (q_i p2)), (3, .int (q_i p3)), (6, .int (q_i v6))]) hX dX10_sumOf_46 (by decide) rfl ?_
        refine v_iinc 5 (lw := [(6, .int (q_i (v6 + 1))), (4, .long (q_l x16)), (0, .ref p0), (1, .int (q_i p1)), (2, .int (q_i p2)), (3, .int (q_i p3))]) hX dX10_sumOf_48 rfl (by decide) rfl ?_
        refine v_goto (tgt := 6) hX dX10_sumOf_51 (by decide) ?_
        refine v_sub (lv' := [(0, .ref p0), (1, .int (q_i p1)), (2, .int (q_i p2)), (3, .int (q_i p3)), (4, .long (q_l x16)), (6, .int (q_i (v6 + 1)))]) [2, 3, 4, 5, 1, 0] rfl ?_
        exact ih _ _ hf
set_option maxRecDepth 20000 in
theorem c_X10_sumOf {S : q_S} {R : q_HR} {I : q_HI} {a0 : Nat} {a1 : Int} {a2 : Int} {a3 : Int} {rz : Int} (hf : f_X10_sumOf S R I a0 a1 a2 a3 = some rz) : ∀ (l : Launch) (D : va_G) (cy : Nat → ClassId) (B : Nat), Met l yX10_sumOf [Cond.code yX10_sumOf cX10_sumOf 7 (some .long)] rmX10_sumOf (q_Pc B D cy [.ref a0, .int (q_i a1), .int (q_i a2), .int (q_i a3)] S R I) (q_Qc B D cy (some (.long (q_l rz))) S R I) 0 0 (fun q => B ≤ q) := by
  refine q_met (lv := [(0, .ref a0), (1, .int (q_i a1)), (2, .int (q_i a2)), (3, .int (q_i a3))]) (own := RX10) (nm := "sumOf") (by decide) rfl rfl (Nat.le_of_ble_eq_true rfl) rfl (fun X hX hE => ?_)
  unfold f_X10_sumOf at hf
  refine v_lconst 0 hX dX10_sumOf_0 (by decide) ?_
  refine v_lstore (lw := [(4, .long (q_l 0)), (0, .ref a0), (1, .int (q_i a1)), (2, .int (q_i a2)), (3, .int (q_i a3))]) hX dX10_sumOf_1 (by decide) rfl ?_
  refine v_iconst hX dX10_sumOf_3 ?_
  refine v_istore (lw := [(6, .int (q_i 0)), (4, .long (q_l 0)), (0, .ref a0), (1, .int (q_i a1)), (2, .int (q_i a2)), (3, .int (q_i a3))]) hX dX10_sumOf_4 (by decide) rfl ?_
  refine v_sub (lv' := [(0, .ref a0), (1, .int (q_i a1)), (2, .int (q_i a2)), (3, .int (q_i a3)), (4, .long (q_l 0)), (6, .int (q_i 0))]) [2, 3, 4, 5, 1, 0] rfl ?_
  refine l_X10_sumOf_6 hX hE (fun w18 w19 hk => ?_) 100 _ _ hf
  clear hf
  have hf := hk
  clear hk
  refine v_lload 0 hX dX10_sumOf_54 rfl ?_
  cases hf
  exact v_lret hX hE (Nat.le_of_ble_eq_true rfl) (Nat.le_of_ble_eq_true rfl) dX10_sumOf_56
noncomputable def f_X10_farFrom_L40 (S : q_S) (R : q_HR) (p0 : Nat) (p1 : Int) (p2 : Int) (p3 : Int) (p4 : Int) (k : Int → q_HI → Option (Int × q_HI)) : Nat → Int → q_HI → Option (Int × q_HI)
  | 0, _, _ => none
  | n + 1, v6, I => q_gd (S.1 p0 = 11) (q_gd (r_i v6) (q_gd (r_i (I p0 1)) (if I p0 1 ≤ v6 then k v6 I else q_gd (S.1 (R p0 21) = 13) (q_gd (S.1 (R p0 16) = 12) (q_gd ((0 : Int) ≤ (5 * p1) + v6 ∧ (5 * p1) + v6 < (S.2.1 (R p0 16) : Int)) (q_gd (r_i (I (R p0 16) (Int.toNat ((5 * p1) + v6)))) (q_bd (f_X10_sumOf S R I p0 p2 v6 p3) fun r20 => q_gd ((0 : Int) ≤ v6 ∧ v6 < (S.2.1 (R p0 21) : Int)) (q_lt (q_up I (R p0 21) (Int.toNat v6) ((p4 * (I (R p0 16) (Int.toNat ((5 * p1) + v6)))) - r20)) fun I23 => f_X10_farFrom_L40 S R p0 p1 p2 p3 p4 k n (v6 + 1) I23))))))))
noncomputable def f_X10_farFrom (S : q_S) (R : q_HR) (I : q_HI) (a0 : Nat) (a1 : Int) (a2 : Int) (a3 : Int) : Option (Int × q_HI) := q_gd (r_i a3) (if a3 = (-1) then q_gd (S.1 a0 = 11) (q_gd (S.1 (R a0 13) = 12) (q_gd ((0 : Int) ≤ a2 ∧ a2 < (S.2.1 (R a0 13) : Int)) (q_gd (r_i (I (R a0 13) (Int.toNat a2))) (q_lt (I (R a0 13) (Int.toNat a2)) fun x7 => q_gd (r_l x7) (if x7 = 0 then some ((-1), I) else f_X10_farFrom_L40 S R a0 a1 a2 a3 x7 (fun w25 I26 => q_bd (f_X10_far S R I26 a0 x7) fun r27 => some (r27, I26)) 100 0 I))))) else q_gd (S.1 a0 = 11) (q_gd (S.1 (R a0 13) = 12) (q_gd ((0 : Int) ≤ a2 ∧ a2 < (S.2.1 (R a0 13) : Int)) (q_gd (r_i ((I (R a0 13) (Int.toNat a2)) - 1)) (q_lt ((I (R a0 13) (Int.toNat a2)) - 1) fun x33 => q_gd (r_l x33) (if x33 = 0 then some ((-1), I) else f_X10_farFrom_L40 S R a0 a1 a2 a3 x33 (fun w38 I39 => q_bd (f_X10_far S R I39 a0 x33) fun r40 => some (r40, I39)) 100 0 I))))))
abbrev rmX10_farFrom : Room := { frames := 2, cells := 0, slots := 0, locals := 47 }
set_option maxRecDepth 20000 in
theorem l_X10_farFrom_40 {X : q_X} {S : q_S} {R : q_HR} {p0 : Nat} {p1 : Int} {p2 : Int} {p3 : Int} {p4 : Int} {rz : Int} {Iz : q_HI} (hX : q_C X cX10_farFrom 7 RX10 (some .long) "farFrom") (hE : q_E X 0 0 (some (.long (q_l rz))) S R Iz) {k : Int → q_HI → Option (Int × q_HI)} (hk : ∀ (v6 : Int) (I : q_HI), k v6 I = some (rz, Iz) → q_V X rmX10_farFrom cX10_farFrom 7 0 0 86 [(0, .ref p0), (4, .long (q_l p4))] [] S R I) :
    ∀ (n : Nat), ∀ (v6 : Int) (I : q_HI), f_X10_farFrom_L40 S R p0 p1 p2 p3 p4 k n v6 I = some (rz, Iz) → q_V X rmX10_farFrom cX10_farFrom 7 0 0 40 [(0, .ref p0), (1, .int (q_i p1)), (2, .int (q_i p2)), (3, .int (q_i p3)), (4, .long (q_l p4)), (6, .int (q_i v6))] [] S R I := by
  intro n
  induction n with
  | zero =>
    intro v6 I hf
    cases (show (none : Option (Int × q_HI)) = some _ from hf)
  | succ n ih =>
    intro v6 I hf
    rw [f_X10_farFrom_L40] at hf
    refine v_iload 5 hX dX10_farFrom_40 rfl ?_
    refine v_aload_n 0 0 hX dX10_farFrom_42 rfl rfl ?_
    obtain ⟨g12, hf⟩ := q_gd_some hf
    refine v_getI hX fa_RX10_52 (fun _ _ => rfl) g12 dX10_farFrom_43 ?_
    obtain ⟨g13, hf⟩ := q_gd_some hf
    obtain ⟨g14, hf⟩ := q_gd_some hf
    refine v_icmp_ge (tgt := 86) hX g13 g14 dX10_farFrom_46 (by decide) (fun c15 => ?_) (fun c15 => ?_)
    · replace hf := q_ifp c15 hf
      refine v_sub (lv' := [(0, .ref p0), (4, .long (q_l p4))]) [0, 4] rfl ?_
      exact hk _ _ hf
    · replace hf := q_ifn c15 hf
      refine v_aload_n 0 0 hX dX10_farFrom_49 rfl rfl ?_
      obtain ⟨g16, hf⟩ := q_gd_some hf
      refine v_getA hX fa_RX10_36 (fun _ _ => rfl) g12 g16 (by decide) dX10_farFrom_50 ?_
      refine v_iload 5 hX dX10_farFrom_53 rfl ?_
      refine v_lload 4 hX dX10_farFrom_55 rfl ?_
      refine v_aload_n 0 0 hX dX10_farFrom_57 rfl rfl ?_
      obtain ⟨g17, hf⟩ := q_gd_some hf
      refine v_getA hX fa_RX10_26 (fun _ _ => rfl) g12 g17 (by decide) dX10_farFrom_58 ?_
      refine v_iconst hX dX10_farFrom_61 ?_
      refine v_iload_n 1 1 hX dX10_farFrom_62 rfl rfl ?_
      refine v_imul hX dX10_farFrom_63 ?_
      refine v_iload 5 hX dX10_farFrom_64 rfl ?_
      refine v_iadd hX dX10_farFrom_66 ?_
      obtain ⟨g18, hf⟩ := q_gd_some hf
      refine v_iaload hX g17 g18 dX10_farFrom_67 ?_
      obtain ⟨g19, hf⟩ := q_gd_some hf
      refine v_i2l hX g19 dX10_farFrom_68 ?_
      refine v_lmul hX dX10_farFrom_69 ?_
      refine v_aload_n 0 0 hX dX10_farFrom_70 rfl rfl ?_
      refine v_iload_n 2 2 hX dX10_farFrom_71 rfl rfl ?_
      refine v_iload 5 hX dX10_farFrom_72 rfl ?_
      refine v_iload_n 3 3 hX dX10_farFrom_74 rfl rfl ?_
      obtain ⟨r20, h21, hf⟩ := q_bd_some hf
      refine v_callV (As := [.int (q_i p2), .int (q_i v6), .int (q_i p3)]) (rest := [.long (q_l (p4 * (I (R p0 16) (Int.toNat ((5 * p1) + v6))))), .int (q_i v6), .ref (R p0 21)]) (st1 := [.long (q_l r20), .long (q_l (p4 * (I (R p0 16) (Int.toNat ((5 * p1) + v6))))), .int (q_i v6), .ref (R p0 21)]) (some (.long (q_l r20))) hX mv_RX10_160 (c_X10_sumOf h21) ⟨rfl, rfl⟩ ⟨Nat.le_of_ble_eq_true rfl, Nat.le_of_ble_eq_true rfl⟩ g12 rfl rfl (Nat.le_of_ble_eq_true rfl) ⟨Nat.le_of_ble_eq_true rfl, Nat.le_of_ble_eq_true rfl⟩ dX10_farFrom_75 rfl ?_
      refine v_lsub hX dX10_farFrom_78 ?_
      obtain ⟨g22, hf⟩ := q_gd_some hf
      refine v_lastore hX g16 g22 dX10_farFrom_79 ?_
      obtain ⟨I23, e24, hf⟩ := q_lt_nm hf
      rw [e24]
      refine v_iinc 5 (lw := [(6, .int (q_i (v6 + 1))), (0, .ref p0), (1, .int (q_i p1)), (2, .int (q_i p2)), (3, .int (q_i p3)), (4, .long (q_l p4))]) hX dX10_farFrom_80 rfl (by decide) rfl ?_
      refine v_goto (tgt := 40) hX dX10_farFrom_83 (by decide) ?_
      refine v_sub (lv' := [(0, .ref p0), (1, .int (q_i p1)), (2, .int (q_i p2)), (3, .int (q_i p3)), (4, .long (q_l p4)), (6, .int (q_i (v6 + 1)))]) [1, 2, 3, 4, 5, 0] rfl ?_
      exact ih _ _ hf
set_option maxRecDepth 20000 in
theorem c_X10_farFrom {S : q_S} {R : q_HR} {I : q_HI} {a0 : Nat} {a1 : Int} {a2 : Int} {a3 : Int} {rz : Int} {Iz : q_HI} (hf : f_X10_farFrom S R I a0 a1 a2 a3 = some (rz, Iz)) : ∀ (l : Launch) (D : va_G) (cy : Nat → ClassId) (B : Nat), Met l yX10_farFrom [Cond.code yX10_farFrom cX10_farFrom 7 (some .long)] rmX10_farFrom (q_Pc B D cy [.ref a0, .int (q_i a1), .int (q_i a2), .int (q_i a3)] S R I) (q_Qc B D cy (some (.long (q_l rz))) S R Iz) 0 0 (fun q => B ≤ q) := by
  refine q_met (lv := [(0, .ref a0), (1, .int (q_i a1)), (2, .int (q_i a2)), (3, .int (q_i a3))]) (own := RX10) (nm := "farFrom") (by decide) rfl rfl (Nat.le_of_ble_eq_true rfl) rfl (fun X hX hE => ?_)
  unfold f_X10_farFrom at hf
  refine v_iload_n 3 3 hX dX10_farFrom_0 rfl rfl ?_
  refine v_iconst hX dX10_farFrom_1 ?_
  obtain ⟨g1, hf⟩ := q_gd_some hf
  refine v_icmp_ne (tgt := 15) hX g1 (by unfold r_i; omega) dX10_farFrom_2 (by decide) (fun c2 => ?_) (fun c2 => ?_)
  · replace hf := q_ifp c2 hf
    refine v_aload_n 0 0 hX dX10_farFrom_5 rfl rfl ?_
    obtain ⟨g3, hf⟩ := q_gd_some hf
    obtain ⟨g4, hf⟩ := q_gd_some hf
    refine v_getA hX fa_RX10_23 (fun _ _ => rfl) g3 g4 (by decide) dX10_farFrom_6 ?_
    refine v_iload_n 2 2 hX dX10_farFrom_9 rfl rfl ?_
    obtain ⟨g5, hf⟩ := q_gd_some hf
    refine v_iaload hX g4 g5 dX10_farFrom_10 ?_
    obtain ⟨g6, hf⟩ := q_gd_some hf
    refine v_i2l hX g6 dX10_farFrom_11 ?_
    refine v_goto (tgt := 24) hX dX10_farFrom_12 (by decide) ?_
    obtain ⟨x7, e8, hf⟩ := q_lt_nm hf
    rw [e8]
    have g9 := g6
    rw [e8] at g9
    refine v_lstore (lw := [(4, .long (q_l x7)), (0, .ref a0), (1, .int (q_i a1)), (2, .int (q_i a2)), (3, .int (q_i a3))]) hX dX10_farFrom_24 (by decide) rfl ?_
    refine v_lload 0 hX dX10_farFrom_26 rfl ?_
    refine v_lconst 0 hX dX10_farFrom_28 (by decide) ?_
    obtain ⟨g10, hf⟩ := q_gd_some hf
    refine v_lcmp hX g10 (by unfold r_l; omega) dX10_farFrom_29 ?_
    refine v_ifc_ne (tgt := 37) hX dX10_farFrom_30 (by decide) (fun c11 => ?_) (fun c11 => ?_)
    · replace hf := q_ifp c11 hf
      refine v_ldc2 (-1) hX kl_RX10_158 (by decide) dX10_farFrom_33 ?_
      cases hf
      exact v_lret hX hE (Nat.le_of_ble_eq_true rfl) (Nat.le_of_ble_eq_true rfl) dX10_farFrom_36
    · replace hf := q_ifn c11 hf
      refine v_iconst hX dX10_farFrom_37 ?_
      refine v_istore (lw := [(6, .int (q_i 0)), (4, .long (q_l x7)), (0, .ref a0), (1, .int (q_i a1)), (2, .int (q_i a2)), (3, .int (q_i a3))]) hX dX10_farFrom_38 (by decide) rfl ?_
      refine v_sub (lv' := [(0, .ref a0), (1, .int (q_i a1)), (2, .int (q_i a2)), (3, .int (q_i a3)), (4, .long (q_l x7)), (6, .int (q_i 0))]) [2, 3, 4, 5, 1, 0] rfl ?_
      refine l_X10_farFrom_40 hX hE (fun w25 I26 hk => ?_) 100 _ _ hf
      clear hf
      have hf := hk
      clear hk
      refine v_aload_n 0 0 hX dX10_farFrom_86 rfl rfl ?_
      refine v_lload 1 hX dX10_farFrom_87 rfl ?_
      obtain ⟨r27, h28, hf⟩ := q_bd_some hf
      refine v_callV (As := [.long (q_l x7)]) (rest := []) (st1 := [.long (q_l r27)]) (some (.long (q_l r27))) hX mv_RX10_164 (c_X10_far h28) ⟨rfl, rfl⟩ ⟨Nat.le_of_ble_eq_true rfl, Nat.le_of_ble_eq_true rfl⟩ g3 rfl rfl (Nat.le_of_ble_eq_true rfl) ⟨Nat.le_of_ble_eq_true rfl, Nat.le_of_ble_eq_true rfl⟩ dX10_farFrom_89 rfl ?_
      cases hf
      exact v_lret hX hE (Nat.le_of_ble_eq_true rfl) (Nat.le_of_ble_eq_true rfl) dX10_farFrom_92
  · replace hf := q_ifn c2 hf
    refine v_aload_n 0 0 hX dX10_farFrom_15 rfl rfl ?_
    obtain ⟨g29, hf⟩ := q_gd_some hf
    obtain ⟨g30, hf⟩ := q_gd_some hf
    refine v_getA hX fa_RX10_23 (fun _ _ => rfl) g29 g30 (by decide) dX10_farFrom_16 ?_
    refine v_iload_n 2 2 hX dX10_farFrom_19 rfl rfl ?_
    obtain ⟨g31, hf⟩ := q_gd_some hf
    refine v_iaload hX g30 g31 dX10_farFrom_20 ?_
    refine v_iconst hX dX10_farFrom_21 ?_
    refine v_isub hX dX10_farFrom_22 ?_
    obtain ⟨g32, hf⟩ := q_gd_some hf
    refine v_i2l hX g32 dX10_farFrom_23 ?_
    obtain ⟨x33, e34, hf⟩ := q_lt_nm hf
    rw [e34]
    have g35 := g32
    rw [e34] at g35
    refine v_lstore (lw := [(4, .long (q_l x33)), (0, .ref a0), (1, .int (q_i a1)), (2, .int (q_i a2)), (3, .int (q_i a3))]) hX dX10_farFrom_24 (by decide) rfl ?_
    refine v_lload 0 hX dX10_farFrom_26 rfl ?_
    refine v_lconst 0 hX dX10_farFrom_28 (by decide) ?_
    obtain ⟨g36, hf⟩ := q_gd_some hf
    refine v_lcmp hX g36 (by unfold r_l; omega) dX10_farFrom_29 ?_
    refine v_ifc_ne (tgt := 37) hX dX10_farFrom_30 (by decide) (fun c37 => ?_) (fun c37 => ?_)
    · replace hf := q_ifp c37 hf
      refine v_ldc2 (-1) hX kl_RX10_158 (by decide) dX10_farFrom_33 ?_
      cases hf
      exact v_lret hX hE (Nat.le_of_ble_eq_true rfl) (Nat.le_of_ble_eq_true rfl) dX10_farFrom_36
    · replace hf := q_ifn c37 hf
      refine v_iconst hX dX10_farFrom_37 ?_
      refine v_istore (lw := [(6, .int (q_i 0)), (4, .long (q_l x33)), (0, .ref a0), (1, .int (q_i a1)), (2, .int (q_i a2)), (3, .int (q_i a3))]) hX dX10_farFrom_38 (by decide) rfl ?_
      refine v_sub (lv' := [(0, .ref a0), (1, .int (q_i a1)), (2, .int (q_i a2)), (3, .int (q_i a3)), (4, .long (q_l x33)), (6, .int (q_i 0))]) [2, 3, 4, 5, 1, 0] rfl ?_
      refine l_X10_farFrom_40 hX hE (fun w38 I39 hk => ?_) 100 _ _ hf
      clear hf
      have hf := hk
      clear hk
      refine v_aload_n 0 0 hX dX10_farFrom_86 rfl rfl ?_
      refine v_lload 1 hX dX10_farFrom_87 rfl ?_
      obtain ⟨r40, h41, hf⟩ := q_bd_some hf
      refine v_callV (As := [.long (q_l x33)]) (rest := []) (st1 := [.long (q_l r40)]) (some (.long (q_l r40))) hX mv_RX10_164 (c_X10_far h41) ⟨rfl, rfl⟩ ⟨Nat.le_of_ble_eq_true rfl, Nat.le_of_ble_eq_true rfl⟩ g29 rfl rfl (Nat.le_of_ble_eq_true rfl) ⟨Nat.le_of_ble_eq_true rfl, Nat.le_of_ble_eq_true rfl⟩ dX10_farFrom_89 rfl ?_
      cases hf
      exact v_lret hX hE (Nat.le_of_ble_eq_true rfl) (Nat.le_of_ble_eq_true rfl) dX10_farFrom_92
noncomputable def f_X10_nearest_L9 (S : q_S) (R : q_HR) (p0 : Nat) (p1 : Int) (p2 : Int) (p3 : Int) (p4 : Int) (k : Int → Int → Int → q_HI → Option (Int × q_HI)) : Nat → Int → Int → Int → q_HI → Option (Int × q_HI)
  | 0, _, _, _, _ => none
  | n + 1, v5, v6, v8, I => q_gd (S.1 p0 = 11) (q_gd (r_i v8) (q_gd (r_i (I p0 4)) (if I p0 4 ≤ v8 then k v5 v6 v8 I else q_gd (r_i p2) (if v8 = p2 then f_X10_nearest_L9 S R p0 p1 p2 p3 p4 k n v5 v6 (v8 + 1) I else q_gd (r_i p3) (if v8 = p3 then q_bd2 (f_X10_farFrom S R I p0 p1 v8 p4) fun r10 I11 => q_gd (r_l r10) (if r10 = (-1) then f_X10_nearest_L9 S R p0 p1 p2 p3 p4 k n v5 v6 (v8 + 1) I11 else q_gd (r_i v5) (if v5 = (-1) then f_X10_nearest_L9 S R p0 p1 p2 p3 p4 k n v8 r10 (v8 + 1) I11 else q_gd (r_l v6) (if r10 < v6 then f_X10_nearest_L9 S R p0 p1 p2 p3 p4 k n v8 r10 (v8 + 1) I11 else f_X10_nearest_L9 S R p0 p1 p2 p3 p4 k n v5 v6 (v8 + 1) I11))) else q_bd2 (f_X10_farFrom S R I p0 p1 v8 (-1)) fun r19 I20 => q_gd (r_l r19) (if r19 = (-1) then f_X10_nearest_L9 S R p0 p1 p2 p3 p4 k n v5 v6 (v8 + 1) I20 else q_gd (r_i v5) (if v5 = (-1) then f_X10_nearest_L9 S R p0 p1 p2 p3 p4 k n v8 r19 (v8 + 1) I20 else q_gd (r_l v6) (if r19 < v6 then f_X10_nearest_L9 S R p0 p1 p2 p3 p4 k n v8 r19 (v8 + 1) I20 else f_X10_nearest_L9 S R p0 p1 p2 p3 p4 k n v5 v6 (v8 + 1) I20))))))))
noncomputable def f_X10_nearest (S : q_S) (R : q_HR) (I : q_HI) (a0 : Nat) (a1 : Int) (a2 : Int) (a3 : Int) (a4 : Int) : Option (Int × q_HI) := f_X10_nearest_L9 S R a0 a1 a2 a3 a4 (fun w28 w29 w30 I31 => some (w28, I31)) 100 (-1) 0 0 I
abbrev rmX10_nearest : Room := { frames := 3, cells := 0, slots := 0, locals := 73 }
set_option maxRecDepth 20000 in
theorem l_X10_nearest_9 {X : q_X} {S : q_S} {R : q_HR} {p0 : Nat} {p1 : Int} {p2 : Int} {p3 : Int} {p4 : Int} {rz : Int} {Iz : q_HI} (hX : q_C X cX10_nearest 11 RX10 (some .int) "nearest") (hE : q_E X 0 0 (some (.int (q_i rz))) S R Iz) {k : Int → Int → Int → q_HI → Option (Int × q_HI)} (hk : ∀ (v5 : Int) (v6 : Int) (v8 : Int) (I : q_HI), k v5 v6 v8 I = some (rz, Iz) → q_V X rmX10_nearest cX10_nearest 11 0 0 91 [(5, .int (q_i v5))] [] S R I) :
    ∀ (n : Nat), ∀ (v5 : Int) (v6 : Int) (v8 : Int) (I : q_HI), f_X10_nearest_L9 S R p0 p1 p2 p3 p4 k n v5 v6 v8 I = some (rz, Iz) → q_V X rmX10_nearest cX10_nearest 11 0 0 9 [(0, .ref p0), (1, .int (q_i p1)), (2, .int (q_i p2)), (3, .int (q_i p3)), (4, .int (q_i p4)), (5, .int (q_i v5)), (6, .long (q_l v6)), (8, .int (q_i v8))] [] S R I := by
  intro n
  induction n with
  | zero =>
    intro v5 v6 v8 I hf
    cases (show (none : Option (Int × q_HI)) = some _ from hf)
  | succ n ih =>
    intro v5 v6 v8 I hf
    rw [f_X10_nearest_L9] at hf
    refine v_iload 7 hX dX10_nearest_9 rfl ?_
    refine v_aload_n 0 0 hX dX10_nearest_11 rfl rfl ?_
    obtain ⟨g1, hf⟩ := q_gd_some hf
    refine v_getI hX fa_RX10_61 (fun _ _ => rfl) g1 dX10_nearest_12 ?_
    obtain ⟨g2, hf⟩ := q_gd_some hf
    obtain ⟨g3, hf⟩ := q_gd_some hf
    refine v_icmp_ge (tgt := 91) hX g2 g3 dX10_nearest_15 (by decide) (fun c4 => ?_) (fun c4 => ?_)
    · replace hf := q_ifp c4 hf
      refine v_sub (lv' := [(5, .int (q_i v5))]) [5] rfl ?_
      exact hk _ _ _ _ hf
    · replace hf := q_ifn c4 hf
      refine v_iload 7 hX dX10_nearest_18 rfl ?_
      refine v_iload_n 2 2 hX dX10_nearest_20 rfl rfl ?_
      obtain ⟨g5, hf⟩ := q_gd_some hf
      refine v_icmp_ne (tgt := 30) hX g2 g5 dX10_nearest_21 (by decide) (fun c6 => ?_) (fun c6 => ?_)
      · replace hf := q_ifp c6 hf
        refine v_ldc2 (-1) hX kl_RX10_158 (by decide) dX10_nearest_24 ?_
        refine v_goto (tgt := 49) hX dX10_nearest_27 (by decide) ?_
        refine v_lstore (lw := [(9, .long (q_l (-1))), (0, .ref p0), (1, .int (q_i p1)), (2, .int (q_i p2)), (3, .int (q_i p3)), (4, .int (q_i p4)), (5, .int (q_i v5)), (6, .long (q_l v6)), (8, .int (q_i v8))]) hX dX10_nearest_49 (by decide) rfl ?_
        refine v_lload 0 hX dX10_nearest_51 rfl ?_
        refine v_ldc2 (-1) hX kl_RX10_158 (by decide) dX10_nearest_53 ?_
        refine v_lcmp hX (by unfold r_l; omega) (by unfold r_l; omega) dX10_nearest_56 ?_
        refine v_ifc_eq (tgt := 85) hX dX10_nearest_57 (by decide) (fun _ => ?_) (fun c7 => absurd (by decide) c7)
        refine v_iinc 8 (lw := [(8, .int (q_i (v8 + 1))), (9, .long (q_l (-1))), (0, .ref p0), (1, .int (q_i p1)), (2, .int (q_i p2)), (3, .int (q_i p3)), (4, .int (q_i p4)), (5, .int (q_i v5)), (6, .long (q_l v6))]) hX dX10_nearest_85 rfl (by decide) rfl ?_
        refine v_goto (tgt := 9) hX dX10_nearest_88 (by decide) ?_
        refine v_sub (lv' := [(0, .ref p0), (1, .int (q_i p1)), (2, .int (q_i p2)), (3, .int (q_i p3)), (4, .int (q_i p4)), (5, .int (q_i v5)), (6, .long (q_l v6)), (8, .int (q_i (v8 + 1)))]) [2, 3, 4, 5, 6, 7, 8, 0] rfl ?_
        exact ih _ _ _ _ hf
      · replace hf := q_ifn c6 hf
        refine v_aload_n 0 0 hX dX10_nearest_30 rfl rfl ?_
        refine v_iload_n 1 1 hX dX10_nearest_31 rfl rfl ?_
        refine v_iload 7 hX dX10_nearest_32 rfl ?_
        refine v_iload 7 hX dX10_nearest_34 rfl ?_
        refine v_iload_n 3 3 hX dX10_nearest_36 rfl rfl ?_
        obtain ⟨g8, hf⟩ := q_gd_some hf
        refine v_icmp_ne (tgt := 45) hX g2 g8 dX10_nearest_37 (by decide) (fun c9 => ?_) (fun c9 => ?_)
        · replace hf := q_ifp c9 hf
          refine v_iload 4 hX dX10_nearest_40 rfl ?_
          refine v_goto (tgt := 46) hX dX10_nearest_42 (by decide) ?_
          obtain ⟨r10, I11, h12, hf⟩ := q_bd2_some hf
          refine v_callV (As := [.int (q_i p1), .int (q_i v8), .int (q_i p4)]) (rest := []) (st1 := [.long (q_l r10)]) (some (.long (q_l r10))) hX mv_RX10_168 (c_X10_farFrom h12) ⟨rfl, rfl⟩ ⟨Nat.le_of_ble_eq_true rfl, Nat.le_of_ble_eq_true rfl⟩ g1 rfl rfl (Nat.le_of_ble_eq_true rfl) ⟨Nat.le_of_ble_eq_true rfl, Nat.le_of_ble_eq_true rfl⟩ dX10_nearest_46 rfl ?_
          refine v_lstore (lw := [(9, .long (q_l r10)), (0, .ref p0), (1, .int (q_i p1)), (2, .int (q_i p2)), (3, .int (q_i p3)), (4, .int (q_i p4)), (5, .int (q_i v5)), (6, .long (q_l v6)), (8, .int (q_i v8))]) hX dX10_nearest_49 (by decide) rfl ?_
          refine v_lload 0 hX dX10_nearest_51 rfl ?_
          refine v_ldc2 (-1) hX kl_RX10_158 (by decide) dX10_nearest_53 ?_
          obtain ⟨g13, hf⟩ := q_gd_some hf
          refine v_lcmp hX g13 (by unfold r_l; omega) dX10_nearest_56 ?_
          refine v_ifc_eq (tgt := 85) hX dX10_nearest_57 (by decide) (fun c14 => ?_) (fun c14 => ?_)
          · replace hf := q_ifp c14 hf
            refine v_iinc 8 (lw := [(8, .int (q_i (v8 + 1))), (9, .long (q_l r10)), (0, .ref p0), (1, .int (q_i p1)), (2, .int (q_i p2)), (3, .int (q_i p3)), (4, .int (q_i p4)), (5, .int (q_i v5)), (6, .long (q_l v6))]) hX dX10_nearest_85 rfl (by decide) rfl ?_
            refine v_goto (tgt := 9) hX dX10_nearest_88 (by decide) ?_
            refine v_sub (lv' := [(0, .ref p0), (1, .int (q_i p1)), (2, .int (q_i p2)), (3, .int (q_i p3)), (4, .int (q_i p4)), (5, .int (q_i v5)), (6, .long (q_l v6)), (8, .int (q_i (v8 + 1)))]) [2, 3, 4, 5, 6, 7, 8, 0] rfl ?_
            exact ih _ _ _ _ hf
          · replace hf := q_ifn c14 hf
            refine v_iload 6 hX dX10_nearest_60 rfl ?_
            refine v_iconst hX dX10_nearest_62 ?_
            obtain ⟨g15, hf⟩ := q_gd_some hf
            refine v_icmp_eq (tgt := 77) hX g15 (by unfold r_i; omega) dX10_nearest_63 (by decide) (fun c16 => ?_) (fun c16 => ?_)
            · replace hf := q_ifp c16 hf
              refine v_iload 8 hX dX10_nearest_77 rfl ?_
              refine v_istore (lw := [(5, .int (q_i v8)), (9, .long (q_l r10)), (0, .ref p0), (1, .int (q_i p1)), (2, .int (q_i p2)), (3, .int (q_i p3)), (4, .int (q_i p4)), (6, .long (q_l v6)), (8, .int (q_i v8))]) hX dX10_nearest_79 (by decide) rfl ?_
              refine v_lload 1 hX dX10_nearest_81 rfl ?_
              refine v_lstore (lw := [(6, .long (q_l r10)), (5, .int (q_i v8)), (9, .long (q_l r10)), (0, .ref p0), (1, .int (q_i p1)), (2, .int (q_i p2)), (3, .int (q_i p3)), (4, .int (q_i p4)), (8, .int (q_i v8))]) hX dX10_nearest_83 (by decide) rfl ?_
              refine v_iinc 8 (lw := [(8, .int (q_i (v8 + 1))), (6, .long (q_l r10)), (5, .int (q_i v8)), (9, .long (q_l r10)), (0, .ref p0), (1, .int (q_i p1)), (2, .int (q_i p2)), (3, .int (q_i p3)), (4, .int (q_i p4))]) hX dX10_nearest_85 rfl (by decide) rfl ?_
              refine v_goto (tgt := 9) hX dX10_nearest_88 (by decide) ?_
              refine v_sub (lv' := [(0, .ref p0), (1, .int (q_i p1)), (2, .int (q_i p2)), (3, .int (q_i p3)), (4, .int (q_i p4)), (5, .int (q_i v8)), (6, .long (q_l r10)), (8, .int (q_i (v8 + 1)))]) [4, 5, 6, 7, 8, 2, 1, 0] rfl ?_
              exact ih _ _ _ _ hf
            · replace hf := q_ifn c16 hf
              refine v_lload 0 hX dX10_nearest_66 rfl ?_
              refine v_lload 7 hX dX10_nearest_68 rfl ?_
              obtain ⟨g17, hf⟩ := q_gd_some hf
              refine v_lcmp hX g13 g17 dX10_nearest_70 ?_
              refine v_ifc_lt (tgt := 77) hX dX10_nearest_71 (by decide) (fun c18 => ?_) (fun c18 => ?_)
              · replace hf := q_ifp c18 hf
                refine v_iload 8 hX dX10_nearest_77 rfl ?_
                refine v_istore (lw := [(5, .int (q_i v8)), (9, .long (q_l r10)), (0, .ref p0), (1, .int (q_i p1)), (2, .int (q_i p2)), (3, .int (q_i p3)), (4, .int (q_i p4)), (6, .long (q_l v6)), (8, .int (q_i v8))]) hX dX10_nearest_79 (by decide) rfl ?_
                refine v_lload 1 hX dX10_nearest_81 rfl ?_
                refine v_lstore (lw := [(6, .long (q_l r10)), (5, .int (q_i v8)), (9, .long (q_l r10)), (0, .ref p0), (1, .int (q_i p1)), (2, .int (q_i p2)), (3, .int (q_i p3)), (4, .int (q_i p4)), (8, .int (q_i v8))]) hX dX10_nearest_83 (by decide) rfl ?_
                refine v_iinc 8 (lw := [(8, .int (q_i (v8 + 1))), (6, .long (q_l r10)), (5, .int (q_i v8)), (9, .long (q_l r10)), (0, .ref p0), (1, .int (q_i p1)), (2, .int (q_i p2)), (3, .int (q_i p3)), (4, .int (q_i p4))]) hX dX10_nearest_85 rfl (by decide) rfl ?_
                refine v_goto (tgt := 9) hX dX10_nearest_88 (by decide) ?_
                refine v_sub (lv' := [(0, .ref p0), (1, .int (q_i p1)), (2, .int (q_i p2)), (3, .int (q_i p3)), (4, .int (q_i p4)), (5, .int (q_i v8)), (6, .long (q_l r10)), (8, .int (q_i (v8 + 1)))]) [4, 5, 6, 7, 8, 2, 1, 0] rfl ?_
                exact ih _ _ _ _ hf
              · replace hf := q_ifn c18 hf
                refine v_goto (tgt := 85) hX dX10_nearest_74 (by decide) ?_
                refine v_iinc 8 (lw := [(8, .int (q_i (v8 + 1))), (9, .long (q_l r10)), (0, .ref p0), (1, .int (q_i p1)), (2, .int (q_i p2)), (3, .int (q_i p3)), (4, .int (q_i p4)), (5, .int (q_i v5)), (6, .long (q_l v6))]) hX dX10_nearest_85 rfl (by decide) rfl ?_
                refine v_goto (tgt := 9) hX dX10_nearest_88 (by decide) ?_
                refine v_sub (lv' := [(0, .ref p0), (1, .int (q_i p1)), (2, .int (q_i p2)), (3, .int (q_i p3)), (4, .int (q_i p4)), (5, .int (q_i v5)), (6, .long (q_l v6)), (8, .int (q_i (v8 + 1)))]) [2, 3, 4, 5, 6, 7, 8, 0] rfl ?_
                exact ih _ _ _ _ hf
        · replace hf := q_ifn c9 hf
          refine v_iconst hX dX10_nearest_45 ?_
          obtain ⟨r19, I20, h21, hf⟩ := q_bd2_some hf
          refine v_callV (As := [.int (q_i p1), .int (q_i v8), .int (q_i (-1))]) (rest := []) (st1 := [.long (q_l r19)]) (some (.long (q_l r19))) hX mv_RX10_168 (c_X10_farFrom h21) ⟨rfl, rfl⟩ ⟨Nat.le_of_ble_eq_true rfl, Nat.le_of_ble_eq_true rfl⟩ g1 rfl rfl (Nat.le_of_ble_eq_true rfl) ⟨Nat.le_of_ble_eq_true rfl, Nat.le_of_ble_eq_true rfl⟩ dX10_nearest_46 rfl ?_
          refine v_lstore (lw := [(9, .long (q_l r19)), (0, .ref p0), (1, .int (q_i p1)), (2, .int (q_i p2)), (3, .int (q_i p3)), (4, .int (q_i p4)), (5, .int (q_i v5)), (6, .long (q_l v6)), (8, .int (q_i v8))]) hX dX10_nearest_49 (by decide) rfl ?_
          refine v_lload 0 hX dX10_nearest_51 rfl ?_
          refine v_ldc2 (-1) hX kl_RX10_158 (by decide) dX10_nearest_53 ?_
          obtain ⟨g22, hf⟩ := q_gd_some hf
          refine v_lcmp hX g22 (by unfold r_l; omega) dX10_nearest_56 ?_
          refine v_ifc_eq (tgt := 85) hX dX10_nearest_57 (by decide) (fun c23 => ?_) (fun c23 => ?_)
          · replace hf := q_ifp c23 hf
            refine v_iinc 8 (lw := [(8, .int (q_i (v8 + 1))), (9, .long (q_l r19)), (0, .ref p0), (1, .int (q_i p1)), (2, .int (q_i p2)), (3, .int (q_i p3)), (4, .int (q_i p4)), (5, .int (q_i v5)), (6, .long (q_l v6))]) hX dX10_nearest_85 rfl (by decide) rfl ?_
            refine v_goto (tgt := 9) hX dX10_nearest_88 (by decide) ?_
            refine v_sub (lv' := [(0, .ref p0), (1, .int (q_i p1)), (2, .int (q_i p2)), (3, .int (q_i p3)), (4, .int (q_i p4)), (5, .int (q_i v5)), (6, .long (q_l v6)), (8, .int (q_i (v8 + 1)))]) [2, 3, 4, 5, 6, 7, 8, 0] rfl ?_
            exact ih _ _ _ _ hf
          · replace hf := q_ifn c23 hf
            refine v_iload 6 hX dX10_nearest_60 rfl ?_
            refine v_iconst hX dX10_nearest_62 ?_
            obtain ⟨g24, hf⟩ := q_gd_some hf
            refine v_icmp_eq (tgt := 77) hX g24 (by unfold r_i; omega) dX10_nearest_63 (by decide) (fun c25 => ?_) (fun c25 => ?_)
            · replace hf := q_ifp c25 hf
              refine v_iload 8 hX dX10_nearest_77 rfl ?_
              refine v_istore (lw := [(5, .int (q_i v8)), (9, .long (q_l r19)), (0, .ref p0), (1, .int (q_i p1)), (2, .int (q_i p2)), (3, .int (q_i p3)), (4, .int (q_i p4)), (6, .long (q_l v6)), (8, .int (q_i v8))]) hX dX10_nearest_79 (by decide) rfl ?_
              refine v_lload 1 hX dX10_nearest_81 rfl ?_
              refine v_lstore (lw := [(6, .long (q_l r19)), (5, .int (q_i v8)), (9, .long (q_l r19)), (0, .ref p0), (1, .int (q_i p1)), (2, .int (q_i p2)), (3, .int (q_i p3)), (4, .int (q_i p4)), (8, .int (q_i v8))]) hX dX10_nearest_83 (by decide) rfl ?_
              refine v_iinc 8 (lw := [(8, .int (q_i (v8 + 1))), (6, .long (q_l r19)), (5, .int (q_i v8)), (9, .long (q_l r19)), (0, .ref p0), (1, .int (q_i p1)), (2, .int (q_i p2)), (3, .int (q_i p3)), (4, .int (q_i p4))]) hX dX10_nearest_85 rfl (by decide) rfl ?_
              refine v_goto (tgt := 9) hX dX10_nearest_88 (by decide) ?_
              refine v_sub (lv' := [(0, .ref p0), (1, .int (q_i p1)), (2, .int (q_i p2)), (3, .int (q_i p3)), (4, .int (q_i p4)), (5, .int (q_i v8)), (6, .long (q_l r19)), (8, .int (q_i (v8 + 1)))]) [4, 5, 6, 7, 8, 2, 1, 0] rfl ?_
              exact ih _ _ _ _ hf
            · replace hf := q_ifn c25 hf
              refine v_lload 0 hX dX10_nearest_66 rfl ?_
              refine v_lload 7 hX dX10_nearest_68 rfl ?_
              obtain ⟨g26, hf⟩ := q_gd_some hf
              refine v_lcmp hX g22 g26 dX10_nearest_70 ?_
              refine v_ifc_lt (tgt := 77) hX dX10_nearest_71 (by decide) (fun c27 => ?_) (fun c27 => ?_)
              · replace hf := q_ifp c27 hf
                refine v_iload 8 hX dX10_nearest_77 rfl ?_
                refine v_istore (lw := [(5, .int (q_i v8)), (9, .long (q_l r19)), (0, .ref p0), (1, .int (q_i p1)), (2, .int (q_i p2)), (3, .int (q_i p3)), (4, .int (q_i p4)), (6, .long (q_l v6)), (8, .int (q_i v8))]) hX dX10_nearest_79 (by decide) rfl ?_
                refine v_lload 1 hX dX10_nearest_81 rfl ?_
                refine v_lstore (lw := [(6, .long (q_l r19)), (5, .int (q_i v8)), (9, .long (q_l r19)), (0, .ref p0), (1, .int (q_i p1)), (2, .int (q_i p2)), (3, .int (q_i p3)), (4, .int (q_i p4)), (8, .int (q_i v8))]) hX dX10_nearest_83 (by decide) rfl ?_
                refine v_iinc 8 (lw := [(8, .int (q_i (v8 + 1))), (6, .long (q_l r19)), (5, .int (q_i v8)), (9, .long (q_l r19)), (0, .ref p0), (1, .int (q_i p1)), (2, .int (q_i p2)), (3, .int (q_i p3)), (4, .int (q_i p4))]) hX dX10_nearest_85 rfl (by decide) rfl ?_
                refine v_goto (tgt := 9) hX dX10_nearest_88 (by decide) ?_
                refine v_sub (lv' := [(0, .ref p0), (1, .int (q_i p1)), (2, .int (q_i p2)), (3, .int (q_i p3)), (4, .int (q_i p4)), (5, .int (q_i v8)), (6, .long (q_l r19)), (8, .int (q_i (v8 + 1)))]) [4, 5, 6, 7, 8, 2, 1, 0] rfl ?_
                exact ih _ _ _ _ hf
              · replace hf := q_ifn c27 hf
                refine v_goto (tgt := 85) hX dX10_nearest_74 (by decide) ?_
                refine v_iinc 8 (lw := [(8, .int (q_i (v8 + 1))), (9, .long (q_l r19)), (0, .ref p0), (1, .int (q_i p1)), (2, .int (q_i p2)), (3, .int (q_i p3)), (4, .int (q_i p4)), (5, .int (q_i v5)), (6, .long (q_l v6))]) hX dX10_nearest_85 rfl (by decide) rfl ?_
                refine v_goto (tgt := 9) hX dX10_nearest_88 (by decide) ?_
                refine v_sub (lv' := [(0, .ref p0), (1, .int (q_i p1)), (2, .int (q_i p2)), (3, .int (q_i p3)), (4, .int (q_i p4)), (5, .int (q_i v5)), (6, .long (q_l v6)), (8, .int (q_i (v8 + 1)))]) [2, 3, 4, 5, 6, 7, 8, 0] rfl ?_
                exact ih _ _ _ _ hf
set_option maxRecDepth 20000 in
theorem c_X10_nearest {S : q_S} {R : q_HR} {I : q_HI} {a0 : Nat} {a1 : Int} {a2 : Int} {a3 : Int} {a4 : Int} {rz : Int} {Iz : q_HI} (hf : f_X10_nearest S R I a0 a1 a2 a3 a4 = some (rz, Iz)) : ∀ (l : Launch) (D : va_G) (cy : Nat → ClassId) (B : Nat), Met l yX10_nearest [Cond.code yX10_nearest cX10_nearest 11 (some .int)] rmX10_nearest (q_Pc B D cy [.ref a0, .int (q_i a1), .int (q_i a2), .int (q_i a3), .int (q_i a4)] S R I) (q_Qc B D cy (some (.int (q_i rz))) S R Iz) 0 0 (fun q => B ≤ q) := by
  refine q_met (lv := [(0, .ref a0), (1, .int (q_i a1)), (2, .int (q_i a2)), (3, .int (q_i a3)), (4, .int (q_i a4))]) (own := RX10) (nm := "nearest") (by decide) rfl rfl (Nat.le_of_ble_eq_true rfl) rfl (fun X hX hE => ?_)
  unfold f_X10_nearest at hf
  refine v_iconst hX dX10_nearest_0 ?_
  refine v_istore (lw := [(5, .int (q_i (-1))), (0, .ref a0), (1, .int (q_i a1)), (2, .int (q_i a2)), (3, .int (q_i a3)), (4, .int (q_i a4))]) hX dX10_nearest_1 (by decide) rfl ?_
  refine v_lconst 0 hX dX10_nearest_3 (by decide) ?_
  refine v_lstore (lw := [(6, .long (q_l 0)), (5, .int (q_i (-1))), (0, .ref a0), (1, .int (q_i a1)), (2, .int (q_i a2)), (3, .int (q_i a3)), (4, .int (q_i a4))]) hX dX10_nearest_4 (by decide) rfl ?_
  refine v_iconst hX dX10_nearest_6 ?_
  refine v_istore (lw := [(8, .int (q_i 0)), (6, .long (q_l 0)), (5, .int (q_i (-1))), (0, .ref a0), (1, .int (q_i a1)), (2, .int (q_i a2)), (3, .int (q_i a3)), (4, .int (q_i a4))]) hX dX10_nearest_7 (by decide) rfl ?_
  refine v_sub (lv' := [(0, .ref a0), (1, .int (q_i a1)), (2, .int (q_i a2)), (3, .int (q_i a3)), (4, .int (q_i a4)), (5, .int (q_i (-1))), (6, .long (q_l 0)), (8, .int (q_i 0))]) [3, 4, 5, 6, 7, 2, 1, 0] rfl ?_
  refine l_X10_nearest_9 hX hE (fun w28 w29 w30 I31 hk => ?_) 100 _ _ _ _ hf
  clear hf
  have hf := hk
  clear hk
  refine v_iload 0 hX dX10_nearest_91 rfl ?_
  cases hf
  exact v_iret hX hE (Nat.le_of_ble_eq_true rfl) (Nat.le_of_ble_eq_true rfl) dX10_nearest_93
noncomputable def f_X10_distance (S : q_S) (R : q_HR) (I : q_HI) (a0 : Nat) (a1 : Int) : Option (Int × q_HI) := q_gd (S.1 a0 = 11) (q_lt (q_up I a0 0 0) fun I2 => q_bd (f_X10_isClass S R I2 a0 a1) fun r4 => q_gd (r_i r4) (if r4 = 0 then some ((-2), I2) else q_gd (r_i (I2 a0 7)) (if I2 a0 7 = 0 then some ((-5), I2) else q_bd (f_X10_lays S R I2 a0 0) fun I10 => q_bd2 (f_X10_farFrom S R I10 a0 0 a1 (-1)) fun r12 I13 => some (r12, I13))))
abbrev rmX10_distance : Room := { frames := 4, cells := 0, slots := 0, locals := 105 }
set_option maxRecDepth 20000 in
theorem c_X10_distance {S : q_S} {R : q_HR} {I : q_HI} {a0 : Nat} {a1 : Int} {rz : Int} {Iz : q_HI} (hf : f_X10_distance S R I a0 a1 = some (rz, Iz)) : ∀ (l : Launch) (D : va_G) (cy : Nat → ClassId) (B : Nat), Met l yX10_distance [Cond.code yX10_distance cX10_distance 2 (some .int)] rmX10_distance (q_Pc B D cy [.ref a0, .int (q_i a1)] S R I) (q_Qc B D cy (some (.int (q_i rz))) S R Iz) 0 0 (fun q => B ≤ q) := by
  refine q_met (lv := [(0, .ref a0), (1, .int (q_i a1))]) (own := RX10) (nm := "distance") (by decide) rfl rfl (Nat.le_of_ble_eq_true rfl) rfl (fun X hX hE => ?_)
  unfold f_X10_distance at hf
  refine v_aload_n 0 0 hX dX10_distance_0 rfl rfl ?_
  refine v_iconst hX dX10_distance_1 ?_
  obtain ⟨g1, hf⟩ := q_gd_some hf
  refine v_putI hX fa_RX10_1 rfl g1 dX10_distance_2 ?_
  obtain ⟨I2, e3, hf⟩ := q_lt_nm hf
  rw [e3]
  refine v_aload_n 0 0 hX dX10_distance_5 rfl rfl ?_
  refine v_iload_n 1 1 hX dX10_distance_6 rfl rfl ?_
  obtain ⟨r4, h5, hf⟩ := q_bd_some hf
  refine v_callV (As := [.int (q_i a1)]) (rest := []) (st1 := [.int (q_i r4)]) (some (.int (q_i r4))) hX mv_RX10_148 (c_X10_isClass h5) ⟨rfl, rfl⟩ ⟨Nat.le_of_ble_eq_true rfl, Nat.le_of_ble_eq_true rfl⟩ g1 rfl rfl (Nat.le_of_ble_eq_true rfl) ⟨Nat.le_of_ble_eq_true rfl, Nat.le_of_ble_eq_true rfl⟩ dX10_distance_7 rfl ?_
  obtain ⟨g6, hf⟩ := q_gd_some hf
  refine v_if_ne (tgt := 16) hX g6 dX10_distance_10 (by decide) (fun c7 => ?_) (fun c7 => ?_)
  · replace hf := q_ifp c7 hf
    refine v_bipush (-2) hX dX10_distance_13 (by decide) ?_
    cases hf
    exact v_iret hX hE (Nat.le_of_ble_eq_true rfl) (Nat.le_of_ble_eq_true rfl) dX10_distance_15
  · replace hf := q_ifn c7 hf
    refine v_aload_n 0 0 hX dX10_distance_16 rfl rfl ?_
    refine v_getI hX fa_RX10_70 (fun _ _ => rfl) g1 dX10_distance_17 ?_
    obtain ⟨g8, hf⟩ := q_gd_some hf
    refine v_if_ne (tgt := 26) hX g8 dX10_distance_20 (by decide) (fun c9 => ?_) (fun c9 => ?_)
    · replace hf := q_ifp c9 hf
      refine v_bipush (-5) hX dX10_distance_23 (by decide) ?_
      cases hf
      exact v_iret hX hE (Nat.le_of_ble_eq_true rfl) (Nat.le_of_ble_eq_true rfl) dX10_distance_25
    · replace hf := q_ifn c9 hf
      refine v_aload_n 0 0 hX dX10_distance_26 rfl rfl ?_
      refine v_iconst hX dX10_distance_27 ?_
      obtain ⟨I10, h11, hf⟩ := q_bd_some hf
      refine v_callV (As := [.int (q_i 0)]) (rest := []) (st1 := []) none hX mv_RX10_143 (c_X10_lays h11) ⟨rfl, rfl⟩ ⟨Nat.le_of_ble_eq_true rfl, Nat.le_of_ble_eq_true rfl⟩ g1 rfl rfl (Nat.le_of_ble_eq_true rfl) ⟨Nat.le_of_ble_eq_true rfl, Nat.le_of_ble_eq_true rfl⟩ dX10_distance_28 rfl ?_
      refine v_aload_n 0 0 hX dX10_distance_31 rfl rfl ?_
      refine v_iconst hX dX10_distance_32 ?_
      refine v_iload_n 1 1 hX dX10_distance_33 rfl rfl ?_
      refine v_iconst hX dX10_distance_34 ?_
      obtain ⟨r12, I13, h14, hf⟩ := q_bd2_some hf
      refine v_callV (As := [.int (q_i 0), .int (q_i a1), .int (q_i (-1))]) (rest := []) (st1 := [.long (q_l r12)]) (some (.long (q_l r12))) hX mv_RX10_168 (c_X10_farFrom h14) ⟨rfl, rfl⟩ ⟨Nat.le_of_ble_eq_true rfl, Nat.le_of_ble_eq_true rfl⟩ g1 rfl rfl (Nat.le_of_ble_eq_true rfl) ⟨Nat.le_of_ble_eq_true rfl, Nat.le_of_ble_eq_true rfl⟩ dX10_distance_35 rfl ?_
      refine v_l2i hX dX10_distance_38 ?_
      cases hf
      exact v_iret hX hE (Nat.le_of_ble_eq_true rfl) (Nat.le_of_ble_eq_true rfl) dX10_distance_39
noncomputable def f_X10_nearestClass (S : q_S) (R : q_HR) (I : q_HI) (a0 : Nat) : Option (Int × q_HI) := q_gd (S.1 a0 = 11) (q_lt (q_up I a0 0 0) fun I2 => q_gd (r_i (I2 a0 7)) (if I2 a0 7 = 0 then some ((-5), I2) else q_bd (f_X10_lays S R I2 a0 0) fun I6 => q_bd2 (f_X10_nearest S R I6 a0 0 (-1) (-1) (-1)) fun r8 I9 => some (r8, I9)))
abbrev rmX10_nearestClass : Room := { frames := 4, cells := 0, slots := 0, locals := 105 }
set_option maxRecDepth 20000 in
theorem c_X10_nearestClass {S : q_S} {R : q_HR} {I : q_HI} {a0 : Nat} {rz : Int} {Iz : q_HI} (hf : f_X10_nearestClass S R I a0 = some (rz, Iz)) : ∀ (l : Launch) (D : va_G) (cy : Nat → ClassId) (B : Nat), Met l yX10_nearestClass [Cond.code yX10_nearestClass cX10_nearestClass 1 (some .int)] rmX10_nearestClass (q_Pc B D cy [.ref a0] S R I) (q_Qc B D cy (some (.int (q_i rz))) S R Iz) 0 0 (fun q => B ≤ q) := by
  refine q_met (lv := [(0, .ref a0)]) (own := RX10) (nm := "nearestClass") (by decide) rfl rfl (Nat.le_of_ble_eq_true rfl) rfl (fun X hX hE => ?_)
  unfold f_X10_nearestClass at hf
  refine v_aload_n 0 0 hX dX10_nearestClass_0 rfl rfl ?_
  refine v_iconst hX dX10_nearestClass_1 ?_
  obtain ⟨g1, hf⟩ := q_gd_some hf
  refine v_putI hX fa_RX10_1 rfl g1 dX10_nearestClass_2 ?_
  obtain ⟨I2, e3, hf⟩ := q_lt_nm hf
  rw [e3]
  refine v_aload_n 0 0 hX dX10_nearestClass_5 rfl rfl ?_
  refine v_getI hX fa_RX10_70 (fun _ _ => rfl) g1 dX10_nearestClass_6 ?_
  obtain ⟨g4, hf⟩ := q_gd_some hf
  refine v_if_ne (tgt := 15) hX g4 dX10_nearestClass_9 (by decide) (fun c5 => ?_) (fun c5 => ?_)
  · replace hf := q_ifp c5 hf
    refine v_bipush (-5) hX dX10_nearestClass_12 (by decide) ?_
    cases hf
    exact v_iret hX hE (Nat.le_of_ble_eq_true rfl) (Nat.le_of_ble_eq_true rfl) dX10_nearestClass_14
  · replace hf := q_ifn c5 hf
    refine v_aload_n 0 0 hX dX10_nearestClass_15 rfl rfl ?_
    refine v_iconst hX dX10_nearestClass_16 ?_
    obtain ⟨I6, h7, hf⟩ := q_bd_some hf
    refine v_callV (As := [.int (q_i 0)]) (rest := []) (st1 := []) none hX mv_RX10_143 (c_X10_lays h7) ⟨rfl, rfl⟩ ⟨Nat.le_of_ble_eq_true rfl, Nat.le_of_ble_eq_true rfl⟩ g1 rfl rfl (Nat.le_of_ble_eq_true rfl) ⟨Nat.le_of_ble_eq_true rfl, Nat.le_of_ble_eq_true rfl⟩ dX10_nearestClass_17 rfl ?_
    refine v_aload_n 0 0 hX dX10_nearestClass_20 rfl rfl ?_
    refine v_iconst hX dX10_nearestClass_21 ?_
    refine v_iconst hX dX10_nearestClass_22 ?_
    refine v_iconst hX dX10_nearestClass_23 ?_
    refine v_iconst hX dX10_nearestClass_24 ?_
    obtain ⟨r8, I9, h10, hf⟩ := q_bd2_some hf
    refine v_callV (As := [.int (q_i 0), .int (q_i (-1)), .int (q_i (-1)), .int (q_i (-1))]) (rest := []) (st1 := [.int (q_i r8)]) (some (.int (q_i r8))) hX mv_RX10_171 (c_X10_nearest h10) ⟨rfl, rfl⟩ ⟨Nat.le_of_ble_eq_true rfl, Nat.le_of_ble_eq_true rfl⟩ g1 rfl rfl (Nat.le_of_ble_eq_true rfl) ⟨Nat.le_of_ble_eq_true rfl, Nat.le_of_ble_eq_true rfl⟩ dX10_nearestClass_25 rfl ?_
    cases hf
    exact v_iret hX hE (Nat.le_of_ble_eq_true rfl) (Nat.le_of_ble_eq_true rfl) dX10_nearestClass_28
noncomputable def f_X10_runnerUp (S : q_S) (R : q_HR) (I : q_HI) (a0 : Nat) : Option (Int × q_HI) := q_gd (S.1 a0 = 11) (q_lt (q_up I a0 0 0) fun I2 => q_gd (r_i (I2 a0 7)) (if I2 a0 7 = 0 then some ((-5), I2) else q_bd (f_X10_lays S R I2 a0 0) fun I6 => q_bd2 (f_X10_nearest S R I6 a0 0 (-1) (-1) (-1)) fun r8 I9 => q_gd (r_i r8) (if r8 = (-1) then some ((-1), I9) else q_bd2 (f_X10_nearest S R I9 a0 0 r8 (-1) (-1)) fun r13 I14 => some (r13, I14))))
abbrev rmX10_runnerUp : Room := { frames := 4, cells := 0, slots := 0, locals := 105 }
set_option maxRecDepth 20000 in
theorem c_X10_runnerUp {S : q_S} {R : q_HR} {I : q_HI} {a0 : Nat} {rz : Int} {Iz : q_HI} (hf : f_X10_runnerUp S R I a0 = some (rz, Iz)) : ∀ (l : Launch) (D : va_G) (cy : Nat → ClassId) (B : Nat), Met l yX10_runnerUp [Cond.code yX10_runnerUp cX10_runnerUp 2 (some .int)] rmX10_runnerUp (q_Pc B D cy [.ref a0] S R I) (q_Qc B D cy (some (.int (q_i rz))) S R Iz) 0 0 (fun q => B ≤ q) := by
  refine q_met (lv := [(0, .ref a0)]) (own := RX10) (nm := "runnerUp") (by decide) rfl rfl (Nat.le_of_ble_eq_true rfl) rfl (fun X hX hE => ?_)
  unfold f_X10_runnerUp at hf
  refine v_aload_n 0 0 hX dX10_runnerUp_0 rfl rfl ?_
  refine v_iconst hX dX10_runnerUp_1 ?_
  obtain ⟨g1, hf⟩ := q_gd_some hf
  refine v_putI hX fa_RX10_1 rfl g1 dX10_runnerUp_2 ?_
  obtain ⟨I2, e3, hf⟩ := q_lt_nm hf
  rw [e3]
  refine v_aload_n 0 0 hX dX10_runnerUp_5 rfl rfl ?_
  refine v_getI hX fa_RX10_70 (fun _ _ => rfl) g1 dX10_runnerUp_6 ?_
  obtain ⟨g4, hf⟩ := q_gd_some hf
  refine v_if_ne (tgt := 15) hX g4 dX10_runnerUp_9 (by decide) (fun c5 => ?_) (fun c5 => ?_)
  · replace hf := q_ifp c5 hf
    refine v_bipush (-5) hX dX10_runnerUp_12 (by decide) ?_
    cases hf
    exact v_iret hX hE (Nat.le_of_ble_eq_true rfl) (Nat.le_of_ble_eq_true rfl) dX10_runnerUp_14
  · replace hf := q_ifn c5 hf
    refine v_aload_n 0 0 hX dX10_runnerUp_15 rfl rfl ?_
    refine v_iconst hX dX10_runnerUp_16 ?_
    obtain ⟨I6, h7, hf⟩ := q_bd_some hf
    refine v_callV (As := [.int (q_i 0)]) (rest := []) (st1 := []) none hX mv_RX10_143 (c_X10_lays h7) ⟨rfl, rfl⟩ ⟨Nat.le_of_ble_eq_true rfl, Nat.le_of_ble_eq_true rfl⟩ g1 rfl rfl (Nat.le_of_ble_eq_true rfl) ⟨Nat.le_of_ble_eq_true rfl, Nat.le_of_ble_eq_true rfl⟩ dX10_runnerUp_17 rfl ?_
    refine v_aload_n 0 0 hX dX10_runnerUp_20 rfl rfl ?_
    refine v_iconst hX dX10_runnerUp_21 ?_
    refine v_iconst hX dX10_runnerUp_22 ?_
    refine v_iconst hX dX10_runnerUp_23 ?_
    refine v_iconst hX dX10_runnerUp_24 ?_
    obtain ⟨r8, I9, h10, hf⟩ := q_bd2_some hf
    refine v_callV (As := [.int (q_i 0), .int (q_i (-1)), .int (q_i (-1)), .int (q_i (-1))]) (rest := []) (st1 := [.int (q_i r8)]) (some (.int (q_i r8))) hX mv_RX10_171 (c_X10_nearest h10) ⟨rfl, rfl⟩ ⟨Nat.le_of_ble_eq_true rfl, Nat.le_of_ble_eq_true rfl⟩ g1 rfl rfl (Nat.le_of_ble_eq_true rfl) ⟨Nat.le_of_ble_eq_true rfl, Nat.le_of_ble_eq_true rfl⟩ dX10_runnerUp_25 rfl ?_
    refine v_istore_n 1 (lw := [(1, .int (q_i r8)), (0, .ref a0)]) hX dX10_runnerUp_28 rfl (by decide) rfl ?_
    refine v_iload_n 1 0 hX dX10_runnerUp_29 rfl rfl ?_
    refine v_iconst hX dX10_runnerUp_30 ?_
    obtain ⟨g11, hf⟩ := q_gd_some hf
    refine v_icmp_ne (tgt := 38) hX g11 (by unfold r_i; omega) dX10_runnerUp_31 (by decide) (fun c12 => ?_) (fun c12 => ?_)
    · replace hf := q_ifp c12 hf
      refine v_iconst hX dX10_runnerUp_34 ?_
      refine v_goto (tgt := 46) hX dX10_runnerUp_35 (by decide) ?_
      cases hf
      exact v_iret hX hE (Nat.le_of_ble_eq_true rfl) (Nat.le_of_ble_eq_true rfl) dX10_runnerUp_46
    · replace hf := q_ifn c12 hf
      refine v_aload_n 0 1 hX dX10_runnerUp_38 rfl rfl ?_
      refine v_iconst hX dX10_runnerUp_39 ?_
      refine v_iload_n 1 0 hX dX10_runnerUp_40 rfl rfl ?_
      refine v_iconst hX dX10_runnerUp_41 ?_
      refine v_iconst hX dX10_runnerUp_42 ?_
      obtain ⟨r13, I14, h15, hf⟩ := q_bd2_some hf
      refine v_callV (As := [.int (q_i 0), .int (q_i r8), .int (q_i (-1)), .int (q_i (-1))]) (rest := []) (st1 := [.int (q_i r13)]) (some (.int (q_i r13))) hX mv_RX10_171 (c_X10_nearest h15) ⟨rfl, rfl⟩ ⟨Nat.le_of_ble_eq_true rfl, Nat.le_of_ble_eq_true rfl⟩ g1 rfl rfl (Nat.le_of_ble_eq_true rfl) ⟨Nat.le_of_ble_eq_true rfl, Nat.le_of_ble_eq_true rfl⟩ dX10_runnerUp_43 rfl ?_
      cases hf
      exact v_iret hX hE (Nat.le_of_ble_eq_true rfl) (Nat.le_of_ble_eq_true rfl) dX10_runnerUp_46
noncomputable def f_X10_farthest_L4 (S : q_S) (R : q_HR) (p0 : Nat) (p1 : Int) (k : Int → Int → q_HI → Option (Int × q_HI)) : Nat → Int → Int → q_HI → Option (Int × q_HI)
  | 0, _, _, _ => none
  | n + 1, v2, v3, I => q_gd (S.1 p0 = 11) (q_gd (S.1 (R p0 13) = 12) (q_gd ((0 : Int) ≤ p1 ∧ p1 < (S.2.1 (R p0 13) : Int)) (q_gd (r_i v3) (q_gd (r_i (I (R p0 13) (Int.toNat p1))) (if I (R p0 13) (Int.toNat p1) ≤ v3 then k v2 v3 I else q_bd (f_X10_placeOf p1 v3) fun r7 => q_bd2 (f_X10_farFrom S R I p0 r7 p1 (-1)) fun r9 I10 => q_bd (f_X10_placeOf p1 v2) fun r12 => q_bd2 (f_X10_farFrom S R I10 p0 r12 p1 (-1)) fun r14 I15 => q_gd (r_l r9) (q_gd (r_l r14) (if r9 ≤ r14 then f_X10_farthest_L4 S R p0 p1 k n v2 (v3 + 1) I15 else f_X10_farthest_L4 S R p0 p1 k n v3 (v3 + 1) I15)))))))
noncomputable def f_X10_farthest (S : q_S) (R : q_HR) (I : q_HI) (a0 : Nat) (a1 : Int) : Option (Int × q_HI) := f_X10_farthest_L4 S R a0 a1 (fun w20 w21 I22 => some (w20, I22)) 100 0 1 I
abbrev rmX10_farthest : Room := { frames := 3, cells := 0, slots := 0, locals := 73 }
set_option maxRecDepth 20000 in
theorem l_X10_farthest_4 {X : q_X} {S : q_S} {R : q_HR} {p0 : Nat} {p1 : Int} {rz : Int} {Iz : q_HI} (hX : q_C X cX10_farthest 4 RX10 (some .int) "farthest") (hE : q_E X 0 0 (some (.int (q_i rz))) S R Iz) {k : Int → Int → q_HI → Option (Int × q_HI)} (hk : ∀ (v2 : Int) (v3 : Int) (I : q_HI), k v2 v3 I = some (rz, Iz) → q_V X rmX10_farthest cX10_farthest 4 0 0 48 [(2, .int (q_i v2))] [] S R I) :
    ∀ (n : Nat), ∀ (v2 : Int) (v3 : Int) (I : q_HI), f_X10_farthest_L4 S R p0 p1 k n v2 v3 I = some (rz, Iz) → q_V X rmX10_farthest cX10_farthest 4 0 0 4 [(0, .ref p0), (1, .int (q_i p1)), (2, .int (q_i v2)), (3, .int (q_i v3))] [] S R I := by
  intro n
  induction n with
  | zero =>
    intro v2 v3 I hf
    cases (show (none : Option (Int × q_HI)) = some _ from hf)
  | succ n ih =>
    intro v2 v3 I hf
    rw [f_X10_farthest_L4] at hf
    refine v_iload_n 3 3 hX dX10_farthest_4 rfl rfl ?_
    refine v_aload_n 0 0 hX dX10_farthest_5 rfl rfl ?_
    obtain ⟨g1, hf⟩ := q_gd_some hf
    obtain ⟨g2, hf⟩ := q_gd_some hf
    refine v_getA hX fa_RX10_23 (fun _ _ => rfl) g1 g2 (by decide) dX10_farthest_6 ?_
    refine v_iload_n 1 1 hX dX10_farthest_9 rfl rfl ?_
    obtain ⟨g3, hf⟩ := q_gd_some hf
    refine v_iaload hX g2 g3 dX10_farthest_10 ?_
    obtain ⟨g4, hf⟩ := q_gd_some hf
    obtain ⟨g5, hf⟩ := q_gd_some hf
    refine v_icmp_ge (tgt := 48) hX g4 g5 dX10_farthest_11 (by decide) (fun c6 => ?_) (fun c6 => ?_)
    · replace hf := q_ifp c6 hf
      refine v_sub (lv' := [(2, .int (q_i v2))]) [2] rfl ?_
      exact hk _ _ _ hf
    · replace hf := q_ifn c6 hf
      refine v_aload_n 0 0 hX dX10_farthest_14 rfl rfl ?_
      refine v_iload_n 1 1 hX dX10_farthest_15 rfl rfl ?_
      refine v_iload_n 3 3 hX dX10_farthest_16 rfl rfl ?_
      obtain ⟨r7, h8, hf⟩ := q_bd_some hf
      refine v_callS (As := [.int (q_i p1), .int (q_i v3)]) (rest := [.ref p0]) (st1 := [.int (q_i r7), .ref p0]) (some (.int (q_i r7))) hX ms_RX10_151 (c_X10_placeOf h8) ⟨rfl, rfl⟩ ⟨Nat.le_of_ble_eq_true rfl, Nat.le_of_ble_eq_true rfl⟩ rfl rfl (Nat.le_of_ble_eq_true rfl) ⟨Nat.le_of_ble_eq_true rfl, Nat.le_of_ble_eq_true rfl⟩ dX10_farthest_17 rfl ?_
      refine v_iload_n 1 1 hX dX10_farthest_20 rfl rfl ?_
      refine v_iconst hX dX10_farthest_21 ?_
      obtain ⟨r9, I10, h11, hf⟩ := q_bd2_some hf
      refine v_callV (As := [.int (q_i r7), .int (q_i p1), .int (q_i (-1))]) (rest := []) (st1 := [.long (q_l r9)]) (some (.long (q_l r9))) hX mv_RX10_168 (c_X10_farFrom h11) ⟨rfl, rfl⟩ ⟨Nat.le_of_ble_eq_true rfl, Nat.le_of_ble_eq_true rfl⟩ g1 rfl rfl (Nat.le_of_ble_eq_true rfl) ⟨Nat.le_of_ble_eq_true rfl, Nat.le_of_ble_eq_true rfl⟩ dX10_farthest_22 rfl ?_
      refine v_aload_n 0 0 hX dX10_farthest_25 rfl rfl ?_
      refine v_iload_n 1 1 hX dX10_farthest_26 rfl rfl ?_
      refine v_iload_n 2 2 hX dX10_farthest_27 rfl rfl ?_
      obtain ⟨r12, h13, hf⟩ := q_bd_some hf
      refine v_callS (As := [.int (q_i p1), .int (q_i v2)]) (rest := [.ref p0, .long (q_l r9)]) (st1 := [.int (q_i r12), .ref p0, .long (q_l r9)]) (some (.int (q_i r12))) hX ms_RX10_151 (c_X10_placeOf h13) ⟨rfl, rfl⟩ ⟨Nat.le_of_ble_eq_true rfl, Nat.le_of_ble_eq_true rfl⟩ rfl rfl (Nat.le_of_ble_eq_true rfl) ⟨Nat.le_of_ble_eq_true rfl, Nat.le_of_ble_eq_true rfl⟩ dX10_farthest_28 rfl ?_
      refine v_iload_n 1 1 hX dX10_farthest_31 rfl rfl ?_
      refine v_iconst hX dX10_farthest_32 ?_
      obtain ⟨r14, I15, h16, hf⟩ := q_bd2_some hf
      refine v_callV (As := [.int (q_i r12), .int (q_i p1), .int (q_i (-1))]) (rest := [.long (q_l r9)]) (st1 := [.long (q_l r14), .long (q_l r9)]) (some (.long (q_l r14))) hX mv_RX10_168 (c_X10_farFrom h16) ⟨rfl, rfl⟩ ⟨Nat.le_of_ble_eq_true rfl, Nat.le_of_ble_eq_true rfl⟩ g1 rfl rfl (Nat.le_of_ble_eq_true rfl) ⟨Nat.le_of_ble_eq_true rfl, Nat.le_of_ble_eq_true rfl⟩ dX10_farthest_33 rfl ?_
      obtain ⟨g17, hf⟩ := q_gd_some hf
      obtain ⟨g18, hf⟩ := q_gd_some hf
      refine v_lcmp hX g17 g18 dX10_farthest_36 ?_
      refine v_ifc_le (tgt := 42) hX dX10_farthest_37 (by decide) (fun c19 => ?_) (fun c19 => ?_)
      · replace hf := q_ifp c19 hf
        refine v_iinc 3 (lw := [(3, .int (q_i (v3 + 1))), (0, .ref p0), (1, .int (q_i p1)), (2, .int (q_i v2))]) hX dX10_farthest_42 rfl (by decide) rfl ?_
        refine v_goto (tgt := 4) hX dX10_farthest_45 (by decide) ?_
        refine v_sub (lv' := [(0, .ref p0), (1, .int (q_i p1)), (2, .int (q_i v2)), (3, .int (q_i (v3 + 1)))]) [1, 2, 3, 0] rfl ?_
        exact ih _ _ _ hf
      · replace hf := q_ifn c19 hf
        refine v_iload_n 3 3 hX dX10_farthest_40 rfl rfl ?_
        refine v_istore_n 2 (lw := [(2, .int (q_i v3)), (0, .ref p0), (1, .int (q_i p1)), (3, .int (q_i v3))]) hX dX10_farthest_41 rfl (by decide) rfl ?_
        refine v_iinc 3 (lw := [(3, .int (q_i (v3 + 1))), (2, .int (q_i v3)), (0, .ref p0), (1, .int (q_i p1))]) hX dX10_farthest_42 rfl (by decide) rfl ?_
        refine v_goto (tgt := 4) hX dX10_farthest_45 (by decide) ?_
        refine v_sub (lv' := [(0, .ref p0), (1, .int (q_i p1)), (2, .int (q_i v3)), (3, .int (q_i (v3 + 1)))]) [2, 3, 1, 0] rfl ?_
        exact ih _ _ _ hf
set_option maxRecDepth 20000 in
theorem c_X10_farthest {S : q_S} {R : q_HR} {I : q_HI} {a0 : Nat} {a1 : Int} {rz : Int} {Iz : q_HI} (hf : f_X10_farthest S R I a0 a1 = some (rz, Iz)) : ∀ (l : Launch) (D : va_G) (cy : Nat → ClassId) (B : Nat), Met l yX10_farthest [Cond.code yX10_farthest cX10_farthest 4 (some .int)] rmX10_farthest (q_Pc B D cy [.ref a0, .int (q_i a1)] S R I) (q_Qc B D cy (some (.int (q_i rz))) S R Iz) 0 0 (fun q => B ≤ q) := by
  refine q_met (lv := [(0, .ref a0), (1, .int (q_i a1))]) (own := RX10) (nm := "farthest") (by decide) rfl rfl (Nat.le_of_ble_eq_true rfl) rfl (fun X hX hE => ?_)
  unfold f_X10_farthest at hf
  refine v_iconst hX dX10_farthest_0 ?_
  refine v_istore_n 2 (lw := [(2, .int (q_i 0)), (0, .ref a0), (1, .int (q_i a1))]) hX dX10_farthest_1 rfl (by decide) rfl ?_
  refine v_iconst hX dX10_farthest_2 ?_
  refine v_istore_n 3 (lw := [(3, .int (q_i 1)), (2, .int (q_i 0)), (0, .ref a0), (1, .int (q_i a1))]) hX dX10_farthest_3 rfl (by decide) rfl ?_
  refine v_sub (lv' := [(0, .ref a0), (1, .int (q_i a1)), (2, .int (q_i 0)), (3, .int (q_i 1))]) [2, 3, 1, 0] rfl ?_
  refine l_X10_farthest_4 hX hE (fun w20 w21 I22 hk => ?_) 100 _ _ _ hf
  clear hf
  have hf := hk
  clear hk
  refine v_iload_n 2 0 hX dX10_farthest_48 rfl rfl ?_
  cases hf
  exact v_iret hX hE (Nat.le_of_ble_eq_true rfl) (Nat.le_of_ble_eq_true rfl) dX10_farthest_49
noncomputable def f_X10_radiusOf (S : q_S) (R : q_HR) (I : q_HI) (a0 : Nat) (a1 : Int) : Option (Int × q_HI) := q_gd (S.1 a0 = 11) (q_gd (r_i (I a0 5)) (q_bd2 (f_X10_farthest S R I a0 a1) fun r3 I4 => q_bd (f_X10_placeOf a1 r3) fun r6 => q_bd2 (f_X10_farFrom S R I4 a0 r6 a1 (-1)) fun r8 I9 => q_gd (r_l ((100 + (I a0 5)) * r8)) (q_gd (r_i (I9 a0 6)) (some ((Int.tdiv ((100 + (I a0 5)) * r8) 100) + (I9 a0 6), I9)))))
abbrev rmX10_radiusOf : Room := { frames := 4, cells := 0, slots := 0, locals := 96 }
set_option maxRecDepth 20000 in
theorem c_X10_radiusOf {S : q_S} {R : q_HR} {I : q_HI} {a0 : Nat} {a1 : Int} {rz : Int} {Iz : q_HI} (hf : f_X10_radiusOf S R I a0 a1 = some (rz, Iz)) : ∀ (l : Launch) (D : va_G) (cy : Nat → ClassId) (B : Nat), Met l yX10_radiusOf [Cond.code yX10_radiusOf cX10_radiusOf 2 (some .long)] rmX10_radiusOf (q_Pc B D cy [.ref a0, .int (q_i a1)] S R I) (q_Qc B D cy (some (.long (q_l rz))) S R Iz) 0 0 (fun q => B ≤ q) := by
  refine q_met (lv := [(0, .ref a0), (1, .int (q_i a1))]) (own := RX10) (nm := "radiusOf") (by decide) rfl rfl (Nat.le_of_ble_eq_true rfl) rfl (fun X hX hE => ?_)
  unfold f_X10_radiusOf at hf
  refine v_ldc2 100 hX kl_RX10_92 (by decide) dX10_radiusOf_0 ?_
  refine v_aload_n 0 0 hX dX10_radiusOf_3 rfl rfl ?_
  obtain ⟨g1, hf⟩ := q_gd_some hf
  refine v_getI hX fa_RX10_64 (fun _ _ => rfl) g1 dX10_radiusOf_4 ?_
  obtain ⟨g2, hf⟩ := q_gd_some hf
  refine v_i2l hX g2 dX10_radiusOf_7 ?_
  refine v_ladd hX dX10_radiusOf_8 ?_
  refine v_aload_n 0 0 hX dX10_radiusOf_9 rfl rfl ?_
  refine v_iload_n 1 1 hX dX10_radiusOf_10 rfl rfl ?_
  refine v_aload_n 0 0 hX dX10_radiusOf_11 rfl rfl ?_
  refine v_iload_n 1 1 hX dX10_radiusOf_12 rfl rfl ?_
  obtain ⟨r3, I4, h5, hf⟩ := q_bd2_some hf
  refine v_callV (As := [.int (q_i a1)]) (rest := [.int (q_i a1), .ref a0, .long (q_l (100 + (I a0 5)))]) (st1 := [.int (q_i r3), .int (q_i a1), .ref a0, .long (q_l (100 + (I a0 5)))]) (some (.int (q_i r3))) hX mv_RX10_175 (c_X10_farthest h5) ⟨rfl, rfl⟩ ⟨Nat.le_of_ble_eq_true rfl, Nat.le_of_ble_eq_true rfl⟩ g1 rfl rfl (Nat.le_of_ble_eq_true rfl) ⟨Nat.le_of_ble_eq_true rfl, Nat.le_of_ble_eq_true rfl⟩ dX10_radiusOf_13 rfl ?_
  obtain ⟨r6, h7, hf⟩ := q_bd_some hf
  refine v_callS (As := [.int (q_i a1), .int (q_i r3)]) (rest := [.ref a0, .long (q_l (100 + (I a0 5)))]) (st1 := [.int (q_i r6), .ref a0, .long (q_l (100 + (I a0 5)))]) (some (.int (q_i r6))) hX ms_RX10_151 (c_X10_placeOf h7) ⟨rfl, rfl⟩ ⟨Nat.le_of_ble_eq_true rfl, Nat.le_of_ble_eq_true rfl⟩ rfl rfl (Nat.le_of_ble_eq_true rfl) ⟨Nat.le_of_ble_eq_true rfl, Nat.le_of_ble_eq_true rfl⟩ dX10_radiusOf_16 rfl ?_
  refine v_iload_n 1 1 hX dX10_radiusOf_19 rfl rfl ?_
  refine v_iconst hX dX10_radiusOf_20 ?_
  obtain ⟨r8, I9, h10, hf⟩ := q_bd2_some hf
  refine v_callV (As := [.int (q_i r6), .int (q_i a1), .int (q_i (-1))]) (rest := [.long (q_l (100 + (I a0 5)))]) (st1 := [.long (q_l r8), .long (q_l (100 + (I a0 5)))]) (some (.long (q_l r8))) hX mv_RX10_168 (c_X10_farFrom h10) ⟨rfl, rfl⟩ ⟨Nat.le_of_ble_eq_true rfl, Nat.le_of_ble_eq_true rfl⟩ g1 rfl rfl (Nat.le_of_ble_eq_true rfl) ⟨Nat.le_of_ble_eq_true rfl, Nat.le_of_ble_eq_true rfl⟩ dX10_radiusOf_21 rfl ?_
  refine v_lmul hX dX10_radiusOf_24 ?_
  refine v_ldc2 100 hX kl_RX10_92 (by decide) dX10_radiusOf_25 ?_
  obtain ⟨g11, hf⟩ := q_gd_some hf
  refine v_ldiv hX g11 (by unfold r_l; omega) (by decide) dX10_radiusOf_28 ?_
  refine v_aload_n 0 0 hX dX10_radiusOf_29 rfl rfl ?_
  refine v_getI hX fa_RX10_67 (fun _ _ => rfl) g1 dX10_radiusOf_30 ?_
  obtain ⟨g12, hf⟩ := q_gd_some hf
  refine v_i2l hX g12 dX10_radiusOf_33 ?_
  refine v_ladd hX dX10_radiusOf_34 ?_
  cases hf
  exact v_lret hX hE (Nat.le_of_ble_eq_true rfl) (Nat.le_of_ble_eq_true rfl) dX10_radiusOf_35
noncomputable def f_X10_radius (S : q_S) (R : q_HR) (I : q_HI) (a0 : Nat) (a1 : Int) : Option (Int × q_HI) := q_gd (S.1 a0 = 11) (q_lt (q_up I a0 0 0) fun I2 => q_bd (f_X10_isClass S R I2 a0 a1) fun r4 => q_gd (r_i r4) (if r4 = 0 then some ((-2), I2) else q_gd (S.1 (R a0 13) = 12) (q_gd ((0 : Int) ≤ a1 ∧ a1 < (S.2.1 (R a0 13) : Int)) (q_gd (r_i (I2 (R a0 13) (Int.toNat a1))) (if I2 (R a0 13) (Int.toNat a1) = 0 then some ((-1), I2) else q_bd (f_X10_lays S R I2 a0 0) fun I12 => q_bd2 (f_X10_radiusOf S R I12 a0 a1) fun r14 I15 => some (r14, I15))))))
abbrev rmX10_radius : Room := { frames := 5, cells := 0, slots := 0, locals := 117 }
set_option maxRecDepth 20000 in
theorem c_X10_radius {S : q_S} {R : q_HR} {I : q_HI} {a0 : Nat} {a1 : Int} {rz : Int} {Iz : q_HI} (hf : f_X10_radius S R I a0 a1 = some (rz, Iz)) : ∀ (l : Launch) (D : va_G) (cy : Nat → ClassId) (B : Nat), Met l yX10_radius [Cond.code yX10_radius cX10_radius 2 (some .int)] rmX10_radius (q_Pc B D cy [.ref a0, .int (q_i a1)] S R I) (q_Qc B D cy (some (.int (q_i rz))) S R Iz) 0 0 (fun q => B ≤ q) := by
  refine q_met (lv := [(0, .ref a0), (1, .int (q_i a1))]) (own := RX10) (nm := "radius") (by decide) rfl rfl (Nat.le_of_ble_eq_true rfl) rfl (fun X hX hE => ?_)
  unfold f_X10_radius at hf
  refine v_aload_n 0 0 hX dX10_radius_0 rfl rfl ?_
  refine v_iconst hX dX10_radius_1 ?_
  obtain ⟨g1, hf⟩ := q_gd_some hf
  refine v_putI hX fa_RX10_1 rfl g1 dX10_radius_2 ?_
  obtain ⟨I2, e3, hf⟩ := q_lt_nm hf
  rw [e3]
  refine v_aload_n 0 0 hX dX10_radius_5 rfl rfl ?_
  refine v_iload_n 1 1 hX dX10_radius_6 rfl rfl ?_
  obtain ⟨r4, h5, hf⟩ := q_bd_some hf
  refine v_callV (As := [.int (q_i a1)]) (rest := []) (st1 := [.int (q_i r4)]) (some (.int (q_i r4))) hX mv_RX10_148 (c_X10_isClass h5) ⟨rfl, rfl⟩ ⟨Nat.le_of_ble_eq_true rfl, Nat.le_of_ble_eq_true rfl⟩ g1 rfl rfl (Nat.le_of_ble_eq_true rfl) ⟨Nat.le_of_ble_eq_true rfl, Nat.le_of_ble_eq_true rfl⟩ dX10_radius_7 rfl ?_
  obtain ⟨g6, hf⟩ := q_gd_some hf
  refine v_if_ne (tgt := 16) hX g6 dX10_radius_10 (by decide) (fun c7 => ?_) (fun c7 => ?_)
  · replace hf := q_ifp c7 hf
    refine v_bipush (-2) hX dX10_radius_13 (by decide) ?_
    cases hf
    exact v_iret hX hE (Nat.le_of_ble_eq_true rfl) (Nat.le_of_ble_eq_true rfl) dX10_radius_15
  · replace hf := q_ifn c7 hf
    refine v_aload_n 0 0 hX dX10_radius_16 rfl rfl ?_
    obtain ⟨g8, hf⟩ := q_gd_some hf
    refine v_getA hX fa_RX10_23 (fun _ _ => rfl) g1 g8 (by decide) dX10_radius_17 ?_
    refine v_iload_n 1 1 hX dX10_radius_20 rfl rfl ?_
    obtain ⟨g9, hf⟩ := q_gd_some hf
    refine v_iaload hX g8 g9 dX10_radius_21 ?_
    obtain ⟨g10, hf⟩ := q_gd_some hf
    refine v_if_ne (tgt := 27) hX g10 dX10_radius_22 (by decide) (fun c11 => ?_) (fun c11 => ?_)
    · replace hf := q_ifp c11 hf
      refine v_iconst hX dX10_radius_25 ?_
      cases hf
      exact v_iret hX hE (Nat.le_of_ble_eq_true rfl) (Nat.le_of_ble_eq_true rfl) dX10_radius_26
    · replace hf := q_ifn c11 hf
      refine v_aload_n 0 0 hX dX10_radius_27 rfl rfl ?_
      refine v_iconst hX dX10_radius_28 ?_
      obtain ⟨I12, h13, hf⟩ := q_bd_some hf
      refine v_callV (As := [.int (q_i 0)]) (rest := []) (st1 := []) none hX mv_RX10_143 (c_X10_lays h13) ⟨rfl, rfl⟩ ⟨Nat.le_of_ble_eq_true rfl, Nat.le_of_ble_eq_true rfl⟩ g1 rfl rfl (Nat.le_of_ble_eq_true rfl) ⟨Nat.le_of_ble_eq_true rfl, Nat.le_of_ble_eq_true rfl⟩ dX10_radius_29 rfl ?_
      refine v_aload_n 0 0 hX dX10_radius_32 rfl rfl ?_
      refine v_iload_n 1 1 hX dX10_radius_33 rfl rfl ?_
      obtain ⟨r14, I15, h16, hf⟩ := q_bd2_some hf
      refine v_callV (As := [.int (q_i a1)]) (rest := []) (st1 := [.long (q_l r14)]) (some (.long (q_l r14))) hX mv_RX10_179 (c_X10_radiusOf h16) ⟨rfl, rfl⟩ ⟨Nat.le_of_ble_eq_true rfl, Nat.le_of_ble_eq_true rfl⟩ g1 rfl rfl (Nat.le_of_ble_eq_true rfl) ⟨Nat.le_of_ble_eq_true rfl, Nat.le_of_ble_eq_true rfl⟩ dX10_radius_34 rfl ?_
      refine v_l2i hX dX10_radius_37 ?_
      cases hf
      exact v_iret hX hE (Nat.le_of_ble_eq_true rfl) (Nat.le_of_ble_eq_true rfl) dX10_radius_38
noncomputable def f_X10_setMargin (S : q_S) (R : q_HR) (I : q_HI) (a0 : Nat) (a1 : Int) : Option (Int × q_HI) := q_gd (S.1 a0 = 11) (q_lt (q_up I a0 0 0) fun I2 => q_gd (r_i a1) (q_bd (f_X10_isIn a1 0 400) fun r5 => q_gd (r_i r5) (if r5 = 0 then some ((-3), I2) else q_lt (I2 a0 5) fun x9 => q_lt (q_up I2 a0 5 a1) fun I11 => some (x9, I11))))
abbrev rmX10_setMargin : Room := { frames := 1, cells := 0, slots := 0, locals := 25 }
set_option maxRecDepth 20000 in
theorem c_X10_setMargin {S : q_S} {R : q_HR} {I : q_HI} {a0 : Nat} {a1 : Int} {rz : Int} {Iz : q_HI} (hf : f_X10_setMargin S R I a0 a1 = some (rz, Iz)) : ∀ (l : Launch) (D : va_G) (cy : Nat → ClassId) (B : Nat), Met l yX10_setMargin [Cond.code yX10_setMargin cX10_setMargin 3 (some .int)] rmX10_setMargin (q_Pc B D cy [.ref a0, .int (q_i a1)] S R I) (q_Qc B D cy (some (.int (q_i rz))) S R Iz) 0 0 (fun q => B ≤ q) := by
  refine q_met (lv := [(0, .ref a0), (1, .int (q_i a1))]) (own := RX10) (nm := "setMargin") (by decide) rfl rfl (Nat.le_of_ble_eq_true rfl) rfl (fun X hX hE => ?_)
  unfold f_X10_setMargin at hf
  refine v_aload_n 0 0 hX dX10_setMargin_0 rfl rfl ?_
  refine v_iconst hX dX10_setMargin_1 ?_
  obtain ⟨g1, hf⟩ := q_gd_some hf
  refine v_putI hX fa_RX10_1 rfl g1 dX10_setMargin_2 ?_
  obtain ⟨I2, e3, hf⟩ := q_lt_nm hf
  rw [e3]
  refine v_iload_n 1 1 hX dX10_setMargin_5 rfl rfl ?_
  obtain ⟨g4, hf⟩ := q_gd_some hf
  refine v_i2l hX g4 dX10_setMargin_6 ?_
  refine v_lconst 0 hX dX10_setMargin_7 (by decide) ?_
  refine v_ldc2 400 hX kl_RX10_183 (by decide) dX10_setMargin_8 ?_
  obtain ⟨r5, h6, hf⟩ := q_bd_some hf
  refine v_callS (As := [.long (q_l a1), .long (q_l 0), .long (q_l 400)]) (rest := []) (st1 := [.int (q_i r5)]) (some (.int (q_i r5))) hX ms_RX10_84 (c_X10_isIn h6) ⟨rfl, rfl⟩ ⟨Nat.le_of_ble_eq_true rfl, Nat.le_of_ble_eq_true rfl⟩ rfl rfl (Nat.le_of_ble_eq_true rfl) ⟨Nat.le_of_ble_eq_true rfl, Nat.le_of_ble_eq_true rfl⟩ dX10_setMargin_11 rfl ?_
  obtain ⟨g7, hf⟩ := q_gd_some hf
  refine v_if_ne (tgt := 20) hX g7 dX10_setMargin_14 (by decide) (fun c8 => ?_) (fun c8 => ?_)
  · replace hf := q_ifp c8 hf
    refine v_bipush (-3) hX dX10_setMargin_17 (by decide) ?_
    cases hf
    exact v_iret hX hE (Nat.le_of_ble_eq_true rfl) (Nat.le_of_ble_eq_true rfl) dX10_setMargin_19
  · replace hf := q_ifn c8 hf
    refine v_aload_n 0 0 hX dX10_setMargin_20 rfl rfl ?_
    refine v_getI hX fa_RX10_64 (fun _ _ => rfl) g1 dX10_setMargin_21 ?_
    obtain ⟨x9, e10, hf⟩ := q_lt_nm hf
    rw [e10]
    refine v_istore_n 2 (lw := [(2, .int (q_i x9)), (0, .ref a0), (1, .int (q_i a1))]) hX dX10_setMargin_24 rfl (by decide) rfl ?_
    refine v_aload_n 0 1 hX dX10_setMargin_25 rfl rfl ?_
    refine v_iload_n 1 2 hX dX10_setMargin_26 rfl rfl ?_
    refine v_putI hX fa_RX10_64 rfl g1 dX10_setMargin_27 ?_
    obtain ⟨I11, e12, hf⟩ := q_lt_nm hf
    rw [e12]
    refine v_iload_n 2 0 hX dX10_setMargin_30 rfl rfl ?_
    cases hf
    exact v_iret hX hE (Nat.le_of_ble_eq_true rfl) (Nat.le_of_ble_eq_true rfl) dX10_setMargin_31
noncomputable def f_X10_setSlack (S : q_S) (R : q_HR) (I : q_HI) (a0 : Nat) (a1 : Int) : Option (Int × q_HI) := q_gd (S.1 a0 = 11) (q_lt (q_up I a0 0 0) fun I2 => q_gd (r_i a1) (q_bd (f_X10_isIn a1 0 1000000) fun r5 => q_gd (r_i r5) (if r5 = 0 then some ((-3), I2) else q_lt (I2 a0 6) fun x9 => q_lt (q_up I2 a0 6 a1) fun I11 => some (x9, I11))))
abbrev rmX10_setSlack : Room := { frames := 1, cells := 0, slots := 0, locals := 25 }
set_option maxRecDepth 20000 in
theorem c_X10_setSlack {S : q_S} {R : q_HR} {I : q_HI} {a0 : Nat} {a1 : Int} {rz : Int} {Iz : q_HI} (hf : f_X10_setSlack S R I a0 a1 = some (rz, Iz)) : ∀ (l : Launch) (D : va_G) (cy : Nat → ClassId) (B : Nat), Met l yX10_setSlack [Cond.code yX10_setSlack cX10_setSlack 3 (some .int)] rmX10_setSlack (q_Pc B D cy [.ref a0, .int (q_i a1)] S R I) (q_Qc B D cy (some (.int (q_i rz))) S R Iz) 0 0 (fun q => B ≤ q) := by
  refine q_met (lv := [(0, .ref a0), (1, .int (q_i a1))]) (own := RX10) (nm := "setSlack") (by decide) rfl rfl (Nat.le_of_ble_eq_true rfl) rfl (fun X hX hE => ?_)
  unfold f_X10_setSlack at hf
  refine v_aload_n 0 0 hX dX10_setSlack_0 rfl rfl ?_
  refine v_iconst hX dX10_setSlack_1 ?_
  obtain ⟨g1, hf⟩ := q_gd_some hf
  refine v_putI hX fa_RX10_1 rfl g1 dX10_setSlack_2 ?_
  obtain ⟨I2, e3, hf⟩ := q_lt_nm hf
  rw [e3]
  refine v_iload_n 1 1 hX dX10_setSlack_5 rfl rfl ?_
  obtain ⟨g4, hf⟩ := q_gd_some hf
  refine v_i2l hX g4 dX10_setSlack_6 ?_
  refine v_lconst 0 hX dX10_setSlack_7 (by decide) ?_
  refine v_ldc2 1000000 hX kl_RX10_146 (by decide) dX10_setSlack_8 ?_
  obtain ⟨r5, h6, hf⟩ := q_bd_some hf
  refine v_callS (As := [.long (q_l a1), .long (q_l 0), .long (q_l 1000000)]) (rest := []) (st1 := [.int (q_i r5)]) (some (.int (q_i r5))) hX ms_RX10_84 (c_X10_isIn h6) ⟨rfl, rfl⟩ ⟨Nat.le_of_ble_eq_true rfl, Nat.le_of_ble_eq_true rfl⟩ rfl rfl (Nat.le_of_ble_eq_true rfl) ⟨Nat.le_of_ble_eq_true rfl, Nat.le_of_ble_eq_true rfl⟩ dX10_setSlack_11 rfl ?_
  obtain ⟨g7, hf⟩ := q_gd_some hf
  refine v_if_ne (tgt := 20) hX g7 dX10_setSlack_14 (by decide) (fun c8 => ?_) (fun c8 => ?_)
  · replace hf := q_ifp c8 hf
    refine v_bipush (-3) hX dX10_setSlack_17 (by decide) ?_
    cases hf
    exact v_iret hX hE (Nat.le_of_ble_eq_true rfl) (Nat.le_of_ble_eq_true rfl) dX10_setSlack_19
  · replace hf := q_ifn c8 hf
    refine v_aload_n 0 0 hX dX10_setSlack_20 rfl rfl ?_
    refine v_getI hX fa_RX10_67 (fun _ _ => rfl) g1 dX10_setSlack_21 ?_
    obtain ⟨x9, e10, hf⟩ := q_lt_nm hf
    rw [e10]
    refine v_istore_n 2 (lw := [(2, .int (q_i x9)), (0, .ref a0), (1, .int (q_i a1))]) hX dX10_setSlack_24 rfl (by decide) rfl ?_
    refine v_aload_n 0 1 hX dX10_setSlack_25 rfl rfl ?_
    refine v_iload_n 1 2 hX dX10_setSlack_26 rfl rfl ?_
    refine v_putI hX fa_RX10_67 rfl g1 dX10_setSlack_27 ?_
    obtain ⟨I11, e12, hf⟩ := q_lt_nm hf
    rw [e12]
    refine v_iload_n 2 0 hX dX10_setSlack_30 rfl rfl ?_
    cases hf
    exact v_iret hX hE (Nat.le_of_ble_eq_true rfl) (Nat.le_of_ble_eq_true rfl) dX10_setSlack_31
noncomputable def f_X10_classify (S : q_S) (R : q_HR) (I : q_HI) (a0 : Nat) : Option (Int × q_HI) := q_gd (S.1 a0 = 11) (q_lt (q_up I a0 0 0) fun I2 => q_gd (r_i (I2 a0 7)) (if I2 a0 7 = 0 then some ((-5), I2) else q_bd (f_X10_lays S R I2 a0 0) fun I6 => q_bd2 (f_X10_nearest S R I6 a0 0 (-1) (-1) (-1)) fun r8 I9 => q_gd (r_i r8) (if r8 = (-1) then some ((-1), I9) else q_bd2 (f_X10_farFrom S R I9 a0 0 r8 (-1)) fun r13 I14 => q_bd2 (f_X10_radiusOf S R I14 a0 r8) fun r16 I17 => q_gd (r_l r13) (q_gd (r_l r16) (if r16 < r13 then some ((-6), I17) else some (r8, I17))))))
abbrev rmX10_classify : Room := { frames := 5, cells := 0, slots := 0, locals := 117 }
set_option maxRecDepth 20000 in
theorem c_X10_classify {S : q_S} {R : q_HR} {I : q_HI} {a0 : Nat} {rz : Int} {Iz : q_HI} (hf : f_X10_classify S R I a0 = some (rz, Iz)) : ∀ (l : Launch) (D : va_G) (cy : Nat → ClassId) (B : Nat), Met l yX10_classify [Cond.code yX10_classify cX10_classify 2 (some .int)] rmX10_classify (q_Pc B D cy [.ref a0] S R I) (q_Qc B D cy (some (.int (q_i rz))) S R Iz) 0 0 (fun q => B ≤ q) := by
  refine q_met (lv := [(0, .ref a0)]) (own := RX10) (nm := "classify") (by decide) rfl rfl (Nat.le_of_ble_eq_true rfl) rfl (fun X hX hE => ?_)
  unfold f_X10_classify at hf
  refine v_aload_n 0 0 hX dX10_classify_0 rfl rfl ?_
  refine v_iconst hX dX10_classify_1 ?_
  obtain ⟨g1, hf⟩ := q_gd_some hf
  refine v_putI hX fa_RX10_1 rfl g1 dX10_classify_2 ?_
  obtain ⟨I2, e3, hf⟩ := q_lt_nm hf
  rw [e3]
  refine v_aload_n 0 0 hX dX10_classify_5 rfl rfl ?_
  refine v_getI hX fa_RX10_70 (fun _ _ => rfl) g1 dX10_classify_6 ?_
  obtain ⟨g4, hf⟩ := q_gd_some hf
  refine v_if_ne (tgt := 15) hX g4 dX10_classify_9 (by decide) (fun c5 => ?_) (fun c5 => ?_)
  · replace hf := q_ifp c5 hf
    refine v_bipush (-5) hX dX10_classify_12 (by decide) ?_
    cases hf
    exact v_iret hX hE (Nat.le_of_ble_eq_true rfl) (Nat.le_of_ble_eq_true rfl) dX10_classify_14
  · replace hf := q_ifn c5 hf
    refine v_aload_n 0 0 hX dX10_classify_15 rfl rfl ?_
    refine v_iconst hX dX10_classify_16 ?_
    obtain ⟨I6, h7, hf⟩ := q_bd_some hf
    refine v_callV (As := [.int (q_i 0)]) (rest := []) (st1 := []) none hX mv_RX10_143 (c_X10_lays h7) ⟨rfl, rfl⟩ ⟨Nat.le_of_ble_eq_true rfl, Nat.le_of_ble_eq_true rfl⟩ g1 rfl rfl (Nat.le_of_ble_eq_true rfl) ⟨Nat.le_of_ble_eq_true rfl, Nat.le_of_ble_eq_true rfl⟩ dX10_classify_17 rfl ?_
    refine v_aload_n 0 0 hX dX10_classify_20 rfl rfl ?_
    refine v_iconst hX dX10_classify_21 ?_
    refine v_iconst hX dX10_classify_22 ?_
    refine v_iconst hX dX10_classify_23 ?_
    refine v_iconst hX dX10_classify_24 ?_
    obtain ⟨r8, I9, h10, hf⟩ := q_bd2_some hf
    refine v_callV (As := [.int (q_i 0), .int (q_i (-1)), .int (q_i (-1)), .int (q_i (-1))]) (rest := []) (st1 := [.int (q_i r8)]) (some (.int (q_i r8))) hX mv_RX10_171 (c_X10_nearest h10) ⟨rfl, rfl⟩ ⟨Nat.le_of_ble_eq_true rfl, Nat.le_of_ble_eq_true rfl⟩ g1 rfl rfl (Nat.le_of_ble_eq_true rfl) ⟨Nat.le_of_ble_eq_true rfl, Nat.le_of_ble_eq_true rfl⟩ dX10_classify_25 rfl ?_
    refine v_istore_n 1 (lw := [(1, .int (q_i r8)), (0, .ref a0)]) hX dX10_classify_28 rfl (by decide) rfl ?_
    refine v_iload_n 1 0 hX dX10_classify_29 rfl rfl ?_
    refine v_iconst hX dX10_classify_30 ?_
    obtain ⟨g11, hf⟩ := q_gd_some hf
    refine v_icmp_ne (tgt := 36) hX g11 (by unfold r_i; omega) dX10_classify_31 (by decide) (fun c12 => ?_) (fun c12 => ?_)
    · replace hf := q_ifp c12 hf
      refine v_iconst hX dX10_classify_34 ?_
      cases hf
      exact v_iret hX hE (Nat.le_of_ble_eq_true rfl) (Nat.le_of_ble_eq_true rfl) dX10_classify_35
    · replace hf := q_ifn c12 hf
      refine v_aload_n 0 1 hX dX10_classify_36 rfl rfl ?_
      refine v_iconst hX dX10_classify_37 ?_
      refine v_iload_n 1 0 hX dX10_classify_38 rfl rfl ?_
      refine v_iconst hX dX10_classify_39 ?_
      obtain ⟨r13, I14, h15, hf⟩ := q_bd2_some hf
      refine v_callV (As := [.int (q_i 0), .int (q_i r8), .int (q_i (-1))]) (rest := []) (st1 := [.long (q_l r13)]) (some (.long (q_l r13))) hX mv_RX10_168 (c_X10_farFrom h15) ⟨rfl, rfl⟩ ⟨Nat.le_of_ble_eq_true rfl, Nat.le_of_ble_eq_true rfl⟩ g1 rfl rfl (Nat.le_of_ble_eq_true rfl) ⟨Nat.le_of_ble_eq_true rfl, Nat.le_of_ble_eq_true rfl⟩ dX10_classify_40 rfl ?_
      refine v_aload_n 0 1 hX dX10_classify_43 rfl rfl ?_
      refine v_iload_n 1 0 hX dX10_classify_44 rfl rfl ?_
      obtain ⟨r16, I17, h18, hf⟩ := q_bd2_some hf
      refine v_callV (As := [.int (q_i r8)]) (rest := [.long (q_l r13)]) (st1 := [.long (q_l r16), .long (q_l r13)]) (some (.long (q_l r16))) hX mv_RX10_179 (c_X10_radiusOf h18) ⟨rfl, rfl⟩ ⟨Nat.le_of_ble_eq_true rfl, Nat.le_of_ble_eq_true rfl⟩ g1 rfl rfl (Nat.le_of_ble_eq_true rfl) ⟨Nat.le_of_ble_eq_true rfl, Nat.le_of_ble_eq_true rfl⟩ dX10_classify_45 rfl ?_
      obtain ⟨g19, hf⟩ := q_gd_some hf
      obtain ⟨g20, hf⟩ := q_gd_some hf
      refine v_lcmp hX g19 g20 dX10_classify_48 ?_
      refine v_ifc_gt (tgt := 56) hX dX10_classify_49 (by decide) (fun c21 => ?_) (fun c21 => ?_)
      · replace hf := q_ifp c21 hf
        refine v_bipush (-6) hX dX10_classify_56 (by decide) ?_
        cases hf
        exact v_iret hX hE (Nat.le_of_ble_eq_true rfl) (Nat.le_of_ble_eq_true rfl) dX10_classify_58
      · replace hf := q_ifn c21 hf
        refine v_iload_n 1 0 hX dX10_classify_52 rfl rfl ?_
        refine v_goto (tgt := 58) hX dX10_classify_53 (by decide) ?_
        cases hf
        exact v_iret hX hE (Nat.le_of_ble_eq_true rfl) (Nat.le_of_ble_eq_true rfl) dX10_classify_58
noncomputable def f_X10_between_L20 (S : q_S) (R : q_HR) (p0 : Nat) (p1 : Int) (p2 : Int) (p3 : Int) (p5 : Int) (k : Int → q_HI → Option (Int × q_HI)) : Nat → Int → q_HI → Option (Int × q_HI)
  | 0, _, _ => none
  | n + 1, v7, I => q_gd (S.1 p0 = 11) (q_gd (r_i v7) (q_gd (r_i (I p0 1)) (if I p0 1 ≤ v7 then k v7 I else q_gd (S.1 (R p0 21) = 13) (q_bd (f_X10_sumOf S R I p0 p1 v7 (-1)) fun r18 => q_bd (f_X10_sumOf S R I p0 p2 v7 (-1)) fun r20 => q_gd ((0 : Int) ≤ v7 ∧ v7 < (S.2.1 (R p0 21) : Int)) (q_lt (q_up I (R p0 21) (Int.toNat v7) ((p5 * r18) - (p3 * r20))) fun I23 => f_X10_between_L20 S R p0 p1 p2 p3 p5 k n (v7 + 1) I23)))))
noncomputable def f_X10_between (S : q_S) (R : q_HR) (I : q_HI) (a0 : Nat) (a1 : Int) (a2 : Int) : Option (Int × q_HI) := q_gd (S.1 a0 = 11) (q_gd (S.1 (R a0 13) = 12) (q_gd ((0 : Int) ≤ a1 ∧ a1 < (S.2.1 (R a0 13) : Int)) (q_gd (r_i (I (R a0 13) (Int.toNat a1))) (q_lt (I (R a0 13) (Int.toNat a1)) fun x5 => q_gd ((0 : Int) ≤ a2 ∧ a2 < (S.2.1 (R a0 13) : Int)) (q_gd (r_i (I (R a0 13) (Int.toNat a2))) (q_lt (I (R a0 13) (Int.toNat a2)) fun x10 => f_X10_between_L20 S R a0 a1 a2 x5 x10 (fun w25 I26 => q_bd (f_X10_far S R I26 a0 (x5 * x10)) fun r27 => some (r27, I26)) 100 0 I))))))
abbrev rmX10_between : Room := { frames := 2, cells := 0, slots := 0, locals := 47 }
set_option maxRecDepth 20000 in
theorem l_X10_between_20 {X : q_X} {S : q_S} {R : q_HR} {p0 : Nat} {p1 : Int} {p2 : Int} {p3 : Int} {p5 : Int} {rz : Int} {Iz : q_HI} (hX : q_C X cX10_between 8 RX10 (some .long) "between") (hE : q_E X 0 0 (some (.long (q_l rz))) S R Iz) {k : Int → q_HI → Option (Int × q_HI)} (hk : ∀ (v7 : Int) (I : q_HI), k v7 I = some (rz, Iz) → q_V X rmX10_between cX10_between 8 0 0 64 [(0, .ref p0), (3, .long (q_l p3)), (5, .long (q_l p5))] [] S R I) :
    ∀ (n : Nat), ∀ (v7 : Int) (I : q_HI), f_X10_between_L20 S R p0 p1 p2 p3 p5 k n v7 I = some (rz, Iz) → q_V X rmX10_between cX10_between 8 0 0 20 [(0, .ref p0), (1, .int (q_i p1)), (2, .int (q_i p2)), (3, .long (q_l p3)), (5, .long (q_l p5)), (7, .int (q_i v7))] [] S R I := by
  intro n
  induction n with
  | zero =>
    intro v7 I hf
    cases (show (none : Option (Int × q_HI)) = some _ from hf)
  | succ n ih =>
    intro v7 I hf
    rw [f_X10_between_L20] at hf
    refine v_iload 5 hX dX10_between_20 rfl ?_
    refine v_aload_n 0 0 hX dX10_between_22 rfl rfl ?_
    obtain ⟨g13, hf⟩ := q_gd_some hf
    refine v_getI hX fa_RX10_52 (fun _ _ => rfl) g13 dX10_between_23 ?_
    obtain ⟨g14, hf⟩ := q_gd_some hf
    obtain ⟨g15, hf⟩ := q_gd_some hf
    refine v_icmp_ge (tgt := 64) hX g14 g15 dX10_between_26 (by decide) (fun c16 => ?_) (fun c16 => ?_)
    · replace hf := q_ifp c16 hf
      refine v_sub (lv' := [(0, .ref p0), (3, .long (q_l p3)), (5, .long (q_l p5))]) [0, 3, 4] rfl ?_
      exact hk _ _ hf
    · replace hf := q_ifn c16 hf
      refine v_aload_n 0 0 hX dX10_between_29 rfl rfl ?_
      obtain ⟨g17, hf⟩ := q_gd_some hf
      refine v_getA hX fa_RX10_36 (fun _ _ => rfl) g13 g17 (by decide) dX10_between_30 ?_
      refine v_iload 5 hX dX10_between_33 rfl ?_
      refine v_lload 4 hX dX10_between_35 rfl ?_
      refine v_aload_n 0 0 hX dX10_between_37 rfl rfl ?_
      refine v_iload_n 1 1 hX dX10_between_38 rfl rfl ?_
      refine v_iload 5 hX dX10_between_39 rfl ?_
      refine v_iconst hX dX10_between_41 ?_
      obtain ⟨r18, h19, hf⟩ := q_bd_some hf
      refine v_callV (As := [.int (q_i p1), .int (q_i v7), .int (q_i (-1))]) (rest := [.long (q_l p5), .int (q_i v7), .ref (R p0 21)]) (st1 := [.long (q_l r18), .long (q_l p5), .int (q_i v7), .ref (R p0 21)]) (some (.long (q_l r18))) hX mv_RX10_160 (c_X10_sumOf h19) ⟨rfl, rfl⟩ ⟨Nat.le_of_ble_eq_true rfl, Nat.le_of_ble_eq_true rfl⟩ g13 rfl rfl (Nat.le_of_ble_eq_true rfl) ⟨Nat.le_of_ble_eq_true rfl, Nat.le_of_ble_eq_true rfl⟩ dX10_between_42 rfl ?_
      refine v_lmul hX dX10_between_45 ?_
      refine v_lload_n 3 3 hX dX10_between_46 rfl rfl ?_
      refine v_aload_n 0 0 hX dX10_between_47 rfl rfl ?_
      refine v_iload_n 2 2 hX dX10_between_48 rfl rfl ?_
      refine v_iload 5 hX dX10_between_49 rfl ?_
      refine v_iconst hX dX10_between_51 ?_
      obtain ⟨r20, h21, hf⟩ := q_bd_some hf
      refine v_callV (As := [.int (q_i p2), .int (q_i v7), .int (q_i (-1))]) (rest := [.long (q_l p3), .long (q_l (p5 * r18)), .int (q_i v7), .ref (R p0 21)]) (st1 := [.long (q_l r20), .long (q_l p3), .long (q_l (p5 * r18)), .int (q_i v7), .ref (R p0 21)]) (some (.long (q_l r20))) hX mv_RX10_160 (c_X10_sumOf h21) ⟨rfl, rfl⟩ ⟨Nat.le_of_ble_eq_true rfl, Nat.le_of_ble_eq_true rfl⟩ g13 rfl rfl (Nat.le_of_ble_eq_true rfl) ⟨Nat.le_of_ble_eq_true rfl, Nat.le_of_ble_eq_true rfl⟩ dX10_between_52 rfl ?_
      refine v_lmul hX dX10_between_55 ?_
      refine v_lsub hX dX10_between_56 ?_
      obtain ⟨g22, hf⟩ := q_gd_some hf
      refine v_lastore hX g17 g22 dX10_between_57 ?_
      obtain ⟨I23, e24, hf⟩ := q_lt_nm hf
      rw [e24]
      refine v_iinc 5 (lw := [(7, .int (q_i (v7 + 1))), (0, .ref p0), (1, .int (q_i p1)), (2, .int (q_i p2)), (3, .long (q_l p3)), (5, .long (q_l p5))]) hX dX10_between_58 rfl (by decide) rfl ?_
      refine v_goto (tgt := 20) hX dX10_between_61 (by decide) ?_
      refine v_sub (lv' := [(0, .ref p0), (1, .int (q_i p1)), (2, .int (q_i p2)), (3, .long (q_l p3)), (5, .long (q_l p5)), (7, .int (q_i (v7 + 1)))]) [1, 2, 3, 4, 5, 0] rfl ?_
      exact ih _ _ hf
set_option maxRecDepth 20000 in
theorem c_X10_between {S : q_S} {R : q_HR} {I : q_HI} {a0 : Nat} {a1 : Int} {a2 : Int} {rz : Int} {Iz : q_HI} (hf : f_X10_between S R I a0 a1 a2 = some (rz, Iz)) : ∀ (l : Launch) (D : va_G) (cy : Nat → ClassId) (B : Nat), Met l yX10_between [Cond.code yX10_between cX10_between 8 (some .long)] rmX10_between (q_Pc B D cy [.ref a0, .int (q_i a1), .int (q_i a2)] S R I) (q_Qc B D cy (some (.long (q_l rz))) S R Iz) 0 0 (fun q => B ≤ q) := by
  refine q_met (lv := [(0, .ref a0), (1, .int (q_i a1)), (2, .int (q_i a2))]) (own := RX10) (nm := "between") (by decide) rfl rfl (Nat.le_of_ble_eq_true rfl) rfl (fun X hX hE => ?_)
  unfold f_X10_between at hf
  refine v_aload_n 0 0 hX dX10_between_0 rfl rfl ?_
  obtain ⟨g1, hf⟩ := q_gd_some hf
  obtain ⟨g2, hf⟩ := q_gd_some hf
  refine v_getA hX fa_RX10_23 (fun _ _ => rfl) g1 g2 (by decide) dX10_between_1 ?_
  refine v_iload_n 1 1 hX dX10_between_4 rfl rfl ?_
  obtain ⟨g3, hf⟩ := q_gd_some hf
  refine v_iaload hX g2 g3 dX10_between_5 ?_
  obtain ⟨g4, hf⟩ := q_gd_some hf
  refine v_i2l hX g4 dX10_between_6 ?_
  obtain ⟨x5, e6, hf⟩ := q_lt_nm hf
  rw [e6]
  have g7 := g4
  rw [e6] at g7
  refine v_lstore_n 3 (lw := [(3, .long (q_l x5)), (0, .ref a0), (1, .int (q_i a1)), (2, .int (q_i a2))]) hX dX10_between_7 rfl (by decide) rfl ?_
  refine v_aload_n 0 1 hX dX10_between_8 rfl rfl ?_
  refine v_getA hX fa_RX10_23 (fun _ _ => rfl) g1 g2 (by decide) dX10_between_9 ?_
  refine v_iload_n 2 3 hX dX10_between_12 rfl rfl ?_
  obtain ⟨g8, hf⟩ := q_gd_some hf
  refine v_iaload hX g2 g8 dX10_between_13 ?_
  obtain ⟨g9, hf⟩ := q_gd_some hf
  refine v_i2l hX g9 dX10_between_14 ?_
  obtain ⟨x10, e11, hf⟩ := q_lt_nm hf
  rw [e11]
  have g12 := g9
  rw [e11] at g12
  refine v_lstore (lw := [(5, .long (q_l x10)), (3, .long (q_l x5)), (0, .ref a0), (1, .int (q_i a1)), (2, .int (q_i a2))]) hX dX10_between_15 (by decide) rfl ?_
  refine v_iconst hX dX10_between_17 ?_
  refine v_istore (lw := [(7, .int (q_i 0)), (5, .long (q_l x10)), (3, .long (q_l x5)), (0, .ref a0), (1, .int (q_i a1)), (2, .int (q_i a2))]) hX dX10_between_18 (by decide) rfl ?_
  refine v_sub (lv' := [(0, .ref a0), (1, .int (q_i a1)), (2, .int (q_i a2)), (3, .long (q_l x5)), (5, .long (q_l x10)), (7, .int (q_i 0))]) [3, 4, 5, 2, 1, 0] rfl ?_
  refine l_X10_between_20 hX hE (fun w25 I26 hk => ?_) 100 _ _ hf
  clear hf
  have hf := hk
  clear hk
  refine v_aload_n 0 0 hX dX10_between_64 rfl rfl ?_
  refine v_lload_n 3 1 hX dX10_between_65 rfl rfl ?_
  refine v_lload 2 hX dX10_between_66 rfl ?_
  refine v_lmul hX dX10_between_68 ?_
  obtain ⟨r27, h28, hf⟩ := q_bd_some hf
  refine v_callV (As := [.long (q_l (x5 * x10))]) (rest := []) (st1 := [.long (q_l r27)]) (some (.long (q_l r27))) hX mv_RX10_164 (c_X10_far h28) ⟨rfl, rfl⟩ ⟨Nat.le_of_ble_eq_true rfl, Nat.le_of_ble_eq_true rfl⟩ g1 rfl rfl (Nat.le_of_ble_eq_true rfl) ⟨Nat.le_of_ble_eq_true rfl, Nat.le_of_ble_eq_true rfl⟩ dX10_between_69 rfl ?_
  cases hf
  exact v_lret hX hE (Nat.le_of_ble_eq_true rfl) (Nat.le_of_ble_eq_true rfl) dX10_between_72
noncomputable def f_X10_classDistance (S : q_S) (R : q_HR) (I : q_HI) (a0 : Nat) (a1 : Int) (a2 : Int) : Option (Int × q_HI) := q_gd (S.1 a0 = 11) (q_lt (q_up I a0 0 0) fun I2 => q_bd (f_X10_isClass S R I2 a0 a1) fun r4 => q_gd (r_i r4) (if r4 = 0 then some ((-2), I2) else q_bd (f_X10_isClass S R I2 a0 a2) fun r8 => q_gd (r_i r8) (if r8 = 0 then some ((-2), I2) else q_gd (S.1 (R a0 13) = 12) (q_gd ((0 : Int) ≤ a1 ∧ a1 < (S.2.1 (R a0 13) : Int)) (q_gd (r_i (I2 (R a0 13) (Int.toNat a1))) (if I2 (R a0 13) (Int.toNat a1) = 0 then some ((-1), I2) else q_gd ((0 : Int) ≤ a2 ∧ a2 < (S.2.1 (R a0 13) : Int)) (q_gd (r_i (I2 (R a0 13) (Int.toNat a2))) (if I2 (R a0 13) (Int.toNat a2) = 0 then some ((-1), I2) else q_bd (f_X10_lays S R I2 a0 0) fun I19 => q_bd2 (f_X10_between S R I19 a0 a1 a2) fun r21 I22 => some (r21, I22)))))))))
abbrev rmX10_classDistance : Room := { frames := 4, cells := 0, slots := 0, locals := 105 }
set_option maxRecDepth 20000 in
theorem c_X10_classDistance {S : q_S} {R : q_HR} {I : q_HI} {a0 : Nat} {a1 : Int} {a2 : Int} {rz : Int} {Iz : q_HI} (hf : f_X10_classDistance S R I a0 a1 a2 = some (rz, Iz)) : ∀ (l : Launch) (D : va_G) (cy : Nat → ClassId) (B : Nat), Met l yX10_classDistance [Cond.code yX10_classDistance cX10_classDistance 3 (some .int)] rmX10_classDistance (q_Pc B D cy [.ref a0, .int (q_i a1), .int (q_i a2)] S R I) (q_Qc B D cy (some (.int (q_i rz))) S R Iz) 0 0 (fun q => B ≤ q) := by
  refine q_met (lv := [(0, .ref a0), (1, .int (q_i a1)), (2, .int (q_i a2))]) (own := RX10) (nm := "classDistance") (by decide) rfl rfl (Nat.le_of_ble_eq_true rfl) rfl (fun X hX hE => ?_)
  unfold f_X10_classDistance at hf
  refine v_aload_n 0 0 hX dX10_classDistance_0 rfl rfl ?_
  refine v_iconst hX dX10_classDistance_1 ?_
  obtain ⟨g1, hf⟩ := q_gd_some hf
  refine v_putI hX fa_RX10_1 rfl g1 dX10_classDistance_2 ?_
  obtain ⟨I2, e3, hf⟩ := q_lt_nm hf
  rw [e3]
  refine v_aload_n 0 0 hX dX10_classDistance_5 rfl rfl ?_
  refine v_iload_n 1 1 hX dX10_classDistance_6 rfl rfl ?_
  obtain ⟨r4, h5, hf⟩ := q_bd_some hf
  refine v_callV (As := [.int (q_i a1)]) (rest := []) (st1 := [.int (q_i r4)]) (some (.int (q_i r4))) hX mv_RX10_148 (c_X10_isClass h5) ⟨rfl, rfl⟩ ⟨Nat.le_of_ble_eq_true rfl, Nat.le_of_ble_eq_true rfl⟩ g1 rfl rfl (Nat.le_of_ble_eq_true rfl) ⟨Nat.le_of_ble_eq_true rfl, Nat.le_of_ble_eq_true rfl⟩ dX10_classDistance_7 rfl ?_
  obtain ⟨g6, hf⟩ := q_gd_some hf
  refine v_if_eq (tgt := 21) hX g6 dX10_classDistance_10 (by decide) (fun c7 => ?_) (fun c7 => ?_)
  · replace hf := q_ifp c7 hf
    refine v_bipush (-2) hX dX10_classDistance_21 (by decide) ?_
    cases hf
    exact v_iret hX hE (Nat.le_of_ble_eq_true rfl) (Nat.le_of_ble_eq_true rfl) dX10_classDistance_23
  · replace hf := q_ifn c7 hf
    refine v_aload_n 0 0 hX dX10_classDistance_13 rfl rfl ?_
    refine v_iload_n 2 2 hX dX10_classDistance_14 rfl rfl ?_
    obtain ⟨r8, h9, hf⟩ := q_bd_some hf
    refine v_callV (As := [.int (q_i a2)]) (rest := []) (st1 := [.int (q_i r8)]) (some (.int (q_i r8))) hX mv_RX10_148 (c_X10_isClass h9) ⟨rfl, rfl⟩ ⟨Nat.le_of_ble_eq_true rfl, Nat.le_of_ble_eq_true rfl⟩ g1 rfl rfl (Nat.le_of_ble_eq_true rfl) ⟨Nat.le_of_ble_eq_true rfl, Nat.le_of_ble_eq_true rfl⟩ dX10_classDistance_15 rfl ?_
    obtain ⟨g10, hf⟩ := q_gd_some hf
    refine v_if_ne (tgt := 24) hX g10 dX10_classDistance_18 (by decide) (fun c11 => ?_) (fun c11 => ?_)
    · replace hf := q_ifp c11 hf
      refine v_bipush (-2) hX dX10_classDistance_21 (by decide) ?_
      cases hf
      exact v_iret hX hE (Nat.le_of_ble_eq_true rfl) (Nat.le_of_ble_eq_true rfl) dX10_classDistance_23
    · replace hf := q_ifn c11 hf
      refine v_aload_n 0 0 hX dX10_classDistance_24 rfl rfl ?_
      obtain ⟨g12, hf⟩ := q_gd_some hf
      refine v_getA hX fa_RX10_23 (fun _ _ => rfl) g1 g12 (by decide) dX10_classDistance_25 ?_
      refine v_iload_n 1 1 hX dX10_classDistance_28 rfl rfl ?_
      obtain ⟨g13, hf⟩ := q_gd_some hf
      refine v_iaload hX g12 g13 dX10_classDistance_29 ?_
      obtain ⟨g14, hf⟩ := q_gd_some hf
      refine v_if_eq (tgt := 42) hX g14 dX10_classDistance_30 (by decide) (fun c15 => ?_) (fun c15 => ?_)
      · replace hf := q_ifp c15 hf
        refine v_iconst hX dX10_classDistance_42 ?_
        cases hf
        exact v_iret hX hE (Nat.le_of_ble_eq_true rfl) (Nat.le_of_ble_eq_true rfl) dX10_classDistance_43
      · replace hf := q_ifn c15 hf
        refine v_aload_n 0 0 hX dX10_classDistance_33 rfl rfl ?_
        refine v_getA hX fa_RX10_23 (fun _ _ => rfl) g1 g12 (by decide) dX10_classDistance_34 ?_
        refine v_iload_n 2 2 hX dX10_classDistance_37 rfl rfl ?_
        obtain ⟨g16, hf⟩ := q_gd_some hf
        refine v_iaload hX g12 g16 dX10_classDistance_38 ?_
        obtain ⟨g17, hf⟩ := q_gd_some hf
        refine v_if_ne (tgt := 44) hX g17 dX10_classDistance_39 (by decide) (fun c18 => ?_) (fun c18 => ?_)
        · replace hf := q_ifp c18 hf
          refine v_iconst hX dX10_classDistance_42 ?_
          cases hf
          exact v_iret hX hE (Nat.le_of_ble_eq_true rfl) (Nat.le_of_ble_eq_true rfl) dX10_classDistance_43
        · replace hf := q_ifn c18 hf
          refine v_aload_n 0 0 hX dX10_classDistance_44 rfl rfl ?_
          refine v_iconst hX dX10_classDistance_45 ?_
          obtain ⟨I19, h20, hf⟩ := q_bd_some hf
          refine v_callV (As := [.int (q_i 0)]) (rest := []) (st1 := []) none hX mv_RX10_143 (c_X10_lays h20) ⟨rfl, rfl⟩ ⟨Nat.le_of_ble_eq_true rfl, Nat.le_of_ble_eq_true rfl⟩ g1 rfl rfl (Nat.le_of_ble_eq_true rfl) ⟨Nat.le_of_ble_eq_true rfl, Nat.le_of_ble_eq_true rfl⟩ dX10_classDistance_46 rfl ?_
          refine v_aload_n 0 0 hX dX10_classDistance_49 rfl rfl ?_
          refine v_iload_n 1 1 hX dX10_classDistance_50 rfl rfl ?_
          refine v_iload_n 2 2 hX dX10_classDistance_51 rfl rfl ?_
          obtain ⟨r21, I22, h23, hf⟩ := q_bd2_some hf
          refine v_callV (As := [.int (q_i a1), .int (q_i a2)]) (rest := []) (st1 := [.long (q_l r21)]) (some (.long (q_l r21))) hX mv_RX10_185 (c_X10_between h23) ⟨rfl, rfl⟩ ⟨Nat.le_of_ble_eq_true rfl, Nat.le_of_ble_eq_true rfl⟩ g1 rfl rfl (Nat.le_of_ble_eq_true rfl) ⟨Nat.le_of_ble_eq_true rfl, Nat.le_of_ble_eq_true rfl⟩ dX10_classDistance_52 rfl ?_
          refine v_l2i hX dX10_classDistance_55 ?_
          cases hf
          exact v_iret hX hE (Nat.le_of_ble_eq_true rfl) (Nat.le_of_ble_eq_true rfl) dX10_classDistance_56
