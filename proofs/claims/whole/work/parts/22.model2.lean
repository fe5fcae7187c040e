noncomputable def f_X10_closestClasses_L32 (S : q_S) (R : q_HR) (p0 : Nat) (p4 : Int) (k : Int → Int → Int → q_HI → Option (Int × q_HI)) : Nat → Int → Int → Int → q_HI → Option (Int × q_HI)
  | 0, _, _, _, _ => none
  | n + 1, v1, v2, v5, I => q_gd (S.1 p0 = 11) (q_gd (r_i v5) (q_gd (r_i (I p0 4)) (if I p0 4 ≤ v5 then k v1 v2 v5 I else q_gd (S.1 (R p0 13) = 12) (q_gd ((0 : Int) ≤ p4 ∧ p4 < (S.2.1 (R p0 13) : Int)) (q_gd (r_i (I (R p0 13) (Int.toNat p4))) (if I (R p0 13) (Int.toNat p4) = 0 then f_X10_closestClasses_L32 S R p0 p4 k n v1 v2 (v5 + 1) I else q_gd ((0 : Int) ≤ v5 ∧ v5 < (S.2.1 (R p0 13) : Int)) (q_gd (r_i (I (R p0 13) (Int.toNat v5))) (if I (R p0 13) (Int.toNat v5) = 0 then f_X10_closestClasses_L32 S R p0 p4 k n v1 v2 (v5 + 1) I else q_bd2 (f_X10_between S R I p0 p4 v5) fun r23 I24 => q_gd (r_i v1) (if v1 = (-1) then q_lt ((10 * p4) + v5) fun x28 => f_X10_closestClasses_L32 S R p0 p4 k n x28 r23 (v5 + 1) I24 else q_gd (r_l r23) (q_gd (r_l v2) (if r23 < v2 then q_lt ((10 * p4) + v5) fun x33 => f_X10_closestClasses_L32 S R p0 p4 k n x33 r23 (v5 + 1) I24 else f_X10_closestClasses_L32 S R p0 p4 k n v1 v2 (v5 + 1) I24)))))))))))
noncomputable def f_X10_closestClasses_L17 (S : q_S) (R : q_HR) (p0 : Nat) (k : Int → Int → Int → q_HI → Option (Int × q_HI)) : Nat → Int → Int → Int → q_HI → Option (Int × q_HI)
  | 0, _, _, _, _ => none
  | n + 1, v1, v2, v4, I => q_gd (S.1 p0 = 11) (q_gd (r_i v4) (q_gd (r_i (I p0 4)) (if I p0 4 ≤ v4 then k v1 v2 v4 I else q_lt (v4 + 1) fun x10 => f_X10_closestClasses_L32 S R p0 v4 (fun w35 w36 w37 I38 => f_X10_closestClasses_L17 S R p0 k n w35 w36 (v4 + 1) I38) 100 v1 v2 x10 I)))
noncomputable def f_X10_closestClasses (S : q_S) (R : q_HR) (I : q_HI) (a0 : Nat) : Option (Int × q_HI) := q_gd (S.1 a0 = 11) (q_lt (q_up I a0 0 0) fun I2 => q_bd (f_X10_lays S R I2 a0 0) fun I4 => f_X10_closestClasses_L17 S R a0 (fun w39 w40 w41 I42 => some (w39, I42)) 100 (-1) 0 0 I4)
abbrev rmX10_closestClasses : Room := { frames := 4, cells := 0, slots := 0, locals := 105 }
set_option maxRecDepth 20000 in
theorem l_X10_closestClasses_32 {X : q_X} {S : q_S} {R : q_HR} {p0 : Nat} {p4 : Int} {rz : Int} {Iz : q_HI} (hX : q_C X cX10_closestClasses 8 RX10 (some .int) "closestClasses") (hE : q_E X 0 0 (some (.int (q_i rz))) S R Iz) {k : Int → Int → Int → q_HI → Option (Int × q_HI)} (hk : ∀ (v1 : Int) (v2 : Int) (v5 : Int) (I : q_HI), k v1 v2 v5 I = some (rz, Iz) → q_V X rmX10_closestClasses cX10_closestClasses 8 0 0 107 [(0, .ref p0), (1, .int (q_i v1)), (2, .long (q_l v2)), (4, .int (q_i p4))] [] S R I) :
    ∀ (n : Nat), ∀ (v1 : Int) (v2 : Int) (v5 : Int) (I : q_HI), f_X10_closestClasses_L32 S R p0 p4 k n v1 v2 v5 I = some (rz, Iz) → q_V X rmX10_closestClasses cX10_closestClasses 8 0 0 32 [(0, .ref p0), (1, .int (q_i v1)), (2, .long (q_l v2)), (4, .int (q_i p4)), (5, .int (q_i v5))] [] S R I := by
  intro n
  induction n with
  | zero =>
    intro v1 v2 v5 I hf
    cases (show (none : Option (Int × q_HI)) = some _ from hf)
  | succ n ih =>
    intro v1 v2 v5 I hf
    rw [f_X10_closestClasses_L32] at hf
    refine v_iload 4 hX dX10_closestClasses_32 rfl ?_
    refine v_aload_n 0 0 hX dX10_closestClasses_34 rfl rfl ?_
    obtain ⟨g12, hf⟩ := q_gd_some hf
    refine v_getI hX fa_RX10_61 (fun _ _ => rfl) g12 dX10_closestClasses_35 ?_
    obtain ⟨g13, hf⟩ := q_gd_some hf
    obtain ⟨g14, hf⟩ := q_gd_some hf
    refine v_icmp_ge (tgt := 107) hX g13 g14 dX10_closestClasses_38 (by decide) (fun c15 => ?_) (fun c15 => ?_)
    · replace hf := q_ifp c15 hf
      refine v_sub (lv' := [(0, .ref p0), (1, .int (q_i v1)), (2, .long (q_l v2)), (4, .int (q_i p4))]) [0, 1, 2, 3] rfl ?_
      exact hk _ _ _ _ hf
    · replace hf := q_ifn c15 hf
      refine v_aload_n 0 0 hX dX10_closestClasses_41 rfl rfl ?_
      obtain ⟨g16, hf⟩ := q_gd_some hf
      refine v_getA hX fa_RX10_23 (fun _ _ => rfl) g12 g16 (by decide) dX10_closestClasses_42 ?_
      refine v_iload 3 hX dX10_closestClasses_45 rfl ?_
      obtain ⟨g17, hf⟩ := q_gd_some hf
      refine v_iaload hX g16 g17 dX10_closestClasses_47 ?_
      obtain ⟨g18, hf⟩ := q_gd_some hf
      refine v_if_eq (tgt := 101) hX g18 dX10_closestClasses_48 (by decide) (fun c19 => ?_) (fun c19 => ?_)
      · replace hf := q_ifp c19 hf
        refine v_iinc 4 (lw := [(5, .int (q_i (v5 + 1))), (0, .ref p0), (1, .int (q_i v1)), (2, .long (q_l v2)), (4, .int (q_i p4))]) hX dX10_closestClasses_101 rfl (by decide) rfl ?_
        refine v_goto (tgt := 32) hX dX10_closestClasses_104 (by decide) ?_
        refine v_sub (lv' := [(0, .ref p0), (1, .int (q_i v1)), (2, .long (q_l v2)), (4, .int (q_i p4)), (5, .int (q_i (v5 + 1)))]) [1, 2, 3, 4, 0] rfl ?_
        exact ih _ _ _ _ hf
      · replace hf := q_ifn c19 hf
        refine v_aload_n 0 0 hX dX10_closestClasses_51 rfl rfl ?_
        refine v_getA hX fa_RX10_23 (fun _ _ => rfl) g12 g16 (by decide) dX10_closestClasses_52 ?_
        refine v_iload 4 hX dX10_closestClasses_55 rfl ?_
        obtain ⟨g20, hf⟩ := q_gd_some hf
        refine v_iaload hX g16 g20 dX10_closestClasses_57 ?_
        obtain ⟨g21, hf⟩ := q_gd_some hf
        refine v_if_ne (tgt := 64) hX g21 dX10_closestClasses_58 (by decide) (fun c22 => ?_) (fun c22 => ?_)
        · replace hf := q_ifp c22 hf
          refine v_goto (tgt := 101) hX dX10_closestClasses_61 (by decide) ?_
          refine v_iinc 4 (lw := [(5, .int (q_i (v5 + 1))), (0, .ref p0), (1, .int (q_i v1)), (2, .long (q_l v2)), (4, .int (q_i p4))]) hX dX10_closestClasses_101 rfl (by decide) rfl ?_
          refine v_goto (tgt := 32) hX dX10_closestClasses_104 (by decide) ?_
          refine v_sub (lv' := [(0, .ref p0), (1, .int (q_i v1)), (2, .long (q_l v2)), (4, .int (q_i p4)), (5, .int (q_i (v5 + 1)))]) [1, 2, 3, 4, 0] rfl ?_
          exact ih _ _ _ _ hf
        · replace hf := q_ifn c22 hf
          refine v_aload_n 0 0 hX dX10_closestClasses_64 rfl rfl ?_
          refine v_iload 3 hX dX10_closestClasses_65 rfl ?_
          refine v_iload 4 hX dX10_closestClasses_67 rfl ?_
          obtain ⟨r23, I24, h25, hf⟩ := q_bd2_some hf
          refine v_callV (As := [.int (q_i p4), .int (q_i v5)]) (rest := []) (st1 := [.long (q_l r23)]) (some (.long (q_l r23))) hX mv_RX10_185 (c_X10_between h25) ⟨rfl, rfl⟩ ⟨Nat.le_of_ble_eq_true rfl, Nat.le_of_ble_eq_true rfl⟩ g12 rfl rfl (Nat.le_of_ble_eq_true rfl) ⟨Nat.le_of_ble_eq_true rfl, Nat.le_of_ble_eq_true rfl⟩ dX10_closestClasses_69 rfl ?_
          refine v_lstore (lw := [(6, .long (q_l r23)), (0, .ref p0), (1, .int (q_i v1)), (2, .long (q_l v2)), (4, .int (q_i p4)), (5, .int (q_i v5))]) hX dX10_closestClasses_72 (by decide) rfl ?_
          refine v_iload_n 1 2 hX dX10_closestClasses_74 rfl rfl ?_
          refine v_iconst hX dX10_closestClasses_75 ?_
          obtain ⟨g26, hf⟩ := q_gd_some hf
          refine v_icmp_eq (tgt := 89) hX g26 (by unfold r_i; omega) dX10_closestClasses_76 (by decide) (fun c27 => ?_) (fun c27 => ?_)
          · replace hf := q_ifp c27 hf
            refine v_bipush 10 hX dX10_closestClasses_89 (by decide) ?_
            refine v_iload 4 hX dX10_closestClasses_91 rfl ?_
            refine v_imul hX dX10_closestClasses_93 ?_
            refine v_iload 5 hX dX10_closestClasses_94 rfl ?_
            refine v_iadd hX dX10_closestClasses_96 ?_
            obtain ⟨x28, e29, hf⟩ := q_lt_nm hf
            rw [e29]
            refine v_istore_n 1 (lw := [(1, .int (q_i x28)), (6, .long (q_l r23)), (0, .ref p0), (2, .long (q_l v2)), (4, .int (q_i p4)), (5, .int (q_i v5))]) hX dX10_closestClasses_97 rfl (by decide) rfl ?_
            refine v_lload 1 hX dX10_closestClasses_98 rfl ?_
            refine v_lstore_n 2 (lw := [(2, .long (q_l r23)), (1, .int (q_i x28)), (6, .long (q_l r23)), (0, .ref p0), (4, .int (q_i p4)), (5, .int (q_i v5))]) hX dX10_closestClasses_100 rfl (by decide) rfl ?_
            refine v_iinc 5 (lw := [(5, .int (q_i (v5 + 1))), (2, .long (q_l r23)), (1, .int (q_i x28)), (6, .long (q_l r23)), (0, .ref p0), (4, .int (q_i p4))]) hX dX10_closestClasses_101 rfl (by decide) rfl ?_
            refine v_goto (tgt := 32) hX dX10_closestClasses_104 (by decide) ?_
            refine v_sub (lv' := [(0, .ref p0), (1, .int (q_i x28)), (2, .long (q_l r23)), (4, .int (q_i p4)), (5, .int (q_i (v5 + 1)))]) [4, 2, 1, 5, 0] rfl ?_
            exact ih _ _ _ _ hf
          · replace hf := q_ifn c27 hf
            refine v_lload 0 hX dX10_closestClasses_79 rfl ?_
            refine v_lload_n 2 3 hX dX10_closestClasses_81 rfl rfl ?_
            obtain ⟨g30, hf⟩ := q_gd_some hf
            obtain ⟨g31, hf⟩ := q_gd_some hf
            refine v_lcmp hX g30 g31 dX10_closestClasses_82 ?_
            refine v_ifc_lt (tgt := 89) hX dX10_closestClasses_83 (by decide) (fun c32 => ?_) (fun c32 => ?_)
            · replace hf := q_ifp c32 hf
              refine v_bipush 10 hX dX10_closestClasses_89 (by decide) ?_
              refine v_iload 4 hX dX10_closestClasses_91 rfl ?_
              refine v_imul hX dX10_closestClasses_93 ?_
              refine v_iload 5 hX dX10_closestClasses_94 rfl ?_
              refine v_iadd hX dX10_closestClasses_96 ?_
              obtain ⟨x33, e34, hf⟩ := q_lt_nm hf
              rw [e34]
              refine v_istore_n 1 (lw := [(1, .int (q_i x33)), (6, .long (q_l r23)), (0, .ref p0), (2, .long (q_l v2)), (4, .int (q_i p4)), (5, .int (q_i v5))]) hX dX10_closestClasses_97 rfl (by decide) rfl ?_
              refine v_lload 1 hX dX10_closestClasses_98 rfl ?_
              refine v_lstore_n 2 (lw := [(2, .long (q_l r23)), (1, .int (q_i x33)), (6, .long (q_l r23)), (0, .ref p0), (4, .int (q_i p4)), (5, .int (q_i v5))]) hX dX10_closestClasses_100 rfl (by decide) rfl ?_
              refine v_iinc 5 (lw := [(5, .int (q_i (v5 + 1))), (2, .long (q_l r23)), (1, .int (q_i x33)), (6, .long (q_l r23)), (0, .ref p0), (4, .int (q_i p4))]) hX dX10_closestClasses_101 rfl (by decide) rfl ?_
              refine v_goto (tgt := 32) hX dX10_closestClasses_104 (by decide) ?_
              refine v_sub (lv' := [(0, .ref p0), (1, .int (q_i x33)), (2, .long (q_l r23)), (4, .int (q_i p4)), (5, .int (q_i (v5 + 1)))]) [4, 2, 1, 5, 0] rfl ?_
              exact ih _ _ _ _ hf
            · replace hf := q_ifn c32 hf
              refine v_goto (tgt := 101) hX dX10_closestClasses_86 (by decide) ?_
              refine v_iinc 5 (lw := [(5, .int (q_i (v5 + 1))), (6, .long (q_l r23)), (0, .ref p0), (1, .int (q_i v1)), (2, .long (q_l v2)), (4, .int (q_i p4))]) hX dX10_closestClasses_101 rfl (by decide) rfl ?_
              refine v_goto (tgt := 32) hX dX10_closestClasses_104 (by decide) ?_
              refine v_sub (lv' := [(0, .ref p0), (1, .int (q_i v1)), (2, .long (q_l v2)), (4, .int (q_i p4)), (5, .int (q_i (v5 + 1)))]) [2, 3, 4, 5, 0] rfl ?_
              exact ih _ _ _ _ hf
set_option maxRecDepth 20000 in
theorem l_X10_closestClasses_17 {X : q_X} {S : q_S} {R : q_HR} {p0 : Nat} {rz : Int} {Iz : q_HI} (hX : q_C X cX10_closestClasses 8 RX10 (some .int) "closestClasses") (hE : q_E X 0 0 (some (.int (q_i rz))) S R Iz) {k : Int → Int → Int → q_HI → Option (Int × q_HI)} (hk : ∀ (v1 : Int) (v2 : Int) (v4 : Int) (I : q_HI), k v1 v2 v4 I = some (rz, Iz) → q_V X rmX10_closestClasses cX10_closestClasses 8 0 0 113 [(1, .int (q_i v1))] [] S R I) :
    ∀ (n : Nat), ∀ (v1 : Int) (v2 : Int) (v4 : Int) (I : q_HI), f_X10_closestClasses_L17 S R p0 k n v1 v2 v4 I = some (rz, Iz) → q_V X rmX10_closestClasses cX10_closestClasses 8 0 0 17 [(0, .ref p0), (1, .int (q_i v1)), (2, .long (q_l v2)), (4, .int (q_i v4))] [] S R I := by
  intro n
  induction n with
  | zero =>
    intro v1 v2 v4 I hf
    cases (show (none : Option (Int × q_HI)) = some _ from hf)
  | succ n ih =>
    intro v1 v2 v4 I hf
    rw [f_X10_closestClasses_L17] at hf
    refine v_iload 3 hX dX10_closestClasses_17 rfl ?_
    refine v_aload_n 0 0 hX dX10_closestClasses_19 rfl rfl ?_
    obtain ⟨g6, hf⟩ := q_gd_some hf
    refine v_getI hX fa_RX10_61 (fun _ _ => rfl) g6 dX10_closestClasses_20 ?_
    obtain ⟨g7, hf⟩ := q_gd_some hf
    obtain ⟨g8, hf⟩ := q_gd_some hf
    refine v_icmp_ge (tgt := 113) hX g7 g8 dX10_closestClasses_23 (by decide) (fun c9 => ?_) (fun c9 => ?_)
    · replace hf := q_ifp c9 hf
      refine v_sub (lv' := [(1, .int (q_i v1))]) [1] rfl ?_
      exact hk _ _ _ _ hf
    · replace hf := q_ifn c9 hf
      refine v_iload 3 hX dX10_closestClasses_26 rfl ?_
      refine v_iconst hX dX10_closestClasses_28 ?_
      refine v_iadd hX dX10_closestClasses_29 ?_
      obtain ⟨x10, e11, hf⟩ := q_lt_nm hf
      rw [e11]
      refine v_istore (lw := [(5, .int (q_i x10)), (0, .ref p0), (1, .int (q_i v1)), (2, .long (q_l v2)), (4, .int (q_i v4))]) hX dX10_closestClasses_30 (by decide) rfl ?_
      refine v_sub (lv' := [(0, .ref p0), (1, .int (q_i v1)), (2, .long (q_l v2)), (4, .int (q_i v4)), (5, .int (q_i x10))]) [1, 2, 3, 4, 0] rfl ?_
      refine l_X10_closestClasses_32 hX hE (fun w35 w36 w37 I38 hk => ?_) 100 _ _ _ _ hf
      clear hf
      have hf := hk
      clear hk
      refine v_iinc 3 (lw := [(4, .int (q_i (v4 + 1))), (0, .ref p0), (1, .int (q_i w35)), (2, .long (q_l w36))]) hX dX10_closestClasses_107 rfl (by decide) rfl ?_
      refine v_goto (tgt := 17) hX dX10_closestClasses_110 (by decide) ?_
      refine v_sub (lv' := [(0, .ref p0), (1, .int (q_i w35)), (2, .long (q_l w36)), (4, .int (q_i (v4 + 1)))]) [1, 2, 3, 0] rfl ?_
      exact ih _ _ _ _ hf
set_option maxRecDepth 20000 in
theorem c_X10_closestClasses {S : q_S} {R : q_HR} {I : q_HI} {a0 : Nat} {rz : Int} {Iz : q_HI} (hf : f_X10_closestClasses S R I a0 = some (rz, Iz)) : ∀ (l : Launch) (D : va_G) (cy : Nat → ClassId) (B : Nat), Met l yX10_closestClasses [Cond.code yX10_closestClasses cX10_closestClasses 8 (some .int)] rmX10_closestClasses (q_Pc B D cy [.ref a0] S R I) (q_Qc B D cy (some (.int (q_i rz))) S R Iz) 0 0 (fun q => B ≤ q) := by
  refine q_met (lv := [(0, .ref a0)]) (own := RX10) (nm := "closestClasses") (by decide) rfl rfl (Nat.le_of_ble_eq_true rfl) rfl (fun X hX hE => ?_)
  unfold f_X10_closestClasses at hf
  refine v_aload_n 0 0 hX dX10_closestClasses_0 rfl rfl ?_
  refine v_iconst hX dX10_closestClasses_1 ?_
  obtain ⟨g1, hf⟩ := q_gd_some hf
  refine v_putI hX fa_RX10_1 rfl g1 dX10_closestClasses_2 ?_
  obtain ⟨I2, e3, hf⟩ := q_lt_nm hf
  rw [e3]
  refine v_aload_n 0 0 hX dX10_closestClasses_5 rfl rfl ?_
  refine v_iconst hX dX10_closestClasses_6 ?_
  obtain ⟨I4, h5, hf⟩ := q_bd_some hf
  refine v_callV (As := [.int (q_i 0)]) (rest := []) (st1 := []) none hX mv_RX10_143 (c_X10_lays h5) ⟨rfl, rfl⟩ ⟨Nat.le_of_ble_eq_true rfl, Nat.le_of_ble_eq_true rfl⟩ g1 rfl rfl (Nat.le_of_ble_eq_true rfl) ⟨Nat.le_of_ble_eq_true rfl, Nat.le_of_ble_eq_true rfl⟩ dX10_closestClasses_7 rfl ?_
  refine v_iconst hX dX10_closestClasses_10 ?_
  refine v_istore_n 1 (lw := [(1, .int (q_i (-1))), (0, .ref a0)]) hX dX10_closestClasses_11 rfl (by decide) rfl ?_
  refine v_lconst 0 hX dX10_closestClasses_12 (by decide) ?_
  refine v_lstore_n 2 (lw := [(2, .long (q_l 0)), (1, .int (q_i (-1))), (0, .ref a0)]) hX dX10_closestClasses_13 rfl (by decide) rfl ?_
  refine v_iconst hX dX10_closestClasses_14 ?_
  refine v_istore (lw := [(4, .int (q_i 0)), (2, .long (q_l 0)), (1, .int (q_i (-1))), (0, .ref a0)]) hX dX10_closestClasses_15 (by decide) rfl ?_
  refine v_sub (lv' := [(0, .ref a0), (1, .int (q_i (-1))), (2, .long (q_l 0)), (4, .int (q_i 0))]) [3, 2, 1, 0] rfl ?_
  refine l_X10_closestClasses_17 hX hE (fun w39 w40 w41 I42 hk => ?_) 100 _ _ _ _ hf
  clear hf
  have hf := hk
  clear hk
  refine v_iload_n 1 0 hX dX10_closestClasses_113 rfl rfl ?_
  cases hf
  exact v_iret hX hE (Nat.le_of_ble_eq_true rfl) (Nat.le_of_ble_eq_true rfl) dX10_closestClasses_114
noncomputable def f_X10_ranks_L29 (S : q_S) (R : q_HR) (p0 : Nat) (p1 : Int) (p2 : Int) (k : Int → q_HI → Option (q_HI)) : Nat → Int → q_HI → Option (q_HI)
  | 0, _, _ => none
  | n + 1, v3, I => q_gd (S.1 p0 = 11) (q_gd (r_i v3) (q_gd (r_i (I p0 1)) (if I p0 1 ≤ v3 then k v3 I else q_gd (S.1 (R p0 21) = 13) (q_gd (S.1 (R p0 16) = 12) (q_gd ((0 : Int) ≤ v3 ∧ v3 < (S.2.1 (R p0 16) : Int)) (q_bd (f_X10_placeOf p1 p2) fun r21 => q_gd ((0 : Int) ≤ (5 * r21) + v3 ∧ (5 * r21) + v3 < (S.2.1 (R p0 16) : Int)) (q_gd (r_i ((I (R p0 16) (Int.toNat v3)) - (I (R p0 16) (Int.toNat ((5 * r21) + v3))))) (q_gd ((0 : Int) ≤ v3 ∧ v3 < (S.2.1 (R p0 21) : Int)) (q_lt (q_up I (R p0 21) (Int.toNat v3) ((I (R p0 16) (Int.toNat v3)) - (I (R p0 16) (Int.toNat ((5 * r21) + v3))))) fun I26 => f_X10_ranks_L29 S R p0 p1 p2 k n (v3 + 1) I26)))))))))
noncomputable def f_X10_ranks_L83 (S : q_S) (R : q_HR) (p0 : Nat) (p1 : Int) (p2 : Int) (p3 : Int) (k : Int → q_HI → Option (q_HI)) : Nat → Int → q_HI → Option (q_HI)
  | 0, _, _ => none
  | n + 1, v5, I => q_gd (r_i v5) (if v5 ≤ 0 then k v5 I else q_gd (S.1 p0 = 11) (q_gd (S.1 (R p0 23) = 13) (q_gd ((0 : Int) ≤ v5 - 1 ∧ v5 - 1 < (S.2.1 (R p0 23) : Int)) (q_gd (r_l (I (R p0 23) (Int.toNat (v5 - 1)))) (q_gd (r_l p3) (if I (R p0 23) (Int.toNat (v5 - 1)) ≤ p3 then k v5 I else q_gd ((0 : Int) ≤ v5 ∧ v5 < (S.2.1 (R p0 23) : Int)) (q_lt (q_up I (R p0 23) (Int.toNat v5) (I (R p0 23) (Int.toNat (v5 - 1)))) fun I43 => q_gd (S.1 (R p0 22) = 12) (q_gd ((0 : Int) ≤ v5 - 1 ∧ v5 - 1 < (S.2.1 (R p0 22) : Int)) (q_gd ((0 : Int) ≤ v5 ∧ v5 < (S.2.1 (R p0 22) : Int)) (q_lt (q_up I43 (R p0 22) (Int.toNat v5) (I43 (R p0 22) (Int.toNat (v5 - 1)))) fun I48 => f_X10_ranks_L83 S R p0 p1 p2 p3 k n (v5 + (-1)) I48))))))))))
noncomputable def f_X10_ranks_L17 (S : q_S) (R : q_HR) (p0 : Nat) (p1 : Int) (k : Int → q_HI → Option (q_HI)) : Nat → Int → q_HI → Option (q_HI)
  | 0, _, _ => none
  | n + 1, v2, I => q_gd (S.1 p0 = 11) (q_gd (S.1 (R p0 13) = 12) (q_gd ((0 : Int) ≤ p1 ∧ p1 < (S.2.1 (R p0 13) : Int)) (q_gd (r_i v2) (q_gd (r_i (I (R p0 13) (Int.toNat p1))) (if I (R p0 13) (Int.toNat p1) ≤ v2 then k v2 I else f_X10_ranks_L29 S R p0 p1 v2 (fun w28 I29 => q_bd (f_X10_far S R I29 p0 1) fun r30 => q_lt (I29 p0 24) fun x32 => f_X10_ranks_L83 S R p0 p1 v2 r30 (fun w50 I51 => q_gd (S.1 (R p0 23) = 13) (q_gd ((0 : Int) ≤ w50 ∧ w50 < (S.2.1 (R p0 23) : Int)) (q_lt (q_up I51 (R p0 23) (Int.toNat w50) r30) fun I54 => q_gd (S.1 (R p0 22) = 12) (q_gd ((0 : Int) ≤ w50 ∧ w50 < (S.2.1 (R p0 22) : Int)) (q_lt (q_up I54 (R p0 22) (Int.toNat w50) ((10 * p1) + v2)) fun I58 => q_lt (q_up I58 p0 24 ((I58 p0 24) + 1)) fun I60 => f_X10_ranks_L17 S R p0 p1 k n (v2 + 1) I60))))) 100 x32 I29) 100 0 I)))))
noncomputable def f_X10_ranks_L7 (S : q_S) (R : q_HR) (p0 : Nat) (k : Int → q_HI → Option (q_HI)) : Nat → Int → q_HI → Option (q_HI)
  | 0, _, _ => none
  | n + 1, v1, I => q_gd (S.1 p0 = 11) (q_gd (r_i v1) (q_gd (r_i (I p0 4)) (if I p0 4 ≤ v1 then k v1 I else f_X10_ranks_L17 S R p0 v1 (fun w62 I63 => f_X10_ranks_L7 S R p0 k n (v1 + 1) I63) 100 0 I)))
noncomputable def f_X10_ranks (S : q_S) (R : q_HR) (I : q_HI) (a0 : Nat) : Option (q_HI) := q_gd (S.1 a0 = 11) (q_lt (q_up I a0 24 0) fun I2 => f_X10_ranks_L7 S R a0 (fun w64 I65 => some I65) 100 0 I2)
abbrev rmX10_ranks : Room := { frames := 1, cells := 0, slots := 0, locals := 29 }
set_option maxRecDepth 20000 in
theorem l_X10_ranks_29 {X : q_X} {S : q_S} {R : q_HR} {p0 : Nat} {p1 : Int} {p2 : Int} {Iz : q_HI} (hX : q_C X cX10_ranks 6 RX10 none "ranks") (hE : q_E X 0 0 none S R Iz) {k : Int → q_HI → Option (q_HI)} (hk : ∀ (v3 : Int) (I : q_HI), k v3 I = some Iz → q_V X rmX10_ranks cX10_ranks 6 0 0 71 [(0, .ref p0), (1, .int (q_i p1)), (2, .int (q_i p2))] [] S R I) :
    ∀ (n : Nat), ∀ (v3 : Int) (I : q_HI), f_X10_ranks_L29 S R p0 p1 p2 k n v3 I = some Iz → q_V X rmX10_ranks cX10_ranks 6 0 0 29 [(0, .ref p0), (1, .int (q_i p1)), (2, .int (q_i p2)), (3, .int (q_i v3))] [] S R I := by
  intro n
  induction n with
  | zero =>
    intro v3 I hf
    cases (show (none : Option (q_HI)) = some _ from hf)
  | succ n ih =>
    intro v3 I hf
    rw [f_X10_ranks_L29] at hf
    refine v_iload_n 3 3 hX dX10_ranks_29 rfl rfl ?_
    refine v_aload_n 0 0 hX dX10_ranks_30 rfl rfl ?_
    obtain ⟨g14, hf⟩ := q_gd_some hf
    refine v_getI hX fa_RX10_52 (fun _ _ => rfl) g14 dX10_ranks_31 ?_
    obtain ⟨g15, hf⟩ := q_gd_some hf
    obtain ⟨g16, hf⟩ := q_gd_some hf
    refine v_icmp_ge (tgt := 71) hX g15 g16 dX10_ranks_34 (by decide) (fun c17 => ?_) (fun c17 => ?_)
    · replace hf := q_ifp c17 hf
      refine v_sub (lv' := [(0, .ref p0), (1, .int (q_i p1)), (2, .int (q_i p2))]) [0, 1, 2] rfl ?_
      exact hk _ _ hf
    · replace hf := q_ifn c17 hf
      refine v_aload_n 0 0 hX dX10_ranks_37 rfl rfl ?_
      obtain ⟨g18, hf⟩ := q_gd_some hf
      refine v_getA hX fa_RX10_36 (fun _ _ => rfl) g14 g18 (by decide) dX10_ranks_38 ?_
      refine v_iload_n 3 3 hX dX10_ranks_41 rfl rfl ?_
      refine v_aload_n 0 0 hX dX10_ranks_42 rfl rfl ?_
      obtain ⟨g19, hf⟩ := q_gd_some hf
      refine v_getA hX fa_RX10_26 (fun _ _ => rfl) g14 g19 (by decide) dX10_ranks_43 ?_
      refine v_iload_n 3 3 hX dX10_ranks_46 rfl rfl ?_
      obtain ⟨g20, hf⟩ := q_gd_some hf
      refine v_iaload hX g19 g20 dX10_ranks_47 ?_
      refine v_aload_n 0 0 hX dX10_ranks_48 rfl rfl ?_
      refine v_getA hX fa_RX10_26 (fun _ _ => rfl) g14 g19 (by decide) dX10_ranks_49 ?_
      refine v_iconst hX dX10_ranks_52 ?_
      refine v_iload_n 1 1 hX dX10_ranks_53 rfl rfl ?_
      refine v_iload_n 2 2 hX dX10_ranks_54 rfl rfl ?_
      obtain ⟨r21, h22, hf⟩ := q_bd_some hf
      refine v_callS (As := [.int (q_i p1), .int (q_i p2)]) (rest := [.int (q_i 5), .ref (R p0 16), .int (q_i (I (R p0 16) (Int.toNat v3))), .int (q_i v3), .ref (R p0 21)]) (st1 := [.int (q_i r21), .int (q_i 5), .ref (R p0 16), .int (q_i (I (R p0 16) (Int.toNat v3))), .int (q_i v3), .ref (R p0 21)]) (some (.int (q_i r21))) hX ms_RX10_151 (c_X10_placeOf h22) ⟨rfl, rfl⟩ ⟨Nat.le_of_ble_eq_true rfl, Nat.le_of_ble_eq_true rfl⟩ rfl rfl (Nat.le_of_ble_eq_true rfl) ⟨Nat.le_of_ble_eq_true rfl, Nat.le_of_ble_eq_true rfl⟩ dX10_ranks_55 rfl ?_
      refine v_imul hX dX10_ranks_58 ?_
      refine v_iload_n 3 3 hX dX10_ranks_59 rfl rfl ?_
      refine v_iadd hX dX10_ranks_60 ?_
      obtain ⟨g23, hf⟩ := q_gd_some hf
      refine v_iaload hX g19 g23 dX10_ranks_61 ?_
      refine v_isub hX dX10_ranks_62 ?_
      obtain ⟨g24, hf⟩ := q_gd_some hf
      refine v_i2l hX g24 dX10_ranks_63 ?_
      obtain ⟨g25, hf⟩ := q_gd_some hf
      refine v_lastore hX g18 g25 dX10_ranks_64 ?_
      obtain ⟨I26, e27, hf⟩ := q_lt_nm hf
      rw [e27]
      refine v_iinc 3 (lw := [(3, .int (q_i (v3 + 1))), (0, .ref p0), (1, .int (q_i p1)), (2, .int (q_i p2))]) hX dX10_ranks_65 rfl (by decide) rfl ?_
      refine v_goto (tgt := 29) hX dX10_ranks_68 (by decide) ?_
      refine v_sub (lv' := [(0, .ref p0), (1, .int (q_i p1)), (2, .int (q_i p2)), (3, .int (q_i (v3 + 1)))]) [1, 2, 3, 0] rfl ?_
      exact ih _ _ hf
set_option maxRecDepth 20000 in
theorem l_X10_ranks_83 {X : q_X} {S : q_S} {R : q_HR} {p0 : Nat} {p1 : Int} {p2 : Int} {p3 : Int} {Iz : q_HI} (hX : q_C X cX10_ranks 6 RX10 none "ranks") (hE : q_E X 0 0 none S R Iz) {k : Int → q_HI → Option (q_HI)} (hk : ∀ (v5 : Int) (I : q_HI), k v5 I = some Iz → q_V X rmX10_ranks cX10_ranks 6 0 0 140 [(0, .ref p0), (1, .int (q_i p1)), (2, .int (q_i p2)), (3, .long (q_l p3)), (5, .int (q_i v5))] [] S R I) :
    ∀ (n : Nat), ∀ (v5 : Int) (I : q_HI), f_X10_ranks_L83 S R p0 p1 p2 p3 k n v5 I = some Iz → q_V X rmX10_ranks cX10_ranks 6 0 0 83 [(0, .ref p0), (1, .int (q_i p1)), (2, .int (q_i p2)), (3, .long (q_l p3)), (5, .int (q_i v5))] [] S R I := by
  intro n
  induction n with
  | zero =>
    intro v5 I hf
    cases (show (none : Option (q_HI)) = some _ from hf)
  | succ n ih =>
    intro v5 I hf
    rw [f_X10_ranks_L83] at hf
    refine v_iload 4 hX dX10_ranks_83 rfl ?_
    obtain ⟨g34, hf⟩ := q_gd_some hf
    refine v_if_le (tgt := 140) hX g34 dX10_ranks_85 (by decide) (fun c35 => ?_) (fun c35 => ?_)
    · replace hf := q_ifp c35 hf
      refine v_sub (lv' := [(0, .ref p0), (1, .int (q_i p1)), (2, .int (q_i p2)), (3, .long (q_l p3)), (5, .int (q_i v5))]) [0, 1, 2, 3, 4] rfl ?_
      exact hk _ _ hf
    · replace hf := q_ifn c35 hf
      refine v_aload_n 0 0 hX dX10_ranks_88 rfl rfl ?_
      obtain ⟨g36, hf⟩ := q_gd_some hf
      obtain ⟨g37, hf⟩ := q_gd_some hf
      refine v_getA hX fa_RX10_42 (fun _ _ => rfl) g36 g37 (by decide) dX10_ranks_89 ?_
      refine v_iload 4 hX dX10_ranks_92 rfl ?_
      refine v_iconst hX dX10_ranks_94 ?_
      refine v_isub hX dX10_ranks_95 ?_
      obtain ⟨g38, hf⟩ := q_gd_some hf
      refine v_laload hX g37 g38 dX10_ranks_96 ?_
      refine v_lload_n 3 3 hX dX10_ranks_97 rfl rfl ?_
      obtain ⟨g39, hf⟩ := q_gd_some hf
      obtain ⟨g40, hf⟩ := q_gd_some hf
      refine v_lcmp hX g39 g40 dX10_ranks_98 ?_
      refine v_ifc_le (tgt := 140) hX dX10_ranks_99 (by decide) (fun c41 => ?_) (fun c41 => ?_)
      · replace hf := q_ifp c41 hf
        refine v_sub (lv' := [(0, .ref p0), (1, .int (q_i p1)), (2, .int (q_i p2)), (3, .long (q_l p3)), (5, .int (q_i v5))]) [0, 1, 2, 3, 4] rfl ?_
        exact hk _ _ hf
      · replace hf := q_ifn c41 hf
        refine v_aload_n 0 0 hX dX10_ranks_102 rfl rfl ?_
        refine v_getA hX fa_RX10_42 (fun _ _ => rfl) g36 g37 (by decide) dX10_ranks_103 ?_
        refine v_iload 4 hX dX10_ranks_106 rfl ?_
        refine v_aload_n 0 0 hX dX10_ranks_108 rfl rfl ?_
        refine v_getA hX fa_RX10_42 (fun _ _ => rfl) g36 g37 (by decide) dX10_ranks_109 ?_
        refine v_iload 4 hX dX10_ranks_112 rfl ?_
        refine v_iconst hX dX10_ranks_114 ?_
        refine v_isub hX dX10_ranks_115 ?_
        refine v_laload hX g37 g38 dX10_ranks_116 ?_
        obtain ⟨g42, hf⟩ := q_gd_some hf
        refine v_lastore hX g37 g42 dX10_ranks_117 ?_
        obtain ⟨I43, e44, hf⟩ := q_lt_nm hf
        rw [e44]
        refine v_aload_n 0 0 hX dX10_ranks_118 rfl rfl ?_
        obtain ⟨g45, hf⟩ := q_gd_some hf
        refine v_getA hX fa_RX10_39 (fun _ _ => rfl) g36 g45 (by decide) dX10_ranks_119 ?_
        refine v_iload 4 hX dX10_ranks_122 rfl ?_
        refine v_aload_n 0 0 hX dX10_ranks_124 rfl rfl ?_
        refine v_getA hX fa_RX10_39 (fun _ _ => rfl) g36 g45 (by decide) dX10_ranks_125 ?_
        refine v_iload 4 hX dX10_ranks_128 rfl ?_
        refine v_iconst hX dX10_ranks_130 ?_
        refine v_isub hX dX10_ranks_131 ?_
        obtain ⟨g46, hf⟩ := q_gd_some hf
        refine v_iaload hX g45 g46 dX10_ranks_132 ?_
        obtain ⟨g47, hf⟩ := q_gd_some hf
        refine v_iastore hX g45 g47 dX10_ranks_133 ?_
        obtain ⟨I48, e49, hf⟩ := q_lt_nm hf
        rw [e49]
        refine v_iinc 4 (lw := [(5, .int (q_i (v5 + (-1)))), (0, .ref p0), (1, .int (q_i p1)), (2, .int (q_i p2)), (3, .long (q_l p3))]) hX dX10_ranks_134 rfl (by decide) rfl ?_
        refine v_goto (tgt := 83) hX dX10_ranks_137 (by decide) ?_
        refine v_sub (lv' := [(0, .ref p0), (1, .int (q_i p1)), (2, .int (q_i p2)), (3, .long (q_l p3)), (5, .int (q_i (v5 + (-1))))]) [1, 2, 3, 4, 0] rfl ?_
        exact ih _ _ hf
set_option maxRecDepth 20000 in
theorem l_X10_ranks_17 {X : q_X} {S : q_S} {R : q_HR} {p0 : Nat} {p1 : Int} {Iz : q_HI} (hX : q_C X cX10_ranks 6 RX10 none "ranks") (hE : q_E X 0 0 none S R Iz) {k : Int → q_HI → Option (q_HI)} (hk : ∀ (v2 : Int) (I : q_HI), k v2 I = some Iz → q_V X rmX10_ranks cX10_ranks 6 0 0 177 [(0, .ref p0), (1, .int (q_i p1))] [] S R I) :
    ∀ (n : Nat), ∀ (v2 : Int) (I : q_HI), f_X10_ranks_L17 S R p0 p1 k n v2 I = some Iz → q_V X rmX10_ranks cX10_ranks 6 0 0 17 [(0, .ref p0), (1, .int (q_i p1)), (2, .int (q_i v2))] [] S R I := by
  intro n
  induction n with
  | zero =>
    intro v2 I hf
    cases (show (none : Option (q_HI)) = some _ from hf)
  | succ n ih =>
    intro v2 I hf
    rw [f_X10_ranks_L17] at hf
    refine v_iload_n 2 2 hX dX10_ranks_17 rfl rfl ?_
    refine v_aload_n 0 0 hX dX10_ranks_18 rfl rfl ?_
    obtain ⟨g8, hf⟩ := q_gd_some hf
    obtain ⟨g9, hf⟩ := q_gd_some hf
    refine v_getA hX fa_RX10_23 (fun _ _ => rfl) g8 g9 (by decide) dX10_ranks_19 ?_
    refine v_iload_n 1 1 hX dX10_ranks_22 rfl rfl ?_
    obtain ⟨g10, hf⟩ := q_gd_some hf
    refine v_iaload hX g9 g10 dX10_ranks_23 ?_
    obtain ⟨g11, hf⟩ := q_gd_some hf
    obtain ⟨g12, hf⟩ := q_gd_some hf
    refine v_icmp_ge (tgt := 177) hX g11 g12 dX10_ranks_24 (by decide) (fun c13 => ?_) (fun c13 => ?_)
    · replace hf := q_ifp c13 hf
      refine v_sub (lv' := [(0, .ref p0), (1, .int (q_i p1))]) [0, 1] rfl ?_
      exact hk _ _ hf
    · replace hf := q_ifn c13 hf
      refine v_iconst hX dX10_ranks_27 ?_
      refine v_istore_n 3 (lw := [(3, .int (q_i 0)), (0, .ref p0), (1, .int (q_i p1)), (2, .int (q_i v2))]) hX dX10_ranks_28 rfl (by decide) rfl ?_
      refine v_sub (lv' := [(0, .ref p0), (1, .int (q_i p1)), (2, .int (q_i v2)), (3, .int (q_i 0))]) [1, 2, 3, 0] rfl ?_
      refine l_X10_ranks_29 hX hE (fun w28 I29 hk => ?_) 100 _ _ hf
      clear hf
      have hf := hk
      clear hk
      refine v_aload_n 0 0 hX dX10_ranks_71 rfl rfl ?_
      refine v_lconst 1 hX dX10_ranks_72 (by decide) ?_
      obtain ⟨r30, h31, hf⟩ := q_bd_some hf
      refine v_callV (As := [.long (q_l 1)]) (rest := []) (st1 := [.long (q_l r30)]) (some (.long (q_l r30))) hX mv_RX10_164 (c_X10_far h31) ⟨rfl, rfl⟩ ⟨Nat.le_of_ble_eq_true rfl, Nat.le_of_ble_eq_true rfl⟩ g8 rfl rfl (Nat.le_of_ble_eq_true rfl) ⟨Nat.le_of_ble_eq_true rfl, Nat.le_of_ble_eq_true rfl⟩ dX10_ranks_73 rfl ?_
      refine v_lstore_n 3 (lw := [(3, .long (q_l r30)), (0, .ref p0), (1, .int (q_i p1)), (2, .int (q_i v2))]) hX dX10_ranks_76 rfl (by decide) rfl ?_
      refine v_aload_n 0 1 hX dX10_ranks_77 rfl rfl ?_
      refine v_getI hX fa_RX10_189 (fun _ _ => rfl) g8 dX10_ranks_78 ?_
      obtain ⟨x32, e33, hf⟩ := q_lt_nm hf
      rw [e33]
      refine v_istore (lw := [(5, .int (q_i x32)), (3, .long (q_l r30)), (0, .ref p0), (1, .int (q_i p1)), (2, .int (q_i v2))]) hX dX10_ranks_81 (by decide) rfl ?_
      refine v_sub (lv' := [(0, .ref p0), (1, .int (q_i p1)), (2, .int (q_i v2)), (3, .long (q_l r30)), (5, .int (q_i x32))]) [2, 3, 4, 1, 0] rfl ?_
      refine l_X10_ranks_83 hX hE (fun w50 I51 hk => ?_) 100 _ _ hf
      clear hf
      have hf := hk
      clear hk
      refine v_aload_n 0 0 hX dX10_ranks_140 rfl rfl ?_
      obtain ⟨g52, hf⟩ := q_gd_some hf
      refine v_getA hX fa_RX10_42 (fun _ _ => rfl) g8 g52 (by decide) dX10_ranks_141 ?_
      refine v_iload 4 hX dX10_ranks_144 rfl ?_
      refine v_lload_n 3 3 hX dX10_ranks_146 rfl rfl ?_
      obtain ⟨g53, hf⟩ := q_gd_some hf
      refine v_lastore hX g52 g53 dX10_ranks_147 ?_
      obtain ⟨I54, e55, hf⟩ := q_lt_nm hf
      rw [e55]
      refine v_aload_n 0 0 hX dX10_ranks_148 rfl rfl ?_
      obtain ⟨g56, hf⟩ := q_gd_some hf
      refine v_getA hX fa_RX10_39 (fun _ _ => rfl) g8 g56 (by decide) dX10_ranks_149 ?_
      refine v_iload 4 hX dX10_ranks_152 rfl ?_
      refine v_bipush 10 hX dX10_ranks_154 (by decide) ?_
      refine v_iload_n 1 1 hX dX10_ranks_156 rfl rfl ?_
      refine v_imul hX dX10_ranks_157 ?_
      refine v_iload_n 2 2 hX dX10_ranks_158 rfl rfl ?_
      refine v_iadd hX dX10_ranks_159 ?_
      obtain ⟨g57, hf⟩ := q_gd_some hf
      refine v_iastore hX g56 g57 dX10_ranks_160 ?_
      obtain ⟨I58, e59, hf⟩ := q_lt_nm hf
      rw [e59]
      refine v_aload_n 0 0 hX dX10_ranks_161 rfl rfl ?_
      refine v_dup hX dX10_ranks_162 rfl ?_
      refine v_getI hX fa_RX10_189 (fun _ _ => rfl) g8 dX10_ranks_163 ?_
      refine v_iconst hX dX10_ranks_166 ?_
      refine v_iadd hX dX10_ranks_167 ?_
      refine v_putI hX fa_RX10_189 rfl g8 dX10_ranks_168 ?_
      obtain ⟨I60, e61, hf⟩ := q_lt_nm hf
      rw [e61]
      refine v_iinc 2 (lw := [(2, .int (q_i (v2 + 1))), (0, .ref p0), (1, .int (q_i p1)), (3, .long (q_l r30)), (5, .int (q_i w50))]) hX dX10_ranks_171 rfl (by decide) rfl ?_
      refine v_goto (tgt := 17) hX dX10_ranks_174 (by decide) ?_
      refine v_sub (lv' := [(0, .ref p0), (1, .int (q_i p1)), (2, .int (q_i (v2 + 1)))]) [1, 2, 0] rfl ?_
      exact ih _ _ hf
set_option maxRecDepth 20000 in
theorem l_X10_ranks_7 {X : q_X} {S : q_S} {R : q_HR} {p0 : Nat} {Iz : q_HI} (hX : q_C X cX10_ranks 6 RX10 none "ranks") (hE : q_E X 0 0 none S R Iz) {k : Int → q_HI → Option (q_HI)} (hk : ∀ (v1 : Int) (I : q_HI), k v1 I = some Iz → q_V X rmX10_ranks cX10_ranks 6 0 0 183 [] [] S R I) :
    ∀ (n : Nat), ∀ (v1 : Int) (I : q_HI), f_X10_ranks_L7 S R p0 k n v1 I = some Iz → q_V X rmX10_ranks cX10_ranks 6 0 0 7 [(0, .ref p0), (1, .int (q_i v1))] [] S R I := by
  intro n
  induction n with
  | zero =>
    intro v1 I hf
    cases (show (none : Option (q_HI)) = some _ from hf)
  | succ n ih =>
    intro v1 I hf
    rw [f_X10_ranks_L7] at hf
    refine v_iload_n 1 1 hX dX10_ranks_7 rfl rfl ?_
    refine v_aload_n 0 0 hX dX10_ranks_8 rfl rfl ?_
    obtain ⟨g4, hf⟩ := q_gd_some hf
    refine v_getI hX fa_RX10_61 (fun _ _ => rfl) g4 dX10_ranks_9 ?_
    obtain ⟨g5, hf⟩ := q_gd_some hf
    obtain ⟨g6, hf⟩ := q_gd_some hf
    refine v_icmp_ge (tgt := 183) hX g5 g6 dX10_ranks_12 (by decide) (fun c7 => ?_) (fun c7 => ?_)
    · replace hf := q_ifp c7 hf
      refine v_sub (lv' := []) [] rfl ?_
      exact hk _ _ hf
    · replace hf := q_ifn c7 hf
      refine v_iconst hX dX10_ranks_15 ?_
      refine v_istore_n 2 (lw := [(2, .int (q_i 0)), (0, .ref p0), (1, .int (q_i v1))]) hX dX10_ranks_16 rfl (by decide) rfl ?_
      refine v_sub (lv' := [(0, .ref p0), (1, .int (q_i v1)), (2, .int (q_i 0))]) [1, 2, 0] rfl ?_
      refine l_X10_ranks_17 hX hE (fun w62 I63 hk => ?_) 100 _ _ hf
      clear hf
      have hf := hk
      clear hk
      refine v_iinc 1 (lw := [(1, .int (q_i (v1 + 1))), (0, .ref p0)]) hX dX10_ranks_177 rfl (by decide) rfl ?_
      refine v_goto (tgt := 7) hX dX10_ranks_180 (by decide) ?_
      refine v_sub (lv' := [(0, .ref p0), (1, .int (q_i (v1 + 1)))]) [1, 0] rfl ?_
      exact ih _ _ hf
set_option maxRecDepth 20000 in
theorem c_X10_ranks {S : q_S} {R : q_HR} {I : q_HI} {a0 : Nat} {Iz : q_HI} (hf : f_X10_ranks S R I a0 = some Iz) : ∀ (l : Launch) (D : va_G) (cy : Nat → ClassId) (B : Nat), Met l yX10_ranks [Cond.code yX10_ranks cX10_ranks 6 none] rmX10_ranks (q_Pc B D cy [.ref a0] S R I) (q_Qc B D cy none S R Iz) 0 0 (fun q => B ≤ q) := by
  refine q_met (lv := [(0, .ref a0)]) (own := RX10) (nm := "ranks") (by decide) rfl rfl (Nat.le_of_ble_eq_true rfl) rfl (fun X hX hE => ?_)
  unfold f_X10_ranks at hf
  refine v_aload_n 0 0 hX dX10_ranks_0 rfl rfl ?_
  refine v_iconst hX dX10_ranks_1 ?_
  obtain ⟨g1, hf⟩ := q_gd_some hf
  refine v_putI hX fa_RX10_189 rfl g1 dX10_ranks_2 ?_
  obtain ⟨I2, e3, hf⟩ := q_lt_nm hf
  rw [e3]
  refine v_iconst hX dX10_ranks_5 ?_
  refine v_istore_n 1 (lw := [(1, .int (q_i 0)), (0, .ref a0)]) hX dX10_ranks_6 rfl (by decide) rfl ?_
  refine v_sub (lv' := [(0, .ref a0), (1, .int (q_i 0))]) [1, 0] rfl ?_
  refine l_X10_ranks_7 hX hE (fun w64 I65 hk => ?_) 100 _ _ hf
  clear hf
  have hf := hk
  clear hk
  cases hf
  exact v_vret hX hE (Nat.le_of_ble_eq_true rfl) (Nat.le_of_ble_eq_true rfl) dX10_ranks_183
noncomputable def f_X10_nearestSample (S : q_S) (R : q_HR) (I : q_HI) (a0 : Nat) (a1 : Int) : Option (Int × q_HI) := q_gd (S.1 a0 = 11) (q_lt (q_up I a0 0 0) fun I2 => q_gd (r_i a1) (if 0 ≤ a1 then q_gd (r_i (I2 a0 7)) (if I2 a0 7 = 0 then some ((-5), I2) else q_bd (f_X10_lays S R I2 a0 0) fun I8 => q_bd (f_X10_ranks S R I8 a0) fun I10 => q_gd (r_i (I10 a0 24)) (if I10 a0 24 ≤ a1 then some ((-1), I10) else q_gd (S.1 (R a0 22) = 12) (q_gd ((0 : Int) ≤ a1 ∧ a1 < (S.2.1 (R a0 22) : Int)) (some (I10 (R a0 22) (Int.toNat a1), I10))))) else some ((-3), I2)))
abbrev rmX10_nearestSample : Room := { frames := 4, cells := 0, slots := 0, locals := 105 }
set_option maxRecDepth 20000 in
theorem c_X10_nearestSample {S : q_S} {R : q_HR} {I : q_HI} {a0 : Nat} {a1 : Int} {rz : Int} {Iz : q_HI} (hf : f_X10_nearestSample S R I a0 a1 = some (rz, Iz)) : ∀ (l : Launch) (D : va_G) (cy : Nat → ClassId) (B : Nat), Met l yX10_nearestSample [Cond.code yX10_nearestSample cX10_nearestSample 2 (some .int)] rmX10_nearestSample (q_Pc B D cy [.ref a0, .int (q_i a1)] S R I) (q_Qc B D cy (some (.int (q_i rz))) S R Iz) 0 0 (fun q => B ≤ q) := by
  refine q_met (lv := [(0, .ref a0), (1, .int (q_i a1))]) (own := RX10) (nm := "nearestSample") (by decide) rfl rfl (Nat.le_of_ble_eq_true rfl) rfl (fun X hX hE => ?_)
  unfold f_X10_nearestSample at hf
  refine v_aload_n 0 0 hX dX10_nearestSample_0 rfl rfl ?_
  refine v_iconst hX dX10_nearestSample_1 ?_
  obtain ⟨g1, hf⟩ := q_gd_some hf
  refine v_putI hX fa_RX10_1 rfl g1 dX10_nearestSample_2 ?_
  obtain ⟨I2, e3, hf⟩ := q_lt_nm hf
  rw [e3]
  refine v_iload_n 1 1 hX dX10_nearestSample_5 rfl rfl ?_
  obtain ⟨g4, hf⟩ := q_gd_some hf
  refine v_if_ge (tgt := 12) hX g4 dX10_nearestSample_6 (by decide) (fun c5 => ?_) (fun c5 => ?_)
  · replace hf := q_ifp c5 hf
    refine v_aload_n 0 0 hX dX10_nearestSample_12 rfl rfl ?_
    refine v_getI hX fa_RX10_70 (fun _ _ => rfl) g1 dX10_nearestSample_13 ?_
    obtain ⟨g6, hf⟩ := q_gd_some hf
    refine v_if_ne (tgt := 22) hX g6 dX10_nearestSample_16 (by decide) (fun c7 => ?_) (fun c7 => ?_)
    · replace hf := q_ifp c7 hf
      refine v_bipush (-5) hX dX10_nearestSample_19 (by decide) ?_
      cases hf
      exact v_iret hX hE (Nat.le_of_ble_eq_true rfl) (Nat.le_of_ble_eq_true rfl) dX10_nearestSample_21
    · replace hf := q_ifn c7 hf
      refine v_aload_n 0 0 hX dX10_nearestSample_22 rfl rfl ?_
      refine v_iconst hX dX10_nearestSample_23 ?_
      obtain ⟨I8, h9, hf⟩ := q_bd_some hf
      refine v_callV (As := [.int (q_i 0)]) (rest := []) (st1 := []) none hX mv_RX10_143 (c_X10_lays h9) ⟨rfl, rfl⟩ ⟨Nat.le_of_ble_eq_true rfl, Nat.le_of_ble_eq_true rfl⟩ g1 rfl rfl (Nat.le_of_ble_eq_true rfl) ⟨Nat.le_of_ble_eq_true rfl, Nat.le_of_ble_eq_true rfl⟩ dX10_nearestSample_24 rfl ?_
      refine v_aload_n 0 0 hX dX10_nearestSample_27 rfl rfl ?_
      obtain ⟨I10, h11, hf⟩ := q_bd_some hf
      refine v_callV (As := []) (rest := []) (st1 := []) none hX mv_RX10_192 (c_X10_ranks h11) ⟨rfl, rfl⟩ ⟨Nat.le_of_ble_eq_true rfl, Nat.le_of_ble_eq_true rfl⟩ g1 rfl rfl (Nat.le_of_ble_eq_true rfl) ⟨Nat.le_of_ble_eq_true rfl, Nat.le_of_ble_eq_true rfl⟩ dX10_nearestSample_28 rfl ?_
      refine v_iload_n 1 1 hX dX10_nearestSample_31 rfl rfl ?_
      refine v_aload_n 0 0 hX dX10_nearestSample_32 rfl rfl ?_
      refine v_getI hX fa_RX10_189 (fun _ _ => rfl) g1 dX10_nearestSample_33 ?_
      obtain ⟨g12, hf⟩ := q_gd_some hf
      refine v_icmp_ge (tgt := 48) hX g4 g12 dX10_nearestSample_36 (by decide) (fun c13 => ?_) (fun c13 => ?_)
      · replace hf := q_ifp c13 hf
        refine v_iconst hX dX10_nearestSample_48 ?_
        cases hf
        exact v_iret hX hE (Nat.le_of_ble_eq_true rfl) (Nat.le_of_ble_eq_true rfl) dX10_nearestSample_49
      · replace hf := q_ifn c13 hf
        refine v_aload_n 0 0 hX dX10_nearestSample_39 rfl rfl ?_
        obtain ⟨g14, hf⟩ := q_gd_some hf
        refine v_getA hX fa_RX10_39 (fun _ _ => rfl) g1 g14 (by decide) dX10_nearestSample_40 ?_
        refine v_iload_n 1 1 hX dX10_nearestSample_43 rfl rfl ?_
        obtain ⟨g15, hf⟩ := q_gd_some hf
        refine v_iaload hX g14 g15 dX10_nearestSample_44 ?_
        refine v_goto (tgt := 49) hX dX10_nearestSample_45 (by decide) ?_
        cases hf
        exact v_iret hX hE (Nat.le_of_ble_eq_true rfl) (Nat.le_of_ble_eq_true rfl) dX10_nearestSample_49
  · replace hf := q_ifn c5 hf
    refine v_bipush (-3) hX dX10_nearestSample_9 (by decide) ?_
    cases hf
    exact v_iret hX hE (Nat.le_of_ble_eq_true rfl) (Nat.le_of_ble_eq_true rfl) dX10_nearestSample_11
noncomputable def f_X10_vote_L67 (S : q_S) (R : q_HR) (I : q_HI) (p0 : Nat) (p1 : Int) (p2 : Int) (p3 : Int) (p4 : Int) (k : Int → Int → Option (Int × q_HI)) : Nat → Int → Int → Option (Int × q_HI)
  | 0, _, _ => none
  | n + 1, v5, v6 => q_gd (S.1 p0 = 11) (q_gd (r_i v6) (q_gd (r_i (I p0 24)) (if I p0 24 ≤ v6 then k v5 v6 else q_gd (r_i p1) (if p1 ≤ v6 then k v5 v6 else q_gd (S.1 (R p0 22) = 12) (q_gd ((0 : Int) ≤ v6 ∧ v6 < (S.2.1 (R p0 22) : Int)) (q_gd (r_i (I (R p0 22) (Int.toNat v6))) (q_gd ((0 : Int) ≤ p4 ∧ p4 < (S.2.1 (R p0 22) : Int)) (q_gd (r_i (I (R p0 22) (Int.toNat p4))) (q_gd (r_i (Int.tdiv (I (R p0 22) (Int.toNat v6)) 10)) (q_gd (r_i (Int.tdiv (I (R p0 22) (Int.toNat p4)) 10)) (if Int.tdiv (I (R p0 22) (Int.toNat v6)) 10 = Int.tdiv (I (R p0 22) (Int.toNat p4)) 10 then q_lt (v5 + 1) fun x35 => f_X10_vote_L67 S R I p0 p1 p2 p3 p4 k n x35 (v6 + 1) else q_lt (v5 + 0) fun x37 => f_X10_vote_L67 S R I p0 p1 p2 p3 p4 k n x37 (v6 + 1))))))))))))
noncomputable def f_X10_vote_L46 (S : q_S) (R : q_HR) (I : q_HI) (p0 : Nat) (p1 : Int) (k : Int → Int → Int → Option (Int × q_HI)) : Nat → Int → Int → Int → Option (Int × q_HI)
  | 0, _, _, _ => none
  | n + 1, v2, v3, v4 => q_gd (S.1 p0 = 11) (q_gd (r_i v4) (q_gd (r_i (I p0 24)) (if I p0 24 ≤ v4 then k v2 v3 v4 else q_gd (r_i p1) (if p1 ≤ v4 then k v2 v3 v4 else f_X10_vote_L67 S R I p0 p1 v2 v3 v4 (fun w39 w40 => q_gd (r_i w39) (q_gd (r_i v3) (if v3 < w39 then q_gd (S.1 (R p0 22) = 12) (q_gd ((0 : Int) ≤ v4 ∧ v4 < (S.2.1 (R p0 22) : Int)) (q_gd (r_i (I (R p0 22) (Int.toNat v4))) (q_lt (Int.tdiv (I (R p0 22) (Int.toNat v4)) 10) fun x47 => f_X10_vote_L46 S R I p0 p1 k n x47 w39 (v4 + 1)))) else f_X10_vote_L46 S R I p0 p1 k n v2 v3 (v4 + 1)))) 100 0 0))))
noncomputable def f_X10_vote (S : q_S) (R : q_HR) (I : q_HI) (a0 : Nat) (a1 : Int) : Option (Int × q_HI) := q_gd (S.1 a0 = 11) (q_lt (q_up I a0 0 0) fun I2 => q_gd (r_i a1) (q_bd (f_X10_isIn a1 1 64) fun r5 => q_gd (r_i r5) (if r5 = 0 then some ((-3), I2) else q_gd (r_i (I2 a0 7)) (if I2 a0 7 = 0 then some ((-5), I2) else q_bd (f_X10_lays S R I2 a0 0) fun I11 => q_bd (f_X10_ranks S R I11 a0) fun I13 => f_X10_vote_L46 S R I13 a0 a1 (fun w49 w50 w51 => some (w49, I13)) 100 (-1) 0 0))))
abbrev rmX10_vote : Room := { frames := 4, cells := 0, slots := 0, locals := 105 }
set_option maxRecDepth 20000 in
theorem l_X10_vote_67 {X : q_X} {S : q_S} {R : q_HR} {I : q_HI} {p0 : Nat} {p1 : Int} {p2 : Int} {p3 : Int} {p4 : Int} {rz : Int} {Iz : q_HI} (hX : q_C X cX10_vote 7 RX10 (some .int) "vote") (hE : q_E X 0 0 (some (.int (q_i rz))) S R Iz) {k : Int → Int → Option (Int × q_HI)} (hk : ∀ (v5 : Int) (v6 : Int), k v5 v6 = some (rz, Iz) → q_V X rmX10_vote cX10_vote 7 0 0 121 [(0, .ref p0), (1, .int (q_i p1)), (2, .int (q_i p2)), (3, .int (q_i p3)), (4, .int (q_i p4)), (5, .int (q_i v5))] [] S R I) :
    ∀ (n : Nat), ∀ (v5 : Int) (v6 : Int), f_X10_vote_L67 S R I p0 p1 p2 p3 p4 k n v5 v6 = some (rz, Iz) → q_V X rmX10_vote cX10_vote 7 0 0 67 [(0, .ref p0), (1, .int (q_i p1)), (2, .int (q_i p2)), (3, .int (q_i p3)), (4, .int (q_i p4)), (5, .int (q_i v5)), (6, .int (q_i v6))] [] S R I := by
  intro n
  induction n with
  | zero =>
    intro v5 v6 hf
    cases (show (none : Option (Int × q_HI)) = some _ from hf)
  | succ n ih =>
    intro v5 v6 hf
    rw [f_X10_vote_L67] at hf
    refine v_iload 6 hX dX10_vote_67 rfl ?_
    refine v_aload_n 0 0 hX dX10_vote_69 rfl rfl ?_
    obtain ⟨g21, hf⟩ := q_gd_some hf
    refine v_getI hX fa_RX10_189 (fun _ _ => rfl) g21 dX10_vote_70 ?_
    obtain ⟨g22, hf⟩ := q_gd_some hf
    obtain ⟨g23, hf⟩ := q_gd_some hf
    refine v_icmp_ge (tgt := 121) hX g22 g23 dX10_vote_73 (by decide) (fun c24 => ?_) (fun c24 => ?_)
    · replace hf := q_ifp c24 hf
      refine v_sub (lv' := [(0, .ref p0), (1, .int (q_i p1)), (2, .int (q_i p2)), (3, .int (q_i p3)), (4, .int (q_i p4)), (5, .int (q_i v5))]) [0, 1, 2, 3, 4, 5] rfl ?_
      exact hk _ _ hf
    · replace hf := q_ifn c24 hf
      refine v_iload 6 hX dX10_vote_76 rfl ?_
      refine v_iload_n 1 1 hX dX10_vote_78 rfl rfl ?_
      obtain ⟨g25, hf⟩ := q_gd_some hf
      refine v_icmp_ge (tgt := 121) hX g22 g25 dX10_vote_79 (by decide) (fun c26 => ?_) (fun c26 => ?_)
      · replace hf := q_ifp c26 hf
        refine v_sub (lv' := [(0, .ref p0), (1, .int (q_i p1)), (2, .int (q_i p2)), (3, .int (q_i p3)), (4, .int (q_i p4)), (5, .int (q_i v5))]) [0, 1, 2, 3, 4, 5] rfl ?_
        exact hk _ _ hf
      · replace hf := q_ifn c26 hf
        refine v_iload 5 hX dX10_vote_82 rfl ?_
        refine v_aload_n 0 0 hX dX10_vote_84 rfl rfl ?_
        obtain ⟨g27, hf⟩ := q_gd_some hf
        refine v_getA hX fa_RX10_39 (fun _ _ => rfl) g21 g27 (by decide) dX10_vote_85 ?_
        refine v_iload 6 hX dX10_vote_88 rfl ?_
        obtain ⟨g28, hf⟩ := q_gd_some hf
        refine v_iaload hX g27 g28 dX10_vote_90 ?_
        refine v_bipush 10 hX dX10_vote_91 (by decide) ?_
        obtain ⟨g29, hf⟩ := q_gd_some hf
        refine v_idiv hX g29 (by unfold r_i; omega) (by decide) dX10_vote_93 ?_
        refine v_aload_n 0 0 hX dX10_vote_94 rfl rfl ?_
        refine v_getA hX fa_RX10_39 (fun _ _ => rfl) g21 g27 (by decide) dX10_vote_95 ?_
        refine v_iload 4 hX dX10_vote_98 rfl ?_
        obtain ⟨g30, hf⟩ := q_gd_some hf
        refine v_iaload hX g27 g30 dX10_vote_100 ?_
        refine v_bipush 10 hX dX10_vote_101 (by decide) ?_
        obtain ⟨g31, hf⟩ := q_gd_some hf
        refine v_idiv hX g31 (by unfold r_i; omega) (by decide) dX10_vote_103 ?_
        obtain ⟨g32, hf⟩ := q_gd_some hf
        obtain ⟨g33, hf⟩ := q_gd_some hf
        refine v_icmp_ne (tgt := 111) hX g32 g33 dX10_vote_104 (by decide) (fun c34 => ?_) (fun c34 => ?_)
        · replace hf := q_ifp c34 hf
          refine v_iconst hX dX10_vote_107 ?_
          refine v_goto (tgt := 112) hX dX10_vote_108 (by decide) ?_
          refine v_iadd hX dX10_vote_112 ?_
          obtain ⟨x35, e36, hf⟩ := q_lt_nm hf
          rw [e36]
          refine v_istore (lw := [(5, .int (q_i x35)), (0, .ref p0), (1, .int (q_i p1)), (2, .int (q_i p2)), (3, .int (q_i p3)), (4, .int (q_i p4)), (6, .int (q_i v6))]) hX dX10_vote_113 (by decide) rfl ?_
          refine v_iinc 6 (lw := [(6, .int (q_i (v6 + 1))), (5, .int (q_i x35)), (0, .ref p0), (1, .int (q_i p1)), (2, .int (q_i p2)), (3, .int (q_i p3)), (4, .int (q_i p4))]) hX dX10_vote_115 rfl (by decide) rfl ?_
          refine v_goto (tgt := 67) hX dX10_vote_118 (by decide) ?_
          refine v_sub (lv' := [(0, .ref p0), (1, .int (q_i p1)), (2, .int (q_i p2)), (3, .int (q_i p3)), (4, .int (q_i p4)), (5, .int (q_i x35)), (6, .int (q_i (v6 + 1)))]) [2, 3, 4, 5, 6, 1, 0] rfl ?_
          exact ih _ _ hf
        · replace hf := q_ifn c34 hf
          refine v_iconst hX dX10_vote_111 ?_
          refine v_iadd hX dX10_vote_112 ?_
          obtain ⟨x37, e38, hf⟩ := q_lt_nm hf
          rw [e38]
          refine v_istore (lw := [(5, .int (q_i x37)), (0, .ref p0), (1, .int (q_i p1)), (2, .int (q_i p2)), (3, .int (q_i p3)), (4, .int (q_i p4)), (6, .int (q_i v6))]) hX dX10_vote_113 (by decide) rfl ?_
          refine v_iinc 6 (lw := [(6, .int (q_i (v6 + 1))), (5, .int (q_i x37)), (0, .ref p0), (1, .int (q_i p1)), (2, .int (q_i p2)), (3, .int (q_i p3)), (4, .int (q_i p4))]) hX dX10_vote_115 rfl (by decide) rfl ?_
          refine v_goto (tgt := 67) hX dX10_vote_118 (by decide) ?_
          refine v_sub (lv' := [(0, .ref p0), (1, .int (q_i p1)), (2, .int (q_i p2)), (3, .int (q_i p3)), (4, .int (q_i p4)), (5, .int (q_i x37)), (6, .int (q_i (v6 + 1)))]) [2, 3, 4, 5, 6, 1, 0] rfl ?_
          exact ih _ _ hf
set_option maxRecDepth 20000 in
theorem l_X10_vote_46 {X : q_X} {S : q_S} {R : q_HR} {I : q_HI} {p0 : Nat} {p1 : Int} {rz : Int} {Iz : q_HI} (hX : q_C X cX10_vote 7 RX10 (some .int) "vote") (hE : q_E X 0 0 (some (.int (q_i rz))) S R Iz) {k : Int → Int → Int → Option (Int × q_HI)} (hk : ∀ (v2 : Int) (v3 : Int) (v4 : Int), k v2 v3 v4 = some (rz, Iz) → q_V X rmX10_vote cX10_vote 7 0 0 150 [(2, .int (q_i v2))] [] S R I) :
    ∀ (n : Nat), ∀ (v2 : Int) (v3 : Int) (v4 : Int), f_X10_vote_L46 S R I p0 p1 k n v2 v3 v4 = some (rz, Iz) → q_V X rmX10_vote cX10_vote 7 0 0 46 [(0, .ref p0), (1, .int (q_i p1)), (2, .int (q_i v2)), (3, .int (q_i v3)), (4, .int (q_i v4))] [] S R I := by
  intro n
  induction n with
  | zero =>
    intro v2 v3 v4 hf
    cases (show (none : Option (Int × q_HI)) = some _ from hf)
  | succ n ih =>
    intro v2 v3 v4 hf
    rw [f_X10_vote_L46] at hf
    refine v_iload 4 hX dX10_vote_46 rfl ?_
    refine v_aload_n 0 0 hX dX10_vote_48 rfl rfl ?_
    obtain ⟨g15, hf⟩ := q_gd_some hf
    refine v_getI hX fa_RX10_189 (fun _ _ => rfl) g15 dX10_vote_49 ?_
    obtain ⟨g16, hf⟩ := q_gd_some hf
    obtain ⟨g17, hf⟩ := q_gd_some hf
    refine v_icmp_ge (tgt := 150) hX g16 g17 dX10_vote_52 (by decide) (fun c18 => ?_) (fun c18 => ?_)
    · replace hf := q_ifp c18 hf
      refine v_sub (lv' := [(2, .int (q_i v2))]) [2] rfl ?_
      exact hk _ _ _ hf
    · replace hf := q_ifn c18 hf
      refine v_iload 4 hX dX10_vote_55 rfl ?_
      refine v_iload_n 1 1 hX dX10_vote_57 rfl rfl ?_
      obtain ⟨g19, hf⟩ := q_gd_some hf
      refine v_icmp_ge (tgt := 150) hX g16 g19 dX10_vote_58 (by decide) (fun c20 => ?_) (fun c20 => ?_)
      · replace hf := q_ifp c20 hf
        refine v_sub (lv' := [(2, .int (q_i v2))]) [2] rfl ?_
        exact hk _ _ _ hf
      · replace hf := q_ifn c20 hf
        refine v_iconst hX dX10_vote_61 ?_
        refine v_istore (lw := [(5, .int (q_i 0)), (0, .ref p0), (1, .int (q_i p1)), (2, .int (q_i v2)), (3, .int (q_i v3)), (4, .int (q_i v4))]) hX dX10_vote_62 (by decide) rfl ?_
        refine v_iconst hX dX10_vote_64 ?_
        refine v_istore (lw := [(6, .int (q_i 0)), (5, .int (q_i 0)), (0, .ref p0), (1, .int (q_i p1)), (2, .int (q_i v2)), (3, .int (q_i v3)), (4, .int (q_i v4))]) hX dX10_vote_65 (by decide) rfl ?_
        refine v_sub (lv' := [(0, .ref p0), (1, .int (q_i p1)), (2, .int (q_i v2)), (3, .int (q_i v3)), (4, .int (q_i v4)), (5, .int (q_i 0)), (6, .int (q_i 0))]) [2, 3, 4, 5, 6, 1, 0] rfl ?_
        refine l_X10_vote_67 hX hE (fun w39 w40 hk => ?_) 100 _ _ hf
        clear hf
        have hf := hk
        clear hk
        refine v_iload 5 hX dX10_vote_121 rfl ?_
        refine v_iload_n 3 3 hX dX10_vote_123 rfl rfl ?_
        obtain ⟨g41, hf⟩ := q_gd_some hf
        obtain ⟨g42, hf⟩ := q_gd_some hf
        refine v_icmp_gt (tgt := 130) hX g41 g42 dX10_vote_124 (by decide) (fun c43 => ?_) (fun c43 => ?_)
        · replace hf := q_ifp c43 hf
          refine v_aload_n 0 0 hX dX10_vote_130 rfl rfl ?_
          obtain ⟨g44, hf⟩ := q_gd_some hf
          refine v_getA hX fa_RX10_39 (fun _ _ => rfl) g15 g44 (by decide) dX10_vote_131 ?_
          refine v_iload 4 hX dX10_vote_134 rfl ?_
          obtain ⟨g45, hf⟩ := q_gd_some hf
          refine v_iaload hX g44 g45 dX10_vote_136 ?_
          refine v_bipush 10 hX dX10_vote_137 (by decide) ?_
          obtain ⟨g46, hf⟩ := q_gd_some hf
          refine v_idiv hX g46 (by unfold r_i; omega) (by decide) dX10_vote_139 ?_
          obtain ⟨x47, e48, hf⟩ := q_lt_nm hf
          rw [e48]
          refine v_istore_n 2 (lw := [(2, .int (q_i x47)), (0, .ref p0), (1, .int (q_i p1)), (3, .int (q_i v3)), (4, .int (q_i v4)), (5, .int (q_i w39))]) hX dX10_vote_140 rfl (by decide) rfl ?_
          refine v_iload 5 hX dX10_vote_141 rfl ?_
          refine v_istore_n 3 (lw := [(3, .int (q_i w39)), (2, .int (q_i x47)), (0, .ref p0), (1, .int (q_i p1)), (4, .int (q_i v4)), (5, .int (q_i w39))]) hX dX10_vote_143 rfl (by decide) rfl ?_
          refine v_iinc 4 (lw := [(4, .int (q_i (v4 + 1))), (3, .int (q_i w39)), (2, .int (q_i x47)), (0, .ref p0), (1, .int (q_i p1)), (5, .int (q_i w39))]) hX dX10_vote_144 rfl (by decide) rfl ?_
          refine v_goto (tgt := 46) hX dX10_vote_147 (by decide) ?_
          refine v_sub (lv' := [(0, .ref p0), (1, .int (q_i p1)), (2, .int (q_i x47)), (3, .int (q_i w39)), (4, .int (q_i (v4 + 1)))]) [3, 4, 2, 1, 0] rfl ?_
          exact ih _ _ _ hf
        · replace hf := q_ifn c43 hf
          refine v_goto (tgt := 144) hX dX10_vote_127 (by decide) ?_
          refine v_iinc 4 (lw := [(4, .int (q_i (v4 + 1))), (0, .ref p0), (1, .int (q_i p1)), (2, .int (q_i v2)), (3, .int (q_i v3)), (5, .int (q_i w39))]) hX dX10_vote_144 rfl (by decide) rfl ?_
          refine v_goto (tgt := 46) hX dX10_vote_147 (by decide) ?_
          refine v_sub (lv' := [(0, .ref p0), (1, .int (q_i p1)), (2, .int (q_i v2)), (3, .int (q_i v3)), (4, .int (q_i (v4 + 1)))]) [1, 2, 3, 4, 0] rfl ?_
          exact ih _ _ _ hf
set_option maxRecDepth 20000 in
theorem c_X10_vote {S : q_S} {R : q_HR} {I : q_HI} {a0 : Nat} {a1 : Int} {rz : Int} {Iz : q_HI} (hf : f_X10_vote S R I a0 a1 = some (rz, Iz)) : ∀ (l : Launch) (D : va_G) (cy : Nat → ClassId) (B : Nat), Met l yX10_vote [Cond.code yX10_vote cX10_vote 7 (some .int)] rmX10_vote (q_Pc B D cy [.ref a0, .int (q_i a1)] S R I) (q_Qc B D cy (some (.int (q_i rz))) S R Iz) 0 0 (fun q => B ≤ q) := by
  refine q_met (lv := [(0, .ref a0), (1, .int (q_i a1))]) (own := RX10) (nm := "vote") (by decide) rfl rfl (Nat.le_of_ble_eq_true rfl) rfl (fun X hX hE => ?_)
  unfold f_X10_vote at hf
  refine v_aload_n 0 0 hX dX10_vote_0 rfl rfl ?_
  refine v_iconst hX dX10_vote_1 ?_
  obtain ⟨g1, hf⟩ := q_gd_some hf
  refine v_putI hX fa_RX10_1 rfl g1 dX10_vote_2 ?_
  obtain ⟨I2, e3, hf⟩ := q_lt_nm hf
  rw [e3]
  refine v_iload_n 1 1 hX dX10_vote_5 rfl rfl ?_
  obtain ⟨g4, hf⟩ := q_gd_some hf
  refine v_i2l hX g4 dX10_vote_6 ?_
  refine v_lconst 1 hX dX10_vote_7 (by decide) ?_
  refine v_ldc2 64 hX kl_RX10_195 (by decide) dX10_vote_8 ?_
  obtain ⟨r5, h6, hf⟩ := q_bd_some hf
  refine v_callS (As := [.long (q_l a1), .long (q_l 1), .long (q_l 64)]) (rest := []) (st1 := [.int (q_i r5)]) (some (.int (q_i r5))) hX ms_RX10_84 (c_X10_isIn h6) ⟨rfl, rfl⟩ ⟨Nat.le_of_ble_eq_true rfl, Nat.le_of_ble_eq_true rfl⟩ rfl rfl (Nat.le_of_ble_eq_true rfl) ⟨Nat.le_of_ble_eq_true rfl, Nat.le_of_ble_eq_true rfl⟩ dX10_vote_11 rfl ?_
  obtain ⟨g7, hf⟩ := q_gd_some hf
  refine v_if_ne (tgt := 20) hX g7 dX10_vote_14 (by decide) (fun c8 => ?_) (fun c8 => ?_)
  · replace hf := q_ifp c8 hf
    refine v_bipush (-3) hX dX10_vote_17 (by decide) ?_
    cases hf
    exact v_iret hX hE (Nat.le_of_ble_eq_true rfl) (Nat.le_of_ble_eq_true rfl) dX10_vote_19
  · replace hf := q_ifn c8 hf
    refine v_aload_n 0 0 hX dX10_vote_20 rfl rfl ?_
    refine v_getI hX fa_RX10_70 (fun _ _ => rfl) g1 dX10_vote_21 ?_
    obtain ⟨g9, hf⟩ := q_gd_some hf
    refine v_if_ne (tgt := 30) hX g9 dX10_vote_24 (by decide) (fun c10 => ?_) (fun c10 => ?_)
    · replace hf := q_ifp c10 hf
      refine v_bipush (-5) hX dX10_vote_27 (by decide) ?_
      cases hf
      exact v_iret hX hE (Nat.le_of_ble_eq_true rfl) (Nat.le_of_ble_eq_true rfl) dX10_vote_29
    · replace hf := q_ifn c10 hf
      refine v_aload_n 0 0 hX dX10_vote_30 rfl rfl ?_
      refine v_iconst hX dX10_vote_31 ?_
      obtain ⟨I11, h12, hf⟩ := q_bd_some hf
      refine v_callV (As := [.int (q_i 0)]) (rest := []) (st1 := []) none hX mv_RX10_143 (c_X10_lays h12) ⟨rfl, rfl⟩ ⟨Nat.le_of_ble_eq_true rfl, Nat.le_of_ble_eq_true rfl⟩ g1 rfl rfl (Nat.le_of_ble_eq_true rfl) ⟨Nat.le_of_ble_eq_true rfl, Nat.le_of_ble_eq_true rfl⟩ dX10_vote_32 rfl ?_
      refine v_aload_n 0 0 hX dX10_vote_35 rfl rfl ?_
      obtain ⟨I13, h14, hf⟩ := q_bd_some hf
      refine v_callV (As := []) (rest := []) (st1 := []) none hX mv_RX10_192 (c_X10_ranks h14) ⟨rfl, rfl⟩ ⟨Nat.le_of_ble_eq_true rfl, Nat.le_of_ble_eq_true rfl⟩ g1 rfl rfl (Nat.le_of_ble_eq_true rfl) ⟨Nat.le_of_ble_eq_true rfl, Nat.le_of_ble_eq_true rfl⟩ dX10_vote_36 rfl ?_
      refine v_iconst hX dX10_vote_39 ?_
      refine v_istore_n 2 (lw := [(2, .int (q_i (-1))), (0, .ref a0), (1, .int (q_i a1))]) hX dX10_vote_40 rfl (by decide) rfl ?_
      refine v_iconst hX dX10_vote_41 ?_
      refine v_istore_n 3 (lw := [(3, .int (q_i 0)), (2, .int (q_i (-1))), (0, .ref a0), (1, .int (q_i a1))]) hX dX10_vote_42 rfl (by decide) rfl ?_
      refine v_iconst hX dX10_vote_43 ?_
      refine v_istore (lw := [(4, .int (q_i 0)), (3, .int (q_i 0)), (2, .int (q_i (-1))), (0, .ref a0), (1, .int (q_i a1))]) hX dX10_vote_44 (by decide) rfl ?_
      refine v_sub (lv' := [(0, .ref a0), (1, .int (q_i a1)), (2, .int (q_i (-1))), (3, .int (q_i 0)), (4, .int (q_i 0))]) [3, 4, 2, 1, 0] rfl ?_
      refine l_X10_vote_46 hX hE (fun w49 w50 w51 hk => ?_) 100 _ _ _ hf
      clear hf
      have hf := hk
      clear hk
      refine v_iload_n 2 0 hX dX10_vote_150 rfl rfl ?_
      cases hf
      exact v_iret hX hE (Nat.le_of_ble_eq_true rfl) (Nat.le_of_ble_eq_true rfl) dX10_vote_151
noncomputable def f_X10_tested (S : q_S) (R : q_HR) (I : q_HI) (a0 : Nat) (a1 : Int) (a2 : Int) : Option (Int × q_HI) := q_bd (f_X10_placeOf a1 a2) fun r1 => q_gd (S.1 a0 = 11) (q_bd2 (f_X10_nearest S R I a0 r1 (-1) a1 a2) fun r4 I5 => some (r4, I5))
abbrev rmX10_tested : Room := { frames := 4, cells := 0, slots := 0, locals := 103 }
set_option maxRecDepth 20000 in
theorem c_X10_tested {S : q_S} {R : q_HR} {I : q_HI} {a0 : Nat} {a1 : Int} {a2 : Int} {rz : Int} {Iz : q_HI} (hf : f_X10_tested S R I a0 a1 a2 = some (rz, Iz)) : ∀ (l : Launch) (D : va_G) (cy : Nat → ClassId) (B : Nat), Met l yX10_tested [Cond.code yX10_tested cX10_tested 3 (some .int)] rmX10_tested (q_Pc B D cy [.ref a0, .int (q_i a1), .int (q_i a2)] S R I) (q_Qc B D cy (some (.int (q_i rz))) S R Iz) 0 0 (fun q => B ≤ q) := by
  refine q_met (lv := [(0, .ref a0), (1, .int (q_i a1)), (2, .int (q_i a2))]) (own := RX10) (nm := "tested") (by decide) rfl rfl (Nat.le_of_ble_eq_true rfl) rfl (fun X hX hE => ?_)
  unfold f_X10_tested at hf
  refine v_aload_n 0 0 hX dX10_tested_0 rfl rfl ?_
  refine v_iload_n 1 1 hX dX10_tested_1 rfl rfl ?_
  refine v_iload_n 2 2 hX dX10_tested_2 rfl rfl ?_
  obtain ⟨r1, h2, hf⟩ := q_bd_some hf
  refine v_callS (As := [.int (q_i a1), .int (q_i a2)]) (rest := [.ref a0]) (st1 := [.int (q_i r1), .ref a0]) (some (.int (q_i r1))) hX ms_RX10_151 (c_X10_placeOf h2) ⟨rfl, rfl⟩ ⟨Nat.le_of_ble_eq_true rfl, Nat.le_of_ble_eq_true rfl⟩ rfl rfl (Nat.le_of_ble_eq_true rfl) ⟨Nat.le_of_ble_eq_true rfl, Nat.le_of_ble_eq_true rfl⟩ dX10_tested_3 rfl ?_
  refine v_iconst hX dX10_tested_6 ?_
  refine v_iload_n 1 1 hX dX10_tested_7 rfl rfl ?_
  refine v_iload_n 2 2 hX dX10_tested_8 rfl rfl ?_
  obtain ⟨g3, hf⟩ := q_gd_some hf
  obtain ⟨r4, I5, h6, hf⟩ := q_bd2_some hf
  refine v_callV (As := [.int (q_i r1), .int (q_i (-1)), .int (q_i a1), .int (q_i a2)]) (rest := []) (st1 := [.int (q_i r4)]) (some (.int (q_i r4))) hX mv_RX10_171 (c_X10_nearest h6) ⟨rfl, rfl⟩ ⟨Nat.le_of_ble_eq_true rfl, Nat.le_of_ble_eq_true rfl⟩ g3 rfl rfl (Nat.le_of_ble_eq_true rfl) ⟨Nat.le_of_ble_eq_true rfl, Nat.le_of_ble_eq_true rfl⟩ dX10_tested_9 rfl ?_
  cases hf
  exact v_iret hX hE (Nat.le_of_ble_eq_true rfl) (Nat.le_of_ble_eq_true rfl) dX10_tested_12
noncomputable def f_X10_leaveOneOut (S : q_S) (R : q_HR) (I : q_HI) (a0 : Nat) (a1 : Int) (a2 : Int) : Option (Int × q_HI) := q_gd (S.1 a0 = 11) (q_lt (q_up I a0 0 0) fun I2 => q_bd (f_X10_isSample S R I2 a0 a1 a2) fun r4 => q_gd (r_i r4) (if r4 = 0 then some ((-2), I2) else q_bd (f_X10_lays S R I2 a0 0) fun I8 => q_bd2 (f_X10_tested S R I8 a0 a1 a2) fun r10 I11 => some (r10, I11)))
abbrev rmX10_leaveOneOut : Room := { frames := 5, cells := 0, slots := 0, locals := 125 }
set_option maxRecDepth 20000 in
theorem c_X10_leaveOneOut {S : q_S} {R : q_HR} {I : q_HI} {a0 : Nat} {a1 : Int} {a2 : Int} {rz : Int} {Iz : q_HI} (hf : f_X10_leaveOneOut S R I a0 a1 a2 = some (rz, Iz)) : ∀ (l : Launch) (D : va_G) (cy : Nat → ClassId) (B : Nat), Met l yX10_leaveOneOut [Cond.code yX10_leaveOneOut cX10_leaveOneOut 3 (some .int)] rmX10_leaveOneOut (q_Pc B D cy [.ref a0, .int (q_i a1), .int (q_i a2)] S R I) (q_Qc B D cy (some (.int (q_i rz))) S R Iz) 0 0 (fun q => B ≤ q) := by
  refine q_met (lv := [(0, .ref a0), (1, .int (q_i a1)), (2, .int (q_i a2))]) (own := RX10) (nm := "leaveOneOut") (by decide) rfl rfl (Nat.le_of_ble_eq_true rfl) rfl (fun X hX hE => ?_)
  unfold f_X10_leaveOneOut at hf
  refine v_aload_n 0 0 hX dX10_leaveOneOut_0 rfl rfl ?_
  refine v_iconst hX dX10_leaveOneOut_1 ?_
  obtain ⟨g1, hf⟩ := q_gd_some hf
  refine v_putI hX fa_RX10_1 rfl g1 dX10_leaveOneOut_2 ?_
  obtain ⟨I2, e3, hf⟩ := q_lt_nm hf
  rw [e3]
  refine v_aload_n 0 0 hX dX10_leaveOneOut_5 rfl rfl ?_
  refine v_iload_n 1 1 hX dX10_leaveOneOut_6 rfl rfl ?_
  refine v_iload_n 2 2 hX dX10_leaveOneOut_7 rfl rfl ?_
  obtain ⟨r4, h5, hf⟩ := q_bd_some hf
  refine v_callV (As := [.int (q_i a1), .int (q_i a2)]) (rest := []) (st1 := [.int (q_i r4)]) (some (.int (q_i r4))) hX mv_RX10_154 (c_X10_isSample h5) ⟨rfl, rfl⟩ ⟨Nat.le_of_ble_eq_true rfl, Nat.le_of_ble_eq_true rfl⟩ g1 rfl rfl (Nat.le_of_ble_eq_true rfl) ⟨Nat.le_of_ble_eq_true rfl, Nat.le_of_ble_eq_true rfl⟩ dX10_leaveOneOut_8 rfl ?_
  obtain ⟨g6, hf⟩ := q_gd_some hf
  refine v_if_ne (tgt := 17) hX g6 dX10_leaveOneOut_11 (by decide) (fun c7 => ?_) (fun c7 => ?_)
  · replace hf := q_ifp c7 hf
    refine v_bipush (-2) hX dX10_leaveOneOut_14 (by decide) ?_
    cases hf
    exact v_iret hX hE (Nat.le_of_ble_eq_true rfl) (Nat.le_of_ble_eq_true rfl) dX10_leaveOneOut_16
  · replace hf := q_ifn c7 hf
    refine v_aload_n 0 0 hX dX10_leaveOneOut_17 rfl rfl ?_
    refine v_iconst hX dX10_leaveOneOut_18 ?_
    obtain ⟨I8, h9, hf⟩ := q_bd_some hf
    refine v_callV (As := [.int (q_i 0)]) (rest := []) (st1 := []) none hX mv_RX10_143 (c_X10_lays h9) ⟨rfl, rfl⟩ ⟨Nat.le_of_ble_eq_true rfl, Nat.le_of_ble_eq_true rfl⟩ g1 rfl rfl (Nat.le_of_ble_eq_true rfl) ⟨Nat.le_of_ble_eq_true rfl, Nat.le_of_ble_eq_true rfl⟩ dX10_leaveOneOut_19 rfl ?_
    refine v_aload_n 0 0 hX dX10_leaveOneOut_22 rfl rfl ?_
    refine v_iload_n 1 1 hX dX10_leaveOneOut_23 rfl rfl ?_
    refine v_iload_n 2 2 hX dX10_leaveOneOut_24 rfl rfl ?_
    obtain ⟨r10, I11, h12, hf⟩ := q_bd2_some hf
    refine v_callV (As := [.int (q_i a1), .int (q_i a2)]) (rest := []) (st1 := [.int (q_i r10)]) (some (.int (q_i r10))) hX mv_RX10_197 (c_X10_tested h12) ⟨rfl, rfl⟩ ⟨Nat.le_of_ble_eq_true rfl, Nat.le_of_ble_eq_true rfl⟩ g1 rfl rfl (Nat.le_of_ble_eq_true rfl) ⟨Nat.le_of_ble_eq_true rfl, Nat.le_of_ble_eq_true rfl⟩ dX10_leaveOneOut_25 rfl ?_
    cases hf
    exact v_iret hX hE (Nat.le_of_ble_eq_true rfl) (Nat.le_of_ble_eq_true rfl) dX10_leaveOneOut_28
noncomputable def f_X10_confusion_L34 (S : q_S) (R : q_HR) (p0 : Nat) (p1 : Int) (p2 : Int) (k : Int → Int → q_HI → Option (Int × q_HI)) : Nat → Int → Int → q_HI → Option (Int × q_HI)
  | 0, _, _, _ => none
  | n + 1, v3, v4, I => q_gd (S.1 p0 = 11) (q_gd (S.1 (R p0 13) = 12) (q_gd ((0 : Int) ≤ p1 ∧ p1 < (S.2.1 (R p0 13) : Int)) (q_gd (r_i v4) (q_gd (r_i (I (R p0 13) (Int.toNat p1))) (if I (R p0 13) (Int.toNat p1) ≤ v4 then k v3 v4 I else q_bd2 (f_X10_tested S R I p0 p1 v4) fun r20 I21 => q_gd (r_i r20) (q_gd (r_i p2) (if r20 = p2 then q_lt (v3 + 1) fun x26 => f_X10_confusion_L34 S R p0 p1 p2 k n x26 (v4 + 1) I21 else q_lt (v3 + 0) fun x28 => f_X10_confusion_L34 S R p0 p1 p2 k n x28 (v4 + 1) I21)))))))
noncomputable def f_X10_confusion (S : q_S) (R : q_HR) (I : q_HI) (a0 : Nat) (a1 : Int) (a2 : Int) : Option (Int × q_HI) := q_gd (S.1 a0 = 11) (q_lt (q_up I a0 0 0) fun I2 => q_bd (f_X10_isClass S R I2 a0 a1) fun r4 => q_gd (r_i r4) (if r4 = 0 then some ((-2), I2) else q_bd (f_X10_isClass S R I2 a0 a2) fun r8 => q_gd (r_i r8) (if r8 = 0 then some ((-2), I2) else q_bd (f_X10_lays S R I2 a0 0) fun I12 => f_X10_confusion_L34 S R a0 a1 a2 (fun w30 w31 I32 => some (w30, I32)) 100 0 0 I12)))
abbrev rmX10_confusion : Room := { frames := 5, cells := 0, slots := 0, locals := 125 }
set_option maxRecDepth 20000 in
theorem l_X10_confusion_34 {X : q_X} {S : q_S} {R : q_HR} {p0 : Nat} {p1 : Int} {p2 : Int} {rz : Int} {Iz : q_HI} (hX : q_C X cX10_confusion 5 RX10 (some .int) "confusion") (hE : q_E X 0 0 (some (.int (q_i rz))) S R Iz) {k : Int → Int → q_HI → Option (Int × q_HI)} (hk : ∀ (v3 : Int) (v4 : Int) (I : q_HI), k v3 v4 I = some (rz, Iz) → q_V X rmX10_confusion cX10_confusion 5 0 0 70 [(3, .int (q_i v3))] [] S R I) :
    ∀ (n : Nat), ∀ (v3 : Int) (v4 : Int) (I : q_HI), f_X10_confusion_L34 S R p0 p1 p2 k n v3 v4 I = some (rz, Iz) → q_V X rmX10_confusion cX10_confusion 5 0 0 34 [(0, .ref p0), (1, .int (q_i p1)), (2, .int (q_i p2)), (3, .int (q_i v3)), (4, .int (q_i v4))] [] S R I := by
  intro n
  induction n with
  | zero =>
    intro v3 v4 I hf
    cases (show (none : Option (Int × q_HI)) = some _ from hf)
  | succ n ih =>
    intro v3 v4 I hf
    rw [f_X10_confusion_L34] at hf
    refine v_iload 4 hX dX10_confusion_34 rfl ?_
    refine v_aload_n 0 0 hX dX10_confusion_36 rfl rfl ?_
    obtain ⟨g14, hf⟩ := q_gd_some hf
    obtain ⟨g15, hf⟩ := q_gd_some hf
    refine v_getA hX fa_RX10_23 (fun _ _ => rfl) g14 g15 (by decide) dX10_confusion_37 ?_
    refine v_iload_n 1 1 hX dX10_confusion_40 rfl rfl ?_
    obtain ⟨g16, hf⟩ := q_gd_some hf
    refine v_iaload hX g15 g16 dX10_confusion_41 ?_
    obtain ⟨g17, hf⟩ := q_gd_some hf
    obtain ⟨g18, hf⟩ := q_gd_some hf
    refine v_icmp_ge (tgt := 70) hX g17 g18 dX10_confusion_42 (by decide) (fun c19 => ?_) (fun c19 => ?_)
    · replace hf := q_ifp c19 hf
      refine v_sub (lv' := [(3, .int (q_i v3))]) [3] rfl ?_
      exact hk _ _ _ hf
    · replace hf := q_ifn c19 hf
      refine v_iload_n 3 3 hX dX10_confusion_45 rfl rfl ?_
      refine v_aload_n 0 0 hX dX10_confusion_46 rfl rfl ?_
      refine v_iload_n 1 1 hX dX10_confusion_47 rfl rfl ?_
      refine v_iload 4 hX dX10_confusion_48 rfl ?_
      obtain ⟨r20, I21, h22, hf⟩ := q_bd2_some hf
      refine v_callV (As := [.int (q_i p1), .int (q_i v4)]) (rest := [.int (q_i v3)]) (st1 := [.int (q_i r20), .int (q_i v3)]) (some (.int (q_i r20))) hX mv_RX10_197 (c_X10_tested h22) ⟨rfl, rfl⟩ ⟨Nat.le_of_ble_eq_true rfl, Nat.le_of_ble_eq_true rfl⟩ g14 rfl rfl (Nat.le_of_ble_eq_true rfl) ⟨Nat.le_of_ble_eq_true rfl, Nat.le_of_ble_eq_true rfl⟩ dX10_confusion_50 rfl ?_
      refine v_iload_n 2 2 hX dX10_confusion_53 rfl rfl ?_
      obtain ⟨g23, hf⟩ := q_gd_some hf
      obtain ⟨g24, hf⟩ := q_gd_some hf
      refine v_icmp_ne (tgt := 61) hX g23 g24 dX10_confusion_54 (by decide) (fun c25 => ?_) (fun c25 => ?_)
      · replace hf := q_ifp c25 hf
        refine v_iconst hX dX10_confusion_57 ?_
        refine v_goto (tgt := 62) hX dX10_confusion_58 (by decide) ?_
        refine v_iadd hX dX10_confusion_62 ?_
        obtain ⟨x26, e27, hf⟩ := q_lt_nm hf
        rw [e27]
        refine v_istore_n 3 (lw := [(3, .int (q_i x26)), (0, .ref p0), (1, .int (q_i p1)), (2, .int (q_i p2)), (4, .int (q_i v4))]) hX dX10_confusion_63 rfl (by decide) rfl ?_
        refine v_iinc 4 (lw := [(4, .int (q_i (v4 + 1))), (3, .int (q_i x26)), (0, .ref p0), (1, .int (q_i p1)), (2, .int (q_i p2))]) hX dX10_confusion_64 rfl (by decide) rfl ?_
        refine v_goto (tgt := 34) hX dX10_confusion_67 (by decide) ?_
        refine v_sub (lv' := [(0, .ref p0), (1, .int (q_i p1)), (2, .int (q_i p2)), (3, .int (q_i x26)), (4, .int (q_i (v4 + 1)))]) [2, 3, 4, 1, 0] rfl ?_
        exact ih _ _ _ hf
      · replace hf := q_ifn c25 hf
        refine v_iconst hX dX10_confusion_61 ?_
        refine v_iadd hX dX10_confusion_62 ?_
        obtain ⟨x28, e29, hf⟩ := q_lt_nm hf
        rw [e29]
        refine v_istore_n 3 (lw := [(3, .int (q_i x28)), (0, .ref p0), (1, .int (q_i p1)), (2, .int (q_i p2)), (4, .int (q_i v4))]) hX dX10_confusion_63 rfl (by decide) rfl ?_
        refine v_iinc 4 (lw := [(4, .int (q_i (v4 + 1))), (3, .int (q_i x28)), (0, .ref p0), (1, .int (q_i p1)), (2, .int (q_i p2))]) hX dX10_confusion_64 rfl (by decide) rfl ?_
        refine v_goto (tgt := 34) hX dX10_confusion_67 (by decide) ?_
        refine v_sub (lv' := [(0, .ref p0), (1, .int (q_i p1)), (2, .int (q_i p2)), (3, .int (q_i x28)), (4, .int (q_i (v4 + 1)))]) [2, 3, 4, 1, 0] rfl ?_
        exact ih _ _ _ hf
set_option maxRecDepth 20000 in
theorem c_X10_confusion {S : q_S} {R : q_HR} {I : q_HI} {a0 : Nat} {a1 : Int} {a2 : Int} {rz : Int} {Iz : q_HI} (hf : f_X10_confusion S R I a0 a1 a2 = some (rz, Iz)) : ∀ (l : Launch) (D : va_G) (cy : Nat → ClassId) (B : Nat), Met l yX10_confusion [Cond.code yX10_confusion cX10_confusion 5 (some .int)] rmX10_confusion (q_Pc B D cy [.ref a0, .int (q_i a1), .int (q_i a2)] S R I) (q_Qc B D cy (some (.int (q_i rz))) S R Iz) 0 0 (fun q => B ≤ q) := by
  refine q_met (lv := [(0, .ref a0), (1, .int (q_i a1)), (2, .int (q_i a2))]) (own := RX10) (nm := "confusion") (by decide) rfl rfl (Nat.le_of_ble_eq_true rfl) rfl (fun X hX hE => ?_)
  unfold f_X10_confusion at hf
  refine v_aload_n 0 0 hX dX10_confusion_0 rfl rfl ?_
  refine v_iconst hX dX10_confusion_1 ?_
  obtain ⟨g1, hf⟩ := q_gd_some hf
  refine v_putI hX fa_RX10_1 rfl g1 dX10_confusion_2 ?_
  obtain ⟨I2, e3, hf⟩ := q_lt_nm hf
  rw [e3]
  refine v_aload_n 0 0 hX dX10_confusion_5 rfl rfl ?_
  refine v_iload_n 1 1 hX dX10_confusion_6 rfl rfl ?_
  obtain ⟨r4, h5, hf⟩ := q_bd_some hf
  refine v_callV (As := [.int (q_i a1)]) (rest := []) (st1 := [.int (q_i r4)]) (some (.int (q_i r4))) hX mv_RX10_148 (c_X10_isClass h5) ⟨rfl, rfl⟩ ⟨Nat.le_of_ble_eq_true rfl, Nat.le_of_ble_eq_true rfl⟩ g1 rfl rfl (Nat.le_of_ble_eq_true rfl) ⟨Nat.le_of_ble_eq_true rfl, Nat.le_of_ble_eq_true rfl⟩ dX10_confusion_7 rfl ?_
  obtain ⟨g6, hf⟩ := q_gd_some hf
  refine v_if_eq (tgt := 21) hX g6 dX10_confusion_10 (by decide) (fun c7 => ?_) (fun c7 => ?_)
  · replace hf := q_ifp c7 hf
    refine v_bipush (-2) hX dX10_confusion_21 (by decide) ?_
    cases hf
    exact v_iret hX hE (Nat.le_of_ble_eq_true rfl) (Nat.le_of_ble_eq_true rfl) dX10_confusion_23
  · replace hf := q_ifn c7 hf
    refine v_aload_n 0 0 hX dX10_confusion_13 rfl rfl ?_
    refine v_iload_n 2 2 hX dX10_confusion_14 rfl rfl ?_
    obtain ⟨r8, h9, hf⟩ := q_bd_some hf
    refine v_callV (As := [.int (q_i a2)]) (rest := []) (st1 := [.int (q_i r8)]) (some (.int (q_i r8))) hX mv_RX10_148 (c_X10_isClass h9) ⟨rfl, rfl⟩ ⟨Nat.le_of_ble_eq_true rfl, Nat.le_of_ble_eq_true rfl⟩ g1 rfl rfl (Nat.le_of_ble_eq_true rfl) ⟨Nat.le_of_ble_eq_true rfl, Nat.le_of_ble_eq_true rfl⟩ dX10_confusion_15 rfl ?_
    obtain ⟨g10, hf⟩ := q_gd_some hf
    refine v_if_ne (tgt := 24) hX g10 dX10_confusion_18 (by decide) (fun c11 => ?_) (fun c11 => ?_)
    · replace hf := q_ifp c11 hf
      refine v_bipush (-2) hX dX10_confusion_21 (by decide) ?_
      cases hf
      exact v_iret hX hE (Nat.le_of_ble_eq_true rfl) (Nat.le_of_ble_eq_true rfl) dX10_confusion_23
    · replace hf := q_ifn c11 hf
      refine v_aload_n 0 0 hX dX10_confusion_24 rfl rfl ?_
      refine v_iconst hX dX10_confusion_25 ?_
      obtain ⟨I12, h13, hf⟩ := q_bd_some hf
      refine v_callV (As := [.int (q_i 0)]) (rest := []) (st1 := []) none hX mv_RX10_143 (c_X10_lays h13) ⟨rfl, rfl⟩ ⟨Nat.le_of_ble_eq_true rfl, Nat.le_of_ble_eq_true rfl⟩ g1 rfl rfl (Nat.le_of_ble_eq_true rfl) ⟨Nat.le_of_ble_eq_true rfl, Nat.le_of_ble_eq_true rfl⟩ dX10_confusion_26 rfl ?_
      refine v_iconst hX dX10_confusion_29 ?_
      refine v_istore_n 3 (lw := [(3, .int (q_i 0)), (0, .ref a0), (1, .int (q_i a1)), (2, .int (q_i a2))]) hX dX10_confusion_30 rfl (by decide) rfl ?_
      refine v_iconst hX dX10_confusion_31 ?_
      refine v_istore (lw := [(4, .int (q_i 0)), (3, .int (q_i 0)), (0, .ref a0), (1, .int (q_i a1)), (2, .int (q_i a2))]) hX dX10_confusion_32 (by decide) rfl ?_
      refine v_sub (lv' := [(0, .ref a0), (1, .int (q_i a1)), (2, .int (q_i a2)), (3, .int (q_i 0)), (4, .int (q_i 0))]) [2, 3, 4, 1, 0] rfl ?_
      refine l_X10_confusion_34 hX hE (fun w30 w31 I32 hk => ?_) 100 _ _ _ hf
      clear hf
      have hf := hk
      clear hk
      refine v_iload_n 3 0 hX dX10_confusion_70 rfl rfl ?_
      cases hf
      exact v_iret hX hE (Nat.le_of_ble_eq_true rfl) (Nat.le_of_ble_eq_true rfl) dX10_confusion_71
noncomputable def f_X10_correctOnes_L14 (S : q_S) (R : q_HR) (p0 : Nat) (p2 : Int) (k : Int → Int → q_HI → Option (Int × q_HI)) : Nat → Int → Int → q_HI → Option (Int × q_HI)
  | 0, _, _, _ => none
  | n + 1, v1, v3, I => q_gd (S.1 p0 = 11) (q_gd (S.1 (R p0 13) = 12) (q_gd ((0 : Int) ≤ p2 ∧ p2 < (S.2.1 (R p0 13) : Int)) (q_gd (r_i v3) (q_gd (r_i (I (R p0 13) (Int.toNat p2))) (if I (R p0 13) (Int.toNat p2) ≤ v3 then k v1 v3 I else q_bd2 (f_X10_tested S R I p0 p2 v3) fun r11 I12 => q_gd (r_i r11) (q_gd (r_i p2) (if r11 = p2 then q_lt (v1 + 1) fun x17 => f_X10_correctOnes_L14 S R p0 p2 k n x17 (v3 + 1) I12 else q_lt (v1 + 0) fun x19 => f_X10_correctOnes_L14 S R p0 p2 k n x19 (v3 + 1) I12)))))))
noncomputable def f_X10_correctOnes_L4 (S : q_S) (R : q_HR) (p0 : Nat) (k : Int → Int → q_HI → Option (Int × q_HI)) : Nat → Int → Int → q_HI → Option (Int × q_HI)
  | 0, _, _, _ => none
  | n + 1, v1, v2, I => q_gd (S.1 p0 = 11) (q_gd (r_i v2) (q_gd (r_i (I p0 4)) (if I p0 4 ≤ v2 then k v1 v2 I else f_X10_correctOnes_L14 S R p0 v2 (fun w21 w22 I23 => f_X10_correctOnes_L4 S R p0 k n w21 (v2 + 1) I23) 100 v1 0 I)))
noncomputable def f_X10_correctOnes (S : q_S) (R : q_HR) (I : q_HI) (a0 : Nat) : Option (Int × q_HI) := f_X10_correctOnes_L4 S R a0 (fun w24 w25 I26 => some (w24, I26)) 100 0 0 I
abbrev rmX10_correctOnes : Room := { frames := 5, cells := 0, slots := 0, locals := 125 }
set_option maxRecDepth 20000 in
theorem l_X10_correctOnes_14 {X : q_X} {S : q_S} {R : q_HR} {p0 : Nat} {p2 : Int} {rz : Int} {Iz : q_HI} (hX : q_C X cX10_correctOnes 4 RX10 (some .int) "correctOnes") (hE : q_E X 0 0 (some (.int (q_i rz))) S R Iz) {k : Int → Int → q_HI → Option (Int × q_HI)} (hk : ∀ (v1 : Int) (v3 : Int) (I : q_HI), k v1 v3 I = some (rz, Iz) → q_V X rmX10_correctOnes cX10_correctOnes 4 0 0 48 [(0, .ref p0), (1, .int (q_i v1)), (2, .int (q_i p2))] [] S R I) :
    ∀ (n : Nat), ∀ (v1 : Int) (v3 : Int) (I : q_HI), f_X10_correctOnes_L14 S R p0 p2 k n v1 v3 I = some (rz, Iz) → q_V X rmX10_correctOnes cX10_correctOnes 4 0 0 14 [(0, .ref p0), (1, .int (q_i v1)), (2, .int (q_i p2)), (3, .int (q_i v3))] [] S R I := by
  intro n
  induction n with
  | zero =>
    intro v1 v3 I hf
    cases (show (none : Option (Int × q_HI)) = some _ from hf)
  | succ n ih =>
    intro v1 v3 I hf
    rw [f_X10_correctOnes_L14] at hf
    refine v_iload_n 3 3 hX dX10_correctOnes_14 rfl rfl ?_
    refine v_aload_n 0 0 hX dX10_correctOnes_15 rfl rfl ?_
    obtain ⟨g5, hf⟩ := q_gd_some hf
    obtain ⟨g6, hf⟩ := q_gd_some hf
    refine v_getA hX fa_RX10_23 (fun _ _ => rfl) g5 g6 (by decide) dX10_correctOnes_16 ?_
    refine v_iload_n 2 2 hX dX10_correctOnes_19 rfl rfl ?_
    obtain ⟨g7, hf⟩ := q_gd_some hf
    refine v_iaload hX g6 g7 dX10_correctOnes_20 ?_
    obtain ⟨g8, hf⟩ := q_gd_some hf
    obtain ⟨g9, hf⟩ := q_gd_some hf
    refine v_icmp_ge (tgt := 48) hX g8 g9 dX10_correctOnes_21 (by decide) (fun c10 => ?_) (fun c10 => ?_)
    · replace hf := q_ifp c10 hf
      refine v_sub (lv' := [(0, .ref p0), (1, .int (q_i v1)), (2, .int (q_i p2))]) [0, 1, 2] rfl ?_
      exact hk _ _ _ hf
    · replace hf := q_ifn c10 hf
      refine v_iload_n 1 1 hX dX10_correctOnes_24 rfl rfl ?_
      refine v_aload_n 0 0 hX dX10_correctOnes_25 rfl rfl ?_
      refine v_iload_n 2 2 hX dX10_correctOnes_26 rfl rfl ?_
      refine v_iload_n 3 3 hX dX10_correctOnes_27 rfl rfl ?_
      obtain ⟨r11, I12, h13, hf⟩ := q_bd2_some hf
      refine v_callV (As := [.int (q_i p2), .int (q_i v3)]) (rest := [.int (q_i v1)]) (st1 := [.int (q_i r11), .int (q_i v1)]) (some (.int (q_i r11))) hX mv_RX10_197 (c_X10_tested h13) ⟨rfl, rfl⟩ ⟨Nat.le_of_ble_eq_true rfl, Nat.le_of_ble_eq_true rfl⟩ g5 rfl rfl (Nat.le_of_ble_eq_true rfl) ⟨Nat.le_of_ble_eq_true rfl, Nat.le_of_ble_eq_true rfl⟩ dX10_correctOnes_28 rfl ?_
      refine v_iload_n 2 2 hX dX10_correctOnes_31 rfl rfl ?_
      obtain ⟨g14, hf⟩ := q_gd_some hf
      obtain ⟨g15, hf⟩ := q_gd_some hf
      refine v_icmp_ne (tgt := 39) hX g14 g15 dX10_correctOnes_32 (by decide) (fun c16 => ?_) (fun c16 => ?_)
      · replace hf := q_ifp c16 hf
        refine v_iconst hX dX10_correctOnes_35 ?_
        refine v_goto (tgt := 40) hX dX10_correctOnes_36 (by decide) ?_
        refine v_iadd hX dX10_correctOnes_40 ?_
        obtain ⟨x17, e18, hf⟩ := q_lt_nm hf
        rw [e18]
        refine v_istore_n 1 (lw := [(1, .int (q_i x17)), (0, .ref p0), (2, .int (q_i p2)), (3, .int (q_i v3))]) hX dX10_correctOnes_41 rfl (by decide) rfl ?_
        refine v_iinc 3 (lw := [(3, .int (q_i (v3 + 1))), (1, .int (q_i x17)), (0, .ref p0), (2, .int (q_i p2))]) hX dX10_correctOnes_42 rfl (by decide) rfl ?_
        refine v_goto (tgt := 14) hX dX10_correctOnes_45 (by decide) ?_
        refine v_sub (lv' := [(0, .ref p0), (1, .int (q_i x17)), (2, .int (q_i p2)), (3, .int (q_i (v3 + 1)))]) [2, 1, 3, 0] rfl ?_
        exact ih _ _ _ hf
      · replace hf := q_ifn c16 hf
        refine v_iconst hX dX10_correctOnes_39 ?_
        refine v_iadd hX dX10_correctOnes_40 ?_
        obtain ⟨x19, e20, hf⟩ := q_lt_nm hf
        rw [e20]
        refine v_istore_n 1 (lw := [(1, .int (q_i x19)), (0, .ref p0), (2, .int (q_i p2)), (3, .int (q_i v3))]) hX dX10_correctOnes_41 rfl (by decide) rfl ?_
        refine v_iinc 3 (lw := [(3, .int (q_i (v3 + 1))), (1, .int (q_i x19)), (0, .ref p0), (2, .int (q_i p2))]) hX dX10_correctOnes_42 rfl (by decide) rfl ?_
        refine v_goto (tgt := 14) hX dX10_correctOnes_45 (by decide) ?_
        refine v_sub (lv' := [(0, .ref p0), (1, .int (q_i x19)), (2, .int (q_i p2)), (3, .int (q_i (v3 + 1)))]) [2, 1, 3, 0] rfl ?_
        exact ih _ _ _ hf
set_option maxRecDepth 20000 in
theorem l_X10_correctOnes_4 {X : q_X} {S : q_S} {R : q_HR} {p0 : Nat} {rz : Int} {Iz : q_HI} (hX : q_C X cX10_correctOnes 4 RX10 (some .int) "correctOnes") (hE : q_E X 0 0 (some (.int (q_i rz))) S R Iz) {k : Int → Int → q_HI → Option (Int × q_HI)} (hk : ∀ (v1 : Int) (v2 : Int) (I : q_HI), k v1 v2 I = some (rz, Iz) → q_V X rmX10_correctOnes cX10_correctOnes 4 0 0 54 [(1, .int (q_i v1))] [] S R I) :
    ∀ (n : Nat), ∀ (v1 : Int) (v2 : Int) (I : q_HI), f_X10_correctOnes_L4 S R p0 k n v1 v2 I = some (rz, Iz) → q_V X rmX10_correctOnes cX10_correctOnes 4 0 0 4 [(0, .ref p0), (1, .int (q_i v1)), (2, .int (q_i v2))] [] S R I := by
  intro n
  induction n with
  | zero =>
    intro v1 v2 I hf
    cases (show (none : Option (Int × q_HI)) = some _ from hf)
  | succ n ih =>
    intro v1 v2 I hf
    rw [f_X10_correctOnes_L4] at hf
    refine v_iload_n 2 2 hX dX10_correctOnes_4 rfl rfl ?_
    refine v_aload_n 0 0 hX dX10_correctOnes_5 rfl rfl ?_
    obtain ⟨g1, hf⟩ := q_gd_some hf
    refine v_getI hX fa_RX10_61 (fun _ _ => rfl) g1 dX10_correctOnes_6 ?_
    obtain ⟨g2, hf⟩ := q_gd_some hf
    obtain ⟨g3, hf⟩ := q_gd_some hf
    refine v_icmp_ge (tgt := 54) hX g2 g3 dX10_correctOnes_9 (by decide) (fun c4 => ?_) (fun c4 => ?_)
    · replace hf := q_ifp c4 hf
      refine v_sub (lv' := [(1, .int (q_i v1))]) [1] rfl ?_
      exact hk _ _ _ hf
    · replace hf := q_ifn c4 hf
      refine v_iconst hX dX10_correctOnes_12 ?_
      refine v_istore_n 3 (lw := [(3, .int (q_i 0)), (0, .ref p0), (1, .int (q_i v1)), (2, .int (q_i v2))]) hX dX10_correctOnes_13 rfl (by decide) rfl ?_
      refine v_sub (lv' := [(0, .ref p0), (1, .int (q_i v1)), (2, .int (q_i v2)), (3, .int (q_i 0))]) [1, 2, 3, 0] rfl ?_
      refine l_X10_correctOnes_14 hX hE (fun w21 w22 I23 hk => ?_) 100 _ _ _ hf
      clear hf
      have hf := hk
      clear hk
      refine v_iinc 2 (lw := [(2, .int (q_i (v2 + 1))), (0, .ref p0), (1, .int (q_i w21))]) hX dX10_correctOnes_48 rfl (by decide) rfl ?_
      refine v_goto (tgt := 4) hX dX10_correctOnes_51 (by decide) ?_
      refine v_sub (lv' := [(0, .ref p0), (1, .int (q_i w21)), (2, .int (q_i (v2 + 1)))]) [1, 2, 0] rfl ?_
      exact ih _ _ _ hf
set_option maxRecDepth 20000 in
theorem c_X10_correctOnes {S : q_S} {R : q_HR} {I : q_HI} {a0 : Nat} {rz : Int} {Iz : q_HI} (hf : f_X10_correctOnes S R I a0 = some (rz, Iz)) : ∀ (l : Launch) (D : va_G) (cy : Nat → ClassId) (B : Nat), Met l yX10_correctOnes [Cond.code yX10_correctOnes cX10_correctOnes 4 (some .int)] rmX10_correctOnes (q_Pc B D cy [.ref a0] S R I) (q_Qc B D cy (some (.int (q_i rz))) S R Iz) 0 0 (fun q => B ≤ q) := by
  refine q_met (lv := [(0, .ref a0)]) (own := RX10) (nm := "correctOnes") (by decide) rfl rfl (Nat.le_of_ble_eq_true rfl) rfl (fun X hX hE => ?_)
  unfold f_X10_correctOnes at hf
  refine v_iconst hX dX10_correctOnes_0 ?_
  refine v_istore_n 1 (lw := [(1, .int (q_i 0)), (0, .ref a0)]) hX dX10_correctOnes_1 rfl (by decide) rfl ?_
  refine v_iconst hX dX10_correctOnes_2 ?_
  refine v_istore_n 2 (lw := [(2, .int (q_i 0)), (1, .int (q_i 0)), (0, .ref a0)]) hX dX10_correctOnes_3 rfl (by decide) rfl ?_
  refine v_sub (lv' := [(0, .ref a0), (1, .int (q_i 0)), (2, .int (q_i 0))]) [2, 1, 0] rfl ?_
  refine l_X10_correctOnes_4 hX hE (fun w24 w25 I26 hk => ?_) 100 _ _ _ hf
  clear hf
  have hf := hk
  clear hk
  refine v_iload_n 1 0 hX dX10_correctOnes_54 rfl rfl ?_
  cases hf
  exact v_iret hX hE (Nat.le_of_ble_eq_true rfl) (Nat.le_of_ble_eq_true rfl) dX10_correctOnes_55
noncomputable def f_X10_correctCount (S : q_S) (R : q_HR) (I : q_HI) (a0 : Nat) : Option (Int × q_HI) := q_gd (S.1 a0 = 11) (q_lt (q_up I a0 0 0) fun I2 => q_bd (f_X10_lays S R I2 a0 0) fun I4 => q_bd2 (f_X10_correctOnes S R I4 a0) fun r6 I7 => some (r6, I7))
abbrev rmX10_correctCount : Room := { frames := 6, cells := 0, slots := 0, locals := 148 }
set_option maxRecDepth 20000 in
theorem c_X10_correctCount {S : q_S} {R : q_HR} {I : q_HI} {a0 : Nat} {rz : Int} {Iz : q_HI} (hf : f_X10_correctCount S R I a0 = some (rz, Iz)) : ∀ (l : Launch) (D : va_G) (cy : Nat → ClassId) (B : Nat), Met l yX10_correctCount [Cond.code yX10_correctCount cX10_correctCount 1 (some .int)] rmX10_correctCount (q_Pc B D cy [.ref a0] S R I) (q_Qc B D cy (some (.int (q_i rz))) S R Iz) 0 0 (fun q => B ≤ q) := by
  refine q_met (lv := [(0, .ref a0)]) (own := RX10) (nm := "correctCount") (by decide) rfl rfl (Nat.le_of_ble_eq_true rfl) rfl (fun X hX hE => ?_)
  unfold f_X10_correctCount at hf
  refine v_aload_n 0 0 hX dX10_correctCount_0 rfl rfl ?_
  refine v_iconst hX dX10_correctCount_1 ?_
  obtain ⟨g1, hf⟩ := q_gd_some hf
  refine v_putI hX fa_RX10_1 rfl g1 dX10_correctCount_2 ?_
  obtain ⟨I2, e3, hf⟩ := q_lt_nm hf
  rw [e3]
  refine v_aload_n 0 0 hX dX10_correctCount_5 rfl rfl ?_
  refine v_iconst hX dX10_correctCount_6 ?_
  obtain ⟨I4, h5, hf⟩ := q_bd_some hf
  refine v_callV (As := [.int (q_i 0)]) (rest := []) (st1 := []) none hX mv_RX10_143 (c_X10_lays h5) ⟨rfl, rfl⟩ ⟨Nat.le_of_ble_eq_true rfl, Nat.le_of_ble_eq_true rfl⟩ g1 rfl rfl (Nat.le_of_ble_eq_true rfl) ⟨Nat.le_of_ble_eq_true rfl, Nat.le_of_ble_eq_true rfl⟩ dX10_correctCount_7 rfl ?_
  refine v_aload_n 0 0 hX dX10_correctCount_10 rfl rfl ?_
  obtain ⟨r6, I7, h8, hf⟩ := q_bd2_some hf
  refine v_callV (As := []) (rest := []) (st1 := [.int (q_i r6)]) (some (.int (q_i r6))) hX mv_RX10_200 (c_X10_correctOnes h8) ⟨rfl, rfl⟩ ⟨Nat.le_of_ble_eq_true rfl, Nat.le_of_ble_eq_true rfl⟩ g1 rfl rfl (Nat.le_of_ble_eq_true rfl) ⟨Nat.le_of_ble_eq_true rfl, Nat.le_of_ble_eq_true rfl⟩ dX10_correctCount_11 rfl ?_
  cases hf
  exact v_iret hX hE (Nat.le_of_ble_eq_true rfl) (Nat.le_of_ble_eq_true rfl) dX10_correctCount_14
noncomputable def f_X10_correctWithout (S : q_S) (R : q_HR) (I : q_HI) (a0 : Nat) (a1 : Int) : Option (Int × q_HI) := q_gd (S.1 a0 = 11) (q_lt (q_up I a0 0 0) fun I2 => q_bd (f_X10_isSensor S R I2 a0 a1) fun r4 => q_gd (r_i r4) (if r4 = 0 then some ((-2), I2) else q_bd (f_X10_lays S R I2 a0 (q_shl 1 a1)) fun I8 => q_bd2 (f_X10_correctOnes S R I8 a0) fun r10 I11 => some (r10, I11)))
abbrev rmX10_correctWithout : Room := { frames := 6, cells := 0, slots := 0, locals := 148 }
set_option maxRecDepth 20000 in
theorem c_X10_correctWithout {S : q_S} {R : q_HR} {I : q_HI} {a0 : Nat} {a1 : Int} {rz : Int} {Iz : q_HI} (hf : f_X10_correctWithout S R I a0 a1 = some (rz, Iz)) : ∀ (l : Launch) (D : va_G) (cy : Nat → ClassId) (B : Nat), Met l yX10_correctWithout [Cond.code yX10_correctWithout cX10_correctWithout 2 (some .int)] rmX10_correctWithout (q_Pc B D cy [.ref a0, .int (q_i a1)] S R I) (q_Qc B D cy (some (.int (q_i rz))) S R Iz) 0 0 (fun q => B ≤ q) := by
  refine q_met (lv := [(0, .ref a0), (1, .int (q_i a1))]) (own := RX10) (nm := "correctWithout") (by decide) rfl rfl (Nat.le_of_ble_eq_true rfl) rfl (fun X hX hE => ?_)
  unfold f_X10_correctWithout at hf
  refine v_aload_n 0 0 hX dX10_correctWithout_0 rfl rfl ?_
  refine v_iconst hX dX10_correctWithout_1 ?_
  obtain ⟨g1, hf⟩ := q_gd_some hf
  refine v_putI hX fa_RX10_1 rfl g1 dX10_correctWithout_2 ?_
  obtain ⟨I2, e3, hf⟩ := q_lt_nm hf
  rw [e3]
  refine v_aload_n 0 0 hX dX10_correctWithout_5 rfl rfl ?_
  refine v_iload_n 1 1 hX dX10_correctWithout_6 rfl rfl ?_
  obtain ⟨r4, h5, hf⟩ := q_bd_some hf
  refine v_callV (As := [.int (q_i a1)]) (rest := []) (st1 := [.int (q_i r4)]) (some (.int (q_i r4))) hX mv_RX10_88 (c_X10_isSensor h5) ⟨rfl, rfl⟩ ⟨Nat.le_of_ble_eq_true rfl, Nat.le_of_ble_eq_true rfl⟩ g1 rfl rfl (Nat.le_of_ble_eq_true rfl) ⟨Nat.le_of_ble_eq_true rfl, Nat.le_of_ble_eq_true rfl⟩ dX10_correctWithout_7 rfl ?_
  obtain ⟨g6, hf⟩ := q_gd_some hf
  refine v_if_ne (tgt := 16) hX g6 dX10_correctWithout_10 (by decide) (fun c7 => ?_) (fun c7 => ?_)
  · replace hf := q_ifp c7 hf
    refine v_bipush (-2) hX dX10_correctWithout_13 (by decide) ?_
    cases hf
    exact v_iret hX hE (Nat.le_of_ble_eq_true rfl) (Nat.le_of_ble_eq_true rfl) dX10_correctWithout_15
  · replace hf := q_ifn c7 hf
    refine v_aload_n 0 0 hX dX10_correctWithout_16 rfl rfl ?_
    refine v_iconst hX dX10_correctWithout_17 ?_
    refine v_iload_n 1 1 hX dX10_correctWithout_18 rfl rfl ?_
    refine v_ishl hX dX10_correctWithout_19 ?_
    obtain ⟨I8, h9, hf⟩ := q_bd_some hf
    refine v_callV (As := [.int (q_i (q_shl 1 a1))]) (rest := []) (st1 := []) none hX mv_RX10_143 (c_X10_lays h9) ⟨rfl, rfl⟩ ⟨Nat.le_of_ble_eq_true rfl, Nat.le_of_ble_eq_true rfl⟩ g1 rfl rfl (Nat.le_of_ble_eq_true rfl) ⟨Nat.le_of_ble_eq_true rfl, Nat.le_of_ble_eq_true rfl⟩ dX10_correctWithout_20 rfl ?_
    refine v_aload_n 0 0 hX dX10_correctWithout_23 rfl rfl ?_
    obtain ⟨r10, I11, h12, hf⟩ := q_bd2_some hf
    refine v_callV (As := []) (rest := []) (st1 := [.int (q_i r10)]) (some (.int (q_i r10))) hX mv_RX10_200 (c_X10_correctOnes h12) ⟨rfl, rfl⟩ ⟨Nat.le_of_ble_eq_true rfl, Nat.le_of_ble_eq_true rfl⟩ g1 rfl rfl (Nat.le_of_ble_eq_true rfl) ⟨Nat.le_of_ble_eq_true rfl, Nat.le_of_ble_eq_true rfl⟩ dX10_correctWithout_24 rfl ?_
    cases hf
    exact v_iret hX hE (Nat.le_of_ble_eq_true rfl) (Nat.le_of_ble_eq_true rfl) dX10_correctWithout_27
noncomputable def f_X10_leastUsefulSensor_L11 (S : q_S) (R : q_HR) (p0 : Nat) (k : Int → Int → Int → q_HI → Option (Int × q_HI)) : Nat → Int → Int → Int → q_HI → Option (Int × q_HI)
  | 0, _, _, _, _ => none
  | n + 1, v1, v2, v3, I => q_gd (S.1 p0 = 11) (q_gd (r_i v3) (q_gd (r_i (I p0 1)) (if I p0 1 ≤ v3 then k v1 v2 v3 I else q_bd (f_X10_lays S R I p0 (q_shl 1 v3)) fun I8 => q_bd2 (f_X10_correctOnes S R I8 p0) fun r10 I11 => q_gd (r_i r10) (q_gd (r_i v2) (if v2 < r10 then f_X10_leastUsefulSensor_L11 S R p0 k n v3 r10 (v3 + 1) I11 else f_X10_leastUsefulSensor_L11 S R p0 k n v1 v2 (v3 + 1) I11)))))
noncomputable def f_X10_leastUsefulSensor (S : q_S) (R : q_HR) (I : q_HI) (a0 : Nat) : Option (Int × q_HI) := q_gd (S.1 a0 = 11) (q_lt (q_up I a0 0 0) fun I2 => f_X10_leastUsefulSensor_L11 S R a0 (fun w16 w17 w18 I19 => some (w16, I19)) 100 0 (-1) 0 I2)
abbrev rmX10_leastUsefulSensor : Room := { frames := 6, cells := 0, slots := 0, locals := 148 }
set_option maxRecDepth 20000 in
theorem l_X10_leastUsefulSensor_11 {X : q_X} {S : q_S} {R : q_HR} {p0 : Nat} {rz : Int} {Iz : q_HI} (hX : q_C X cX10_leastUsefulSensor 5 RX10 (some .int) "leastUsefulSensor") (hE : q_E X 0 0 (some (.int (q_i rz))) S R Iz) {k : Int → Int → Int → q_HI → Option (Int × q_HI)} (hk : ∀ (v1 : Int) (v2 : Int) (v3 : Int) (I : q_HI), k v1 v2 v3 I = some (rz, Iz) → q_V X rmX10_leastUsefulSensor cX10_leastUsefulSensor 5 0 0 52 [(1, .int (q_i v1))] [] S R I) :
    ∀ (n : Nat), ∀ (v1 : Int) (v2 : Int) (v3 : Int) (I : q_HI), f_X10_leastUsefulSensor_L11 S R p0 k n v1 v2 v3 I = some (rz, Iz) → q_V X rmX10_leastUsefulSensor cX10_leastUsefulSensor 5 0 0 11 [(0, .ref p0), (1, .int (q_i v1)), (2, .int (q_i v2)), (3, .int (q_i v3))] [] S R I := by
  intro n
  induction n with
  | zero =>
    intro v1 v2 v3 I hf
    cases (show (none : Option (Int × q_HI)) = some _ from hf)
  | succ n ih =>
    intro v1 v2 v3 I hf
    rw [f_X10_leastUsefulSensor_L11] at hf
    refine v_iload_n 3 3 hX dX10_leastUsefulSensor_11 rfl rfl ?_
    refine v_aload_n 0 0 hX dX10_leastUsefulSensor_12 rfl rfl ?_
    obtain ⟨g4, hf⟩ := q_gd_some hf
    refine v_getI hX fa_RX10_52 (fun _ _ => rfl) g4 dX10_leastUsefulSensor_13 ?_
    obtain ⟨g5, hf⟩ := q_gd_some hf
    obtain ⟨g6, hf⟩ := q_gd_some hf
    refine v_icmp_ge (tgt := 52) hX g5 g6 dX10_leastUsefulSensor_16 (by decide) (fun c7 => ?_) (fun c7 => ?_)
    · replace hf := q_ifp c7 hf
      refine v_sub (lv' := [(1, .int (q_i v1))]) [1] rfl ?_
      exact hk _ _ _ _ hf
    · replace hf := q_ifn c7 hf
      refine v_aload_n 0 0 hX dX10_leastUsefulSensor_19 rfl rfl ?_
      refine v_iconst hX dX10_leastUsefulSensor_20 ?_
      refine v_iload_n 3 3 hX dX10_leastUsefulSensor_21 rfl rfl ?_
      refine v_ishl hX dX10_leastUsefulSensor_22 ?_
      obtain ⟨I8, h9, hf⟩ := q_bd_some hf
      refine v_callV (As := [.int (q_i (q_shl 1 v3))]) (rest := []) (st1 := []) none hX mv_RX10_143 (c_X10_lays h9) ⟨rfl, rfl⟩ ⟨Nat.le_of_ble_eq_true rfl, Nat.le_of_ble_eq_true rfl⟩ g4 rfl rfl (Nat.le_of_ble_eq_true rfl) ⟨Nat.le_of_ble_eq_true rfl, Nat.le_of_ble_eq_true rfl⟩ dX10_leastUsefulSensor_23 rfl ?_
      refine v_aload_n 0 0 hX dX10_leastUsefulSensor_26 rfl rfl ?_
      obtain ⟨r10, I11, h12, hf⟩ := q_bd2_some hf
      refine v_callV (As := []) (rest := []) (st1 := [.int (q_i r10)]) (some (.int (q_i r10))) hX mv_RX10_200 (c_X10_correctOnes h12) ⟨rfl, rfl⟩ ⟨Nat.le_of_ble_eq_true rfl, Nat.le_of_ble_eq_true rfl⟩ g4 rfl rfl (Nat.le_of_ble_eq_true rfl) ⟨Nat.le_of_ble_eq_true rfl, Nat.le_of_ble_eq_true rfl⟩ dX10_leastUsefulSensor_27 rfl ?_
      refine v_istore (lw := [(4, .int (q_i r10)), (0, .ref p0), (1, .int (q_i v1)), (2, .int (q_i v2)), (3, .int (q_i v3))]) hX dX10_leastUsefulSensor_30 (by decide) rfl ?_
      refine v_iload 0 hX dX10_leastUsefulSensor_32 rfl ?_
      refine v_iload_n 2 3 hX dX10_leastUsefulSensor_34 rfl rfl ?_
      obtain ⟨g13, hf⟩ := q_gd_some hf
      obtain ⟨g14, hf⟩ := q_gd_some hf
      refine v_icmp_gt (tgt := 41) hX g13 g14 dX10_leastUsefulSensor_35 (by decide) (fun c15 => ?_) (fun c15 => ?_)
      · replace hf := q_ifp c15 hf
        refine v_iload_n 3 4 hX dX10_leastUsefulSensor_41 rfl rfl ?_
        refine v_istore_n 1 (lw := [(1, .int (q_i v3)), (4, .int (q_i r10)), (0, .ref p0), (2, .int (q_i v2)), (3, .int (q_i v3))]) hX dX10_leastUsefulSensor_42 rfl (by decide) rfl ?_
        refine v_iload 1 hX dX10_leastUsefulSensor_43 rfl ?_
        refine v_istore_n 2 (lw := [(2, .int (q_i r10)), (1, .int (q_i v3)), (4, .int (q_i r10)), (0, .ref p0), (3, .int (q_i v3))]) hX dX10_leastUsefulSensor_45 rfl (by decide) rfl ?_
        refine v_iinc 4 (lw := [(3, .int (q_i (v3 + 1))), (2, .int (q_i r10)), (1, .int (q_i v3)), (4, .int (q_i r10)), (0, .ref p0)]) hX dX10_leastUsefulSensor_46 rfl (by decide) rfl ?_
        refine v_goto (tgt := 11) hX dX10_leastUsefulSensor_49 (by decide) ?_
        refine v_sub (lv' := [(0, .ref p0), (1, .int (q_i v3)), (2, .int (q_i r10)), (3, .int (q_i (v3 + 1)))]) [4, 2, 1, 0] rfl ?_
        exact ih _ _ _ _ hf
      · replace hf := q_ifn c15 hf
        refine v_goto (tgt := 46) hX dX10_leastUsefulSensor_38 (by decide) ?_
        refine v_iinc 4 (lw := [(3, .int (q_i (v3 + 1))), (4, .int (q_i r10)), (0, .ref p0), (1, .int (q_i v1)), (2, .int (q_i v2))]) hX dX10_leastUsefulSensor_46 rfl (by decide) rfl ?_
        refine v_goto (tgt := 11) hX dX10_leastUsefulSensor_49 (by decide) ?_
        refine v_sub (lv' := [(0, .ref p0), (1, .int (q_i v1)), (2, .int (q_i v2)), (3, .int (q_i (v3 + 1)))]) [2, 3, 4, 0] rfl ?_
        exact ih _ _ _ _ hf
set_option maxRecDepth 20000 in
theorem c_X10_leastUsefulSensor {S : q_S} {R : q_HR} {I : q_HI} {a0 : Nat} {rz : Int} {Iz : q_HI} (hf : f_X10_leastUsefulSensor S R I a0 = some (rz, Iz)) : ∀ (l : Launch) (D : va_G) (cy : Nat → ClassId) (B : Nat), Met l yX10_leastUsefulSensor [Cond.code yX10_leastUsefulSensor cX10_leastUsefulSensor 5 (some .int)] rmX10_leastUsefulSensor (q_Pc B D cy [.ref a0] S R I) (q_Qc B D cy (some (.int (q_i rz))) S R Iz) 0 0 (fun q => B ≤ q) := by
  refine q_met (lv := [(0, .ref a0)]) (own := RX10) (nm := "leastUsefulSensor") (by decide) rfl rfl (Nat.le_of_ble_eq_true rfl) rfl (fun X hX hE => ?_)
  unfold f_X10_leastUsefulSensor at hf
  refine v_aload_n 0 0 hX dX10_leastUsefulSensor_0 rfl rfl ?_
  refine v_iconst hX dX10_leastUsefulSensor_1 ?_
  obtain ⟨g1, hf⟩ := q_gd_some hf
  refine v_putI hX fa_RX10_1 rfl g1 dX10_leastUsefulSensor_2 ?_
  obtain ⟨I2, e3, hf⟩ := q_lt_nm hf
  rw [e3]
  refine v_iconst hX dX10_leastUsefulSensor_5 ?_
  refine v_istore_n 1 (lw := [(1, .int (q_i 0)), (0, .ref a0)]) hX dX10_leastUsefulSensor_6 rfl (by decide) rfl ?_
  refine v_iconst hX dX10_leastUsefulSensor_7 ?_
  refine v_istore_n 2 (lw := [(2, .int (q_i (-1))), (1, .int (q_i 0)), (0, .ref a0)]) hX dX10_leastUsefulSensor_8 rfl (by decide) rfl ?_
  refine v_iconst hX dX10_leastUsefulSensor_9 ?_
  refine v_istore_n 3 (lw := [(3, .int (q_i 0)), (2, .int (q_i (-1))), (1, .int (q_i 0)), (0, .ref a0)]) hX dX10_leastUsefulSensor_10 rfl (by decide) rfl ?_
  refine v_sub (lv' := [(0, .ref a0), (1, .int (q_i 0)), (2, .int (q_i (-1))), (3, .int (q_i 0))]) [3, 2, 1, 0] rfl ?_
  refine l_X10_leastUsefulSensor_11 hX hE (fun w16 w17 w18 I19 hk => ?_) 100 _ _ _ _ hf
  clear hf
  have hf := hk
  clear hk
  refine v_iload_n 1 0 hX dX10_leastUsefulSensor_52 rfl rfl ?_
  cases hf
  exact v_iret hX hE (Nat.le_of_ble_eq_true rfl) (Nat.le_of_ble_eq_true rfl) dX10_leastUsefulSensor_53
noncomputable def f_X10_isSet (S : q_S) (R : q_HR) (I : q_HI) (a0 : Nat) (a1 : Int) : Option (Int) := q_gd (r_i a1) (q_gd (S.1 a0 = 11) (q_gd (r_i ((q_shl 1 (I a0 1)) - 1)) (q_bd (f_X10_isIn a1 1 ((q_shl 1 (I a0 1)) - 1)) fun r4 => q_gd (r4 = 0 ∨ r4 = 1) (some r4))))
abbrev rmX10_isSet : Room := { frames := 1, cells := 0, slots := 0, locals := 25 }
set_option maxRecDepth 20000 in
theorem c_X10_isSet {S : q_S} {R : q_HR} {I : q_HI} {a0 : Nat} {a1 : Int} {rz : Int} (hf : f_X10_isSet S R I a0 a1 = some rz) : ∀ (l : Launch) (D : va_G) (cy : Nat → ClassId) (B : Nat), Met l yX10_isSet [Cond.code yX10_isSet cX10_isSet 2 (some .boolean)] rmX10_isSet (q_Pc B D cy [.ref a0, .int (q_i a1)] S R I) (q_Qc B D cy (some (.int (q_i rz))) S R I) 0 0 (fun q => B ≤ q) := by
  refine q_met (lv := [(0, .ref a0), (1, .int (q_i a1))]) (own := RX10) (nm := "isSet") (by decide) rfl rfl (Nat.le_of_ble_eq_true rfl) rfl (fun X hX hE => ?_)
  unfold f_X10_isSet at hf
  refine v_iload_n 1 1 hX dX10_isSet_0 rfl rfl ?_
  obtain ⟨g1, hf⟩ := q_gd_some hf
  refine v_i2l hX g1 dX10_isSet_1 ?_
  refine v_lconst 1 hX dX10_isSet_2 (by decide) ?_
  refine v_iconst hX dX10_isSet_3 ?_
  refine v_aload_n 0 0 hX dX10_isSet_4 rfl rfl ?_
  obtain ⟨g2, hf⟩ := q_gd_some hf
  refine v_getI hX fa_RX10_52 (fun _ _ => rfl) g2 dX10_isSet_5 ?_
  refine v_ishl hX dX10_isSet_8 ?_
  refine v_iconst hX dX10_isSet_9 ?_
  refine v_isub hX dX10_isSet_10 ?_
  obtain ⟨g3, hf⟩ := q_gd_some hf
  refine v_i2l hX g3 dX10_isSet_11 ?_
  obtain ⟨r4, h5, hf⟩ := q_bd_some hf
  refine v_callS (As := [.long (q_l a1), .long (q_l 1), .long (q_l ((q_shl 1 (I a0 1)) - 1))]) (rest := []) (st1 := [.int (q_i r4)]) (some (.int (q_i r4))) hX ms_RX10_84 (c_X10_isIn h5) ⟨rfl, rfl⟩ ⟨Nat.le_of_ble_eq_true rfl, Nat.le_of_ble_eq_true rfl⟩ rfl rfl (Nat.le_of_ble_eq_true rfl) ⟨Nat.le_of_ble_eq_true rfl, Nat.le_of_ble_eq_true rfl⟩ dX10_isSet_12 rfl ?_
  obtain ⟨g6, hf⟩ := q_gd_some hf
  cases hf
  exact v_zret hX g6 hE (Nat.le_of_ble_eq_true rfl) (Nat.le_of_ble_eq_true rfl) dX10_isSet_15
noncomputable def f_X10_correctBy (S : q_S) (R : q_HR) (I : q_HI) (a0 : Nat) (a1 : Int) : Option (Int × q_HI) := q_gd (S.1 a0 = 11) (q_bd (f_X10_lays S R I a0 (q_and ((q_shl 1 (I a0 1)) - 1) (q_xor a1 (-1)))) fun I2 => q_bd2 (f_X10_correctOnes S R I2 a0) fun r4 I5 => some (r4, I5))
abbrev rmX10_correctBy : Room := { frames := 6, cells := 0, slots := 0, locals := 148 }
set_option maxRecDepth 20000 in
theorem c_X10_correctBy {S : q_S} {R : q_HR} {I : q_HI} {a0 : Nat} {a1 : Int} {rz : Int} {Iz : q_HI} (hf : f_X10_correctBy S R I a0 a1 = some (rz, Iz)) : ∀ (l : Launch) (D : va_G) (cy : Nat → ClassId) (B : Nat), Met l yX10_correctBy [Cond.code yX10_correctBy cX10_correctBy 2 (some .int)] rmX10_correctBy (q_Pc B D cy [.ref a0, .int (q_i a1)] S R I) (q_Qc B D cy (some (.int (q_i rz))) S R Iz) 0 0 (fun q => B ≤ q) := by
  refine q_met (lv := [(0, .ref a0), (1, .int (q_i a1))]) (own := RX10) (nm := "correctBy") (by decide) rfl rfl (Nat.le_of_ble_eq_true rfl) rfl (fun X hX hE => ?_)
  unfold f_X10_correctBy at hf
  refine v_aload_n 0 0 hX dX10_correctBy_0 rfl rfl ?_
  refine v_iconst hX dX10_correctBy_1 ?_
  refine v_aload_n 0 0 hX dX10_correctBy_2 rfl rfl ?_
  obtain ⟨g1, hf⟩ := q_gd_some hf
  refine v_getI hX fa_RX10_52 (fun _ _ => rfl) g1 dX10_correctBy_3 ?_
  refine v_ishl hX dX10_correctBy_6 ?_
  refine v_iconst hX dX10_correctBy_7 ?_
  refine v_isub hX dX10_correctBy_8 ?_
  refine v_iload_n 1 1 hX dX10_correctBy_9 rfl rfl ?_
  refine v_iconst hX dX10_correctBy_10 ?_
  refine v_ixor hX dX10_correctBy_11 ?_
  refine v_iand hX dX10_correctBy_12 ?_
  obtain ⟨I2, h3, hf⟩ := q_bd_some hf
  refine v_callV (As := [.int (q_i (q_and ((q_shl 1 (I a0 1)) - 1) (q_xor a1 (-1))))]) (rest := []) (st1 := []) none hX mv_RX10_143 (c_X10_lays h3) ⟨rfl, rfl⟩ ⟨Nat.le_of_ble_eq_true rfl, Nat.le_of_ble_eq_true rfl⟩ g1 rfl rfl (Nat.le_of_ble_eq_true rfl) ⟨Nat.le_of_ble_eq_true rfl, Nat.le_of_ble_eq_true rfl⟩ dX10_correctBy_13 rfl ?_
  refine v_aload_n 0 0 hX dX10_correctBy_16 rfl rfl ?_
  obtain ⟨r4, I5, h6, hf⟩ := q_bd2_some hf
  refine v_callV (As := []) (rest := []) (st1 := [.int (q_i r4)]) (some (.int (q_i r4))) hX mv_RX10_200 (c_X10_correctOnes h6) ⟨rfl, rfl⟩ ⟨Nat.le_of_ble_eq_true rfl, Nat.le_of_ble_eq_true rfl⟩ g1 rfl rfl (Nat.le_of_ble_eq_true rfl) ⟨Nat.le_of_ble_eq_true rfl, Nat.le_of_ble_eq_true rfl⟩ dX10_correctBy_17 rfl ?_
  cases hf
  exact v_iret hX hE (Nat.le_of_ble_eq_true rfl) (Nat.le_of_ble_eq_true rfl) dX10_correctBy_20
noncomputable def f_X10_correctWith (S : q_S) (R : q_HR) (I : q_HI) (a0 : Nat) (a1 : Int) : Option (Int × q_HI) := q_gd (S.1 a0 = 11) (q_lt (q_up I a0 0 0) fun I2 => q_bd (f_X10_isSet S R I2 a0 a1) fun r4 => q_gd (r_i r4) (if r4 = 0 then some ((-3), I2) else q_bd2 (f_X10_correctBy S R I2 a0 a1) fun r8 I9 => some (r8, I9)))
abbrev rmX10_correctWith : Room := { frames := 7, cells := 0, slots := 0, locals := 169 }
set_option maxRecDepth 20000 in
theorem c_X10_correctWith {S : q_S} {R : q_HR} {I : q_HI} {a0 : Nat} {a1 : Int} {rz : Int} {Iz : q_HI} (hf : f_X10_correctWith S R I a0 a1 = some (rz, Iz)) : ∀ (l : Launch) (D : va_G) (cy : Nat → ClassId) (B : Nat), Met l yX10_correctWith [Cond.code yX10_correctWith cX10_correctWith 2 (some .int)] rmX10_correctWith (q_Pc B D cy [.ref a0, .int (q_i a1)] S R I) (q_Qc B D cy (some (.int (q_i rz))) S R Iz) 0 0 (fun q => B ≤ q) := by
  refine q_met (lv := [(0, .ref a0), (1, .int (q_i a1))]) (own := RX10) (nm := "correctWith") (by decide) rfl rfl (Nat.le_of_ble_eq_true rfl) rfl (fun X hX hE => ?_)
  unfold f_X10_correctWith at hf
  refine v_aload_n 0 0 hX dX10_correctWith_0 rfl rfl ?_
  refine v_iconst hX dX10_correctWith_1 ?_
  obtain ⟨g1, hf⟩ := q_gd_some hf
  refine v_putI hX fa_RX10_1 rfl g1 dX10_correctWith_2 ?_
  obtain ⟨I2, e3, hf⟩ := q_lt_nm hf
  rw [e3]
  refine v_aload_n 0 0 hX dX10_correctWith_5 rfl rfl ?_
  refine v_iload_n 1 1 hX dX10_correctWith_6 rfl rfl ?_
  obtain ⟨r4, h5, hf⟩ := q_bd_some hf
  refine v_callV (As := [.int (q_i a1)]) (rest := []) (st1 := [.int (q_i r4)]) (some (.int (q_i r4))) hX mv_RX10_204 (c_X10_isSet h5) ⟨rfl, rfl⟩ ⟨Nat.le_of_ble_eq_true rfl, Nat.le_of_ble_eq_true rfl⟩ g1 rfl rfl (Nat.le_of_ble_eq_true rfl) ⟨Nat.le_of_ble_eq_true rfl, Nat.le_of_ble_eq_true rfl⟩ dX10_correctWith_7 rfl ?_
  obtain ⟨g6, hf⟩ := q_gd_some hf
  refine v_if_eq (tgt := 21) hX g6 dX10_correctWith_10 (by decide) (fun c7 => ?_) (fun c7 => ?_)
  · replace hf := q_ifp c7 hf
    refine v_bipush (-3) hX dX10_correctWith_21 (by decide) ?_
    cases hf
    exact v_iret hX hE (Nat.le_of_ble_eq_true rfl) (Nat.le_of_ble_eq_true rfl) dX10_correctWith_23
  · replace hf := q_ifn c7 hf
    refine v_aload_n 0 0 hX dX10_correctWith_13 rfl rfl ?_
    refine v_iload_n 1 1 hX dX10_correctWith_14 rfl rfl ?_
    obtain ⟨r8, I9, h10, hf⟩ := q_bd2_some hf
    refine v_callV (As := [.int (q_i a1)]) (rest := []) (st1 := [.int (q_i r8)]) (some (.int (q_i r8))) hX mv_RX10_207 (c_X10_correctBy h10) ⟨rfl, rfl⟩ ⟨Nat.le_of_ble_eq_true rfl, Nat.le_of_ble_eq_true rfl⟩ g1 rfl rfl (Nat.le_of_ble_eq_true rfl) ⟨Nat.le_of_ble_eq_true rfl, Nat.le_of_ble_eq_true rfl⟩ dX10_correctWith_15 rfl ?_
    refine v_goto (tgt := 23) hX dX10_correctWith_18 (by decide) ?_
    cases hf
    exact v_iret hX hE (Nat.le_of_ble_eq_true rfl) (Nat.le_of_ble_eq_true rfl) dX10_correctWith_23
noncomputable def f_X10_sizeOf_L4 (p0 : Int) (k : Int → Int → Option (Int)) : Nat → Int → Int → Option (Int)
  | 0, _, _ => none
  | n + 1, v1, v2 => q_gd (r_i v2) (if 5 ≤ v2 then k v1 v2 else q_lt (v1 + (q_and (q_shr p0 v2) 1)) fun x3 => f_X10_sizeOf_L4 p0 k n x3 (v2 + 1))
noncomputable def f_X10_sizeOf (a0 : Int) : Option (Int) := f_X10_sizeOf_L4 a0 (fun w5 w6 => some w5) 100 0 0
abbrev rmX10_sizeOf : Room := { frames := 0, cells := 0, slots := 0, locals := 0 }
set_option maxRecDepth 20000 in
theorem l_X10_sizeOf_4 {X : q_X} {S : q_S} {R : q_HR} {I : q_HI} {p0 : Int} {rz : Int} (hX : q_C X cX10_sizeOf 3 RX10 (some .int) "sizeOf") (hE : q_E X 0 0 (some (.int (q_i rz))) S R I) {k : Int → Int → Option (Int)} (hk : ∀ (v1 : Int) (v2 : Int), k v1 v2 = some rz → q_V X rmX10_sizeOf cX10_sizeOf 3 0 0 23 [(1, .int (q_i v1))] [] S R I) :
    ∀ (n : Nat), ∀ (v1 : Int) (v2 : Int), f_X10_sizeOf_L4 p0 k n v1 v2 = some rz → q_V X rmX10_sizeOf cX10_sizeOf 3 0 0 4 [(0, .int (q_i p0)), (1, .int (q_i v1)), (2, .int (q_i v2))] [] S R I := by
  intro n
  induction n with
  | zero =>
    intro v1 v2 hf
    cases (show (none : Option (Int)) = some _ from hf)
  | succ n ih =>
    intro v1 v2 hf
    rw [f_X10_sizeOf_L4] at hf
    refine v_iload_n 2 2 hX dX10_sizeOf_4 rfl rfl ?_
    refine v_iconst hX dX10_sizeOf_5 ?_
    obtain ⟨g1, hf⟩ := q_gd_some hf
    refine v_icmp_ge (tgt := 23) hX g1 (by unfold r_i; omega) dX10_sizeOf_6 (by decide) (fun c2 => ?_) (fun c2 => ?_)
    · replace hf := q_ifp c2 hf
      refine v_sub (lv' := [(1, .int (q_i v1))]) [1] rfl ?_
      exact hk _ _ hf
    · replace hf := q_ifn c2 hf
      refine v_iload_n 1 1 hX dX10_sizeOf_9 rfl rfl ?_
      refine v_iload_n 0 0 hX dX10_sizeOf_10 rfl rfl ?_
      refine v_iload_n 2 2 hX dX10_sizeOf_11 rfl rfl ?_
      refine v_ishr hX dX10_sizeOf_12 ?_
      refine v_iconst hX dX10_sizeOf_13 ?_
      refine v_iand hX dX10_sizeOf_14 ?_
      refine v_iadd hX dX10_sizeOf_15 ?_
      obtain ⟨x3, e4, hf⟩ := q_lt_nm hf
      rw [e4]
      refine v_istore_n 1 (lw := [(1, .int (q_i x3)), (0, .int (q_i p0)), (2, .int (q_i v2))]) hX dX10_sizeOf_16 rfl (by decide) rfl ?_
      refine v_iinc 2 (lw := [(2, .int (q_i (v2 + 1))), (1, .int (q_i x3)), (0, .int (q_i p0))]) hX dX10_sizeOf_17 rfl (by decide) rfl ?_
      refine v_goto (tgt := 4) hX dX10_sizeOf_20 (by decide) ?_
      refine v_sub (lv' := [(0, .int (q_i p0)), (1, .int (q_i x3)), (2, .int (q_i (v2 + 1)))]) [2, 1, 0] rfl ?_
      exact ih _ _ hf
set_option maxRecDepth 20000 in
theorem c_X10_sizeOf {S : q_S} {R : q_HR} {I : q_HI} {a0 : Int} {rz : Int} (hf : f_X10_sizeOf a0 = some rz) : ∀ (l : Launch) (D : va_G) (cy : Nat → ClassId) (B : Nat), Met l yX10_sizeOf [Cond.code yX10_sizeOf cX10_sizeOf 3 (some .int)] rmX10_sizeOf (q_Pc B D cy [.int (q_i a0)] S R I) (q_Qc B D cy (some (.int (q_i rz))) S R I) 0 0 (fun q => B ≤ q) := by
  refine q_met (lv := [(0, .int (q_i a0))]) (own := RX10) (nm := "sizeOf") (by decide) rfl rfl (Nat.le_of_ble_eq_true rfl) rfl (fun X hX hE => ?_)
  unfold f_X10_sizeOf at hf
  refine v_iconst hX dX10_sizeOf_0 ?_
  refine v_istore_n 1 (lw := [(1, .int (q_i 0)), (0, .int (q_i a0))]) hX dX10_sizeOf_1 rfl (by decide) rfl ?_
  refine v_iconst hX dX10_sizeOf_2 ?_
  refine v_istore_n 2 (lw := [(2, .int (q_i 0)), (1, .int (q_i 0)), (0, .int (q_i a0))]) hX dX10_sizeOf_3 rfl (by decide) rfl ?_
  refine v_sub (lv' := [(0, .int (q_i a0)), (1, .int (q_i 0)), (2, .int (q_i 0))]) [2, 1, 0] rfl ?_
  refine l_X10_sizeOf_4 hX hE (fun w5 w6 hk => ?_) 100 _ _ hf
  clear hf
  have hf := hk
  clear hk
  refine v_iload_n 1 0 hX dX10_sizeOf_23 rfl rfl ?_
  cases hf
  exact v_iret hX hE (Nat.le_of_ble_eq_true rfl) (Nat.le_of_ble_eq_true rfl) dX10_sizeOf_24
noncomputable def f_X10_bestSubset_L29 (S : q_S) (R : q_HR) (p0 : Nat) (p1 : Int) (k : Int → Int → Int → q_HI → Option (Int × q_HI)) : Nat → Int → Int → Int → q_HI → Option (Int × q_HI)
  | 0, _, _, _, _ => none
  | n + 1, v2, v3, v4, I => q_gd (S.1 p0 = 11) (q_gd (r_i v4) (q_gd (r_i (q_shl 1 (I p0 1))) (if q_shl 1 (I p0 1) ≤ v4 then k v2 v3 v4 I else q_bd (f_X10_sizeOf v4) fun r14 => q_gd (r_i r14) (q_gd (r_i p1) (if r14 = p1 then q_bd2 (f_X10_correctBy S R I p0 v4) fun r19 I20 => q_gd (r_i r19) (q_gd (r_i v3) (if v3 < r19 then f_X10_bestSubset_L29 S R p0 p1 k n v4 r19 (v4 + 1) I20 else f_X10_bestSubset_L29 S R p0 p1 k n v2 v3 (v4 + 1) I20)) else q_gd (r_i v3) (if v3 < (-1) then f_X10_bestSubset_L29 S R p0 p1 k n v4 (-1) (v4 + 1) I else f_X10_bestSubset_L29 S R p0 p1 k n v2 v3 (v4 + 1) I))))))
noncomputable def f_X10_bestSubset (S : q_S) (R : q_HR) (I : q_HI) (a0 : Nat) (a1 : Int) : Option (Int × q_HI) := q_gd (S.1 a0 = 11) (q_lt (q_up I a0 0 0) fun I2 => q_gd (r_i a1) (q_gd (r_i (I2 a0 1)) (q_bd (f_X10_isIn a1 1 (I2 a0 1)) fun r6 => q_gd (r_i r6) (if r6 = 0 then some ((-3), I2) else f_X10_bestSubset_L29 S R a0 a1 (fun w27 w28 w29 I30 => some (w27, I30)) 100 (-1) (-1) 1 I2))))
abbrev rmX10_bestSubset : Room := { frames := 7, cells := 0, slots := 0, locals := 169 }
set_option maxRecDepth 20000 in
theorem l_X10_bestSubset_29 {X : q_X} {S : q_S} {R : q_HR} {p0 : Nat} {p1 : Int} {rz : Int} {Iz : q_HI} (hX : q_C X cX10_bestSubset 6 RX10 (some .int) "bestSubset") (hE : q_E X 0 0 (some (.int (q_i rz))) S R Iz) {k : Int → Int → Int → q_HI → Option (Int × q_HI)} (hk : ∀ (v2 : Int) (v3 : Int) (v4 : Int) (I : q_HI), k v2 v3 v4 I = some (rz, Iz) → q_V X rmX10_bestSubset cX10_bestSubset 6 0 0 82 [(2, .int (q_i v2))] [] S R I) :
    ∀ (n : Nat), ∀ (v2 : Int) (v3 : Int) (v4 : Int) (I : q_HI), f_X10_bestSubset_L29 S R p0 p1 k n v2 v3 v4 I = some (rz, Iz) → q_V X rmX10_bestSubset cX10_bestSubset 6 0 0 29 [(0, .ref p0), (1, .int (q_i p1)), (2, .int (q_i v2)), (3, .int (q_i v3)), (4, .int (q_i v4))] [] S R I := by
  intro n
  induction n with
  | zero =>
    intro v2 v3 v4 I hf
    cases (show (none : Option (Int × q_HI)) = some _ from hf)
  | succ n ih =>
    intro v2 v3 v4 I hf
    rw [f_X10_bestSubset_L29] at hf
    refine v_iload 4 hX dX10_bestSubset_29 rfl ?_
    refine v_iconst hX dX10_bestSubset_31 ?_
    refine v_aload_n 0 0 hX dX10_bestSubset_32 rfl rfl ?_
    obtain ⟨g10, hf⟩ := q_gd_some hf
    refine v_getI hX fa_RX10_52 (fun _ _ => rfl) g10 dX10_bestSubset_33 ?_
    refine v_ishl hX dX10_bestSubset_36 ?_
    obtain ⟨g11, hf⟩ := q_gd_some hf
    obtain ⟨g12, hf⟩ := q_gd_some hf
    refine v_icmp_ge (tgt := 82) hX g11 g12 dX10_bestSubset_37 (by decide) (fun c13 => ?_) (fun c13 => ?_)
    · replace hf := q_ifp c13 hf
      refine v_sub (lv' := [(2, .int (q_i v2))]) [2] rfl ?_
      exact hk _ _ _ _ hf
    · replace hf := q_ifn c13 hf
      refine v_iload 4 hX dX10_bestSubset_40 rfl ?_
      obtain ⟨r14, h15, hf⟩ := q_bd_some hf
      refine v_callS (As := [.int (q_i v4)]) (rest := []) (st1 := [.int (q_i r14)]) (some (.int (q_i r14))) hX ms_RX10_210 (c_X10_sizeOf h15) ⟨rfl, rfl⟩ ⟨Nat.le_of_ble_eq_true rfl, Nat.le_of_ble_eq_true rfl⟩ rfl rfl (Nat.le_of_ble_eq_true rfl) ⟨Nat.le_of_ble_eq_true rfl, Nat.le_of_ble_eq_true rfl⟩ dX10_bestSubset_42 rfl ?_
      refine v_iload_n 1 1 hX dX10_bestSubset_45 rfl rfl ?_
      obtain ⟨g16, hf⟩ := q_gd_some hf
      obtain ⟨g17, hf⟩ := q_gd_some hf
      refine v_icmp_ne (tgt := 58) hX g16 g17 dX10_bestSubset_46 (by decide) (fun c18 => ?_) (fun c18 => ?_)
      · replace hf := q_ifp c18 hf
        refine v_aload_n 0 0 hX dX10_bestSubset_49 rfl rfl ?_
        refine v_iload 4 hX dX10_bestSubset_50 rfl ?_
        obtain ⟨r19, I20, h21, hf⟩ := q_bd2_some hf
        refine v_callV (As := [.int (q_i v4)]) (rest := []) (st1 := [.int (q_i r19)]) (some (.int (q_i r19))) hX mv_RX10_207 (c_X10_correctBy h21) ⟨rfl, rfl⟩ ⟨Nat.le_of_ble_eq_true rfl, Nat.le_of_ble_eq_true rfl⟩ g10 rfl rfl (Nat.le_of_ble_eq_true rfl) ⟨Nat.le_of_ble_eq_true rfl, Nat.le_of_ble_eq_true rfl⟩ dX10_bestSubset_52 rfl ?_
        refine v_goto (tgt := 59) hX dX10_bestSubset_55 (by decide) ?_
        refine v_istore (lw := [(5, .int (q_i r19)), (0, .ref p0), (1, .int (q_i p1)), (2, .int (q_i v2)), (3, .int (q_i v3)), (4, .int (q_i v4))]) hX dX10_bestSubset_59 (by decide) rfl ?_
        refine v_iload 0 hX dX10_bestSubset_61 rfl ?_
        refine v_iload_n 3 4 hX dX10_bestSubset_63 rfl rfl ?_
        obtain ⟨g22, hf⟩ := q_gd_some hf
        obtain ⟨g23, hf⟩ := q_gd_some hf
        refine v_icmp_gt (tgt := 70) hX g22 g23 dX10_bestSubset_64 (by decide) (fun c24 => ?_) (fun c24 => ?_)
        · replace hf := q_ifp c24 hf
          refine v_iload 5 hX dX10_bestSubset_70 rfl ?_
          refine v_istore_n 2 (lw := [(2, .int (q_i v4)), (5, .int (q_i r19)), (0, .ref p0), (1, .int (q_i p1)), (3, .int (q_i v3)), (4, .int (q_i v4))]) hX dX10_bestSubset_72 rfl (by decide) rfl ?_
          refine v_iload 1 hX dX10_bestSubset_73 rfl ?_
          refine v_istore_n 3 (lw := [(3, .int (q_i r19)), (2, .int (q_i v4)), (5, .int (q_i r19)), (0, .ref p0), (1, .int (q_i p1)), (4, .int (q_i v4))]) hX dX10_bestSubset_75 rfl (by decide) rfl ?_
          refine v_iinc 5 (lw := [(4, .int (q_i (v4 + 1))), (3, .int (q_i r19)), (2, .int (q_i v4)), (5, .int (q_i r19)), (0, .ref p0), (1, .int (q_i p1))]) hX dX10_bestSubset_76 rfl (by decide) rfl ?_
          refine v_goto (tgt := 29) hX dX10_bestSubset_79 (by decide) ?_
          refine v_sub (lv' := [(0, .ref p0), (1, .int (q_i p1)), (2, .int (q_i v4)), (3, .int (q_i r19)), (4, .int (q_i (v4 + 1)))]) [4, 5, 2, 1, 0] rfl ?_
          exact ih _ _ _ _ hf
        · replace hf := q_ifn c24 hf
          refine v_goto (tgt := 76) hX dX10_bestSubset_67 (by decide) ?_
          refine v_iinc 5 (lw := [(4, .int (q_i (v4 + 1))), (5, .int (q_i r19)), (0, .ref p0), (1, .int (q_i p1)), (2, .int (q_i v2)), (3, .int (q_i v3))]) hX dX10_bestSubset_76 rfl (by decide) rfl ?_
          refine v_goto (tgt := 29) hX dX10_bestSubset_79 (by decide) ?_
          refine v_sub (lv' := [(0, .ref p0), (1, .int (q_i p1)), (2, .int (q_i v2)), (3, .int (q_i v3)), (4, .int (q_i (v4 + 1)))]) [2, 3, 4, 5, 0] rfl ?_
          exact ih _ _ _ _ hf
      · replace hf := q_ifn c18 hf
        refine v_iconst hX dX10_bestSubset_58 ?_
        refine v_istore (lw := [(5, .int (q_i (-1))), (0, .ref p0), (1, .int (q_i p1)), (2, .int (q_i v2)), (3, .int (q_i v3)), (4, .int (q_i v4))]) hX dX10_bestSubset_59 (by decide) rfl ?_
        refine v_iload 0 hX dX10_bestSubset_61 rfl ?_
        refine v_iload_n 3 4 hX dX10_bestSubset_63 rfl rfl ?_
        obtain ⟨g25, hf⟩ := q_gd_some hf
        refine v_icmp_gt (tgt := 70) hX (by unfold r_i; omega) g25 dX10_bestSubset_64 (by decide) (fun c26 => ?_) (fun c26 => ?_)
        · replace hf := q_ifp c26 hf
          refine v_iload 5 hX dX10_bestSubset_70 rfl ?_
          refine v_istore_n 2 (lw := [(2, .int (q_i v4)), (5, .int (q_i (-1))), (0, .ref p0), (1, .int (q_i p1)), (3, .int (q_i v3)), (4, .int (q_i v4))]) hX dX10_bestSubset_72 rfl (by decide) rfl ?_
          refine v_iload 1 hX dX10_bestSubset_73 rfl ?_
          refine v_istore_n 3 (lw := [(3, .int (q_i (-1))), (2, .int (q_i v4)), (5, .int (q_i (-1))), (0, .ref p0), (1, .int (q_i p1)), (4, .int (q_i v4))]) hX dX10_bestSubset_75 rfl (by decide) rfl ?_
          refine v_iinc 5 (lw := [(4, .int (q_i (v4 + 1))), (3, .int (q_i (-1))), (2, .int (q_i v4)), (5, .int (q_i (-1))), (0, .ref p0), (1, .int (q_i p1))]) hX dX10_bestSubset_76 rfl (by decide) rfl ?_
          refine v_goto (tgt := 29) hX dX10_bestSubset_79 (by decide) ?_
          refine v_sub (lv' := [(0, .ref p0), (1, .int (q_i p1)), (2, .int (q_i v4)), (3, .int (q_i (-1))), (4, .int (q_i (v4 + 1)))]) [4, 5, 2, 1, 0] rfl ?_
          exact ih _ _ _ _ hf
        · replace hf := q_ifn c26 hf
          refine v_goto (tgt := 76) hX dX10_bestSubset_67 (by decide) ?_
          refine v_iinc 5 (lw := [(4, .int (q_i (v4 + 1))), (5, .int (q_i (-1))), (0, .ref p0), (1, .int (q_i p1)), (2, .int (q_i v2)), (3, .int (q_i v3))]) hX dX10_bestSubset_76 rfl (by decide) rfl ?_
          refine v_goto (tgt := 29) hX dX10_bestSubset_79 (by decide) ?_
          refine v_sub (lv' := [(0, .ref p0), (1, .int (q_i p1)), (2, .int (q_i v2)), (3, .int (q_i v3)), (4, .int (q_i (v4 + 1)))]) [2, 3, 4, 5, 0] rfl ?_
          exact ih _ _ _ _ hf
set_option maxRecDepth 20000 in
theorem c_X10_bestSubset {S : q_S} {R : q_HR} {I : q_HI} {a0 : Nat} {a1 : Int} {rz : Int} {Iz : q_HI} (hf : f_X10_bestSubset S R I a0 a1 = some (rz, Iz)) : ∀ (l : Launch) (D : va_G) (cy : Nat → ClassId) (B : Nat), Met l yX10_bestSubset [Cond.code yX10_bestSubset cX10_bestSubset 6 (some .int)] rmX10_bestSubset (q_Pc B D cy [.ref a0, .int (q_i a1)] S R I) (q_Qc B D cy (some (.int (q_i rz))) S R Iz) 0 0 (fun q => B ≤ q) := by
  refine q_met (lv := [(0, .ref a0), (1, .int (q_i a1))]) (own := RX10) (nm := "bestSubset") (by decide) rfl rfl (Nat.le_of_ble_eq_true rfl) rfl (fun X hX hE => ?_)
  unfold f_X10_bestSubset at hf
  refine v_aload_n 0 0 hX dX10_bestSubset_0 rfl rfl ?_
  refine v_iconst hX dX10_bestSubset_1 ?_
  obtain ⟨g1, hf⟩ := q_gd_some hf
  refine v_putI hX fa_RX10_1 rfl g1 dX10_bestSubset_2 ?_
  obtain ⟨I2, e3, hf⟩ := q_lt_nm hf
  rw [e3]
  refine v_iload_n 1 1 hX dX10_bestSubset_5 rfl rfl ?_
  obtain ⟨g4, hf⟩ := q_gd_some hf
  refine v_i2l hX g4 dX10_bestSubset_6 ?_
  refine v_lconst 1 hX dX10_bestSubset_7 (by decide) ?_
  refine v_aload_n 0 0 hX dX10_bestSubset_8 rfl rfl ?_
  refine v_getI hX fa_RX10_52 (fun _ _ => rfl) g1 dX10_bestSubset_9 ?_
  obtain ⟨g5, hf⟩ := q_gd_some hf
  refine v_i2l hX g5 dX10_bestSubset_12 ?_
  obtain ⟨r6, h7, hf⟩ := q_bd_some hf
  refine v_callS (As := [.long (q_l a1), .long (q_l 1), .long (q_l (I2 a0 1))]) (rest := []) (st1 := [.int (q_i r6)]) (some (.int (q_i r6))) hX ms_RX10_84 (c_X10_isIn h7) ⟨rfl, rfl⟩ ⟨Nat.le_of_ble_eq_true rfl, Nat.le_of_ble_eq_true rfl⟩ rfl rfl (Nat.le_of_ble_eq_true rfl) ⟨Nat.le_of_ble_eq_true rfl, Nat.le_of_ble_eq_true rfl⟩ dX10_bestSubset_13 rfl ?_
  obtain ⟨g8, hf⟩ := q_gd_some hf
  refine v_if_ne (tgt := 22) hX g8 dX10_bestSubset_16 (by decide) (fun c9 => ?_) (fun c9 => ?_)
  · replace hf := q_ifp c9 hf
    refine v_bipush (-3) hX dX10_bestSubset_19 (by decide) ?_
    cases hf
    exact v_iret hX hE (Nat.le_of_ble_eq_true rfl) (Nat.le_of_ble_eq_true rfl) dX10_bestSubset_21
  · replace hf := q_ifn c9 hf
    refine v_iconst hX dX10_bestSubset_22 ?_
    refine v_istore_n 2 (lw := [(2, .int (q_i (-1))), (0, .ref a0), (1, .int (q_i a1))]) hX dX10_bestSubset_23 rfl (by decide) rfl ?_
    refine v_iconst hX dX10_bestSubset_24 ?_
    refine v_istore_n 3 (lw := [(3, .int (q_i (-1))), (2, .int (q_i (-1))), (0, .ref a0), (1, .int (q_i a1))]) hX dX10_bestSubset_25 rfl (by decide) rfl ?_
    refine v_iconst hX dX10_bestSubset_26 ?_
    refine v_istore (lw := [(4, .int (q_i 1)), (3, .int (q_i (-1))), (2, .int (q_i (-1))), (0, .ref a0), (1, .int (q_i a1))]) hX dX10_bestSubset_27 (by decide) rfl ?_
    refine v_sub (lv' := [(0, .ref a0), (1, .int (q_i a1)), (2, .int (q_i (-1))), (3, .int (q_i (-1))), (4, .int (q_i 1))]) [3, 4, 2, 1, 0] rfl ?_
    refine l_X10_bestSubset_29 hX hE (fun w27 w28 w29 I30 hk => ?_) 100 _ _ _ _ hf
    clear hf
    have hf := hk
    clear hk
    refine v_iload_n 2 0 hX dX10_bestSubset_82 rfl rfl ?_
    cases hf
    exact v_iret hX hE (Nat.le_of_ble_eq_true rfl) (Nat.le_of_ble_eq_true rfl) dX10_bestSubset_83
noncomputable def f_X10_suspectSensor_L22 (S : q_S) (R : q_HR) (p0 : Nat) (k : Int → Int → Int → q_HI → Option (Int × q_HI)) : Nat → Int → Int → Int → q_HI → Option (Int × q_HI)
  | 0, _, _, _, _ => none
  | n + 1, v1, v2, v4, I => q_gd (S.1 p0 = 11) (q_gd (r_i v4) (q_gd (r_i (I p0 1)) (if I p0 1 ≤ v4 then k v1 v2 v4 I else q_bd (f_X10_lays S R I p0 (q_shl 1 v4)) fun I10 => q_bd2 (f_X10_nearest S R I10 p0 0 (-1) (-1) (-1)) fun r12 I13 => q_gd (r_i r12) (if r12 = (-1) then some ((-1), I13) else q_bd2 (f_X10_farFrom S R I13 p0 0 r12 (-1)) fun r17 I18 => q_gd (r_i v1) (if v1 = (-1) then f_X10_suspectSensor_L22 S R p0 k n v4 r17 (v4 + 1) I18 else q_gd (r_l r17) (q_gd (r_l v2) (if r17 < v2 then f_X10_suspectSensor_L22 S R p0 k n v4 r17 (v4 + 1) I18 else f_X10_suspectSensor_L22 S R p0 k n v1 v2 (v4 + 1) I18)))))))
noncomputable def f_X10_suspectSensor (S : q_S) (R : q_HR) (I : q_HI) (a0 : Nat) : Option (Int × q_HI) := q_gd (S.1 a0 = 11) (q_lt (q_up I a0 0 0) fun I2 => q_gd (r_i (I2 a0 7)) (if I2 a0 7 = 0 then some ((-5), I2) else f_X10_suspectSensor_L22 S R a0 (fun w25 w26 w27 I28 => some (w25, I28)) 100 (-1) 0 0 I2))
abbrev rmX10_suspectSensor : Room := { frames := 4, cells := 0, slots := 0, locals := 105 }
set_option maxRecDepth 20000 in
theorem l_X10_suspectSensor_22 {X : q_X} {S : q_S} {R : q_HR} {p0 : Nat} {rz : Int} {Iz : q_HI} (hX : q_C X cX10_suspectSensor 8 RX10 (some .int) "suspectSensor") (hE : q_E X 0 0 (some (.int (q_i rz))) S R Iz) {k : Int → Int → Int → q_HI → Option (Int × q_HI)} (hk : ∀ (v1 : Int) (v2 : Int) (v4 : Int) (I : q_HI), k v1 v2 v4 I = some (rz, Iz) → q_V X rmX10_suspectSensor cX10_suspectSensor 8 0 0 94 [(1, .int (q_i v1))] [] S R I) :
    ∀ (n : Nat), ∀ (v1 : Int) (v2 : Int) (v4 : Int) (I : q_HI), f_X10_suspectSensor_L22 S R p0 k n v1 v2 v4 I = some (rz, Iz) → q_V X rmX10_suspectSensor cX10_suspectSensor 8 0 0 22 [(0, .ref p0), (1, .int (q_i v1)), (2, .long (q_l v2)), (4, .int (q_i v4))] [] S R I := by
  intro n
  induction n with
  | zero =>
    intro v1 v2 v4 I hf
    cases (show (none : Option (Int × q_HI)) = some _ from hf)
  | succ n ih =>
    intro v1 v2 v4 I hf
    rw [f_X10_suspectSensor_L22] at hf
    refine v_iload 3 hX dX10_suspectSensor_22 rfl ?_
    refine v_aload_n 0 0 hX dX10_suspectSensor_24 rfl rfl ?_
    obtain ⟨g6, hf⟩ := q_gd_some hf
    refine v_getI hX fa_RX10_52 (fun _ _ => rfl) g6 dX10_suspectSensor_25 ?_
    obtain ⟨g7, hf⟩ := q_gd_some hf
    obtain ⟨g8, hf⟩ := q_gd_some hf
    refine v_icmp_ge (tgt := 94) hX g7 g8 dX10_suspectSensor_28 (by decide) (fun c9 => ?_) (fun c9 => ?_)
    · replace hf := q_ifp c9 hf
      refine v_sub (lv' := [(1, .int (q_i v1))]) [1] rfl ?_
      exact hk _ _ _ _ hf
    · replace hf := q_ifn c9 hf
      refine v_aload_n 0 0 hX dX10_suspectSensor_31 rfl rfl ?_
      refine v_iconst hX dX10_suspectSensor_32 ?_
      refine v_iload 3 hX dX10_suspectSensor_33 rfl ?_
      refine v_ishl hX dX10_suspectSensor_35 ?_
      obtain ⟨I10, h11, hf⟩ := q_bd_some hf
      refine v_callV (As := [.int (q_i (q_shl 1 v4))]) (rest := []) (st1 := []) none hX mv_RX10_143 (c_X10_lays h11) ⟨rfl, rfl⟩ ⟨Nat.le_of_ble_eq_true rfl, Nat.le_of_ble_eq_true rfl⟩ g6 rfl rfl (Nat.le_of_ble_eq_true rfl) ⟨Nat.le_of_ble_eq_true rfl, Nat.le_of_ble_eq_true rfl⟩ dX10_suspectSensor_36 rfl ?_
      refine v_aload_n 0 0 hX dX10_suspectSensor_39 rfl rfl ?_
      refine v_iconst hX dX10_suspectSensor_40 ?_
      refine v_iconst hX dX10_suspectSensor_41 ?_
      refine v_iconst hX dX10_suspectSensor_42 ?_
      refine v_iconst hX dX10_suspectSensor_43 ?_
      obtain ⟨r12, I13, h14, hf⟩ := q_bd2_some hf
      refine v_callV (As := [.int (q_i 0), .int (q_i (-1)), .int (q_i (-1)), .int (q_i (-1))]) (rest := []) (st1 := [.int (q_i r12)]) (some (.int (q_i r12))) hX mv_RX10_171 (c_X10_nearest h14) ⟨rfl, rfl⟩ ⟨Nat.le_of_ble_eq_true rfl, Nat.le_of_ble_eq_true rfl⟩ g6 rfl rfl (Nat.le_of_ble_eq_true rfl) ⟨Nat.le_of_ble_eq_true rfl, Nat.le_of_ble_eq_true rfl⟩ dX10_suspectSensor_44 rfl ?_
      refine v_istore (lw := [(5, .int (q_i r12)), (0, .ref p0), (1, .int (q_i v1)), (2, .long (q_l v2)), (4, .int (q_i v4))]) hX dX10_suspectSensor_47 (by decide) rfl ?_
      refine v_iload 0 hX dX10_suspectSensor_49 rfl ?_
      refine v_iconst hX dX10_suspectSensor_51 ?_
      obtain ⟨g15, hf⟩ := q_gd_some hf
      refine v_icmp_ne (tgt := 57) hX g15 (by unfold r_i; omega) dX10_suspectSensor_52 (by decide) (fun c16 => ?_) (fun c16 => ?_)
      · replace hf := q_ifp c16 hf
        refine v_iconst hX dX10_suspectSensor_55 ?_
        cases hf
        exact v_iret hX hE (Nat.le_of_ble_eq_true rfl) (Nat.le_of_ble_eq_true rfl) dX10_suspectSensor_56
      · replace hf := q_ifn c16 hf
        refine v_aload_n 0 1 hX dX10_suspectSensor_57 rfl rfl ?_
        refine v_iconst hX dX10_suspectSensor_58 ?_
        refine v_iload 0 hX dX10_suspectSensor_59 rfl ?_
        refine v_iconst hX dX10_suspectSensor_61 ?_
        obtain ⟨r17, I18, h19, hf⟩ := q_bd2_some hf
        refine v_callV (As := [.int (q_i 0), .int (q_i r12), .int (q_i (-1))]) (rest := []) (st1 := [.long (q_l r17)]) (some (.long (q_l r17))) hX mv_RX10_168 (c_X10_farFrom h19) ⟨rfl, rfl⟩ ⟨Nat.le_of_ble_eq_true rfl, Nat.le_of_ble_eq_true rfl⟩ g6 rfl rfl (Nat.le_of_ble_eq_true rfl) ⟨Nat.le_of_ble_eq_true rfl, Nat.le_of_ble_eq_true rfl⟩ dX10_suspectSensor_62 rfl ?_
        refine v_lstore (lw := [(6, .long (q_l r17)), (5, .int (q_i r12)), (0, .ref p0), (1, .int (q_i v1)), (2, .long (q_l v2)), (4, .int (q_i v4))]) hX dX10_suspectSensor_65 (by decide) rfl ?_
        refine v_iload_n 1 3 hX dX10_suspectSensor_67 rfl rfl ?_
        refine v_iconst hX dX10_suspectSensor_68 ?_
        obtain ⟨g20, hf⟩ := q_gd_some hf
        refine v_icmp_eq (tgt := 82) hX g20 (by unfold r_i; omega) dX10_suspectSensor_69 (by decide) (fun c21 => ?_) (fun c21 => ?_)
        · replace hf := q_ifp c21 hf
          refine v_iload 5 hX dX10_suspectSensor_82 rfl ?_
          refine v_istore_n 1 (lw := [(1, .int (q_i v4)), (6, .long (q_l r17)), (5, .int (q_i r12)), (0, .ref p0), (2, .long (q_l v2)), (4, .int (q_i v4))]) hX dX10_suspectSensor_84 rfl (by decide) rfl ?_
          refine v_lload 1 hX dX10_suspectSensor_85 rfl ?_
          refine v_lstore_n 2 (lw := [(2, .long (q_l r17)), (1, .int (q_i v4)), (6, .long (q_l r17)), (5, .int (q_i r12)), (0, .ref p0), (4, .int (q_i v4))]) hX dX10_suspectSensor_87 rfl (by decide) rfl ?_
          refine v_iinc 5 (lw := [(4, .int (q_i (v4 + 1))), (2, .long (q_l r17)), (1, .int (q_i v4)), (6, .long (q_l r17)), (5, .int (q_i r12)), (0, .ref p0)]) hX dX10_suspectSensor_88 rfl (by decide) rfl ?_
          refine v_goto (tgt := 22) hX dX10_suspectSensor_91 (by decide) ?_
          refine v_sub (lv' := [(0, .ref p0), (1, .int (q_i v4)), (2, .long (q_l r17)), (4, .int (q_i (v4 + 1)))]) [5, 2, 1, 0] rfl ?_
          exact ih _ _ _ _ hf
        · replace hf := q_ifn c21 hf
          refine v_lload 0 hX dX10_suspectSensor_72 rfl ?_
          refine v_lload_n 2 4 hX dX10_suspectSensor_74 rfl rfl ?_
          obtain ⟨g22, hf⟩ := q_gd_some hf
          obtain ⟨g23, hf⟩ := q_gd_some hf
          refine v_lcmp hX g22 g23 dX10_suspectSensor_75 ?_
          refine v_ifc_lt (tgt := 82) hX dX10_suspectSensor_76 (by decide) (fun c24 => ?_) (fun c24 => ?_)
          · replace hf := q_ifp c24 hf
            refine v_iload 5 hX dX10_suspectSensor_82 rfl ?_
            refine v_istore_n 1 (lw := [(1, .int (q_i v4)), (6, .long (q_l r17)), (5, .int (q_i r12)), (0, .ref p0), (2, .long (q_l v2)), (4, .int (q_i v4))]) hX dX10_suspectSensor_84 rfl (by decide) rfl ?_
            refine v_lload 1 hX dX10_suspectSensor_85 rfl ?_
            refine v_lstore_n 2 (lw := [(2, .long (q_l r17)), (1, .int (q_i v4)), (6, .long (q_l r17)), (5, .int (q_i r12)), (0, .ref p0), (4, .int (q_i v4))]) hX dX10_suspectSensor_87 rfl (by decide) rfl ?_
            refine v_iinc 5 (lw := [(4, .int (q_i (v4 + 1))), (2, .long (q_l r17)), (1, .int (q_i v4)), (6, .long (q_l r17)), (5, .int (q_i r12)), (0, .ref p0)]) hX dX10_suspectSensor_88 rfl (by decide) rfl ?_
            refine v_goto (tgt := 22) hX dX10_suspectSensor_91 (by decide) ?_
            refine v_sub (lv' := [(0, .ref p0), (1, .int (q_i v4)), (2, .long (q_l r17)), (4, .int (q_i (v4 + 1)))]) [5, 2, 1, 0] rfl ?_
            exact ih _ _ _ _ hf
          · replace hf := q_ifn c24 hf
            refine v_goto (tgt := 88) hX dX10_suspectSensor_79 (by decide) ?_
            refine v_iinc 5 (lw := [(4, .int (q_i (v4 + 1))), (6, .long (q_l r17)), (5, .int (q_i r12)), (0, .ref p0), (1, .int (q_i v1)), (2, .long (q_l v2))]) hX dX10_suspectSensor_88 rfl (by decide) rfl ?_
            refine v_goto (tgt := 22) hX dX10_suspectSensor_91 (by decide) ?_
            refine v_sub (lv' := [(0, .ref p0), (1, .int (q_i v1)), (2, .long (q_l v2)), (4, .int (q_i (v4 + 1)))]) [3, 4, 5, 0] rfl ?_
            exact ih _ _ _ _ hf
set_option maxRecDepth 20000 in
theorem c_X10_suspectSensor {S : q_S} {R : q_HR} {I : q_HI} {a0 : Nat} {rz : Int} {Iz : q_HI} (hf : f_X10_suspectSensor S R I a0 = some (rz, Iz)) : ∀ (l : Launch) (D : va_G) (cy : Nat → ClassId) (B : Nat), Met l yX10_suspectSensor [Cond.code yX10_suspectSensor cX10_suspectSensor 8 (some .int)] rmX10_suspectSensor (q_Pc B D cy [.ref a0] S R I) (q_Qc B D cy (some (.int (q_i rz))) S R Iz) 0 0 (fun q => B ≤ q) := by
  refine q_met (lv := [(0, .ref a0)]) (own := RX10) (nm := "suspectSensor") (by decide) rfl rfl (Nat.le_of_ble_eq_true rfl) rfl (fun X hX hE => ?_)
  unfold f_X10_suspectSensor at hf
  refine v_aload_n 0 0 hX dX10_suspectSensor_0 rfl rfl ?_
  refine v_iconst hX dX10_suspectSensor_1 ?_
  obtain ⟨g1, hf⟩ := q_gd_some hf
  refine v_putI hX fa_RX10_1 rfl g1 dX10_suspectSensor_2 ?_
  obtain ⟨I2, e3, hf⟩ := q_lt_nm hf
  rw [e3]
  refine v_aload_n 0 0 hX dX10_suspectSensor_5 rfl rfl ?_
  refine v_getI hX fa_RX10_70 (fun _ _ => rfl) g1 dX10_suspectSensor_6 ?_
  obtain ⟨g4, hf⟩ := q_gd_some hf
  refine v_if_ne (tgt := 15) hX g4 dX10_suspectSensor_9 (by decide) (fun c5 => ?_) (fun c5 => ?_)
  · replace hf := q_ifp c5 hf
    refine v_bipush (-5) hX dX10_suspectSensor_12 (by decide) ?_
    cases hf
    exact v_iret hX hE (Nat.le_of_ble_eq_true rfl) (Nat.le_of_ble_eq_true rfl) dX10_suspectSensor_14
  · replace hf := q_ifn c5 hf
    refine v_iconst hX dX10_suspectSensor_15 ?_
    refine v_istore_n 1 (lw := [(1, .int (q_i (-1))), (0, .ref a0)]) hX dX10_suspectSensor_16 rfl (by decide) rfl ?_
    refine v_lconst 0 hX dX10_suspectSensor_17 (by decide) ?_
    refine v_lstore_n 2 (lw := [(2, .long (q_l 0)), (1, .int (q_i (-1))), (0, .ref a0)]) hX dX10_suspectSensor_18 rfl (by decide) rfl ?_
    refine v_iconst hX dX10_suspectSensor_19 ?_
    refine v_istore (lw := [(4, .int (q_i 0)), (2, .long (q_l 0)), (1, .int (q_i (-1))), (0, .ref a0)]) hX dX10_suspectSensor_20 (by decide) rfl ?_
    refine v_sub (lv' := [(0, .ref a0), (1, .int (q_i (-1))), (2, .long (q_l 0)), (4, .int (q_i 0))]) [3, 2, 1, 0] rfl ?_
    refine l_X10_suspectSensor_22 hX hE (fun w25 w26 w27 I28 hk => ?_) 100 _ _ _ _ hf
    clear hf
    have hf := hk
    clear hk
    refine v_iload_n 1 0 hX dX10_suspectSensor_94 rfl rfl ?_
    cases hf
    exact v_iret hX hE (Nat.le_of_ble_eq_true rfl) (Nat.le_of_ble_eq_true rfl) dX10_suspectSensor_95
noncomputable def f_X10_apart_L19 (S : q_S) (R : q_HR) (p0 : Nat) (p1 : Int) (p2 : Int) (p5 : Int) (k : Int → Int → q_HI → Option (Int × q_HI)) : Nat → Int → Int → q_HI → Option (Int × q_HI)
  | 0, _, _, _ => none
  | n + 1, v3, v6, I => q_gd (S.1 p0 = 11) (q_gd (r_i v6) (q_gd (r_i (I p0 4)) (if I p0 4 ≤ v6 then k v3 v6 I else q_gd (S.1 (R p0 25) = 12) (q_gd ((0 : Int) ≤ p5 ∧ p5 < (S.2.1 (R p0 25) : Int)) (q_gd (r_i (I (R p0 25) (Int.toNat p5))) (q_gd (r_i p1) (if I (R p0 25) (Int.toNat p5) = p1 then q_gd ((0 : Int) ≤ v6 ∧ v6 < (S.2.1 (R p0 25) : Int)) (q_gd (r_i (I (R p0 25) (Int.toNat v6))) (q_gd (r_i p2) (if I (R p0 25) (Int.toNat v6) = p2 then q_bd2 (f_X10_between S R I p0 p5 v6) fun r18 I19 => q_gd (r_l v3) (if v3 = (-1) then f_X10_apart_L19 S R p0 p1 p2 p5 k n r18 (v6 + 1) I19 else q_gd (r_l r18) (if v3 ≤ r18 then f_X10_apart_L19 S R p0 p1 p2 p5 k n v3 (v6 + 1) I19 else f_X10_apart_L19 S R p0 p1 p2 p5 k n r18 (v6 + 1) I19)) else f_X10_apart_L19 S R p0 p1 p2 p5 k n v3 (v6 + 1) I))) else f_X10_apart_L19 S R p0 p1 p2 p5 k n v3 (v6 + 1) I)))))))
noncomputable def f_X10_apart_L7 (S : q_S) (R : q_HR) (p0 : Nat) (p1 : Int) (p2 : Int) (k : Int → Int → q_HI → Option (Int × q_HI)) : Nat → Int → Int → q_HI → Option (Int × q_HI)
  | 0, _, _, _ => none
  | n + 1, v3, v5, I => q_gd (S.1 p0 = 11) (q_gd (r_i v5) (q_gd (r_i (I p0 4)) (if I p0 4 ≤ v5 then k v3 v5 I else f_X10_apart_L19 S R p0 p1 p2 v5 (fun w25 w26 I27 => f_X10_apart_L7 S R p0 p1 p2 k n w25 (v5 + 1) I27) 100 v3 0 I)))
noncomputable def f_X10_apart (S : q_S) (R : q_HR) (I : q_HI) (a0 : Nat) (a1 : Int) (a2 : Int) : Option (Int × q_HI) := f_X10_apart_L7 S R a0 a1 a2 (fun w28 w29 I30 => some (w28, I30)) 100 (-1) 0 I
abbrev rmX10_apart : Room := { frames := 3, cells := 0, slots := 0, locals := 74 }
set_option maxRecDepth 20000 in
theorem l_X10_apart_19 {X : q_X} {S : q_S} {R : q_HR} {p0 : Nat} {p1 : Int} {p2 : Int} {p5 : Int} {rz : Int} {Iz : q_HI} (hX : q_C X cX10_apart 9 RX10 (some .long) "apart") (hE : q_E X 0 0 (some (.long (q_l rz))) S R Iz) {k : Int → Int → q_HI → Option (Int × q_HI)} (hk : ∀ (v3 : Int) (v6 : Int) (I : q_HI), k v3 v6 I = some (rz, Iz) → q_V X rmX10_apart cX10_apart 9 0 0 87 [(0, .ref p0), (1, .int (q_i p1)), (2, .int (q_i p2)), (3, .long (q_l v3)), (5, .int (q_i p5))] [] S R I) :
    ∀ (n : Nat), ∀ (v3 : Int) (v6 : Int) (I : q_HI), f_X10_apart_L19 S R p0 p1 p2 p5 k n v3 v6 I = some (rz, Iz) → q_V X rmX10_apart cX10_apart 9 0 0 19 [(0, .ref p0), (1, .int (q_i p1)), (2, .int (q_i p2)), (3, .long (q_l v3)), (5, .int (q_i p5)), (6, .int (q_i v6))] [] S R I := by
  intro n
  induction n with
  | zero =>
    intro v3 v6 I hf
    cases (show (none : Option (Int × q_HI)) = some _ from hf)
  | succ n ih =>
    intro v3 v6 I hf
    rw [f_X10_apart_L19] at hf
    refine v_iload 5 hX dX10_apart_19 rfl ?_
    refine v_aload_n 0 0 hX dX10_apart_21 rfl rfl ?_
    obtain ⟨g5, hf⟩ := q_gd_some hf
    refine v_getI hX fa_RX10_61 (fun _ _ => rfl) g5 dX10_apart_22 ?_
    obtain ⟨g6, hf⟩ := q_gd_some hf
    obtain ⟨g7, hf⟩ := q_gd_some hf
    refine v_icmp_ge (tgt := 87) hX g6 g7 dX10_apart_25 (by decide) (fun c8 => ?_) (fun c8 => ?_)
    · replace hf := q_ifp c8 hf
      refine v_sub (lv' := [(0, .ref p0), (1, .int (q_i p1)), (2, .int (q_i p2)), (3, .long (q_l v3)), (5, .int (q_i p5))]) [0, 1, 2, 3, 4] rfl ?_
      exact hk _ _ _ hf
    · replace hf := q_ifn c8 hf
      refine v_aload_n 0 0 hX dX10_apart_28 rfl rfl ?_
      obtain ⟨g9, hf⟩ := q_gd_some hf
      refine v_getA hX fa_RX10_45 (fun _ _ => rfl) g5 g9 (by decide) dX10_apart_29 ?_
      refine v_iload 4 hX dX10_apart_32 rfl ?_
      obtain ⟨g10, hf⟩ := q_gd_some hf
      refine v_iaload hX g9 g10 dX10_apart_34 ?_
      refine v_iload_n 1 1 hX dX10_apart_35 rfl rfl ?_
      obtain ⟨g11, hf⟩ := q_gd_some hf
      obtain ⟨g12, hf⟩ := q_gd_some hf
      refine v_icmp_ne (tgt := 81) hX g11 g12 dX10_apart_36 (by decide) (fun c13 => ?_) (fun c13 => ?_)
      · replace hf := q_ifp c13 hf
        refine v_aload_n 0 0 hX dX10_apart_39 rfl rfl ?_
        refine v_getA hX fa_RX10_45 (fun _ _ => rfl) g5 g9 (by decide) dX10_apart_40 ?_
        refine v_iload 5 hX dX10_apart_43 rfl ?_
        obtain ⟨g14, hf⟩ := q_gd_some hf
        refine v_iaload hX g9 g14 dX10_apart_45 ?_
        refine v_iload_n 2 2 hX dX10_apart_46 rfl rfl ?_
        obtain ⟨g15, hf⟩ := q_gd_some hf
        obtain ⟨g16, hf⟩ := q_gd_some hf
        refine v_icmp_eq (tgt := 53) hX g15 g16 dX10_apart_47 (by decide) (fun c17 => ?_) (fun c17 => ?_)
        · replace hf := q_ifp c17 hf
          refine v_aload_n 0 0 hX dX10_apart_53 rfl rfl ?_
          refine v_iload 4 hX dX10_apart_54 rfl ?_
          refine v_iload 5 hX dX10_apart_56 rfl ?_
          obtain ⟨r18, I19, h20, hf⟩ := q_bd2_some hf
          refine v_callV (As := [.int (q_i p5), .int (q_i v6)]) (rest := []) (st1 := [.long (q_l r18)]) (some (.long (q_l r18))) hX mv_RX10_185 (c_X10_between h20) ⟨rfl, rfl⟩ ⟨Nat.le_of_ble_eq_true rfl, Nat.le_of_ble_eq_true rfl⟩ g5 rfl rfl (Nat.le_of_ble_eq_true rfl) ⟨Nat.le_of_ble_eq_true rfl, Nat.le_of_ble_eq_true rfl⟩ dX10_apart_58 rfl ?_
          refine v_lstore (lw := [(7, .long (q_l r18)), (0, .ref p0), (1, .int (q_i p1)), (2, .int (q_i p2)), (3, .long (q_l v3)), (5, .int (q_i p5)), (6, .int (q_i v6))]) hX dX10_apart_61 (by decide) rfl ?_
          refine v_lload_n 3 4 hX dX10_apart_63 rfl rfl ?_
          refine v_ldc2 (-1) hX kl_RX10_158 (by decide) dX10_apart_64 ?_
          obtain ⟨g21, hf⟩ := q_gd_some hf
          refine v_lcmp hX g21 (by unfold r_l; omega) dX10_apart_67 ?_
          refine v_ifc_eq (tgt := 78) hX dX10_apart_68 (by decide) (fun c22 => ?_) (fun c22 => ?_)
          · replace hf := q_ifp c22 hf
            refine v_lload 0 hX dX10_apart_78 rfl ?_
            refine v_lstore_n 3 (lw := [(3, .long (q_l r18)), (7, .long (q_l r18)), (0, .ref p0), (1, .int (q_i p1)), (2, .int (q_i p2)), (5, .int (q_i p5)), (6, .int (q_i v6))]) hX dX10_apart_80 rfl (by decide) rfl ?_
            refine v_iinc 6 (lw := [(6, .int (q_i (v6 + 1))), (3, .long (q_l r18)), (7, .long (q_l r18)), (0, .ref p0), (1, .int (q_i p1)), (2, .int (q_i p2)), (5, .int (q_i p5))]) hX dX10_apart_81 rfl (by decide) rfl ?_
            refine v_goto (tgt := 19) hX dX10_apart_84 (by decide) ?_
            refine v_sub (lv' := [(0, .ref p0), (1, .int (q_i p1)), (2, .int (q_i p2)), (3, .long (q_l r18)), (5, .int (q_i p5)), (6, .int (q_i (v6 + 1)))]) [3, 4, 5, 1, 6, 0] rfl ?_
            exact ih _ _ _ hf
          · replace hf := q_ifn c22 hf
            refine v_lload 0 hX dX10_apart_71 rfl ?_
            refine v_lload_n 3 4 hX dX10_apart_73 rfl rfl ?_
            obtain ⟨g23, hf⟩ := q_gd_some hf
            refine v_lcmp hX g23 g21 dX10_apart_74 ?_
            refine v_ifc_ge (tgt := 81) hX dX10_apart_75 (by decide) (fun c24 => ?_) (fun c24 => ?_)
            · replace hf := q_ifp c24 hf
              refine v_iinc 6 (lw := [(6, .int (q_i (v6 + 1))), (7, .long (q_l r18)), (0, .ref p0), (1, .int (q_i p1)), (2, .int (q_i p2)), (3, .long (q_l v3)), (5, .int (q_i p5))]) hX dX10_apart_81 rfl (by decide) rfl ?_
              refine v_goto (tgt := 19) hX dX10_apart_84 (by decide) ?_
              refine v_sub (lv' := [(0, .ref p0), (1, .int (q_i p1)), (2, .int (q_i p2)), (3, .long (q_l v3)), (5, .int (q_i p5)), (6, .int (q_i (v6 + 1)))]) [2, 3, 4, 5, 6, 0] rfl ?_
              exact ih _ _ _ hf
            · replace hf := q_ifn c24 hf
              refine v_lload 0 hX dX10_apart_78 rfl ?_
              refine v_lstore_n 3 (lw := [(3, .long (q_l r18)), (7, .long (q_l r18)), (0, .ref p0), (1, .int (q_i p1)), (2, .int (q_i p2)), (5, .int (q_i p5)), (6, .int (q_i v6))]) hX dX10_apart_80 rfl (by decide) rfl ?_
              refine v_iinc 6 (lw := [(6, .int (q_i (v6 + 1))), (3, .long (q_l r18)), (7, .long (q_l r18)), (0, .ref p0), (1, .int (q_i p1)), (2, .int (q_i p2)), (5, .int (q_i p5))]) hX dX10_apart_81 rfl (by decide) rfl ?_
              refine v_goto (tgt := 19) hX dX10_apart_84 (by decide) ?_
              refine v_sub (lv' := [(0, .ref p0), (1, .int (q_i p1)), (2, .int (q_i p2)), (3, .long (q_l r18)), (5, .int (q_i p5)), (6, .int (q_i (v6 + 1)))]) [3, 4, 5, 1, 6, 0] rfl ?_
              exact ih _ _ _ hf
        · replace hf := q_ifn c17 hf
          refine v_goto (tgt := 81) hX dX10_apart_50 (by decide) ?_
          refine v_iinc 5 (lw := [(6, .int (q_i (v6 + 1))), (0, .ref p0), (1, .int (q_i p1)), (2, .int (q_i p2)), (3, .long (q_l v3)), (5, .int (q_i p5))]) hX dX10_apart_81 rfl (by decide) rfl ?_
          refine v_goto (tgt := 19) hX dX10_apart_84 (by decide) ?_
          refine v_sub (lv' := [(0, .ref p0), (1, .int (q_i p1)), (2, .int (q_i p2)), (3, .long (q_l v3)), (5, .int (q_i p5)), (6, .int (q_i (v6 + 1)))]) [1, 2, 3, 4, 5, 0] rfl ?_
          exact ih _ _ _ hf
      · replace hf := q_ifn c13 hf
        refine v_iinc 5 (lw := [(6, .int (q_i (v6 + 1))), (0, .ref p0), (1, .int (q_i p1)), (2, .int (q_i p2)), (3, .long (q_l v3)), (5, .int (q_i p5))]) hX dX10_apart_81 rfl (by decide) rfl ?_
        refine v_goto (tgt := 19) hX dX10_apart_84 (by decide) ?_
        refine v_sub (lv' := [(0, .ref p0), (1, .int (q_i p1)), (2, .int (q_i p2)), (3, .long (q_l v3)), (5, .int (q_i p5)), (6, .int (q_i (v6 + 1)))]) [1, 2, 3, 4, 5, 0] rfl ?_
        exact ih _ _ _ hf
set_option maxRecDepth 20000 in
theorem l_X10_apart_7 {X : q_X} {S : q_S} {R : q_HR} {p0 : Nat} {p1 : Int} {p2 : Int} {rz : Int} {Iz : q_HI} (hX : q_C X cX10_apart 9 RX10 (some .long) "apart") (hE : q_E X 0 0 (some (.long (q_l rz))) S R Iz) {k : Int → Int → q_HI → Option (Int × q_HI)} (hk : ∀ (v3 : Int) (v5 : Int) (I : q_HI), k v3 v5 I = some (rz, Iz) → q_V X rmX10_apart cX10_apart 9 0 0 93 [(3, .long (q_l v3))] [] S R I) :
    ∀ (n : Nat), ∀ (v3 : Int) (v5 : Int) (I : q_HI), f_X10_apart_L7 S R p0 p1 p2 k n v3 v5 I = some (rz, Iz) → q_V X rmX10_apart cX10_apart 9 0 0 7 [(0, .ref p0), (1, .int (q_i p1)), (2, .int (q_i p2)), (3, .long (q_l v3)), (5, .int (q_i v5))] [] S R I := by
  intro n
  induction n with
  | zero =>
    intro v3 v5 I hf
    cases (show (none : Option (Int × q_HI)) = some _ from hf)
  | succ n ih =>
    intro v3 v5 I hf
    rw [f_X10_apart_L7] at hf
    refine v_iload 4 hX dX10_apart_7 rfl ?_
    refine v_aload_n 0 0 hX dX10_apart_9 rfl rfl ?_
    obtain ⟨g1, hf⟩ := q_gd_some hf
    refine v_getI hX fa_RX10_61 (fun _ _ => rfl) g1 dX10_apart_10 ?_
    obtain ⟨g2, hf⟩ := q_gd_some hf
    obtain ⟨g3, hf⟩ := q_gd_some hf
    refine v_icmp_ge (tgt := 93) hX g2 g3 dX10_apart_13 (by decide) (fun c4 => ?_) (fun c4 => ?_)
    · replace hf := q_ifp c4 hf
      refine v_sub (lv' := [(3, .long (q_l v3))]) [3] rfl ?_
      exact hk _ _ _ hf
    · replace hf := q_ifn c4 hf
      refine v_iconst hX dX10_apart_16 ?_
      refine v_istore (lw := [(6, .int (q_i 0)), (0, .ref p0), (1, .int (q_i p1)), (2, .int (q_i p2)), (3, .long (q_l v3)), (5, .int (q_i v5))]) hX dX10_apart_17 (by decide) rfl ?_
      refine v_sub (lv' := [(0, .ref p0), (1, .int (q_i p1)), (2, .int (q_i p2)), (3, .long (q_l v3)), (5, .int (q_i v5)), (6, .int (q_i 0))]) [1, 2, 3, 4, 5, 0] rfl ?_
      refine l_X10_apart_19 hX hE (fun w25 w26 I27 hk => ?_) 100 _ _ _ hf
      clear hf
      have hf := hk
      clear hk
      refine v_iinc 4 (lw := [(5, .int (q_i (v5 + 1))), (0, .ref p0), (1, .int (q_i p1)), (2, .int (q_i p2)), (3, .long (q_l w25))]) hX dX10_apart_87 rfl (by decide) rfl ?_
      refine v_goto (tgt := 7) hX dX10_apart_90 (by decide) ?_
      refine v_sub (lv' := [(0, .ref p0), (1, .int (q_i p1)), (2, .int (q_i p2)), (3, .long (q_l w25)), (5, .int (q_i (v5 + 1)))]) [1, 2, 3, 4, 0] rfl ?_
      exact ih _ _ _ hf
set_option maxRecDepth 20000 in
theorem c_X10_apart {S : q_S} {R : q_HR} {I : q_HI} {a0 : Nat} {a1 : Int} {a2 : Int} {rz : Int} {Iz : q_HI} (hf : f_X10_apart S R I a0 a1 a2 = some (rz, Iz)) : ∀ (l : Launch) (D : va_G) (cy : Nat → ClassId) (B : Nat), Met l yX10_apart [Cond.code yX10_apart cX10_apart 9 (some .long)] rmX10_apart (q_Pc B D cy [.ref a0, .int (q_i a1), .int (q_i a2)] S R I) (q_Qc B D cy (some (.long (q_l rz))) S R Iz) 0 0 (fun q => B ≤ q) := by
  refine q_met (lv := [(0, .ref a0), (1, .int (q_i a1)), (2, .int (q_i a2))]) (own := RX10) (nm := "apart") (by decide) rfl rfl (Nat.le_of_ble_eq_true rfl) rfl (fun X hX hE => ?_)
  unfold f_X10_apart at hf
  refine v_ldc2 (-1) hX kl_RX10_158 (by decide) dX10_apart_0 ?_
  refine v_lstore_n 3 (lw := [(3, .long (q_l (-1))), (0, .ref a0), (1, .int (q_i a1)), (2, .int (q_i a2))]) hX dX10_apart_3 rfl (by decide) rfl ?_
  refine v_iconst hX dX10_apart_4 ?_
  refine v_istore (lw := [(5, .int (q_i 0)), (3, .long (q_l (-1))), (0, .ref a0), (1, .int (q_i a1)), (2, .int (q_i a2))]) hX dX10_apart_5 (by decide) rfl ?_
  refine v_sub (lv' := [(0, .ref a0), (1, .int (q_i a1)), (2, .int (q_i a2)), (3, .long (q_l (-1))), (5, .int (q_i 0))]) [2, 3, 4, 1, 0] rfl ?_
  refine l_X10_apart_7 hX hE (fun w28 w29 I30 hk => ?_) 100 _ _ _ hf
  clear hf
  have hf := hk
  clear hk
  refine v_lload_n 3 0 hX dX10_apart_93 rfl rfl ?_
  cases hf
  exact v_lret hX hE (Nat.le_of_ble_eq_true rfl) (Nat.le_of_ble_eq_true rfl) dX10_apart_94
noncomputable def f_X10_joins_L19 (S : q_S) (R : q_HR) (p0 : Nat) (p1 : Int) (k : Int → q_HI → Option (Int × q_HI)) : Nat → Int → q_HI → Option (Int × q_HI)
  | 0, _, _ => none
  | n + 1, v2, I => q_gd (S.1 p0 = 11) (q_gd (r_i v2) (q_gd (r_i (I p0 4)) (if I p0 4 ≤ v2 then k v2 I else q_gd (S.1 (R p0 25) = 12) (q_gd ((0 : Int) ≤ p1 ∧ p1 < (S.2.1 (R p0 25) : Int)) (q_gd (r_i (I (R p0 25) (Int.toNat p1))) (q_gd (r_i p1) (if I (R p0 25) (Int.toNat p1) = p1 then q_gd ((0 : Int) ≤ v2 ∧ v2 < (S.2.1 (R p0 25) : Int)) (q_gd (r_i (I (R p0 25) (Int.toNat v2))) (if I (R p0 25) (Int.toNat v2) = v2 then q_bd2 (f_X10_apart S R I p0 p1 v2) fun r22 I23 => q_gd (r_i (I23 p0 26)) (if I23 p0 26 = (-1) then q_lt (q_up I23 p0 26 ((10 * p1) + v2)) fun I27 => q_lt (q_up I27 p0 27 r22) fun I29 => f_X10_joins_L19 S R p0 p1 k n (v2 + 1) I29 else q_gd (r_l r22) (q_gd (r_l (I23 p0 27)) (if r22 < I23 p0 27 then q_lt (q_up I23 p0 26 ((10 * p1) + v2)) fun I34 => q_lt (q_up I34 p0 27 r22) fun I36 => f_X10_joins_L19 S R p0 p1 k n (v2 + 1) I36 else f_X10_joins_L19 S R p0 p1 k n (v2 + 1) I23))) else f_X10_joins_L19 S R p0 p1 k n (v2 + 1) I)) else f_X10_joins_L19 S R p0 p1 k n (v2 + 1) I)))))))
noncomputable def f_X10_joins_L7 (S : q_S) (R : q_HR) (p0 : Nat) (k : Int → q_HI → Option (Int × q_HI)) : Nat → Int → q_HI → Option (Int × q_HI)
  | 0, _, _ => none
  | n + 1, v1, I => q_gd (S.1 p0 = 11) (q_gd (r_i v1) (q_gd (r_i (I p0 4)) (if I p0 4 ≤ v1 then k v1 I else q_lt (v1 + 1) fun x8 => f_X10_joins_L19 S R p0 v1 (fun w38 I39 => f_X10_joins_L7 S R p0 k n (v1 + 1) I39) 100 x8 I)))
noncomputable def f_X10_joins_L116 (S : q_S) (R : q_HR) (p0 : Nat) (k : Int → q_HI → Option (Int × q_HI)) : Nat → Int → q_HI → Option (Int × q_HI)
  | 0, _, _ => none
  | n + 1, v1, I => q_gd (S.1 p0 = 11) (q_gd (r_i v1) (q_gd (r_i (I p0 4)) (if I p0 4 ≤ v1 then k v1 I else q_gd (S.1 (R p0 25) = 12) (q_gd ((0 : Int) ≤ v1 ∧ v1 < (S.2.1 (R p0 25) : Int)) (q_gd (r_i (I p0 26)) (q_gd (r_i (I (R p0 25) (Int.toNat v1))) (q_gd (r_i (Int.tmod (I p0 26) 10)) (if I (R p0 25) (Int.toNat v1) = Int.tmod (I p0 26) 10 then q_lt (q_up I (R p0 25) (Int.toNat v1) (Int.tdiv (I p0 26) 10)) fun I54 => f_X10_joins_L116 S R p0 k n (v1 + 1) I54 else f_X10_joins_L116 S R p0 k n (v1 + 1) I))))))))
noncomputable def f_X10_joins (S : q_S) (R : q_HR) (I : q_HI) (a0 : Nat) : Option (Int × q_HI) := q_gd (S.1 a0 = 11) (q_lt (q_up I a0 26 (-1)) fun I2 => f_X10_joins_L7 S R a0 (fun w40 I41 => q_gd (r_i (I41 a0 26)) (if I41 a0 26 = (-1) then some (0, I41) else f_X10_joins_L116 S R a0 (fun w56 I57 => some (1, I57)) 100 0 I41)) 100 0 I2)
abbrev rmX10_joins : Room := { frames := 4, cells := 0, slots := 0, locals := 102 }
set_option maxRecDepth 20000 in
theorem l_X10_joins_19 {X : q_X} {S : q_S} {R : q_HR} {p0 : Nat} {p1 : Int} {rz : Int} {Iz : q_HI} (hX : q_C X cX10_joins 5 RX10 (some .boolean) "joins") (hE : q_E X 0 0 (some (.int (q_i rz))) S R Iz) {k : Int → q_HI → Option (Int × q_HI)} (hk : ∀ (v2 : Int) (I : q_HI), k v2 I = some (rz, Iz) → q_V X rmX10_joins cX10_joins 5 0 0 98 [(0, .ref p0), (1, .int (q_i p1))] [] S R I) :
    ∀ (n : Nat), ∀ (v2 : Int) (I : q_HI), f_X10_joins_L19 S R p0 p1 k n v2 I = some (rz, Iz) → q_V X rmX10_joins cX10_joins 5 0 0 19 [(0, .ref p0), (1, .int (q_i p1)), (2, .int (q_i v2))] [] S R I := by
  intro n
  induction n with
  | zero =>
    intro v2 I hf
    cases (show (none : Option (Int × q_HI)) = some _ from hf)
  | succ n ih =>
    intro v2 I hf
    rw [f_X10_joins_L19] at hf
    refine v_iload_n 2 2 hX dX10_joins_19 rfl rfl ?_
    refine v_aload_n 0 0 hX dX10_joins_20 rfl rfl ?_
    obtain ⟨g10, hf⟩ := q_gd_some hf
    refine v_getI hX fa_RX10_61 (fun _ _ => rfl) g10 dX10_joins_21 ?_
    obtain ⟨g11, hf⟩ := q_gd_some hf
    obtain ⟨g12, hf⟩ := q_gd_some hf
    refine v_icmp_ge (tgt := 98) hX g11 g12 dX10_joins_24 (by decide) (fun c13 => ?_) (fun c13 => ?_)
    · replace hf := q_ifp c13 hf
      refine v_sub (lv' := [(0, .ref p0), (1, .int (q_i p1))]) [0, 1] rfl ?_
      exact hk _ _ hf
    · replace hf := q_ifn c13 hf
      refine v_aload_n 0 0 hX dX10_joins_27 rfl rfl ?_
      obtain ⟨g14, hf⟩ := q_gd_some hf
      refine v_getA hX fa_RX10_45 (fun _ _ => rfl) g10 g14 (by decide) dX10_joins_28 ?_
      refine v_iload_n 1 1 hX dX10_joins_31 rfl rfl ?_
      obtain ⟨g15, hf⟩ := q_gd_some hf
      refine v_iaload hX g14 g15 dX10_joins_32 ?_
      refine v_iload_n 1 1 hX dX10_joins_33 rfl rfl ?_
      obtain ⟨g16, hf⟩ := q_gd_some hf
      obtain ⟨g17, hf⟩ := q_gd_some hf
      refine v_icmp_ne (tgt := 92) hX g16 g17 dX10_joins_34 (by decide) (fun c18 => ?_) (fun c18 => ?_)
      · replace hf := q_ifp c18 hf
        refine v_aload_n 0 0 hX dX10_joins_37 rfl rfl ?_
        refine v_getA hX fa_RX10_45 (fun _ _ => rfl) g10 g14 (by decide) dX10_joins_38 ?_
        refine v_iload_n 2 2 hX dX10_joins_41 rfl rfl ?_
        obtain ⟨g19, hf⟩ := q_gd_some hf
        refine v_iaload hX g14 g19 dX10_joins_42 ?_
        refine v_iload_n 2 2 hX dX10_joins_43 rfl rfl ?_
        obtain ⟨g20, hf⟩ := q_gd_some hf
        refine v_icmp_eq (tgt := 50) hX g20 g11 dX10_joins_44 (by decide) (fun c21 => ?_) (fun c21 => ?_)
        · replace hf := q_ifp c21 hf
          refine v_aload_n 0 0 hX dX10_joins_50 rfl rfl ?_
          refine v_iload_n 1 1 hX dX10_joins_51 rfl rfl ?_
          refine v_iload_n 2 2 hX dX10_joins_52 rfl rfl ?_
          obtain ⟨r22, I23, h24, hf⟩ := q_bd2_some hf
          refine v_callV (As := [.int (q_i p1), .int (q_i v2)]) (rest := []) (st1 := [.long (q_l r22)]) (some (.long (q_l r22))) hX mv_RX10_216 (c_X10_apart h24) ⟨rfl, rfl⟩ ⟨Nat.le_of_ble_eq_true rfl, Nat.le_of_ble_eq_true rfl⟩ g10 rfl rfl (Nat.le_of_ble_eq_true rfl) ⟨Nat.le_of_ble_eq_true rfl, Nat.le_of_ble_eq_true rfl⟩ dX10_joins_53 rfl ?_
          refine v_lstore_n 3 (lw := [(3, .long (q_l r22)), (0, .ref p0), (1, .int (q_i p1)), (2, .int (q_i v2))]) hX dX10_joins_56 rfl (by decide) rfl ?_
          refine v_aload_n 0 1 hX dX10_joins_57 rfl rfl ?_
          refine v_getI hX fa_RX10_213 (fun _ _ => rfl) g10 dX10_joins_58 ?_
          refine v_iconst hX dX10_joins_61 ?_
          obtain ⟨g25, hf⟩ := q_gd_some hf
          refine v_icmp_eq (tgt := 77) hX g25 (by unfold r_i; omega) dX10_joins_62 (by decide) (fun c26 => ?_) (fun c26 => ?_)
          · replace hf := q_ifp c26 hf
            refine v_aload_n 0 1 hX dX10_joins_77 rfl rfl ?_
            refine v_bipush 10 hX dX10_joins_78 (by decide) ?_
            refine v_iload_n 1 2 hX dX10_joins_80 rfl rfl ?_
            refine v_imul hX dX10_joins_81 ?_
            refine v_iload_n 2 3 hX dX10_joins_82 rfl rfl ?_
            refine v_iadd hX dX10_joins_83 ?_
            refine v_putI hX fa_RX10_213 rfl g10 dX10_joins_84 ?_
            obtain ⟨I27, e28, hf⟩ := q_lt_nm hf
            rw [e28]
            refine v_aload_n 0 1 hX dX10_joins_87 rfl rfl ?_
            refine v_lload_n 3 0 hX dX10_joins_88 rfl rfl ?_
            refine v_putJ hX fa_RX10_219 rfl g10 dX10_joins_89 ?_
            obtain ⟨I29, e30, hf⟩ := q_lt_nm hf
            rw [e30]
            refine v_iinc 3 (lw := [(2, .int (q_i (v2 + 1))), (3, .long (q_l r22)), (0, .ref p0), (1, .int (q_i p1))]) hX dX10_joins_92 rfl (by decide) rfl ?_
            refine v_goto (tgt := 19) hX dX10_joins_95 (by decide) ?_
            refine v_sub (lv' := [(0, .ref p0), (1, .int (q_i p1)), (2, .int (q_i (v2 + 1)))]) [2, 3, 0] rfl ?_
            exact ih _ _ hf
          · replace hf := q_ifn c26 hf
            refine v_lload_n 3 0 hX dX10_joins_65 rfl rfl ?_
            refine v_aload_n 0 1 hX dX10_joins_66 rfl rfl ?_
            refine v_getJ hX fa_RX10_219 (fun _ _ => rfl) g10 dX10_joins_67 ?_
            obtain ⟨g31, hf⟩ := q_gd_some hf
            obtain ⟨g32, hf⟩ := q_gd_some hf
            refine v_lcmp hX g31 g32 dX10_joins_70 ?_
            refine v_ifc_lt (tgt := 77) hX dX10_joins_71 (by decide) (fun c33 => ?_) (fun c33 => ?_)
            · replace hf := q_ifp c33 hf
              refine v_aload_n 0 1 hX dX10_joins_77 rfl rfl ?_
              refine v_bipush 10 hX dX10_joins_78 (by decide) ?_
              refine v_iload_n 1 2 hX dX10_joins_80 rfl rfl ?_
              refine v_imul hX dX10_joins_81 ?_
              refine v_iload_n 2 3 hX dX10_joins_82 rfl rfl ?_
              refine v_iadd hX dX10_joins_83 ?_
              refine v_putI hX fa_RX10_213 rfl g10 dX10_joins_84 ?_
              obtain ⟨I34, e35, hf⟩ := q_lt_nm hf
              rw [e35]
              refine v_aload_n 0 1 hX dX10_joins_87 rfl rfl ?_
              refine v_lload_n 3 0 hX dX10_joins_88 rfl rfl ?_
              refine v_putJ hX fa_RX10_219 rfl g10 dX10_joins_89 ?_
              obtain ⟨I36, e37, hf⟩ := q_lt_nm hf
              rw [e37]
              refine v_iinc 3 (lw := [(2, .int (q_i (v2 + 1))), (3, .long (q_l r22)), (0, .ref p0), (1, .int (q_i p1))]) hX dX10_joins_92 rfl (by decide) rfl ?_
              refine v_goto (tgt := 19) hX dX10_joins_95 (by decide) ?_
              refine v_sub (lv' := [(0, .ref p0), (1, .int (q_i p1)), (2, .int (q_i (v2 + 1)))]) [2, 3, 0] rfl ?_
              exact ih _ _ hf
            · replace hf := q_ifn c33 hf
              refine v_goto (tgt := 92) hX dX10_joins_74 (by decide) ?_
              refine v_iinc 3 (lw := [(2, .int (q_i (v2 + 1))), (3, .long (q_l r22)), (0, .ref p0), (1, .int (q_i p1))]) hX dX10_joins_92 rfl (by decide) rfl ?_
              refine v_goto (tgt := 19) hX dX10_joins_95 (by decide) ?_
              refine v_sub (lv' := [(0, .ref p0), (1, .int (q_i p1)), (2, .int (q_i (v2 + 1)))]) [2, 3, 0] rfl ?_
              exact ih _ _ hf
        · replace hf := q_ifn c21 hf
          refine v_goto (tgt := 92) hX dX10_joins_47 (by decide) ?_
          refine v_iinc 2 (lw := [(2, .int (q_i (v2 + 1))), (0, .ref p0), (1, .int (q_i p1))]) hX dX10_joins_92 rfl (by decide) rfl ?_
          refine v_goto (tgt := 19) hX dX10_joins_95 (by decide) ?_
          refine v_sub (lv' := [(0, .ref p0), (1, .int (q_i p1)), (2, .int (q_i (v2 + 1)))]) [1, 2, 0] rfl ?_
          exact ih _ _ hf
      · replace hf := q_ifn c18 hf
        refine v_iinc 2 (lw := [(2, .int (q_i (v2 + 1))), (0, .ref p0), (1, .int (q_i p1))]) hX dX10_joins_92 rfl (by decide) rfl ?_
        refine v_goto (tgt := 19) hX dX10_joins_95 (by decide) ?_
        refine v_sub (lv' := [(0, .ref p0), (1, .int (q_i p1)), (2, .int (q_i (v2 + 1)))]) [1, 2, 0] rfl ?_
        exact ih _ _ hf
set_option maxRecDepth 20000 in
theorem l_X10_joins_7 {X : q_X} {S : q_S} {R : q_HR} {p0 : Nat} {rz : Int} {Iz : q_HI} (hX : q_C X cX10_joins 5 RX10 (some .boolean) "joins") (hE : q_E X 0 0 (some (.int (q_i rz))) S R Iz) {k : Int → q_HI → Option (Int × q_HI)} (hk : ∀ (v1 : Int) (I : q_HI), k v1 I = some (rz, Iz) → q_V X rmX10_joins cX10_joins 5 0 0 104 [(0, .ref p0)] [] S R I) :
    ∀ (n : Nat), ∀ (v1 : Int) (I : q_HI), f_X10_joins_L7 S R p0 k n v1 I = some (rz, Iz) → q_V X rmX10_joins cX10_joins 5 0 0 7 [(0, .ref p0), (1, .int (q_i v1))] [] S R I := by
  intro n
  induction n with
  | zero =>
    intro v1 I hf
    cases (show (none : Option (Int × q_HI)) = some _ from hf)
  | succ n ih =>
    intro v1 I hf
    rw [f_X10_joins_L7] at hf
    refine v_iload_n 1 1 hX dX10_joins_7 rfl rfl ?_
    refine v_aload_n 0 0 hX dX10_joins_8 rfl rfl ?_
    obtain ⟨g4, hf⟩ := q_gd_some hf
    refine v_getI hX fa_RX10_61 (fun _ _ => rfl) g4 dX10_joins_9 ?_
    obtain ⟨g5, hf⟩ := q_gd_some hf
    obtain ⟨g6, hf⟩ := q_gd_some hf
    refine v_icmp_ge (tgt := 104) hX g5 g6 dX10_joins_12 (by decide) (fun c7 => ?_) (fun c7 => ?_)
    · replace hf := q_ifp c7 hf
      refine v_sub (lv' := [(0, .ref p0)]) [0] rfl ?_
      exact hk _ _ hf
    · replace hf := q_ifn c7 hf
      refine v_iload_n 1 1 hX dX10_joins_15 rfl rfl ?_
      refine v_iconst hX dX10_joins_16 ?_
      refine v_iadd hX dX10_joins_17 ?_
      obtain ⟨x8, e9, hf⟩ := q_lt_nm hf
      rw [e9]
      refine v_istore_n 2 (lw := [(2, .int (q_i x8)), (0, .ref p0), (1, .int (q_i v1))]) hX dX10_joins_18 rfl (by decide) rfl ?_
      refine v_sub (lv' := [(0, .ref p0), (1, .int (q_i v1)), (2, .int (q_i x8))]) [1, 2, 0] rfl ?_
      refine l_X10_joins_19 hX hE (fun w38 I39 hk => ?_) 100 _ _ hf
      clear hf
      have hf := hk
      clear hk
      refine v_iinc 1 (lw := [(1, .int (q_i (v1 + 1))), (0, .ref p0)]) hX dX10_joins_98 rfl (by decide) rfl ?_
      refine v_goto (tgt := 7) hX dX10_joins_101 (by decide) ?_
      refine v_sub (lv' := [(0, .ref p0), (1, .int (q_i (v1 + 1)))]) [1, 0] rfl ?_
      exact ih _ _ hf
set_option maxRecDepth 20000 in
theorem l_X10_joins_116 {X : q_X} {S : q_S} {R : q_HR} {p0 : Nat} {rz : Int} {Iz : q_HI} (hX : q_C X cX10_joins 5 RX10 (some .boolean) "joins") (hE : q_E X 0 0 (some (.int (q_i rz))) S R Iz) {k : Int → q_HI → Option (Int × q_HI)} (hk : ∀ (v1 : Int) (I : q_HI), k v1 I = some (rz, Iz) → q_V X rmX10_joins cX10_joins 5 0 0 159 [] [] S R I) :
    ∀ (n : Nat), ∀ (v1 : Int) (I : q_HI), f_X10_joins_L116 S R p0 k n v1 I = some (rz, Iz) → q_V X rmX10_joins cX10_joins 5 0 0 116 [(0, .ref p0), (1, .int (q_i v1))] [] S R I := by
  intro n
  induction n with
  | zero =>
    intro v1 I hf
    cases (show (none : Option (Int × q_HI)) = some _ from hf)
  | succ n ih =>
    intro v1 I hf
    rw [f_X10_joins_L116] at hf
    refine v_iload_n 1 1 hX dX10_joins_116 rfl rfl ?_
    refine v_aload_n 0 0 hX dX10_joins_117 rfl rfl ?_
    obtain ⟨g44, hf⟩ := q_gd_some hf
    refine v_getI hX fa_RX10_61 (fun _ _ => rfl) g44 dX10_joins_118 ?_
    obtain ⟨g45, hf⟩ := q_gd_some hf
    obtain ⟨g46, hf⟩ := q_gd_some hf
    refine v_icmp_ge (tgt := 159) hX g45 g46 dX10_joins_121 (by decide) (fun c47 => ?_) (fun c47 => ?_)
    · replace hf := q_ifp c47 hf
      refine v_sub (lv' := []) [] rfl ?_
      exact hk _ _ hf
    · replace hf := q_ifn c47 hf
      refine v_aload_n 0 0 hX dX10_joins_124 rfl rfl ?_
      obtain ⟨g48, hf⟩ := q_gd_some hf
      refine v_getA hX fa_RX10_45 (fun _ _ => rfl) g44 g48 (by decide) dX10_joins_125 ?_
      refine v_iload_n 1 1 hX dX10_joins_128 rfl rfl ?_
      obtain ⟨g49, hf⟩ := q_gd_some hf
      refine v_iaload hX g48 g49 dX10_joins_129 ?_
      refine v_aload_n 0 0 hX dX10_joins_130 rfl rfl ?_
      refine v_getI hX fa_RX10_213 (fun _ _ => rfl) g44 dX10_joins_131 ?_
      refine v_bipush 10 hX dX10_joins_134 (by decide) ?_
      obtain ⟨g50, hf⟩ := q_gd_some hf
      refine v_irem hX g50 (by unfold r_i; omega) (by decide) dX10_joins_136 ?_
      obtain ⟨g51, hf⟩ := q_gd_some hf
      obtain ⟨g52, hf⟩ := q_gd_some hf
      refine v_icmp_ne (tgt := 153) hX g51 g52 dX10_joins_137 (by decide) (fun c53 => ?_) (fun c53 => ?_)
      · replace hf := q_ifp c53 hf
        refine v_aload_n 0 0 hX dX10_joins_140 rfl rfl ?_
        refine v_getA hX fa_RX10_45 (fun _ _ => rfl) g44 g48 (by decide) dX10_joins_141 ?_
        refine v_iload_n 1 1 hX dX10_joins_144 rfl rfl ?_
        refine v_aload_n 0 0 hX dX10_joins_145 rfl rfl ?_
        refine v_getI hX fa_RX10_213 (fun _ _ => rfl) g44 dX10_joins_146 ?_
        refine v_bipush 10 hX dX10_joins_149 (by decide) ?_
        refine v_idiv hX g50 (by unfold r_i; omega) (by decide) dX10_joins_151 ?_
        refine v_iastore hX g48 g49 dX10_joins_152 ?_
        obtain ⟨I54, e55, hf⟩ := q_lt_nm hf
        rw [e55]
        refine v_iinc 1 (lw := [(1, .int (q_i (v1 + 1))), (0, .ref p0)]) hX dX10_joins_153 rfl (by decide) rfl ?_
        refine v_goto (tgt := 116) hX dX10_joins_156 (by decide) ?_
        refine v_sub (lv' := [(0, .ref p0), (1, .int (q_i (v1 + 1)))]) [1, 0] rfl ?_
        exact ih _ _ hf
      · replace hf := q_ifn c53 hf
        refine v_iinc 1 (lw := [(1, .int (q_i (v1 + 1))), (0, .ref p0)]) hX dX10_joins_153 rfl (by decide) rfl ?_
        refine v_goto (tgt := 116) hX dX10_joins_156 (by decide) ?_
        refine v_sub (lv' := [(0, .ref p0), (1, .int (q_i (v1 + 1)))]) [1, 0] rfl ?_
        exact ih _ _ hf
set_option maxRecDepth 20000 in
theorem c_X10_joins {S : q_S} {R : q_HR} {I : q_HI} {a0 : Nat} {rz : Int} {Iz : q_HI} (hf : f_X10_joins S R I a0 = some (rz, Iz)) : ∀ (l : Launch) (D : va_G) (cy : Nat → ClassId) (B : Nat), Met l yX10_joins [Cond.code yX10_joins cX10_joins 5 (some .boolean)] rmX10_joins (q_Pc B D cy [.ref a0] S R I) (q_Qc B D cy (some (.int (q_i rz))) S R Iz) 0 0 (fun q => B ≤ q) := by
  refine q_met (lv := [(0, .ref a0)]) (own := RX10) (nm := "joins") (by decide) rfl rfl (Nat.le_of_ble_eq_true rfl) rfl (fun X hX hE => ?_)
  unfold f_X10_joins at hf
  refine v_aload_n 0 0 hX dX10_joins_0 rfl rfl ?_
  refine v_iconst hX dX10_joins_1 ?_
  obtain ⟨g1, hf⟩ := q_gd_some hf
  refine v_putI hX fa_RX10_213 rfl g1 dX10_joins_2 ?_
  obtain ⟨I2, e3, hf⟩ := q_lt_nm hf
  rw [e3]
  refine v_iconst hX dX10_joins_5 ?_
  refine v_istore_n 1 (lw := [(1, .int (q_i 0)), (0, .ref a0)]) hX dX10_joins_6 rfl (by decide) rfl ?_
  refine v_sub (lv' := [(0, .ref a0), (1, .int (q_i 0))]) [1, 0] rfl ?_
  refine l_X10_joins_7 hX hE (fun w40 I41 hk => ?_) 100 _ _ hf
  clear hf
  have hf := hk
  clear hk
  refine v_aload_n 0 0 hX dX10_joins_104 rfl rfl ?_
  refine v_getI hX fa_RX10_213 (fun _ _ => rfl) g1 dX10_joins_105 ?_
  refine v_iconst hX dX10_joins_108 ?_
  obtain ⟨g42, hf⟩ := q_gd_some hf
  refine v_icmp_ne (tgt := 114) hX g42 (by unfold r_i; omega) dX10_joins_109 (by decide) (fun c43 => ?_) (fun c43 => ?_)
  · replace hf := q_ifp c43 hf
    refine v_iconst hX dX10_joins_112 ?_
    cases hf
    exact v_zret hX (Or.inl rfl) hE (Nat.le_of_ble_eq_true rfl) (Nat.le_of_ble_eq_true rfl) dX10_joins_113
  · replace hf := q_ifn c43 hf
    refine v_iconst hX dX10_joins_114 ?_
    refine v_istore_n 1 (lw := [(1, .int (q_i 0)), (0, .ref a0)]) hX dX10_joins_115 rfl (by decide) rfl ?_
    refine v_sub (lv' := [(0, .ref a0), (1, .int (q_i 0))]) [1, 0] rfl ?_
    refine l_X10_joins_116 hX hE (fun w56 I57 hk => ?_) 100 _ _ hf
    clear hf
    have hf := hk
    clear hk
    refine v_iconst hX dX10_joins_159 ?_
    cases hf
    exact v_zret hX (Or.inr rfl) hE (Nat.le_of_ble_eq_true rfl) (Nat.le_of_ble_eq_true rfl) dX10_joins_160
noncomputable def f_X10_goesTo_L7 (S : q_S) (R : q_HR) (p0 : Nat) (p1 : Int) (k : Int → q_HI → Option (Int × q_HI)) : Nat → Int → q_HI → Option (Int × q_HI)
  | 0, _, _ => none
  | n + 1, v2, I => q_gd (S.1 p0 = 11) (q_gd (r_i v2) (q_gd (r_i (I p0 4)) (if I p0 4 ≤ v2 then k v2 I else q_gd (S.1 (R p0 25) = 12) (q_gd (S.1 (R p0 13) = 12) (q_gd ((0 : Int) ≤ v2 ∧ v2 < (S.2.1 (R p0 13) : Int)) (q_gd (r_i (I (R p0 13) (Int.toNat v2))) (if I (R p0 13) (Int.toNat v2) = 0 then q_gd ((0 : Int) ≤ v2 ∧ v2 < (S.2.1 (R p0 25) : Int)) (q_lt (q_up I (R p0 25) (Int.toNat v2) (-1)) fun I14 => f_X10_goesTo_L7 S R p0 p1 k n (v2 + 1) I14) else q_gd ((0 : Int) ≤ v2 ∧ v2 < (S.2.1 (R p0 25) : Int)) (q_lt (q_up I (R p0 25) (Int.toNat v2) v2) fun I17 => f_X10_goesTo_L7 S R p0 p1 k n (v2 + 1) I17))))))))
noncomputable def f_X10_goesTo_L45 (S : q_S) (R : q_HR) (p0 : Nat) (p1 : Int) (k : Int → Int → q_HI → Option (Int × q_HI)) : Nat → Int → Int → q_HI → Option (Int × q_HI)
  | 0, _, _, _ => none
  | n + 1, v2, v3, I => q_gd (r_i v3) (q_gd (r_i p1) (if p1 < v3 then k v2 v3 I else q_gd (r_i v2) (if v2 = 0 then k v2 v3 I else q_gd (S.1 p0 = 11) (q_bd2 (f_X10_joins S R I p0) fun r27 I28 => f_X10_goesTo_L45 S R p0 p1 k n r27 (v3 + 1) I28))))
noncomputable def f_X10_goesTo (S : q_S) (R : q_HR) (I : q_HI) (a0 : Nat) (a1 : Int) : Option (Int × q_HI) := q_gd (S.1 a0 = 11) (q_bd (f_X10_lays S R I a0 0) fun I2 => f_X10_goesTo_L7 S R a0 a1 (fun w19 I20 => f_X10_goesTo_L45 S R a0 a1 (fun w30 w31 I32 => q_gd (w30 = 0 ∨ w30 = 1) (some (w30, I32))) 100 1 0 I20) 100 0 I2)
abbrev rmX10_goesTo : Room := { frames := 5, cells := 0, slots := 0, locals := 126 }
set_option maxRecDepth 20000 in
theorem l_X10_goesTo_7 {X : q_X} {S : q_S} {R : q_HR} {p0 : Nat} {p1 : Int} {rz : Int} {Iz : q_HI} (hX : q_C X cX10_goesTo 4 RX10 (some .boolean) "goesTo") (hE : q_E X 0 0 (some (.int (q_i rz))) S R Iz) {k : Int → q_HI → Option (Int × q_HI)} (hk : ∀ (v2 : Int) (I : q_HI), k v2 I = some (rz, Iz) → q_V X rmX10_goesTo cX10_goesTo 4 0 0 41 [(0, .ref p0), (1, .int (q_i p1))] [] S R I) :
    ∀ (n : Nat), ∀ (v2 : Int) (I : q_HI), f_X10_goesTo_L7 S R p0 p1 k n v2 I = some (rz, Iz) → q_V X rmX10_goesTo cX10_goesTo 4 0 0 7 [(0, .ref p0), (1, .int (q_i p1)), (2, .int (q_i v2))] [] S R I := by
  intro n
  induction n with
  | zero =>
    intro v2 I hf
    cases (show (none : Option (Int × q_HI)) = some _ from hf)
  | succ n ih =>
    intro v2 I hf
    rw [f_X10_goesTo_L7] at hf
    refine v_iload_n 2 2 hX dX10_goesTo_7 rfl rfl ?_
    refine v_aload_n 0 0 hX dX10_goesTo_8 rfl rfl ?_
    obtain ⟨g4, hf⟩ := q_gd_some hf
    refine v_getI hX fa_RX10_61 (fun _ _ => rfl) g4 dX10_goesTo_9 ?_
    obtain ⟨g5, hf⟩ := q_gd_some hf
    obtain ⟨g6, hf⟩ := q_gd_some hf
    refine v_icmp_ge (tgt := 41) hX g5 g6 dX10_goesTo_12 (by decide) (fun c7 => ?_) (fun c7 => ?_)
    · replace hf := q_ifp c7 hf
      refine v_sub (lv' := [(0, .ref p0), (1, .int (q_i p1))]) [0, 1] rfl ?_
      exact hk _ _ hf
    · replace hf := q_ifn c7 hf
      refine v_aload_n 0 0 hX dX10_goesTo_15 rfl rfl ?_
      obtain ⟨g8, hf⟩ := q_gd_some hf
      refine v_getA hX fa_RX10_45 (fun _ _ => rfl) g4 g8 (by decide) dX10_goesTo_16 ?_
      refine v_iload_n 2 2 hX dX10_goesTo_19 rfl rfl ?_
      refine v_aload_n 0 0 hX dX10_goesTo_20 rfl rfl ?_
      obtain ⟨g9, hf⟩ := q_gd_some hf
      refine v_getA hX fa_RX10_23 (fun _ _ => rfl) g4 g9 (by decide) dX10_goesTo_21 ?_
      refine v_iload_n 2 2 hX dX10_goesTo_24 rfl rfl ?_
      obtain ⟨g10, hf⟩ := q_gd_some hf
      refine v_iaload hX g9 g10 dX10_goesTo_25 ?_
      obtain ⟨g11, hf⟩ := q_gd_some hf
      refine v_if_ne (tgt := 33) hX g11 dX10_goesTo_26 (by decide) (fun c12 => ?_) (fun c12 => ?_)
      · replace hf := q_ifp c12 hf
        refine v_iconst hX dX10_goesTo_29 ?_
        refine v_goto (tgt := 34) hX dX10_goesTo_30 (by decide) ?_
        obtain ⟨g13, hf⟩ := q_gd_some hf
        refine v_iastore hX g8 g13 dX10_goesTo_34 ?_
        obtain ⟨I14, e15, hf⟩ := q_lt_nm hf
        rw [e15]
        refine v_iinc 2 (lw := [(2, .int (q_i (v2 + 1))), (0, .ref p0), (1, .int (q_i p1))]) hX dX10_goesTo_35 rfl (by decide) rfl ?_
        refine v_goto (tgt := 7) hX dX10_goesTo_38 (by decide) ?_
        refine v_sub (lv' := [(0, .ref p0), (1, .int (q_i p1)), (2, .int (q_i (v2 + 1)))]) [1, 2, 0] rfl ?_
        exact ih _ _ hf
      · replace hf := q_ifn c12 hf
        refine v_iload_n 2 2 hX dX10_goesTo_33 rfl rfl ?_
        obtain ⟨g16, hf⟩ := q_gd_some hf
        refine v_iastore hX g8 g16 dX10_goesTo_34 ?_
        obtain ⟨I17, e18, hf⟩ := q_lt_nm hf
        rw [e18]
        refine v_iinc 2 (lw := [(2, .int (q_i (v2 + 1))), (0, .ref p0), (1, .int (q_i p1))]) hX dX10_goesTo_35 rfl (by decide) rfl ?_
        refine v_goto (tgt := 7) hX dX10_goesTo_38 (by decide) ?_
        refine v_sub (lv' := [(0, .ref p0), (1, .int (q_i p1)), (2, .int (q_i (v2 + 1)))]) [1, 2, 0] rfl ?_
        exact ih _ _ hf
set_option maxRecDepth 20000 in
theorem l_X10_goesTo_45 {X : q_X} {S : q_S} {R : q_HR} {p0 : Nat} {p1 : Int} {rz : Int} {Iz : q_HI} (hX : q_C X cX10_goesTo 4 RX10 (some .boolean) "goesTo") (hE : q_E X 0 0 (some (.int (q_i rz))) S R Iz) {k : Int → Int → q_HI → Option (Int × q_HI)} (hk : ∀ (v2 : Int) (v3 : Int) (I : q_HI), k v2 v3 I = some (rz, Iz) → q_V X rmX10_goesTo cX10_goesTo 4 0 0 65 [(2, .int (q_i v2))] [] S R I) :
    ∀ (n : Nat), ∀ (v2 : Int) (v3 : Int) (I : q_HI), f_X10_goesTo_L45 S R p0 p1 k n v2 v3 I = some (rz, Iz) → q_V X rmX10_goesTo cX10_goesTo 4 0 0 45 [(0, .ref p0), (1, .int (q_i p1)), (2, .int (q_i v2)), (3, .int (q_i v3))] [] S R I := by
  intro n
  induction n with
  | zero =>
    intro v2 v3 I hf
    cases (show (none : Option (Int × q_HI)) = some _ from hf)
  | succ n ih =>
    intro v2 v3 I hf
    rw [f_X10_goesTo_L45] at hf
    refine v_iload_n 3 3 hX dX10_goesTo_45 rfl rfl ?_
    refine v_iload_n 1 1 hX dX10_goesTo_46 rfl rfl ?_
    obtain ⟨g21, hf⟩ := q_gd_some hf
    obtain ⟨g22, hf⟩ := q_gd_some hf
    refine v_icmp_gt (tgt := 65) hX g21 g22 dX10_goesTo_47 (by decide) (fun c23 => ?_) (fun c23 => ?_)
    · replace hf := q_ifp c23 hf
      refine v_sub (lv' := [(2, .int (q_i v2))]) [2] rfl ?_
      exact hk _ _ _ hf
    · replace hf := q_ifn c23 hf
      refine v_iload_n 2 2 hX dX10_goesTo_50 rfl rfl ?_
      obtain ⟨g24, hf⟩ := q_gd_some hf
      refine v_if_eq (tgt := 65) hX g24 dX10_goesTo_51 (by decide) (fun c25 => ?_) (fun c25 => ?_)
      · replace hf := q_ifp c25 hf
        refine v_sub (lv' := [(2, .int (q_i v2))]) [2] rfl ?_
        exact hk _ _ _ hf
      · replace hf := q_ifn c25 hf
        refine v_aload_n 0 0 hX dX10_goesTo_54 rfl rfl ?_
        obtain ⟨g26, hf⟩ := q_gd_some hf
        obtain ⟨r27, I28, h29, hf⟩ := q_bd2_some hf
        refine v_callV (As := []) (rest := []) (st1 := [.int (q_i r27)]) (some (.int (q_i r27))) hX mv_RX10_222 (c_X10_joins h29) ⟨rfl, rfl⟩ ⟨Nat.le_of_ble_eq_true rfl, Nat.le_of_ble_eq_true rfl⟩ g26 rfl rfl (Nat.le_of_ble_eq_true rfl) ⟨Nat.le_of_ble_eq_true rfl, Nat.le_of_ble_eq_true rfl⟩ dX10_goesTo_55 rfl ?_
        refine v_istore_n 2 (lw := [(2, .int (q_i r27)), (0, .ref p0), (1, .int (q_i p1)), (3, .int (q_i v3))]) hX dX10_goesTo_58 rfl (by decide) rfl ?_
        refine v_iinc 3 (lw := [(3, .int (q_i (v3 + 1))), (2, .int (q_i r27)), (0, .ref p0), (1, .int (q_i p1))]) hX dX10_goesTo_59 rfl (by decide) rfl ?_
        refine v_goto (tgt := 45) hX dX10_goesTo_62 (by decide) ?_
        refine v_sub (lv' := [(0, .ref p0), (1, .int (q_i p1)), (2, .int (q_i r27)), (3, .int (q_i (v3 + 1)))]) [2, 3, 1, 0] rfl ?_
        exact ih _ _ _ hf
set_option maxRecDepth 20000 in
theorem c_X10_goesTo {S : q_S} {R : q_HR} {I : q_HI} {a0 : Nat} {a1 : Int} {rz : Int} {Iz : q_HI} (hf : f_X10_goesTo S R I a0 a1 = some (rz, Iz)) : ∀ (l : Launch) (D : va_G) (cy : Nat → ClassId) (B : Nat), Met l yX10_goesTo [Cond.code yX10_goesTo cX10_goesTo 4 (some .boolean)] rmX10_goesTo (q_Pc B D cy [.ref a0, .int (q_i a1)] S R I) (q_Qc B D cy (some (.int (q_i rz))) S R Iz) 0 0 (fun q => B ≤ q) := by
  refine q_met (lv := [(0, .ref a0), (1, .int (q_i a1))]) (own := RX10) (nm := "goesTo") (by decide) rfl rfl (Nat.le_of_ble_eq_true rfl) rfl (fun X hX hE => ?_)
  unfold f_X10_goesTo at hf
  refine v_aload_n 0 0 hX dX10_goesTo_0 rfl rfl ?_
  refine v_iconst hX dX10_goesTo_1 ?_
  obtain ⟨g1, hf⟩ := q_gd_some hf
  obtain ⟨I2, h3, hf⟩ := q_bd_some hf
  refine v_callV (As := [.int (q_i 0)]) (rest := []) (st1 := []) none hX mv_RX10_143 (c_X10_lays h3) ⟨rfl, rfl⟩ ⟨Nat.le_of_ble_eq_true rfl, Nat.le_of_ble_eq_true rfl⟩ g1 rfl rfl (Nat.le_of_ble_eq_true rfl) ⟨Nat.le_of_ble_eq_true rfl, Nat.le_of_ble_eq_true rfl⟩ dX10_goesTo_2 rfl ?_
  refine v_iconst hX dX10_goesTo_5 ?_
  refine v_istore_n 2 (lw := [(2, .int (q_i 0)), (0, .ref a0), (1, .int (q_i a1))]) hX dX10_goesTo_6 rfl (by decide) rfl ?_
  refine v_sub (lv' := [(0, .ref a0), (1, .int (q_i a1)), (2, .int (q_i 0))]) [1, 2, 0] rfl ?_
  refine l_X10_goesTo_7 hX hE (fun w19 I20 hk => ?_) 100 _ _ hf
  clear hf
  have hf := hk
  clear hk
  refine v_iconst hX dX10_goesTo_41 ?_
  refine v_istore_n 2 (lw := [(2, .int (q_i 1)), (0, .ref a0), (1, .int (q_i a1))]) hX dX10_goesTo_42 rfl (by decide) rfl ?_
  refine v_iconst hX dX10_goesTo_43 ?_
  refine v_istore_n 3 (lw := [(3, .int (q_i 0)), (2, .int (q_i 1)), (0, .ref a0), (1, .int (q_i a1))]) hX dX10_goesTo_44 rfl (by decide) rfl ?_
  refine v_sub (lv' := [(0, .ref a0), (1, .int (q_i a1)), (2, .int (q_i 1)), (3, .int (q_i 0))]) [2, 3, 1, 0] rfl ?_
  refine l_X10_goesTo_45 hX hE (fun w30 w31 I32 hk => ?_) 100 _ _ _ hf
  clear hf
  have hf := hk
  clear hk
  refine v_iload_n 2 0 hX dX10_goesTo_65 rfl rfl ?_
  obtain ⟨g33, hf⟩ := q_gd_some hf
  cases hf
  exact v_zret hX g33 hE (Nat.le_of_ble_eq_true rfl) (Nat.le_of_ble_eq_true rfl) dX10_goesTo_66
noncomputable def f_X10_joinedGroups (S : q_S) (R : q_HR) (I : q_HI) (a0 : Nat) (a1 : Int) : Option (Int × q_HI) := q_gd (S.1 a0 = 11) (q_lt (q_up I a0 0 0) fun I2 => q_gd (r_i a1) (if 0 ≤ a1 then q_bd2 (f_X10_goesTo S R I2 a0 a1) fun r6 I7 => q_gd (r_i r6) (if r6 = 0 then some ((-1), I7) else some (I7 a0 26, I7)) else some ((-3), I2)))
abbrev rmX10_joinedGroups : Room := { frames := 6, cells := 0, slots := 0, locals := 149 }
set_option maxRecDepth 20000 in
theorem c_X10_joinedGroups {S : q_S} {R : q_HR} {I : q_HI} {a0 : Nat} {a1 : Int} {rz : Int} {Iz : q_HI} (hf : f_X10_joinedGroups S R I a0 a1 = some (rz, Iz)) : ∀ (l : Launch) (D : va_G) (cy : Nat → ClassId) (B : Nat), Met l yX10_joinedGroups [Cond.code yX10_joinedGroups cX10_joinedGroups 2 (some .int)] rmX10_joinedGroups (q_Pc B D cy [.ref a0, .int (q_i a1)] S R I) (q_Qc B D cy (some (.int (q_i rz))) S R Iz) 0 0 (fun q => B ≤ q) := by
  refine q_met (lv := [(0, .ref a0), (1, .int (q_i a1))]) (own := RX10) (nm := "joinedGroups") (by decide) rfl rfl (Nat.le_of_ble_eq_true rfl) rfl (fun X hX hE => ?_)
  unfold f_X10_joinedGroups at hf
  refine v_aload_n 0 0 hX dX10_joinedGroups_0 rfl rfl ?_
  refine v_iconst hX dX10_joinedGroups_1 ?_
  obtain ⟨g1, hf⟩ := q_gd_some hf
  refine v_putI hX fa_RX10_1 rfl g1 dX10_joinedGroups_2 ?_
  obtain ⟨I2, e3, hf⟩ := q_lt_nm hf
  rw [e3]
  refine v_iload_n 1 1 hX dX10_joinedGroups_5 rfl rfl ?_
  obtain ⟨g4, hf⟩ := q_gd_some hf
  refine v_if_ge (tgt := 12) hX g4 dX10_joinedGroups_6 (by decide) (fun c5 => ?_) (fun c5 => ?_)
  · replace hf := q_ifp c5 hf
    refine v_aload_n 0 0 hX dX10_joinedGroups_12 rfl rfl ?_
    refine v_iload_n 1 1 hX dX10_joinedGroups_13 rfl rfl ?_
    obtain ⟨r6, I7, h8, hf⟩ := q_bd2_some hf
    refine v_callV (As := [.int (q_i a1)]) (rest := []) (st1 := [.int (q_i r6)]) (some (.int (q_i r6))) hX mv_RX10_226 (c_X10_goesTo h8) ⟨rfl, rfl⟩ ⟨Nat.le_of_ble_eq_true rfl, Nat.le_of_ble_eq_true rfl⟩ g1 rfl rfl (Nat.le_of_ble_eq_true rfl) ⟨Nat.le_of_ble_eq_true rfl, Nat.le_of_ble_eq_true rfl⟩ dX10_joinedGroups_14 rfl ?_
    obtain ⟨g9, hf⟩ := q_gd_some hf
    refine v_if_eq (tgt := 27) hX g9 dX10_joinedGroups_17 (by decide) (fun c10 => ?_) (fun c10 => ?_)
    · replace hf := q_ifp c10 hf
      refine v_iconst hX dX10_joinedGroups_27 ?_
      cases hf
      exact v_iret hX hE (Nat.le_of_ble_eq_true rfl) (Nat.le_of_ble_eq_true rfl) dX10_joinedGroups_28
    · replace hf := q_ifn c10 hf
      refine v_aload_n 0 0 hX dX10_joinedGroups_20 rfl rfl ?_
      refine v_getI hX fa_RX10_213 (fun _ _ => rfl) g1 dX10_joinedGroups_21 ?_
      refine v_goto (tgt := 28) hX dX10_joinedGroups_24 (by decide) ?_
      cases hf
      exact v_iret hX hE (Nat.le_of_ble_eq_true rfl) (Nat.le_of_ble_eq_true rfl) dX10_joinedGroups_28
  · replace hf := q_ifn c5 hf
    refine v_bipush (-3) hX dX10_joinedGroups_9 (by decide) ?_
    cases hf
    exact v_iret hX hE (Nat.le_of_ble_eq_true rfl) (Nat.le_of_ble_eq_true rfl) dX10_joinedGroups_11
noncomputable def f_X10_joinDistance (S : q_S) (R : q_HR) (I : q_HI) (a0 : Nat) (a1 : Int) : Option (Int × q_HI) := q_gd (S.1 a0 = 11) (q_lt (q_up I a0 0 0) fun I2 => q_gd (r_i a1) (if 0 ≤ a1 then q_bd2 (f_X10_goesTo S R I2 a0 a1) fun r6 I7 => q_gd (r_i r6) (if r6 = 0 then some ((-1), I7) else some (I7 a0 27, I7)) else some ((-3), I2)))
abbrev rmX10_joinDistance : Room := { frames := 6, cells := 0, slots := 0, locals := 149 }
set_option maxRecDepth 20000 in
theorem c_X10_joinDistance {S : q_S} {R : q_HR} {I : q_HI} {a0 : Nat} {a1 : Int} {rz : Int} {Iz : q_HI} (hf : f_X10_joinDistance S R I a0 a1 = some (rz, Iz)) : ∀ (l : Launch) (D : va_G) (cy : Nat → ClassId) (B : Nat), Met l yX10_joinDistance [Cond.code yX10_joinDistance cX10_joinDistance 2 (some .int)] rmX10_joinDistance (q_Pc B D cy [.ref a0, .int (q_i a1)] S R I) (q_Qc B D cy (some (.int (q_i rz))) S R Iz) 0 0 (fun q => B ≤ q) := by
  refine q_met (lv := [(0, .ref a0), (1, .int (q_i a1))]) (own := RX10) (nm := "joinDistance") (by decide) rfl rfl (Nat.le_of_ble_eq_true rfl) rfl (fun X hX hE => ?_)
  unfold f_X10_joinDistance at hf
  refine v_aload_n 0 0 hX dX10_joinDistance_0 rfl rfl ?_
  refine v_iconst hX dX10_joinDistance_1 ?_
  obtain ⟨g1, hf⟩ := q_gd_some hf
  refine v_putI hX fa_RX10_1 rfl g1 dX10_joinDistance_2 ?_
  obtain ⟨I2, e3, hf⟩ := q_lt_nm hf
  rw [e3]
  refine v_iload_n 1 1 hX dX10_joinDistance_5 rfl rfl ?_
  obtain ⟨g4, hf⟩ := q_gd_some hf
  refine v_if_ge (tgt := 12) hX g4 dX10_joinDistance_6 (by decide) (fun c5 => ?_) (fun c5 => ?_)
  · replace hf := q_ifp c5 hf
    refine v_aload_n 0 0 hX dX10_joinDistance_12 rfl rfl ?_
    refine v_iload_n 1 1 hX dX10_joinDistance_13 rfl rfl ?_
    obtain ⟨r6, I7, h8, hf⟩ := q_bd2_some hf
    refine v_callV (As := [.int (q_i a1)]) (rest := []) (st1 := [.int (q_i r6)]) (some (.int (q_i r6))) hX mv_RX10_226 (c_X10_goesTo h8) ⟨rfl, rfl⟩ ⟨Nat.le_of_ble_eq_true rfl, Nat.le_of_ble_eq_true rfl⟩ g1 rfl rfl (Nat.le_of_ble_eq_true rfl) ⟨Nat.le_of_ble_eq_true rfl, Nat.le_of_ble_eq_true rfl⟩ dX10_joinDistance_14 rfl ?_
    obtain ⟨g9, hf⟩ := q_gd_some hf
    refine v_if_eq (tgt := 28) hX g9 dX10_joinDistance_17 (by decide) (fun c10 => ?_) (fun c10 => ?_)
    · replace hf := q_ifp c10 hf
      refine v_iconst hX dX10_joinDistance_28 ?_
      cases hf
      exact v_iret hX hE (Nat.le_of_ble_eq_true rfl) (Nat.le_of_ble_eq_true rfl) dX10_joinDistance_29
    · replace hf := q_ifn c10 hf
      refine v_aload_n 0 0 hX dX10_joinDistance_20 rfl rfl ?_
      refine v_getJ hX fa_RX10_219 (fun _ _ => rfl) g1 dX10_joinDistance_21 ?_
      refine v_l2i hX dX10_joinDistance_24 ?_
      refine v_goto (tgt := 29) hX dX10_joinDistance_25 (by decide) ?_
      cases hf
      exact v_iret hX hE (Nat.le_of_ble_eq_true rfl) (Nat.le_of_ble_eq_true rfl) dX10_joinDistance_29
  · replace hf := q_ifn c5 hf
    refine v_bipush (-3) hX dX10_joinDistance_9 (by decide) ?_
    cases hf
    exact v_iret hX hE (Nat.le_of_ble_eq_true rfl) (Nat.le_of_ble_eq_true rfl) dX10_joinDistance_11
noncomputable def f_X10_squaresOf_L5 (S : q_S) (R : q_HR) (I : q_HI) (p0 : Nat) (p1 : Int) (p2 : Int) (k : Int → Int → Option (Int)) : Nat → Int → Int → Option (Int)
  | 0, _, _ => none
  | n + 1, v3, v5 => q_gd (S.1 p0 = 11) (q_gd (S.1 (R p0 13) = 12) (q_gd ((0 : Int) ≤ p1 ∧ p1 < (S.2.1 (R p0 13) : Int)) (q_gd (r_i v5) (q_gd (r_i (I (R p0 13) (Int.toNat p1))) (if I (R p0 13) (Int.toNat p1) ≤ v5 then k v3 v5 else q_gd (S.1 (R p0 16) = 12) (q_bd (f_X10_placeOf p1 v5) fun r8 => q_gd ((0 : Int) ≤ (5 * r8) + p2 ∧ (5 * r8) + p2 < (S.2.1 (R p0 16) : Int)) (q_gd (r_i (I (R p0 16) (Int.toNat ((5 * r8) + p2)))) (q_bd (f_X10_placeOf p1 v5) fun r12 => q_gd ((0 : Int) ≤ (5 * r12) + p2 ∧ (5 * r12) + p2 < (S.2.1 (R p0 16) : Int)) (q_gd (r_i (I (R p0 16) (Int.toNat ((5 * r12) + p2)))) (q_lt (v3 + ((I (R p0 16) (Int.toNat ((5 * r8) + p2))) * (I (R p0 16) (Int.toNat ((5 * r12) + p2))))) fun x16 => f_X10_squaresOf_L5 S R I p0 p1 p2 k n x16 (v5 + 1)))))))))))
noncomputable def f_X10_squaresOf (S : q_S) (R : q_HR) (I : q_HI) (a0 : Nat) (a1 : Int) (a2 : Int) : Option (Int) := f_X10_squaresOf_L5 S R I a0 a1 a2 (fun w18 w19 => some w18) 100 0 0
abbrev rmX10_squaresOf : Room := { frames := 1, cells := 0, slots := 0, locals := 21 }
set_option maxRecDepth 20000 in
theorem l_X10_squaresOf_5 {X : q_X} {S : q_S} {R : q_HR} {I : q_HI} {p0 : Nat} {p1 : Int} {p2 : Int} {rz : Int} (hX : q_C X cX10_squaresOf 6 RX10 (some .long) "squaresOf") (hE : q_E X 0 0 (some (.long (q_l rz))) S R I) {k : Int → Int → Option (Int)} (hk : ∀ (v3 : Int) (v5 : Int), k v3 v5 = some rz → q_V X rmX10_squaresOf cX10_squaresOf 6 0 0 58 [(3, .long (q_l v3))] [] S R I) :
    ∀ (n : Nat), ∀ (v3 : Int) (v5 : Int), f_X10_squaresOf_L5 S R I p0 p1 p2 k n v3 v5 = some rz → q_V X rmX10_squaresOf cX10_squaresOf 6 0 0 5 [(0, .ref p0), (1, .int (q_i p1)), (2, .int (q_i p2)), (3, .long (q_l v3)), (5, .int (q_i v5))] [] S R I := by
  intro n
  induction n with
  | zero =>
    intro v3 v5 hf
    cases (show (none : Option (Int)) = some _ from hf)
  | succ n ih =>
    intro v3 v5 hf
    rw [f_X10_squaresOf_L5] at hf
    refine v_iload 4 hX dX10_squaresOf_5 rfl ?_
    refine v_aload_n 0 0 hX dX10_squaresOf_7 rfl rfl ?_
    obtain ⟨g1, hf⟩ := q_gd_some hf
    obtain ⟨g2, hf⟩ := q_gd_some hf
    refine v_getA hX fa_RX10_23 (fun _ _ => rfl) g1 g2 (by decide) dX10_squaresOf_8 ?_
    refine v_iload_n 1 1 hX dX10_squaresOf_11 rfl rfl ?_
    obtain ⟨g3, hf⟩ := q_gd_some hf
    refine v_iaload hX g2 g3 dX10_squaresOf_12 ?_
    obtain ⟨g4, hf⟩ := q_gd_some hf
    obtain ⟨g5, hf⟩ := q_gd_some hf
    refine v_icmp_ge (tgt := 58) hX g4 g5 dX10_squaresOf_13 (by decide) (fun c6 => ?_) (fun c6 => ?_)
    · replace hf := q_ifp c6 hf
      refine v_sub (lv' := [(3, .long (q_l v3))]) [3] rfl ?_
      exact hk _ _ hf
    · replace hf := q_ifn c6 hf
      refine v_lload_n 3 3 hX dX10_squaresOf_16 rfl rfl ?_
      refine v_aload_n 0 0 hX dX10_squaresOf_17 rfl rfl ?_
      obtain ⟨g7, hf⟩ := q_gd_some hf
      refine v_getA hX fa_RX10_26 (fun _ _ => rfl) g1 g7 (by decide) dX10_squaresOf_18 ?_
      refine v_iconst hX dX10_squaresOf_21 ?_
      refine v_iload_n 1 1 hX dX10_squaresOf_22 rfl rfl ?_
      refine v_iload 4 hX dX10_squaresOf_23 rfl ?_
      obtain ⟨r8, h9, hf⟩ := q_bd_some hf
      refine v_callS (As := [.int (q_i p1), .int (q_i v5)]) (rest := [.int (q_i 5), .ref (R p0 16), .long (q_l v3)]) (st1 := [.int (q_i r8), .int (q_i 5), .ref (R p0 16), .long (q_l v3)]) (some (.int (q_i r8))) hX ms_RX10_151 (c_X10_placeOf h9) ⟨rfl, rfl⟩ ⟨Nat.le_of_ble_eq_true rfl, Nat.le_of_ble_eq_true rfl⟩ rfl rfl (Nat.le_of_ble_eq_true rfl) ⟨Nat.le_of_ble_eq_true rfl, Nat.le_of_ble_eq_true rfl⟩ dX10_squaresOf_25 rfl ?_
      refine v_imul hX dX10_squaresOf_28 ?_
      refine v_iload_n 2 2 hX dX10_squaresOf_29 rfl rfl ?_
      refine v_iadd hX dX10_squaresOf_30 ?_
      obtain ⟨g10, hf⟩ := q_gd_some hf
      refine v_iaload hX g7 g10 dX10_squaresOf_31 ?_
      obtain ⟨g11, hf⟩ := q_gd_some hf
      refine v_i2l hX g11 dX10_squaresOf_32 ?_
      refine v_aload_n 0 0 hX dX10_squaresOf_33 rfl rfl ?_
      refine v_getA hX fa_RX10_26 (fun _ _ => rfl) g1 g7 (by decide) dX10_squaresOf_34 ?_
      refine v_iconst hX dX10_squaresOf_37 ?_
      refine v_iload_n 1 1 hX dX10_squaresOf_38 rfl rfl ?_
      refine v_iload 4 hX dX10_squaresOf_39 rfl ?_
      obtain ⟨r12, h13, hf⟩ := q_bd_some hf
      refine v_callS (As := [.int (q_i p1), .int (q_i v5)]) (rest := [.int (q_i 5), .ref (R p0 16), .long (q_l (I (R p0 16) (Int.toNat ((5 * r8) + p2)))), .long (q_l v3)]) (st1 := [.int (q_i r12), .int (q_i 5), .ref (R p0 16), .long (q_l (I (R p0 16) (Int.toNat ((5 * r8) + p2)))), .long (q_l v3)]) (some (.int (q_i r12))) hX ms_RX10_151 (c_X10_placeOf h13) ⟨rfl, rfl⟩ ⟨Nat.le_of_ble_eq_true rfl, Nat.le_of_ble_eq_true rfl⟩ rfl rfl (Nat.le_of_ble_eq_true rfl) ⟨Nat.le_of_ble_eq_true rfl, Nat.le_of_ble_eq_true rfl⟩ dX10_squaresOf_41 rfl ?_
      refine v_imul hX dX10_squaresOf_44 ?_
      refine v_iload_n 2 2 hX dX10_squaresOf_45 rfl rfl ?_
      refine v_iadd hX dX10_squaresOf_46 ?_
      obtain ⟨g14, hf⟩ := q_gd_some hf
      refine v_iaload hX g7 g14 dX10_squaresOf_47 ?_
      obtain ⟨g15, hf⟩ := q_gd_some hf
      refine v_i2l hX g15 dX10_squaresOf_48 ?_
      refine v_lmul hX dX10_squaresOf_49 ?_
      refine v_ladd hX dX10_squaresOf_50 ?_
      obtain ⟨x16, e17, hf⟩ := q_lt_nm hf
      rw [e17]
      refine v_lstore_n 3 (lw := [(3, .long (q_l x16)), (0, .ref p0), (1, .int (q_i p1)), (2, .int (q_i p2)), (5, .int (q_i v5))]) hX dX10_squaresOf_51 rfl (by decide) rfl ?_
      refine v_iinc 4 (lw := [(5, .int (q_i (v5 + 1))), (3, .long (q_l x16)), (0, .ref p0), (1, .int (q_i p1)), (2, .int (q_i p2))]) hX dX10_squaresOf_52 rfl (by decide) rfl ?_
      refine v_goto (tgt := 5) hX dX10_squaresOf_55 (by decide) ?_
      refine v_sub (lv' := [(0, .ref p0), (1, .int (q_i p1)), (2, .int (q_i p2)), (3, .long (q_l x16)), (5, .int (q_i (v5 + 1)))]) [2, 3, 4, 1, 0] rfl ?_
      exact ih _ _ hf
set_option maxRecDepth 20000 in
theorem c_X10_squaresOf {S : q_S} {R : q_HR} {I : q_HI} {a0 : Nat} {a1 : Int} {a2 : Int} {rz : Int} (hf : f_X10_squaresOf S R I a0 a1 a2 = some rz) : ∀ (l : Launch) (D : va_G) (cy : Nat → ClassId) (B : Nat), Met l yX10_squaresOf [Cond.code yX10_squaresOf cX10_squaresOf 6 (some .long)] rmX10_squaresOf (q_Pc B D cy [.ref a0, .int (q_i a1), .int (q_i a2)] S R I) (q_Qc B D cy (some (.long (q_l rz))) S R I) 0 0 (fun q => B ≤ q) := by
  refine q_met (lv := [(0, .ref a0), (1, .int (q_i a1)), (2, .int (q_i a2))]) (own := RX10) (nm := "squaresOf") (by decide) rfl rfl (Nat.le_of_ble_eq_true rfl) rfl (fun X hX hE => ?_)
  unfold f_X10_squaresOf at hf
  refine v_lconst 0 hX dX10_squaresOf_0 (by decide) ?_
  refine v_lstore_n 3 (lw := [(3, .long (q_l 0)), (0, .ref a0), (1, .int (q_i a1)), (2, .int (q_i a2))]) hX dX10_squaresOf_1 rfl (by decide) rfl ?_
  refine v_iconst hX dX10_squaresOf_2 ?_
  refine v_istore (lw := [(5, .int (q_i 0)), (3, .long (q_l 0)), (0, .ref a0), (1, .int (q_i a1)), (2, .int (q_i a2))]) hX dX10_squaresOf_3 (by decide) rfl ?_
  refine v_sub (lv' := [(0, .ref a0), (1, .int (q_i a1)), (2, .int (q_i a2)), (3, .long (q_l 0)), (5, .int (q_i 0))]) [2, 3, 4, 1, 0] rfl ?_
  refine l_X10_squaresOf_5 hX hE (fun w18 w19 hk => ?_) 100 _ _ hf
  clear hf
  have hf := hk
  clear hk
  refine v_lload_n 3 0 hX dX10_squaresOf_58 rfl rfl ?_
  cases hf
  exact v_lret hX hE (Nat.le_of_ble_eq_true rfl) (Nat.le_of_ble_eq_true rfl) dX10_squaresOf_59
noncomputable def f_X10_sensorScore_L35 (S : q_S) (R : q_HR) (I : q_HI) (p0 : Nat) (p1 : Int) (k : Int → Int → Int → Int → Int → Option (Int × q_HI)) : Nat → Int → Int → Int → Int → Int → Option (Int × q_HI)
  | 0, _, _, _, _, _ => none
  | n + 1, v2, v4, v6, v8, v10 => q_gd (S.1 p0 = 11) (q_gd (r_i v10) (q_gd (r_i (I p0 4)) (if I p0 4 ≤ v10 then k v2 v4 v6 v8 v10 else q_gd (S.1 (R p0 13) = 12) (q_gd ((0 : Int) ≤ v10 ∧ v10 < (S.2.1 (R p0 13) : Int)) (q_gd (r_i (I (R p0 13) (Int.toNat v10))) (if I (R p0 13) (Int.toNat v10) = 0 then f_X10_sensorScore_L35 S R I p0 p1 k n v2 v4 v6 v8 (v10 + 1) else q_bd (f_X10_sumOf S R I p0 v10 p1 (-1)) fun r18 => q_bd (f_X10_squaresOf S R I p0 v10 p1) fun r20 => q_gd (r_l (((I (R p0 13) (Int.toNat v10)) * r20) - (r18 * r18))) (q_gd (r_l (I (R p0 13) (Int.toNat v10))) (q_gd (I (R p0 13) (Int.toNat v10) ≠ 0) (q_lt (v2 + (Int.tdiv (((I (R p0 13) (Int.toNat v10)) * r20) - (r18 * r18)) (I (R p0 13) (Int.toNat v10)))) fun x25 => q_lt (v4 + (I (R p0 13) (Int.toNat v10))) fun x27 => q_bd (f_X10_squaresOf S R I p0 v10 p1) fun r29 => q_lt (v6 + r29) fun x31 => q_lt (v8 + r18) fun x33 => f_X10_sensorScore_L35 S R I p0 p1 k n x25 x27 x31 x33 (v10 + 1))))))))))
noncomputable def f_X10_sensorScore (S : q_S) (R : q_HR) (I : q_HI) (a0 : Nat) (a1 : Int) : Option (Int × q_HI) := q_gd (S.1 a0 = 11) (q_lt (q_up I a0 0 0) fun I2 => q_bd (f_X10_isSensor S R I2 a0 a1) fun r4 => q_gd (r_i r4) (if r4 = 0 then some ((-2), I2) else q_bd (f_X10_lays S R I2 a0 0) fun I8 => f_X10_sensorScore_L35 S R I8 a0 a1 (fun w35 w36 w37 w38 w39 => q_gd (r_l w36) (if w36 = 0 then some ((-1), I8) else q_gd (r_l ((w36 * w37) - (w38 * w38))) (q_gd (w36 ≠ 0) (q_lt ((Int.tdiv ((w36 * w37) - (w38 * w38)) w36) - w35) fun x44 => q_gd (r_l w35) (if w35 ≤ 0 then q_gd (r_l x44) (if x44 ≤ 0 then some (0, I8) else some (1000000, I8)) else q_gd (r_l (1000 * x44)) (q_gd (w35 ≠ 0) (q_lt (Int.tdiv (1000 * x44) w35) fun x54 => q_gd (r_l x54) (if x54 ≤ 2000000000 then some (x54, I8) else some (2000000000, I8))))))))) 100 0 0 0 0 0))
abbrev rmX10_sensorScore : Room := { frames := 4, cells := 0, slots := 0, locals := 105 }
set_option maxRecDepth 20000 in
theorem l_X10_sensorScore_35 {X : q_X} {S : q_S} {R : q_HR} {I : q_HI} {p0 : Nat} {p1 : Int} {rz : Int} {Iz : q_HI} (hX : q_C X cX10_sensorScore 14 RX10 (some .int) "sensorScore") (hE : q_E X 0 0 (some (.int (q_i rz))) S R Iz) {k : Int → Int → Int → Int → Int → Option (Int × q_HI)} (hk : ∀ (v2 : Int) (v4 : Int) (v6 : Int) (v8 : Int) (v10 : Int), k v2 v4 v6 v8 v10 = some (rz, Iz) → q_V X rmX10_sensorScore cX10_sensorScore 14 0 0 139 [(2, .long (q_l v2)), (4, .long (q_l v4)), (6, .long (q_l v6)), (8, .long (q_l v8))] [] S R I) :
    ∀ (n : Nat), ∀ (v2 : Int) (v4 : Int) (v6 : Int) (v8 : Int) (v10 : Int), f_X10_sensorScore_L35 S R I p0 p1 k n v2 v4 v6 v8 v10 = some (rz, Iz) → q_V X rmX10_sensorScore cX10_sensorScore 14 0 0 35 [(0, .ref p0), (1, .int (q_i p1)), (2, .long (q_l v2)), (4, .long (q_l v4)), (6, .long (q_l v6)), (8, .long (q_l v8)), (10, .int (q_i v10))] [] S R I := by
  intro n
  induction n with
  | zero =>
    intro v2 v4 v6 v8 v10 hf
    cases (show (none : Option (Int × q_HI)) = some _ from hf)
  | succ n ih =>
    intro v2 v4 v6 v8 v10 hf
    rw [f_X10_sensorScore_L35] at hf
    refine v_iload 6 hX dX10_sensorScore_35 rfl ?_
    refine v_aload_n 0 0 hX dX10_sensorScore_37 rfl rfl ?_
    obtain ⟨g10, hf⟩ := q_gd_some hf
    refine v_getI hX fa_RX10_61 (fun _ _ => rfl) g10 dX10_sensorScore_38 ?_
    obtain ⟨g11, hf⟩ := q_gd_some hf
    obtain ⟨g12, hf⟩ := q_gd_some hf
    refine v_icmp_ge (tgt := 139) hX g11 g12 dX10_sensorScore_41 (by decide) (fun c13 => ?_) (fun c13 => ?_)
    · replace hf := q_ifp c13 hf
      refine v_sub (lv' := [(2, .long (q_l v2)), (4, .long (q_l v4)), (6, .long (q_l v6)), (8, .long (q_l v8))]) [2, 3, 4, 5] rfl ?_
      exact hk _ _ _ _ _ hf
    · replace hf := q_ifn c13 hf
      refine v_aload_n 0 0 hX dX10_sensorScore_44 rfl rfl ?_
      obtain ⟨g14, hf⟩ := q_gd_some hf
      refine v_getA hX fa_RX10_23 (fun _ _ => rfl) g10 g14 (by decide) dX10_sensorScore_45 ?_
      refine v_iload 6 hX dX10_sensorScore_48 rfl ?_
      obtain ⟨g15, hf⟩ := q_gd_some hf
      refine v_iaload hX g14 g15 dX10_sensorScore_50 ?_
      obtain ⟨g16, hf⟩ := q_gd_some hf
      refine v_if_ne (tgt := 57) hX g16 dX10_sensorScore_51 (by decide) (fun c17 => ?_) (fun c17 => ?_)
      · replace hf := q_ifp c17 hf
        refine v_goto (tgt := 133) hX dX10_sensorScore_54 (by decide) ?_
        refine v_iinc 6 (lw := [(10, .int (q_i (v10 + 1))), (0, .ref p0), (1, .int (q_i p1)), (2, .long (q_l v2)), (4, .long (q_l v4)), (6, .long (q_l v6)), (8, .long (q_l v8))]) hX dX10_sensorScore_133 rfl (by decide) rfl ?_
        refine v_goto (tgt := 35) hX dX10_sensorScore_136 (by decide) ?_
        refine v_sub (lv' := [(0, .ref p0), (1, .int (q_i p1)), (2, .long (q_l v2)), (4, .long (q_l v4)), (6, .long (q_l v6)), (8, .long (q_l v8)), (10, .int (q_i (v10 + 1)))]) [1, 2, 3, 4, 5, 6, 0] rfl ?_
        exact ih _ _ _ _ _ hf
      · replace hf := q_ifn c17 hf
        refine v_aload_n 0 0 hX dX10_sensorScore_57 rfl rfl ?_
        refine v_iload 6 hX dX10_sensorScore_58 rfl ?_
        refine v_iload_n 1 1 hX dX10_sensorScore_60 rfl rfl ?_
        refine v_iconst hX dX10_sensorScore_61 ?_
        obtain ⟨r18, h19, hf⟩ := q_bd_some hf
        refine v_callV (As := [.int (q_i v10), .int (q_i p1), .int (q_i (-1))]) (rest := []) (st1 := [.long (q_l r18)]) (some (.long (q_l r18))) hX mv_RX10_160 (c_X10_sumOf h19) ⟨rfl, rfl⟩ ⟨Nat.le_of_ble_eq_true rfl, Nat.le_of_ble_eq_true rfl⟩ g10 rfl rfl (Nat.le_of_ble_eq_true rfl) ⟨Nat.le_of_ble_eq_true rfl, Nat.le_of_ble_eq_true rfl⟩ dX10_sensorScore_62 rfl ?_
        refine v_lstore (lw := [(11, .long (q_l r18)), (0, .ref p0), (1, .int (q_i p1)), (2, .long (q_l v2)), (4, .long (q_l v4)), (6, .long (q_l v6)), (8, .long (q_l v8)), (10, .int (q_i v10))]) hX dX10_sensorScore_65 (by decide) rfl ?_
        refine v_lload_n 2 3 hX dX10_sensorScore_67 rfl rfl ?_
        refine v_aload_n 0 1 hX dX10_sensorScore_68 rfl rfl ?_
        refine v_getA hX fa_RX10_23 (fun _ _ => rfl) g10 g14 (by decide) dX10_sensorScore_69 ?_
        refine v_iload 7 hX dX10_sensorScore_72 rfl ?_
        refine v_iaload hX g14 g15 dX10_sensorScore_74 ?_
        refine v_i2l hX g16 dX10_sensorScore_75 ?_
        refine v_aload_n 0 1 hX dX10_sensorScore_76 rfl rfl ?_
        refine v_iload 7 hX dX10_sensorScore_77 rfl ?_
        refine v_iload_n 1 2 hX dX10_sensorScore_79 rfl rfl ?_
        obtain ⟨r20, h21, hf⟩ := q_bd_some hf
        refine v_callV (As := [.int (q_i v10), .int (q_i p1)]) (rest := [.long (q_l (I (R p0 13) (Int.toNat v10))), .long (q_l v2)]) (st1 := [.long (q_l r20), .long (q_l (I (R p0 13) (Int.toNat v10))), .long (q_l v2)]) (some (.long (q_l r20))) hX mv_RX10_229 (c_X10_squaresOf h21) ⟨rfl, rfl⟩ ⟨Nat.le_of_ble_eq_true rfl, Nat.le_of_ble_eq_true rfl⟩ g10 rfl rfl (Nat.le_of_ble_eq_true rfl) ⟨Nat.le_of_ble_eq_true rfl, Nat.le_of_ble_eq_true rfl⟩ dX10_sensorScore_80 rfl ?_
        refine v_lmul hX dX10_sensorScore_83 ?_
        refine v_lload 0 hX dX10_sensorScore_84 rfl ?_
        refine v_lload 0 hX dX10_sensorScore_86 rfl ?_
        refine v_lmul hX dX10_sensorScore_88 ?_
        refine v_lsub hX dX10_sensorScore_89 ?_
        refine v_aload_n 0 1 hX dX10_sensorScore_90 rfl rfl ?_
        refine v_getA hX fa_RX10_23 (fun _ _ => rfl) g10 g14 (by decide) dX10_sensorScore_91 ?_
        refine v_iload 7 hX dX10_sensorScore_94 rfl ?_
        refine v_iaload hX g14 g15 dX10_sensorScore_96 ?_
        refine v_i2l hX g16 dX10_sensorScore_97 ?_
        obtain ⟨g22, hf⟩ := q_gd_some hf
        obtain ⟨g23, hf⟩ := q_gd_some hf
        obtain ⟨g24, hf⟩ := q_gd_some hf
        refine v_ldiv hX g22 g23 g24 dX10_sensorScore_98 ?_
        refine v_ladd hX dX10_sensorScore_99 ?_
        obtain ⟨x25, e26, hf⟩ := q_lt_nm hf
        rw [e26]
        refine v_lstore_n 2 (lw := [(2, .long (q_l x25)), (11, .long (q_l r18)), (0, .ref p0), (1, .int (q_i p1)), (4, .long (q_l v4)), (6, .long (q_l v6)), (8, .long (q_l v8)), (10, .int (q_i v10))]) hX dX10_sensorScore_100 rfl (by decide) rfl ?_
        refine v_lload 4 hX dX10_sensorScore_101 rfl ?_
        refine v_aload_n 0 2 hX dX10_sensorScore_103 rfl rfl ?_
        refine v_getA hX fa_RX10_23 (fun _ _ => rfl) g10 g14 (by decide) dX10_sensorScore_104 ?_
        refine v_iload 7 hX dX10_sensorScore_107 rfl ?_
        refine v_iaload hX g14 g15 dX10_sensorScore_109 ?_
        refine v_i2l hX g16 dX10_sensorScore_110 ?_
        refine v_ladd hX dX10_sensorScore_111 ?_
        obtain ⟨x27, e28, hf⟩ := q_lt_nm hf
        rw [e28]
        refine v_lstore (lw := [(4, .long (q_l x27)), (2, .long (q_l x25)), (11, .long (q_l r18)), (0, .ref p0), (1, .int (q_i p1)), (6, .long (q_l v6)), (8, .long (q_l v8)), (10, .int (q_i v10))]) hX dX10_sensorScore_112 (by decide) rfl ?_
        refine v_lload 5 hX dX10_sensorScore_114 rfl ?_
        refine v_aload_n 0 3 hX dX10_sensorScore_116 rfl rfl ?_
        refine v_iload 7 hX dX10_sensorScore_117 rfl ?_
        refine v_iload_n 1 4 hX dX10_sensorScore_119 rfl rfl ?_
        obtain ⟨r29, h30, hf⟩ := q_bd_some hf
        refine v_callV (As := [.int (q_i v10), .int (q_i p1)]) (rest := [.long (q_l v6)]) (st1 := [.long (q_l r29), .long (q_l v6)]) (some (.long (q_l r29))) hX mv_RX10_229 (c_X10_squaresOf h30) ⟨rfl, rfl⟩ ⟨Nat.le_of_ble_eq_true rfl, Nat.le_of_ble_eq_true rfl⟩ g10 rfl rfl (Nat.le_of_ble_eq_true rfl) ⟨Nat.le_of_ble_eq_true rfl, Nat.le_of_ble_eq_true rfl⟩ dX10_sensorScore_120 rfl ?_
        refine v_ladd hX dX10_sensorScore_123 ?_
        obtain ⟨x31, e32, hf⟩ := q_lt_nm hf
        rw [e32]
        refine v_lstore (lw := [(6, .long (q_l x31)), (4, .long (q_l x27)), (2, .long (q_l x25)), (11, .long (q_l r18)), (0, .ref p0), (1, .int (q_i p1)), (8, .long (q_l v8)), (10, .int (q_i v10))]) hX dX10_sensorScore_124 (by decide) rfl ?_
        refine v_lload 6 hX dX10_sensorScore_126 rfl ?_
        refine v_lload 3 hX dX10_sensorScore_128 rfl ?_
        refine v_ladd hX dX10_sensorScore_130 ?_
        obtain ⟨x33, e34, hf⟩ := q_lt_nm hf
        rw [e34]
        refine v_lstore (lw := [(8, .long (q_l x33)), (6, .long (q_l x31)), (4, .long (q_l x27)), (2, .long (q_l x25)), (11, .long (q_l r18)), (0, .ref p0), (1, .int (q_i p1)), (10, .int (q_i v10))]) hX dX10_sensorScore_131 (by decide) rfl ?_
        refine v_iinc 7 (lw := [(10, .int (q_i (v10 + 1))), (8, .long (q_l x33)), (6, .long (q_l x31)), (4, .long (q_l x27)), (2, .long (q_l x25)), (11, .long (q_l r18)), (0, .ref p0), (1, .int (q_i p1))]) hX dX10_sensorScore_133 rfl (by decide) rfl ?_
        refine v_goto (tgt := 35) hX dX10_sensorScore_136 (by decide) ?_
        refine v_sub (lv' := [(0, .ref p0), (1, .int (q_i p1)), (2, .long (q_l x25)), (4, .long (q_l x27)), (6, .long (q_l x31)), (8, .long (q_l x33)), (10, .int (q_i (v10 + 1)))]) [6, 7, 4, 3, 2, 1, 0] rfl ?_
        exact ih _ _ _ _ _ hf
set_option maxRecDepth 20000 in
theorem c_X10_sensorScore {S : q_S} {R : q_HR} {I : q_HI} {a0 : Nat} {a1 : Int} {rz : Int} {Iz : q_HI} (hf : f_X10_sensorScore S R I a0 a1 = some (rz, Iz)) : ∀ (l : Launch) (D : va_G) (cy : Nat → ClassId) (B : Nat), Met l yX10_sensorScore [Cond.code yX10_sensorScore cX10_sensorScore 14 (some .int)] rmX10_sensorScore (q_Pc B D cy [.ref a0, .int (q_i a1)] S R I) (q_Qc B D cy (some (.int (q_i rz))) S R Iz) 0 0 (fun q => B ≤ q) := by
  refine q_met (lv := [(0, .ref a0), (1, .int (q_i a1))]) (own := RX10) (nm := "sensorScore") (by decide) rfl rfl (Nat.le_of_ble_eq_true rfl) rfl (fun X hX hE => ?_)
  unfold f_X10_sensorScore at hf
  refine v_aload_n 0 0 hX dX10_sensorScore_0 rfl rfl ?_
  refine v_iconst hX dX10_sensorScore_1 ?_
  obtain ⟨g1, hf⟩ := q_gd_some hf
  refine v_putI hX fa_RX10_1 rfl g1 dX10_sensorScore_2 ?_
  obtain ⟨I2, e3, hf⟩ := q_lt_nm hf
  rw [e3]
  refine v_aload_n 0 0 hX dX10_sensorScore_5 rfl rfl ?_
  refine v_iload_n 1 1 hX dX10_sensorScore_6 rfl rfl ?_
  obtain ⟨r4, h5, hf⟩ := q_bd_some hf
  refine v_callV (As := [.int (q_i a1)]) (rest := []) (st1 := [.int (q_i r4)]) (some (.int (q_i r4))) hX mv_RX10_88 (c_X10_isSensor h5) ⟨rfl, rfl⟩ ⟨Nat.le_of_ble_eq_true rfl, Nat.le_of_ble_eq_true rfl⟩ g1 rfl rfl (Nat.le_of_ble_eq_true rfl) ⟨Nat.le_of_ble_eq_true rfl, Nat.le_of_ble_eq_true rfl⟩ dX10_sensorScore_7 rfl ?_
  obtain ⟨g6, hf⟩ := q_gd_some hf
  refine v_if_ne (tgt := 16) hX g6 dX10_sensorScore_10 (by decide) (fun c7 => ?_) (fun c7 => ?_)
  · replace hf := q_ifp c7 hf
    refine v_bipush (-2) hX dX10_sensorScore_13 (by decide) ?_
    cases hf
    exact v_iret hX hE (Nat.le_of_ble_eq_true rfl) (Nat.le_of_ble_eq_true rfl) dX10_sensorScore_15
  · replace hf := q_ifn c7 hf
    refine v_aload_n 0 0 hX dX10_sensorScore_16 rfl rfl ?_
    refine v_iconst hX dX10_sensorScore_17 ?_
    obtain ⟨I8, h9, hf⟩ := q_bd_some hf
    refine v_callV (As := [.int (q_i 0)]) (rest := []) (st1 := []) none hX mv_RX10_143 (c_X10_lays h9) ⟨rfl, rfl⟩ ⟨Nat.le_of_ble_eq_true rfl, Nat.le_of_ble_eq_true rfl⟩ g1 rfl rfl (Nat.le_of_ble_eq_true rfl) ⟨Nat.le_of_ble_eq_true rfl, Nat.le_of_ble_eq_true rfl⟩ dX10_sensorScore_18 rfl ?_
    refine v_lconst 0 hX dX10_sensorScore_21 (by decide) ?_
    refine v_lstore_n 2 (lw := [(2, .long (q_l 0)), (0, .ref a0), (1, .int (q_i a1))]) hX dX10_sensorScore_22 rfl (by decide) rfl ?_
    refine v_lconst 0 hX dX10_sensorScore_23 (by decide) ?_
    refine v_lstore (lw := [(4, .long (q_l 0)), (2, .long (q_l 0)), (0, .ref a0), (1, .int (q_i a1))]) hX dX10_sensorScore_24 (by decide) rfl ?_
    refine v_lconst 0 hX dX10_sensorScore_26 (by decide) ?_
    refine v_lstore (lw := [(6, .long (q_l 0)), (4, .long (q_l 0)), (2, .long (q_l 0)), (0, .ref a0), (1, .int (q_i a1))]) hX dX10_sensorScore_27 (by decide) rfl ?_
    refine v_lconst 0 hX dX10_sensorScore_29 (by decide) ?_
    refine v_lstore (lw := [(8, .long (q_l 0)), (6, .long (q_l 0)), (4, .long (q_l 0)), (2, .long (q_l 0)), (0, .ref a0), (1, .int (q_i a1))]) hX dX10_sensorScore_30 (by decide) rfl ?_
    refine v_iconst hX dX10_sensorScore_32 ?_
    refine v_istore (lw := [(10, .int (q_i 0)), (8, .long (q_l 0)), (6, .long (q_l 0)), (4, .long (q_l 0)), (2, .long (q_l 0)), (0, .ref a0), (1, .int (q_i a1))]) hX dX10_sensorScore_33 (by decide) rfl ?_
    refine v_sub (lv' := [(0, .ref a0), (1, .int (q_i a1)), (2, .long (q_l 0)), (4, .long (q_l 0)), (6, .long (q_l 0)), (8, .long (q_l 0)), (10, .int (q_i 0))]) [5, 6, 4, 3, 2, 1, 0] rfl ?_
    refine l_X10_sensorScore_35 hX hE (fun w35 w36 w37 w38 w39 hk => ?_) 100 _ _ _ _ _ hf
    clear hf
    have hf := hk
    clear hk
    refine v_lload 1 hX dX10_sensorScore_139 rfl ?_
    refine v_lconst 0 hX dX10_sensorScore_141 (by decide) ?_
    obtain ⟨g40, hf⟩ := q_gd_some hf
    refine v_lcmp hX g40 (by unfold r_l; omega) dX10_sensorScore_142 ?_
    refine v_ifc_ne (tgt := 148) hX dX10_sensorScore_143 (by decide) (fun c41 => ?_) (fun c41 => ?_)
    · replace hf := q_ifp c41 hf
      refine v_iconst hX dX10_sensorScore_146 ?_
      cases hf
      exact v_iret hX hE (Nat.le_of_ble_eq_true rfl) (Nat.le_of_ble_eq_true rfl) dX10_sensorScore_147
    · replace hf := q_ifn c41 hf
      refine v_lload 1 hX dX10_sensorScore_148 rfl ?_
      refine v_lload 2 hX dX10_sensorScore_150 rfl ?_
      refine v_lmul hX dX10_sensorScore_152 ?_
      refine v_lload 3 hX dX10_sensorScore_153 rfl ?_
      refine v_lload 3 hX dX10_sensorScore_155 rfl ?_
      refine v_lmul hX dX10_sensorScore_157 ?_
      refine v_lsub hX dX10_sensorScore_158 ?_
      refine v_lload 1 hX dX10_sensorScore_159 rfl ?_
      obtain ⟨g42, hf⟩ := q_gd_some hf
      obtain ⟨g43, hf⟩ := q_gd_some hf
      refine v_ldiv hX g42 g40 g43 dX10_sensorScore_161 ?_
      refine v_lload_n 2 0 hX dX10_sensorScore_162 rfl rfl ?_
      refine v_lsub hX dX10_sensorScore_163 ?_
      obtain ⟨x44, e45, hf⟩ := q_lt_nm hf
      rw [e45]
      refine v_lstore (lw := [(10, .long (q_l x44)), (2, .long (q_l w35)), (4, .long (q_l w36)), (6, .long (q_l w37)), (8, .long (q_l w38))]) hX dX10_sensorScore_164 (by decide) rfl ?_
      refine v_lload_n 2 1 hX dX10_sensorScore_166 rfl rfl ?_
      refine v_lconst 0 hX dX10_sensorScore_167 (by decide) ?_
      obtain ⟨g46, hf⟩ := q_gd_some hf
      refine v_lcmp hX g46 (by unfold r_l; omega) dX10_sensorScore_168 ?_
      refine v_ifc_le (tgt := 183) hX dX10_sensorScore_169 (by decide) (fun c47 => ?_) (fun c47 => ?_)
      · replace hf := q_ifp c47 hf
        refine v_lload 0 hX dX10_sensorScore_183 rfl ?_
        refine v_lconst 0 hX dX10_sensorScore_185 (by decide) ?_
        obtain ⟨g48, hf⟩ := q_gd_some hf
        refine v_lcmp hX g48 (by unfold r_l; omega) dX10_sensorScore_186 ?_
        refine v_ifc_le (tgt := 196) hX dX10_sensorScore_187 (by decide) (fun c49 => ?_) (fun c49 => ?_)
        · replace hf := q_ifp c49 hf
          refine v_lconst 0 hX dX10_sensorScore_196 (by decide) ?_
          refine v_lstore (lw := [(12, .long (q_l 0)), (10, .long (q_l x44)), (2, .long (q_l w35)), (4, .long (q_l w36)), (6, .long (q_l w37)), (8, .long (q_l w38))]) hX dX10_sensorScore_197 (by decide) rfl ?_
          refine v_lload 0 hX dX10_sensorScore_199 rfl ?_
          refine v_ldc2 2000000000 hX kl_RX10_232 (by decide) dX10_sensorScore_201 ?_
          refine v_lcmp hX (by unfold r_l; omega) (by unfold r_l; omega) dX10_sensorScore_204 ?_
          refine v_ifc_le (tgt := 213) hX dX10_sensorScore_205 (by decide) (fun _ => ?_) (fun c50 => absurd (by decide) c50)
          refine v_lload 0 hX dX10_sensorScore_213 rfl ?_
          refine v_l2i hX dX10_sensorScore_215 ?_
          cases hf
          exact v_iret hX hE (Nat.le_of_ble_eq_true rfl) (Nat.le_of_ble_eq_true rfl) dX10_sensorScore_216
        · replace hf := q_ifn c49 hf
          refine v_ldc2 1000000 hX kl_RX10_146 (by decide) dX10_sensorScore_190 ?_
          refine v_goto (tgt := 197) hX dX10_sensorScore_193 (by decide) ?_
          refine v_lstore (lw := [(12, .long (q_l 1000000)), (10, .long (q_l x44)), (2, .long (q_l w35)), (4, .long (q_l w36)), (6, .long (q_l w37)), (8, .long (q_l w38))]) hX dX10_sensorScore_197 (by decide) rfl ?_
          refine v_lload 0 hX dX10_sensorScore_199 rfl ?_
          refine v_ldc2 2000000000 hX kl_RX10_232 (by decide) dX10_sensorScore_201 ?_
          refine v_lcmp hX (by unfold r_l; omega) (by unfold r_l; omega) dX10_sensorScore_204 ?_
          refine v_ifc_le (tgt := 213) hX dX10_sensorScore_205 (by decide) (fun _ => ?_) (fun c51 => absurd (by decide) c51)
          refine v_lload 0 hX dX10_sensorScore_213 rfl ?_
          refine v_l2i hX dX10_sensorScore_215 ?_
          cases hf
          exact v_iret hX hE (Nat.le_of_ble_eq_true rfl) (Nat.le_of_ble_eq_true rfl) dX10_sensorScore_216
      · replace hf := q_ifn c47 hf
        refine v_ldc2 1000 hX kl_RX10_125 (by decide) dX10_sensorScore_172 ?_
        refine v_lload 0 hX dX10_sensorScore_175 rfl ?_
        refine v_lmul hX dX10_sensorScore_177 ?_
        refine v_lload_n 2 1 hX dX10_sensorScore_178 rfl rfl ?_
        obtain ⟨g52, hf⟩ := q_gd_some hf
        obtain ⟨g53, hf⟩ := q_gd_some hf
        refine v_ldiv hX g52 g46 g53 dX10_sensorScore_179 ?_
        refine v_goto (tgt := 197) hX dX10_sensorScore_180 (by decide) ?_
        obtain ⟨x54, e55, hf⟩ := q_lt_nm hf
        rw [e55]
        refine v_lstore (lw := [(12, .long (q_l x54)), (10, .long (q_l x44)), (2, .long (q_l w35)), (4, .long (q_l w36)), (6, .long (q_l w37)), (8, .long (q_l w38))]) hX dX10_sensorScore_197 (by decide) rfl ?_
        refine v_lload 0 hX dX10_sensorScore_199 rfl ?_
        refine v_ldc2 2000000000 hX kl_RX10_232 (by decide) dX10_sensorScore_201 ?_
        obtain ⟨g56, hf⟩ := q_gd_some hf
        refine v_lcmp hX g56 (by unfold r_l; omega) dX10_sensorScore_204 ?_
        refine v_ifc_le (tgt := 213) hX dX10_sensorScore_205 (by decide) (fun c57 => ?_) (fun c57 => ?_)
        · replace hf := q_ifp c57 hf
          refine v_lload 0 hX dX10_sensorScore_213 rfl ?_
          refine v_l2i hX dX10_sensorScore_215 ?_
          cases hf
          exact v_iret hX hE (Nat.le_of_ble_eq_true rfl) (Nat.le_of_ble_eq_true rfl) dX10_sensorScore_216
        · replace hf := q_ifn c57 hf
          refine v_ldc 2000000000 hX kc_RX10_234 (by decide) dX10_sensorScore_208 ?_
          refine v_goto (tgt := 216) hX dX10_sensorScore_210 (by decide) ?_
          cases hf
          exact v_iret hX hE (Nat.le_of_ble_eq_true rfl) (Nat.le_of_ble_eq_true rfl) dX10_sensorScore_216
noncomputable def f_X10_outlier (S : q_S) (R : q_HR) (I : q_HI) (a0 : Nat) (a1 : Int) : Option (Int × q_HI) := q_gd (S.1 a0 = 11) (q_lt (q_up I a0 0 0) fun I2 => q_bd (f_X10_isClass S R I2 a0 a1) fun r4 => q_gd (r_i r4) (if r4 = 0 then some ((-2), I2) else q_gd (S.1 (R a0 13) = 12) (q_gd ((0 : Int) ≤ a1 ∧ a1 < (S.2.1 (R a0 13) : Int)) (q_gd (r_i (I2 (R a0 13) (Int.toNat a1))) (if I2 (R a0 13) (Int.toNat a1) = 0 then some ((-1), I2) else q_bd (f_X10_lays S R I2 a0 0) fun I12 => q_bd2 (f_X10_farthest S R I12 a0 a1) fun r14 I15 => some (r14, I15))))))
abbrev rmX10_outlier : Room := { frames := 4, cells := 0, slots := 0, locals := 105 }
set_option maxRecDepth 20000 in
theorem c_X10_outlier {S : q_S} {R : q_HR} {I : q_HI} {a0 : Nat} {a1 : Int} {rz : Int} {Iz : q_HI} (hf : f_X10_outlier S R I a0 a1 = some (rz, Iz)) : ∀ (l : Launch) (D : va_G) (cy : Nat → ClassId) (B : Nat), Met l yX10_outlier [Cond.code yX10_outlier cX10_outlier 2 (some .int)] rmX10_outlier (q_Pc B D cy [.ref a0, .int (q_i a1)] S R I) (q_Qc B D cy (some (.int (q_i rz))) S R Iz) 0 0 (fun q => B ≤ q) := by
  refine q_met (lv := [(0, .ref a0), (1, .int (q_i a1))]) (own := RX10) (nm := "outlier") (by decide) rfl rfl (Nat.le_of_ble_eq_true rfl) rfl (fun X hX hE => ?_)
  unfold f_X10_outlier at hf
  refine v_aload_n 0 0 hX dX10_outlier_0 rfl rfl ?_
  refine v_iconst hX dX10_outlier_1 ?_
  obtain ⟨g1, hf⟩ := q_gd_some hf
  refine v_putI hX fa_RX10_1 rfl g1 dX10_outlier_2 ?_
  obtain ⟨I2, e3, hf⟩ := q_lt_nm hf
  rw [e3]
  refine v_aload_n 0 0 hX dX10_outlier_5 rfl rfl ?_
  refine v_iload_n 1 1 hX dX10_outlier_6 rfl rfl ?_
  obtain ⟨r4, h5, hf⟩ := q_bd_some hf
  refine v_callV (As := [.int (q_i a1)]) (rest := []) (st1 := [.int (q_i r4)]) (some (.int (q_i r4))) hX mv_RX10_148 (c_X10_isClass h5) ⟨rfl, rfl⟩ ⟨Nat.le_of_ble_eq_true rfl, Nat.le_of_ble_eq_true rfl⟩ g1 rfl rfl (Nat.le_of_ble_eq_true rfl) ⟨Nat.le_of_ble_eq_true rfl, Nat.le_of_ble_eq_true rfl⟩ dX10_outlier_7 rfl ?_
  obtain ⟨g6, hf⟩ := q_gd_some hf
  refine v_if_ne (tgt := 16) hX g6 dX10_outlier_10 (by decide) (fun c7 => ?_) (fun c7 => ?_)
  · replace hf := q_ifp c7 hf
    refine v_bipush (-2) hX dX10_outlier_13 (by decide) ?_
    cases hf
    exact v_iret hX hE (Nat.le_of_ble_eq_true rfl) (Nat.le_of_ble_eq_true rfl) dX10_outlier_15
  · replace hf := q_ifn c7 hf
    refine v_aload_n 0 0 hX dX10_outlier_16 rfl rfl ?_
    obtain ⟨g8, hf⟩ := q_gd_some hf
    refine v_getA hX fa_RX10_23 (fun _ _ => rfl) g1 g8 (by decide) dX10_outlier_17 ?_
    refine v_iload_n 1 1 hX dX10_outlier_20 rfl rfl ?_
    obtain ⟨g9, hf⟩ := q_gd_some hf
    refine v_iaload hX g8 g9 dX10_outlier_21 ?_
    obtain ⟨g10, hf⟩ := q_gd_some hf
    refine v_if_ne (tgt := 27) hX g10 dX10_outlier_22 (by decide) (fun c11 => ?_) (fun c11 => ?_)
    · replace hf := q_ifp c11 hf
      refine v_iconst hX dX10_outlier_25 ?_
      cases hf
      exact v_iret hX hE (Nat.le_of_ble_eq_true rfl) (Nat.le_of_ble_eq_true rfl) dX10_outlier_26
    · replace hf := q_ifn c11 hf
      refine v_aload_n 0 0 hX dX10_outlier_27 rfl rfl ?_
      refine v_iconst hX dX10_outlier_28 ?_
      obtain ⟨I12, h13, hf⟩ := q_bd_some hf
      refine v_callV (As := [.int (q_i 0)]) (rest := []) (st1 := []) none hX mv_RX10_143 (c_X10_lays h13) ⟨rfl, rfl⟩ ⟨Nat.le_of_ble_eq_true rfl, Nat.le_of_ble_eq_true rfl⟩ g1 rfl rfl (Nat.le_of_ble_eq_true rfl) ⟨Nat.le_of_ble_eq_true rfl, Nat.le_of_ble_eq_true rfl⟩ dX10_outlier_29 rfl ?_
      refine v_aload_n 0 0 hX dX10_outlier_32 rfl rfl ?_
      refine v_iload_n 1 1 hX dX10_outlier_33 rfl rfl ?_
      obtain ⟨r14, I15, h16, hf⟩ := q_bd2_some hf
      refine v_callV (As := [.int (q_i a1)]) (rest := []) (st1 := [.int (q_i r14)]) (some (.int (q_i r14))) hX mv_RX10_175 (c_X10_farthest h16) ⟨rfl, rfl⟩ ⟨Nat.le_of_ble_eq_true rfl, Nat.le_of_ble_eq_true rfl⟩ g1 rfl rfl (Nat.le_of_ble_eq_true rfl) ⟨Nat.le_of_ble_eq_true rfl, Nat.le_of_ble_eq_true rfl⟩ dX10_outlier_34 rfl ?_
      cases hf
      exact v_iret hX hE (Nat.le_of_ble_eq_true rfl) (Nat.le_of_ble_eq_true rfl) dX10_outlier_37
