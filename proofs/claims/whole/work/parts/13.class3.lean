noncomputable def f_X9_radius (S : q_S) (R : q_HR) (I : q_HI) (a0 : Nat) (a1 : Int) : Option (Int × q_HI) := q_gd (S.1 a0 = 10) (q_bd (f_X9_hasClass S R I a0 a1) fun r2 => q_gd (r_i r2) (if r2 = 0 then some ((-2), I) else q_bd (f_X9_prepare S R I a0) fun I6 => q_bd (f_X9_reachOf S R I6 a0 a1) fun r8 => some (r8, I6)))
abbrev rmX9_radius : Room := { frames := 6, cells := 0, slots := 0, locals := 141 }
set_option maxRecDepth 20000 in
theorem c_X9_radius {S : q_S} {R : q_HR} {I : q_HI} {a0 : Nat} {a1 : Int} {rz : Int} {Iz : q_HI} (hf : f_X9_radius S R I a0 a1 = some (rz, Iz)) : ∀ (l : Launch) (D : va_G) (cy : Nat → ClassId) (B : Nat), Met l yX9_radius [Cond.code yX9_radius cX9_radius 2 (some .int)] rmX9_radius (q_Pc B D cy [.ref a0, .int (q_i a1)] S R I) (q_Qc B D cy (some (.int (q_i rz))) S R Iz) 0 0 (fun q => B ≤ q) := by
  refine q_met (lv := [(0, .ref a0), (1, .int (q_i a1))]) (own := RX9) (nm := "radius") (by decide) rfl rfl (Nat.le_of_ble_eq_true rfl) rfl (fun X hX hE => ?_)
  unfold f_X9_radius at hf
  refine v_aload_n 0 0 hX dX9_radius_0 rfl rfl ?_
  refine v_iload_n 1 1 hX dX9_radius_1 rfl rfl ?_
  obtain ⟨g1, hf⟩ := q_gd_some hf
  obtain ⟨r2, h3, hf⟩ := q_bd_some hf
  refine v_callV (As := [.int (q_i a1)]) (rest := []) (st1 := [.int (q_i r2)]) (some (.int (q_i r2))) hX mv_RX9_181 (c_X9_hasClass h3) ⟨rfl, rfl⟩ ⟨Nat.le_of_ble_eq_true rfl, Nat.le_of_ble_eq_true rfl⟩ g1 rfl rfl (Nat.le_of_ble_eq_true rfl) ⟨Nat.le_of_ble_eq_true rfl, Nat.le_of_ble_eq_true rfl⟩ dX9_radius_2 rfl ?_
  obtain ⟨g4, hf⟩ := q_gd_some hf
  refine v_if_ne (tgt := 11) hX g4 dX9_radius_5 (by decide) (fun c5 => ?_) (fun c5 => ?_)
  · replace hf := q_ifp c5 hf
    refine v_bipush (-2) hX dX9_radius_8 (by decide) ?_
    cases hf
    exact v_iret hX hE (Nat.le_of_ble_eq_true rfl) (Nat.le_of_ble_eq_true rfl) dX9_radius_10
  · replace hf := q_ifn c5 hf
    refine v_aload_n 0 0 hX dX9_radius_11 rfl rfl ?_
    obtain ⟨I6, h7, hf⟩ := q_bd_some hf
    refine v_callV (As := []) (rest := []) (st1 := []) none hX mv_RX9_200 (c_X9_prepare h7) ⟨rfl, rfl⟩ ⟨Nat.le_of_ble_eq_true rfl, Nat.le_of_ble_eq_true rfl⟩ g1 rfl rfl (Nat.le_of_ble_eq_true rfl) ⟨Nat.le_of_ble_eq_true rfl, Nat.le_of_ble_eq_true rfl⟩ dX9_radius_12 rfl ?_
    refine v_aload_n 0 0 hX dX9_radius_15 rfl rfl ?_
    refine v_iload_n 1 1 hX dX9_radius_16 rfl rfl ?_
    obtain ⟨r8, h9, hf⟩ := q_bd_some hf
    refine v_callV (As := [.int (q_i a1)]) (rest := []) (st1 := [.int (q_i r8)]) (some (.int (q_i r8))) hX mv_RX9_210 (c_X9_reachOf h9) ⟨rfl, rfl⟩ ⟨Nat.le_of_ble_eq_true rfl, Nat.le_of_ble_eq_true rfl⟩ g1 rfl rfl (Nat.le_of_ble_eq_true rfl) ⟨Nat.le_of_ble_eq_true rfl, Nat.le_of_ble_eq_true rfl⟩ dX9_radius_17 rfl ?_
    cases hf
    exact v_iret hX hE (Nat.le_of_ble_eq_true rfl) (Nat.le_of_ble_eq_true rfl) dX9_radius_20
noncomputable def f_X9_setMargin (S : q_S) (R : q_HR) (I : q_HI) (a0 : Nat) (a1 : Int) : Option (Int × q_HI) := q_bd (f_X9_isWithin a1 0 400) fun r1 => q_gd (r_i r1) (if r1 = 0 then some ((-3), I) else q_gd (S.1 a0 = 10) (q_lt (I a0 11) fun x6 => q_lt (q_up I a0 11 a1) fun I8 => some (x6, I8)))
abbrev rmX9_setMargin : Room := { frames := 1, cells := 0, slots := 0, locals := 22 }
set_option maxRecDepth 20000 in
theorem c_X9_setMargin {S : q_S} {R : q_HR} {I : q_HI} {a0 : Nat} {a1 : Int} {rz : Int} {Iz : q_HI} (hf : f_X9_setMargin S R I a0 a1 = some (rz, Iz)) : ∀ (l : Launch) (D : va_G) (cy : Nat → ClassId) (B : Nat), Met l yX9_setMargin [Cond.code yX9_setMargin cX9_setMargin 3 (some .int)] rmX9_setMargin (q_Pc B D cy [.ref a0, .int (q_i a1)] S R I) (q_Qc B D cy (some (.int (q_i rz))) S R Iz) 0 0 (fun q => B ≤ q) := by
  refine q_met (lv := [(0, .ref a0), (1, .int (q_i a1))]) (own := RX9) (nm := "setMargin") (by decide) rfl rfl (Nat.le_of_ble_eq_true rfl) rfl (fun X hX hE => ?_)
  unfold f_X9_setMargin at hf
  refine v_iload_n 1 1 hX dX9_setMargin_0 rfl rfl ?_
  refine v_iconst hX dX9_setMargin_1 ?_
  refine v_sipush 400 hX dX9_setMargin_2 (by decide) ?_
  obtain ⟨r1, h2, hf⟩ := q_bd_some hf
  refine v_callS (As := [.int (q_i a1), .int (q_i 0), .int (q_i 400)]) (rest := []) (st1 := [.int (q_i r1)]) (some (.int (q_i r1))) hX ms_RX9_71 (c_X9_isWithin h2) ⟨rfl, rfl⟩ ⟨Nat.le_of_ble_eq_true rfl, Nat.le_of_ble_eq_true rfl⟩ rfl rfl (Nat.le_of_ble_eq_true rfl) ⟨Nat.le_of_ble_eq_true rfl, Nat.le_of_ble_eq_true rfl⟩ dX9_setMargin_5 rfl ?_
  obtain ⟨g3, hf⟩ := q_gd_some hf
  refine v_if_ne (tgt := 14) hX g3 dX9_setMargin_8 (by decide) (fun c4 => ?_) (fun c4 => ?_)
  · replace hf := q_ifp c4 hf
    refine v_bipush (-3) hX dX9_setMargin_11 (by decide) ?_
    cases hf
    exact v_iret hX hE (Nat.le_of_ble_eq_true rfl) (Nat.le_of_ble_eq_true rfl) dX9_setMargin_13
  · replace hf := q_ifn c4 hf
    refine v_aload_n 0 0 hX dX9_setMargin_14 rfl rfl ?_
    obtain ⟨g5, hf⟩ := q_gd_some hf
    refine v_getI hX fa_RX9_214 (fun _ _ => rfl) g5 dX9_setMargin_15 ?_
    obtain ⟨x6, e7, hf⟩ := q_lt_nm hf
    rw [e7]
    refine v_istore_n 2 (lw := [(2, .int (q_i x6)), (0, .ref a0), (1, .int (q_i a1))]) hX dX9_setMargin_18 rfl (by decide) rfl ?_
    refine v_aload_n 0 1 hX dX9_setMargin_19 rfl rfl ?_
    refine v_iload_n 1 2 hX dX9_setMargin_20 rfl rfl ?_
    refine v_putI hX fa_RX9_214 rfl g5 dX9_setMargin_21 ?_
    obtain ⟨I8, e9, hf⟩ := q_lt_nm hf
    rw [e9]
    refine v_iload_n 2 0 hX dX9_setMargin_24 rfl rfl ?_
    cases hf
    exact v_iret hX hE (Nat.le_of_ble_eq_true rfl) (Nat.le_of_ble_eq_true rfl) dX9_setMargin_25
noncomputable def f_X9_setSlack (S : q_S) (R : q_HR) (I : q_HI) (a0 : Nat) (a1 : Int) : Option (Int × q_HI) := q_bd (f_X9_isWithin a1 0 1000000) fun r1 => q_gd (r_i r1) (if r1 = 0 then some ((-3), I) else q_gd (S.1 a0 = 10) (q_lt (I a0 12) fun x6 => q_lt (q_up I a0 12 a1) fun I8 => some (x6, I8)))
abbrev rmX9_setSlack : Room := { frames := 1, cells := 0, slots := 0, locals := 22 }
set_option maxRecDepth 20000 in
theorem c_X9_setSlack {S : q_S} {R : q_HR} {I : q_HI} {a0 : Nat} {a1 : Int} {rz : Int} {Iz : q_HI} (hf : f_X9_setSlack S R I a0 a1 = some (rz, Iz)) : ∀ (l : Launch) (D : va_G) (cy : Nat → ClassId) (B : Nat), Met l yX9_setSlack [Cond.code yX9_setSlack cX9_setSlack 3 (some .int)] rmX9_setSlack (q_Pc B D cy [.ref a0, .int (q_i a1)] S R I) (q_Qc B D cy (some (.int (q_i rz))) S R Iz) 0 0 (fun q => B ≤ q) := by
  refine q_met (lv := [(0, .ref a0), (1, .int (q_i a1))]) (own := RX9) (nm := "setSlack") (by decide) rfl rfl (Nat.le_of_ble_eq_true rfl) rfl (fun X hX hE => ?_)
  unfold f_X9_setSlack at hf
  refine v_iload_n 1 1 hX dX9_setSlack_0 rfl rfl ?_
  refine v_iconst hX dX9_setSlack_1 ?_
  refine v_ldc 1000000 hX kc_RX9_171 (by decide) dX9_setSlack_2 ?_
  obtain ⟨r1, h2, hf⟩ := q_bd_some hf
  refine v_callS (As := [.int (q_i a1), .int (q_i 0), .int (q_i 1000000)]) (rest := []) (st1 := [.int (q_i r1)]) (some (.int (q_i r1))) hX ms_RX9_71 (c_X9_isWithin h2) ⟨rfl, rfl⟩ ⟨Nat.le_of_ble_eq_true rfl, Nat.le_of_ble_eq_true rfl⟩ rfl rfl (Nat.le_of_ble_eq_true rfl) ⟨Nat.le_of_ble_eq_true rfl, Nat.le_of_ble_eq_true rfl⟩ dX9_setSlack_4 rfl ?_
  obtain ⟨g3, hf⟩ := q_gd_some hf
  refine v_if_ne (tgt := 13) hX g3 dX9_setSlack_7 (by decide) (fun c4 => ?_) (fun c4 => ?_)
  · replace hf := q_ifp c4 hf
    refine v_bipush (-3) hX dX9_setSlack_10 (by decide) ?_
    cases hf
    exact v_iret hX hE (Nat.le_of_ble_eq_true rfl) (Nat.le_of_ble_eq_true rfl) dX9_setSlack_12
  · replace hf := q_ifn c4 hf
    refine v_aload_n 0 0 hX dX9_setSlack_13 rfl rfl ?_
    obtain ⟨g5, hf⟩ := q_gd_some hf
    refine v_getI hX fa_RX9_217 (fun _ _ => rfl) g5 dX9_setSlack_14 ?_
    obtain ⟨x6, e7, hf⟩ := q_lt_nm hf
    rw [e7]
    refine v_istore_n 2 (lw := [(2, .int (q_i x6)), (0, .ref a0), (1, .int (q_i a1))]) hX dX9_setSlack_17 rfl (by decide) rfl ?_
    refine v_aload_n 0 1 hX dX9_setSlack_18 rfl rfl ?_
    refine v_iload_n 1 2 hX dX9_setSlack_19 rfl rfl ?_
    refine v_putI hX fa_RX9_217 rfl g5 dX9_setSlack_20 ?_
    obtain ⟨I8, e9, hf⟩ := q_lt_nm hf
    rw [e9]
    refine v_iload_n 2 0 hX dX9_setSlack_23 rfl rfl ?_
    cases hf
    exact v_iret hX hE (Nat.le_of_ble_eq_true rfl) (Nat.le_of_ble_eq_true rfl) dX9_setSlack_24
noncomputable def f_X9_classify (S : q_S) (R : q_HR) (I : q_HI) (a0 : Nat) : Option (Int × q_HI) := q_gd (S.1 a0 = 10) (q_gd (r_i (I a0 9)) (if I a0 9 = 0 then some ((-5), I) else q_bd (f_X9_prepare S R I a0) fun I4 => q_gd (S.1 (R a0 7) = 12) (q_bd (f_X9_nearestTo S R I4 a0 (R a0 7) (-1)) fun r7 => q_gd (r_i r7) (if r7 = (-1) then some ((-1), I4) else q_bd (f_X9_gapToClass S R I4 a0 (R a0 7) r7) fun r11 => q_bd (f_X9_reachOf S R I4 a0 r7) fun r13 => q_gd (r_i r11) (q_gd (r_i r13) (if r13 < r11 then some ((-6), I4) else some (r7, I4)))))))
abbrev rmX9_classify : Room := { frames := 6, cells := 0, slots := 0, locals := 141 }
set_option maxRecDepth 20000 in
theorem c_X9_classify {S : q_S} {R : q_HR} {I : q_HI} {a0 : Nat} {rz : Int} {Iz : q_HI} (hf : f_X9_classify S R I a0 = some (rz, Iz)) : ∀ (l : Launch) (D : va_G) (cy : Nat → ClassId) (B : Nat), Met l yX9_classify [Cond.code yX9_classify cX9_classify 2 (some .int)] rmX9_classify (q_Pc B D cy [.ref a0] S R I) (q_Qc B D cy (some (.int (q_i rz))) S R Iz) 0 0 (fun q => B ≤ q) := by
  refine q_met (lv := [(0, .ref a0)]) (own := RX9) (nm := "classify") (by decide) rfl rfl (Nat.le_of_ble_eq_true rfl) rfl (fun X hX hE => ?_)
  unfold f_X9_classify at hf
  refine v_aload_n 0 0 hX dX9_classify_0 rfl rfl ?_
  obtain ⟨g1, hf⟩ := q_gd_some hf
  refine v_getI hX fa_RX9_91 (fun _ _ => rfl) g1 dX9_classify_1 ?_
  obtain ⟨g2, hf⟩ := q_gd_some hf
  refine v_if_ne (tgt := 10) hX g2 dX9_classify_4 (by decide) (fun c3 => ?_) (fun c3 => ?_)
  · replace hf := q_ifp c3 hf
    refine v_bipush (-5) hX dX9_classify_7 (by decide) ?_
    cases hf
    exact v_iret hX hE (Nat.le_of_ble_eq_true rfl) (Nat.le_of_ble_eq_true rfl) dX9_classify_9
  · replace hf := q_ifn c3 hf
    refine v_aload_n 0 0 hX dX9_classify_10 rfl rfl ?_
    obtain ⟨I4, h5, hf⟩ := q_bd_some hf
    refine v_callV (As := []) (rest := []) (st1 := []) none hX mv_RX9_200 (c_X9_prepare h5) ⟨rfl, rfl⟩ ⟨Nat.le_of_ble_eq_true rfl, Nat.le_of_ble_eq_true rfl⟩ g1 rfl rfl (Nat.le_of_ble_eq_true rfl) ⟨Nat.le_of_ble_eq_true rfl, Nat.le_of_ble_eq_true rfl⟩ dX9_classify_11 rfl ?_
    refine v_aload_n 0 0 hX dX9_classify_14 rfl rfl ?_
    refine v_aload_n 0 0 hX dX9_classify_15 rfl rfl ?_
    obtain ⟨g6, hf⟩ := q_gd_some hf
    refine v_getA hX fa_RX9_59 (fun _ _ => rfl) g1 g6 (by decide) dX9_classify_16 ?_
    refine v_iconst hX dX9_classify_19 ?_
    obtain ⟨r7, h8, hf⟩ := q_bd_some hf
    refine v_callV (As := [.ref (R a0 7), .int (q_i (-1))]) (rest := []) (st1 := [.int (q_i r7)]) (some (.int (q_i r7))) hX mv_RX9_207 (c_X9_nearestTo h8) ⟨rfl, rfl⟩ ⟨Nat.le_of_ble_eq_true rfl, Nat.le_of_ble_eq_true rfl⟩ g1 rfl rfl (Nat.le_of_ble_eq_true rfl) ⟨Nat.le_of_ble_eq_true rfl, Nat.le_of_ble_eq_true rfl⟩ dX9_classify_20 rfl ?_
    refine v_istore_n 1 (lw := [(1, .int (q_i r7)), (0, .ref a0)]) hX dX9_classify_23 rfl (by decide) rfl ?_
    refine v_iload_n 1 0 hX dX9_classify_24 rfl rfl ?_
    refine v_iconst hX dX9_classify_25 ?_
    obtain ⟨g9, hf⟩ := q_gd_some hf
    refine v_icmp_ne (tgt := 31) hX g9 (by unfold r_i; omega) dX9_classify_26 (by decide) (fun c10 => ?_) (fun c10 => ?_)
    · replace hf := q_ifp c10 hf
      refine v_iconst hX dX9_classify_29 ?_
      cases hf
      exact v_iret hX hE (Nat.le_of_ble_eq_true rfl) (Nat.le_of_ble_eq_true rfl) dX9_classify_30
    · replace hf := q_ifn c10 hf
      refine v_aload_n 0 1 hX dX9_classify_31 rfl rfl ?_
      refine v_aload_n 0 1 hX dX9_classify_32 rfl rfl ?_
      refine v_getA hX fa_RX9_59 (fun _ _ => rfl) g1 g6 (by decide) dX9_classify_33 ?_
      refine v_iload_n 1 0 hX dX9_classify_36 rfl rfl ?_
      obtain ⟨r11, h12, hf⟩ := q_bd_some hf
      refine v_callV (As := [.ref (R a0 7), .int (q_i r7)]) (rest := []) (st1 := [.int (q_i r11)]) (some (.int (q_i r11))) hX mv_RX9_203 (c_X9_gapToClass h12) ⟨rfl, rfl⟩ ⟨Nat.le_of_ble_eq_true rfl, Nat.le_of_ble_eq_true rfl⟩ g1 rfl rfl (Nat.le_of_ble_eq_true rfl) ⟨Nat.le_of_ble_eq_true rfl, Nat.le_of_ble_eq_true rfl⟩ dX9_classify_37 rfl ?_
      refine v_aload_n 0 1 hX dX9_classify_40 rfl rfl ?_
      refine v_iload_n 1 0 hX dX9_classify_41 rfl rfl ?_
      obtain ⟨r13, h14, hf⟩ := q_bd_some hf
      refine v_callV (As := [.int (q_i r7)]) (rest := [.int (q_i r11)]) (st1 := [.int (q_i r13), .int (q_i r11)]) (some (.int (q_i r13))) hX mv_RX9_210 (c_X9_reachOf h14) ⟨rfl, rfl⟩ ⟨Nat.le_of_ble_eq_true rfl, Nat.le_of_ble_eq_true rfl⟩ g1 rfl rfl (Nat.le_of_ble_eq_true rfl) ⟨Nat.le_of_ble_eq_true rfl, Nat.le_of_ble_eq_true rfl⟩ dX9_classify_42 rfl ?_
      obtain ⟨g15, hf⟩ := q_gd_some hf
      obtain ⟨g16, hf⟩ := q_gd_some hf
      refine v_icmp_gt (tgt := 52) hX g15 g16 dX9_classify_45 (by decide) (fun c17 => ?_) (fun c17 => ?_)
      · replace hf := q_ifp c17 hf
        refine v_bipush (-6) hX dX9_classify_52 (by decide) ?_
        cases hf
        exact v_iret hX hE (Nat.le_of_ble_eq_true rfl) (Nat.le_of_ble_eq_true rfl) dX9_classify_54
      · replace hf := q_ifn c17 hf
        refine v_iload_n 1 0 hX dX9_classify_48 rfl rfl ?_
        refine v_goto (tgt := 54) hX dX9_classify_49 (by decide) ?_
        cases hf
        exact v_iret hX hE (Nat.le_of_ble_eq_true rfl) (Nat.le_of_ble_eq_true rfl) dX9_classify_54
noncomputable def f_X9_gapOfClasses (S : q_S) (R : q_HR) (I : q_HI) (a0 : Nat) (a1 : Int) (a2 : Int) : Option (Int) := q_gd (S.1 a0 = 10) (q_gd (S.1 (R a0 3) = 15) (q_gd ((0 : Int) ≤ a1 ∧ a1 < (S.2.1 (R a0 3) : Int)) (q_gd (S.1 (R (R a0 3) (Int.toNat a1)) = 3) (q_lt (R (R a0 3) (Int.toNat a1)) fun x5 => q_gd ((0 : Int) ≤ a2 ∧ a2 < (S.2.1 (R a0 3) : Int)) (q_gd (S.1 (R (R a0 3) (Int.toNat a2)) = 3) (q_lt (R (R a0 3) (Int.toNat a2)) fun x10 => q_gd (S.1 (R a0 2) = 7) (q_gd (S.1 (R x5 2) = 12) (q_gd (S.1 (R x10 2) = 12) (q_bd (f_X6_gap S R I (R a0 2) (R x5 2) (I x5 3) (R x10 2) (I x10 3)) fun r16 => some r16)))))))))
abbrev rmX9_gapOfClasses : Room := { frames := 1, cells := 0, slots := 0, locals := 31 }
set_option maxRecDepth 20000 in
theorem c_X9_gapOfClasses {S : q_S} {R : q_HR} {I : q_HI} {a0 : Nat} {a1 : Int} {a2 : Int} {rz : Int} (hf : f_X9_gapOfClasses S R I a0 a1 a2 = some rz) : ∀ (l : Launch) (D : va_G) (cy : Nat → ClassId) (B : Nat), Met l yX9_gapOfClasses [Cond.code yX9_gapOfClasses cX9_gapOfClasses 5 (some .int)] rmX9_gapOfClasses (q_Pc B D cy [.ref a0, .int (q_i a1), .int (q_i a2)] S R I) (q_Qc B D cy (some (.int (q_i rz))) S R I) 0 0 (fun q => B ≤ q) := by
  refine q_met (lv := [(0, .ref a0), (1, .int (q_i a1)), (2, .int (q_i a2))]) (own := RX9) (nm := "gapOfClasses") (by decide) rfl rfl (Nat.le_of_ble_eq_true rfl) rfl (fun X hX hE => ?_)
  unfold f_X9_gapOfClasses at hf
  refine v_aload_n 0 0 hX dX9_gapOfClasses_0 rfl rfl ?_
  obtain ⟨g1, hf⟩ := q_gd_some hf
  obtain ⟨g2, hf⟩ := q_gd_some hf
  refine v_getA hX fa_RX9_32 (fun _ _ => rfl) g1 g2 (by decide) dX9_gapOfClasses_1 ?_
  refine v_iload_n 1 1 hX dX9_gapOfClasses_4 rfl rfl ?_
  obtain ⟨g3, hf⟩ := q_gd_some hf
  obtain ⟨g4, hf⟩ := q_gd_some hf
  refine v_aaload (t0 := 3) hX g2 (by decide) (fun _ => rfl) rfl (fun _ _ _ => rfl) g3 g4 (by decide) dX9_gapOfClasses_5 ?_
  obtain ⟨x5, e6, hf⟩ := q_lt_nm hf
  rw [e6]
  have g7 := g4
  rw [e6] at g7
  refine v_astore_n 3 (lw := [(3, .ref x5), (0, .ref a0), (1, .int (q_i a1)), (2, .int (q_i a2))]) hX dX9_gapOfClasses_6 rfl (by decide) rfl ?_
  refine v_aload_n 0 1 hX dX9_gapOfClasses_7 rfl rfl ?_
  refine v_getA hX fa_RX9_32 (fun _ _ => rfl) g1 g2 (by decide) dX9_gapOfClasses_8 ?_
  refine v_iload_n 2 3 hX dX9_gapOfClasses_11 rfl rfl ?_
  obtain ⟨g8, hf⟩ := q_gd_some hf
  obtain ⟨g9, hf⟩ := q_gd_some hf
  refine v_aaload (t0 := 3) hX g2 (by decide) (fun _ => rfl) rfl (fun _ _ _ => rfl) g8 g9 (by decide) dX9_gapOfClasses_12 ?_
  obtain ⟨x10, e11, hf⟩ := q_lt_nm hf
  rw [e11]
  have g12 := g9
  rw [e11] at g12
  refine v_astore (lw := [(4, .ref x10), (3, .ref x5), (0, .ref a0), (1, .int (q_i a1)), (2, .int (q_i a2))]) hX dX9_gapOfClasses_13 (by decide) rfl ?_
  refine v_aload_n 0 2 hX dX9_gapOfClasses_15 rfl rfl ?_
  obtain ⟨g13, hf⟩ := q_gd_some hf
  refine v_getA hX fa_RX9_26 (fun _ _ => rfl) g1 g13 (by decide) dX9_gapOfClasses_16 ?_
  refine v_aload_n 3 1 hX dX9_gapOfClasses_19 rfl rfl ?_
  obtain ⟨g14, hf⟩ := q_gd_some hf
  refine v_getA hX fa_RX9_278 (fun _ _ => rfl) g7 g14 (by decide) dX9_gapOfClasses_20 ?_
  refine v_aload_n 3 1 hX dX9_gapOfClasses_23 rfl rfl ?_
  refine v_getI hX fa_RX9_281 (fun _ _ => rfl) g7 dX9_gapOfClasses_24 ?_
  refine v_aload 0 hX dX9_gapOfClasses_27 rfl ?_
  obtain ⟨g15, hf⟩ := q_gd_some hf
  refine v_getA hX fa_RX9_278 (fun _ _ => rfl) g12 g15 (by decide) dX9_gapOfClasses_29 ?_
  refine v_aload 0 hX dX9_gapOfClasses_32 rfl ?_
  refine v_getI hX fa_RX9_281 (fun _ _ => rfl) g12 dX9_gapOfClasses_34 ?_
  obtain ⟨r16, h17, hf⟩ := q_bd_some hf
  refine v_callV (As := [.ref (R x5 2), .int (q_i (I x5 3)), .ref (R x10 2), .int (q_i (I x10 3))]) (rest := []) (st1 := [.int (q_i r16)]) (some (.int (q_i r16))) hX mv_RX9_284 (c_X6_gap h17) ⟨rfl, rfl⟩ ⟨Nat.le_of_ble_eq_true rfl, Nat.le_of_ble_eq_true rfl⟩ g13 rfl rfl (Nat.le_of_ble_eq_true rfl) ⟨Nat.le_of_ble_eq_true rfl, Nat.le_of_ble_eq_true rfl⟩ dX9_gapOfClasses_37 rfl ?_
  cases hf
  exact v_iret hX hE (Nat.le_of_ble_eq_true rfl) (Nat.le_of_ble_eq_true rfl) dX9_gapOfClasses_40
noncomputable def f_X9_classDistance (S : q_S) (R : q_HR) (I : q_HI) (a0 : Nat) (a1 : Int) (a2 : Int) : Option (Int × q_HI) := q_gd (S.1 a0 = 10) (q_bd (f_X9_hasClass S R I a0 a1) fun r2 => q_gd (r_i r2) (if r2 = 0 then some ((-2), I) else q_bd (f_X9_hasClass S R I a0 a2) fun r6 => q_gd (r_i r6) (if r6 = 0 then some ((-2), I) else q_bd (f_X9_prepare S R I a0) fun I10 => q_bd (f_X9_gapOfClasses S R I10 a0 a1 a2) fun r12 => some (r12, I10))))
abbrev rmX9_classDistance : Room := { frames := 6, cells := 0, slots := 0, locals := 141 }
set_option maxRecDepth 20000 in
theorem c_X9_classDistance {S : q_S} {R : q_HR} {I : q_HI} {a0 : Nat} {a1 : Int} {a2 : Int} {rz : Int} {Iz : q_HI} (hf : f_X9_classDistance S R I a0 a1 a2 = some (rz, Iz)) : ∀ (l : Launch) (D : va_G) (cy : Nat → ClassId) (B : Nat), Met l yX9_classDistance [Cond.code yX9_classDistance cX9_classDistance 3 (some .int)] rmX9_classDistance (q_Pc B D cy [.ref a0, .int (q_i a1), .int (q_i a2)] S R I) (q_Qc B D cy (some (.int (q_i rz))) S R Iz) 0 0 (fun q => B ≤ q) := by
  refine q_met (lv := [(0, .ref a0), (1, .int (q_i a1)), (2, .int (q_i a2))]) (own := RX9) (nm := "classDistance") (by decide) rfl rfl (Nat.le_of_ble_eq_true rfl) rfl (fun X hX hE => ?_)
  unfold f_X9_classDistance at hf
  refine v_aload_n 0 0 hX dX9_classDistance_0 rfl rfl ?_
  refine v_iload_n 1 1 hX dX9_classDistance_1 rfl rfl ?_
  obtain ⟨g1, hf⟩ := q_gd_some hf
  obtain ⟨r2, h3, hf⟩ := q_bd_some hf
  refine v_callV (As := [.int (q_i a1)]) (rest := []) (st1 := [.int (q_i r2)]) (some (.int (q_i r2))) hX mv_RX9_181 (c_X9_hasClass h3) ⟨rfl, rfl⟩ ⟨Nat.le_of_ble_eq_true rfl, Nat.le_of_ble_eq_true rfl⟩ g1 rfl rfl (Nat.le_of_ble_eq_true rfl) ⟨Nat.le_of_ble_eq_true rfl, Nat.le_of_ble_eq_true rfl⟩ dX9_classDistance_2 rfl ?_
  obtain ⟨g4, hf⟩ := q_gd_some hf
  refine v_if_eq (tgt := 16) hX g4 dX9_classDistance_5 (by decide) (fun c5 => ?_) (fun c5 => ?_)
  · replace hf := q_ifp c5 hf
    refine v_bipush (-2) hX dX9_classDistance_16 (by decide) ?_
    cases hf
    exact v_iret hX hE (Nat.le_of_ble_eq_true rfl) (Nat.le_of_ble_eq_true rfl) dX9_classDistance_18
  · replace hf := q_ifn c5 hf
    refine v_aload_n 0 0 hX dX9_classDistance_8 rfl rfl ?_
    refine v_iload_n 2 2 hX dX9_classDistance_9 rfl rfl ?_
    obtain ⟨r6, h7, hf⟩ := q_bd_some hf
    refine v_callV (As := [.int (q_i a2)]) (rest := []) (st1 := [.int (q_i r6)]) (some (.int (q_i r6))) hX mv_RX9_181 (c_X9_hasClass h7) ⟨rfl, rfl⟩ ⟨Nat.le_of_ble_eq_true rfl, Nat.le_of_ble_eq_true rfl⟩ g1 rfl rfl (Nat.le_of_ble_eq_true rfl) ⟨Nat.le_of_ble_eq_true rfl, Nat.le_of_ble_eq_true rfl⟩ dX9_classDistance_10 rfl ?_
    obtain ⟨g8, hf⟩ := q_gd_some hf
    refine v_if_ne (tgt := 19) hX g8 dX9_classDistance_13 (by decide) (fun c9 => ?_) (fun c9 => ?_)
    · replace hf := q_ifp c9 hf
      refine v_bipush (-2) hX dX9_classDistance_16 (by decide) ?_
      cases hf
      exact v_iret hX hE (Nat.le_of_ble_eq_true rfl) (Nat.le_of_ble_eq_true rfl) dX9_classDistance_18
    · replace hf := q_ifn c9 hf
      refine v_aload_n 0 0 hX dX9_classDistance_19 rfl rfl ?_
      obtain ⟨I10, h11, hf⟩ := q_bd_some hf
      refine v_callV (As := []) (rest := []) (st1 := []) none hX mv_RX9_200 (c_X9_prepare h11) ⟨rfl, rfl⟩ ⟨Nat.le_of_ble_eq_true rfl, Nat.le_of_ble_eq_true rfl⟩ g1 rfl rfl (Nat.le_of_ble_eq_true rfl) ⟨Nat.le_of_ble_eq_true rfl, Nat.le_of_ble_eq_true rfl⟩ dX9_classDistance_20 rfl ?_
      refine v_aload_n 0 0 hX dX9_classDistance_23 rfl rfl ?_
      refine v_iload_n 1 1 hX dX9_classDistance_24 rfl rfl ?_
      refine v_iload_n 2 2 hX dX9_classDistance_25 rfl rfl ?_
      obtain ⟨r12, h13, hf⟩ := q_bd_some hf
      refine v_callV (As := [.int (q_i a1), .int (q_i a2)]) (rest := []) (st1 := [.int (q_i r12)]) (some (.int (q_i r12))) hX mv_RX9_220 (c_X9_gapOfClasses h13) ⟨rfl, rfl⟩ ⟨Nat.le_of_ble_eq_true rfl, Nat.le_of_ble_eq_true rfl⟩ g1 rfl rfl (Nat.le_of_ble_eq_true rfl) ⟨Nat.le_of_ble_eq_true rfl, Nat.le_of_ble_eq_true rfl⟩ dX9_classDistance_26 rfl ?_
      cases hf
      exact v_iret hX hE (Nat.le_of_ble_eq_true rfl) (Nat.le_of_ble_eq_true rfl) dX9_classDistance_29
noncomputable def f_X9_runClustering_L31 (S : q_S) (R : q_HR) (p0 : Nat) (p1 : Int) (p2 : Int) (k : Int → q_HI → Option (Int × q_HI)) : Nat → Int → q_HI → Option (Int × q_HI)
  | 0, _, _ => none
  | n + 1, v3, I => q_gd (r_i v3) (q_gd (r_i p2) (if p2 ≤ v3 then k v3 I else q_gd (S.1 p0 = 10) (q_gd (S.1 (R p0 5) = 5) (q_bd (f_X9_gapOfClasses S R I p0 v3 p2) fun r19 => q_bd (f_X4_setGap S R I (R p0 5) v3 p2 r19) fun I21 => f_X9_runClustering_L31 S R p0 p1 p2 k n (v3 + 1) I21))))
noncomputable def f_X9_runClustering_L9 (S : q_S) (R : q_HR) (p0 : Nat) (p1 : Int) (k : Int → q_HI → Option (Int × q_HI)) : Nat → Int → q_HI → Option (Int × q_HI)
  | 0, _, _ => none
  | n + 1, v2, I => q_gd (S.1 p0 = 10) (q_gd (r_i v2) (q_gd (r_i (I p0 10)) (if I p0 10 ≤ v2 then k v2 I else q_gd (S.1 (R p0 3) = 15) (q_gd ((0 : Int) ≤ v2 ∧ v2 < (S.2.1 (R p0 3) : Int)) (q_gd (S.1 (R (R p0 3) (Int.toNat v2)) = 3) (q_gd (r_i (I (R (R p0 3) (Int.toNat v2)) 3)) (if I (R (R p0 3) (Int.toNat v2)) 3 = 0 then f_X9_runClustering_L9 S R p0 p1 k n (v2 + 1) I else f_X9_runClustering_L31 S R p0 p1 v2 (fun w23 I24 => q_gd (S.1 (R p0 5) = 5) (q_bd (f_X4_include S R I24 (R p0 5) v2) fun I26 => f_X9_runClustering_L9 S R p0 p1 k n (v2 + 1) I26)) 100 0 I)))))))
noncomputable def f_X9_runClustering (S : q_S) (R : q_HR) (I : q_HI) (a0 : Nat) (a1 : Int) : Option (Int × q_HI) := q_gd (S.1 a0 = 10) (q_gd (S.1 (R a0 5) = 5) (q_bd (f_X4_clear S R I (R a0 5)) fun I3 => f_X9_runClustering_L9 S R a0 a1 (fun w28 I29 => q_bd2 (f_X4_runTo S R I29 (R a0 5) a1) fun r30 I31 => q_gd (r30 = 0 ∨ r30 = 1) (some (r30, I31))) 100 0 I3))
abbrev rmX9_runClustering : Room := { frames := 4, cells := 0, slots := 0, locals := 93 }
set_option maxRecDepth 20000 in
theorem l_X9_runClustering_31 {X : q_X} {S : q_S} {R : q_HR} {p0 : Nat} {p1 : Int} {p2 : Int} {rz : Int} {Iz : q_HI} (hX : q_C X cX9_runClustering 4 RX9 (some .boolean) "runClustering") (hE : q_E X 0 0 (some (.int (q_i rz))) S R Iz) {k : Int → q_HI → Option (Int × q_HI)} (hk : ∀ (v3 : Int) (I : q_HI), k v3 I = some (rz, Iz) → q_V X rmX9_runClustering cX9_runClustering 4 0 0 57 [(0, .ref p0), (1, .int (q_i p1)), (2, .int (q_i p2))] [] S R I) :
    ∀ (n : Nat), ∀ (v3 : Int) (I : q_HI), f_X9_runClustering_L31 S R p0 p1 p2 k n v3 I = some (rz, Iz) → q_V X rmX9_runClustering cX9_runClustering 4 0 0 31 [(0, .ref p0), (1, .int (q_i p1)), (2, .int (q_i p2)), (3, .int (q_i v3))] [] S R I := by
  intro n
  induction n with
  | zero =>
    intro v3 I hf
    cases (show (none : Option (Int × q_HI)) = some _ from hf)
  | succ n ih =>
    intro v3 I hf
    rw [f_X9_runClustering_L31] at hf
    refine v_iload_n 3 3 hX dX9_runClustering_31 rfl rfl ?_
    refine v_iload_n 2 2 hX dX9_runClustering_32 rfl rfl ?_
    obtain ⟨g14, hf⟩ := q_gd_some hf
    obtain ⟨g15, hf⟩ := q_gd_some hf
    refine v_icmp_ge (tgt := 57) hX g14 g15 dX9_runClustering_33 (by decide) (fun c16 => ?_) (fun c16 => ?_)
    · replace hf := q_ifp c16 hf
      refine v_sub (lv' := [(0, .ref p0), (1, .int (q_i p1)), (2, .int (q_i p2))]) [0, 1, 2] rfl ?_
      exact hk _ _ hf
    · replace hf := q_ifn c16 hf
      refine v_aload_n 0 0 hX dX9_runClustering_36 rfl rfl ?_
      obtain ⟨g17, hf⟩ := q_gd_some hf
      obtain ⟨g18, hf⟩ := q_gd_some hf
      refine v_getA hX fa_RX9_46 (fun _ _ => rfl) g17 g18 (by decide) dX9_runClustering_37 ?_
      refine v_iload_n 3 3 hX dX9_runClustering_40 rfl rfl ?_
      refine v_iload_n 2 2 hX dX9_runClustering_41 rfl rfl ?_
      refine v_aload_n 0 0 hX dX9_runClustering_42 rfl rfl ?_
      refine v_iload_n 3 3 hX dX9_runClustering_43 rfl rfl ?_
      refine v_iload_n 2 2 hX dX9_runClustering_44 rfl rfl ?_
      obtain ⟨r19, h20, hf⟩ := q_bd_some hf
      refine v_callV (As := [.int (q_i v3), .int (q_i p2)]) (rest := [.int (q_i p2), .int (q_i v3), .ref (R p0 5)]) (st1 := [.int (q_i r19), .int (q_i p2), .int (q_i v3), .ref (R p0 5)]) (some (.int (q_i r19))) hX mv_RX9_220 (c_X9_gapOfClasses h20) ⟨rfl, rfl⟩ ⟨Nat.le_of_ble_eq_true rfl, Nat.le_of_ble_eq_true rfl⟩ g17 rfl rfl (Nat.le_of_ble_eq_true rfl) ⟨Nat.le_of_ble_eq_true rfl, Nat.le_of_ble_eq_true rfl⟩ dX9_runClustering_45 rfl ?_
      obtain ⟨I21, h22, hf⟩ := q_bd_some hf
      refine v_callV (As := [.int (q_i v3), .int (q_i p2), .int (q_i r19)]) (rest := []) (st1 := []) none hX mv_RX9_294 (c_X4_setGap h22) ⟨rfl, rfl⟩ ⟨Nat.le_of_ble_eq_true rfl, Nat.le_of_ble_eq_true rfl⟩ g18 rfl rfl (Nat.le_of_ble_eq_true rfl) ⟨Nat.le_of_ble_eq_true rfl, Nat.le_of_ble_eq_true rfl⟩ dX9_runClustering_48 rfl ?_
      refine v_iinc 3 (lw := [(3, .int (q_i (v3 + 1))), (0, .ref p0), (1, .int (q_i p1)), (2, .int (q_i p2))]) hX dX9_runClustering_51 rfl (by decide) rfl ?_
      refine v_goto (tgt := 31) hX dX9_runClustering_54 (by decide) ?_
      refine v_sub (lv' := [(0, .ref p0), (1, .int (q_i p1)), (2, .int (q_i p2)), (3, .int (q_i (v3 + 1)))]) [1, 2, 3, 0] rfl ?_
      exact ih _ _ hf
set_option maxRecDepth 20000 in
theorem l_X9_runClustering_9 {X : q_X} {S : q_S} {R : q_HR} {p0 : Nat} {p1 : Int} {rz : Int} {Iz : q_HI} (hX : q_C X cX9_runClustering 4 RX9 (some .boolean) "runClustering") (hE : q_E X 0 0 (some (.int (q_i rz))) S R Iz) {k : Int → q_HI → Option (Int × q_HI)} (hk : ∀ (v2 : Int) (I : q_HI), k v2 I = some (rz, Iz) → q_V X rmX9_runClustering cX9_runClustering 4 0 0 71 [(0, .ref p0), (1, .int (q_i p1))] [] S R I) :
    ∀ (n : Nat), ∀ (v2 : Int) (I : q_HI), f_X9_runClustering_L9 S R p0 p1 k n v2 I = some (rz, Iz) → q_V X rmX9_runClustering cX9_runClustering 4 0 0 9 [(0, .ref p0), (1, .int (q_i p1)), (2, .int (q_i v2))] [] S R I := by
  intro n
  induction n with
  | zero =>
    intro v2 I hf
    cases (show (none : Option (Int × q_HI)) = some _ from hf)
  | succ n ih =>
    intro v2 I hf
    rw [f_X9_runClustering_L9] at hf
    refine v_iload_n 2 2 hX dX9_runClustering_9 rfl rfl ?_
    refine v_aload_n 0 0 hX dX9_runClustering_10 rfl rfl ?_
    obtain ⟨g5, hf⟩ := q_gd_some hf
    refine v_getI hX fa_RX9_178 (fun _ _ => rfl) g5 dX9_runClustering_11 ?_
    obtain ⟨g6, hf⟩ := q_gd_some hf
    obtain ⟨g7, hf⟩ := q_gd_some hf
    refine v_icmp_ge (tgt := 71) hX g6 g7 dX9_runClustering_14 (by decide) (fun c8 => ?_) (fun c8 => ?_)
    · replace hf := q_ifp c8 hf
      refine v_sub (lv' := [(0, .ref p0), (1, .int (q_i p1))]) [0, 1] rfl ?_
      exact hk _ _ hf
    · replace hf := q_ifn c8 hf
      refine v_aload_n 0 0 hX dX9_runClustering_17 rfl rfl ?_
      obtain ⟨g9, hf⟩ := q_gd_some hf
      refine v_getA hX fa_RX9_32 (fun _ _ => rfl) g5 g9 (by decide) dX9_runClustering_18 ?_
      refine v_iload_n 2 2 hX dX9_runClustering_21 rfl rfl ?_
      obtain ⟨g10, hf⟩ := q_gd_some hf
      obtain ⟨g11, hf⟩ := q_gd_some hf
      refine v_aaload (t0 := 3) hX g9 (by decide) (fun _ => rfl) rfl (fun _ _ _ => rfl) g10 g11 (by decide) dX9_runClustering_22 ?_
      refine v_getI hX fa_RX9_281 (fun _ _ => rfl) g11 dX9_runClustering_23 ?_
      obtain ⟨g12, hf⟩ := q_gd_some hf
      refine v_if_eq (tgt := 65) hX g12 dX9_runClustering_26 (by decide) (fun c13 => ?_) (fun c13 => ?_)
      · replace hf := q_ifp c13 hf
        refine v_iinc 2 (lw := [(2, .int (q_i (v2 + 1))), (0, .ref p0), (1, .int (q_i p1))]) hX dX9_runClustering_65 rfl (by decide) rfl ?_
        refine v_goto (tgt := 9) hX dX9_runClustering_68 (by decide) ?_
        refine v_sub (lv' := [(0, .ref p0), (1, .int (q_i p1)), (2, .int (q_i (v2 + 1)))]) [1, 2, 0] rfl ?_
        exact ih _ _ hf
      · replace hf := q_ifn c13 hf
        refine v_iconst hX dX9_runClustering_29 ?_
        refine v_istore_n 3 (lw := [(3, .int (q_i 0)), (0, .ref p0), (1, .int (q_i p1)), (2, .int (q_i v2))]) hX dX9_runClustering_30 rfl (by decide) rfl ?_
        refine v_sub (lv' := [(0, .ref p0), (1, .int (q_i p1)), (2, .int (q_i v2)), (3, .int (q_i 0))]) [1, 2, 3, 0] rfl ?_
        refine l_X9_runClustering_31 hX hE (fun w23 I24 hk => ?_) 100 _ _ hf
        clear hf
        have hf := hk
        clear hk
        refine v_aload_n 0 0 hX dX9_runClustering_57 rfl rfl ?_
        obtain ⟨g25, hf⟩ := q_gd_some hf
        refine v_getA hX fa_RX9_46 (fun _ _ => rfl) g5 g25 (by decide) dX9_runClustering_58 ?_
        refine v_iload_n 2 2 hX dX9_runClustering_61 rfl rfl ?_
        obtain ⟨I26, h27, hf⟩ := q_bd_some hf
        refine v_callV (As := [.int (q_i v2)]) (rest := []) (st1 := []) none hX mv_RX9_298 (c_X4_include h27) ⟨rfl, rfl⟩ ⟨Nat.le_of_ble_eq_true rfl, Nat.le_of_ble_eq_true rfl⟩ g25 rfl rfl (Nat.le_of_ble_eq_true rfl) ⟨Nat.le_of_ble_eq_true rfl, Nat.le_of_ble_eq_true rfl⟩ dX9_runClustering_62 rfl ?_
        refine v_iinc 2 (lw := [(2, .int (q_i (v2 + 1))), (0, .ref p0), (1, .int (q_i p1))]) hX dX9_runClustering_65 rfl (by decide) rfl ?_
        refine v_goto (tgt := 9) hX dX9_runClustering_68 (by decide) ?_
        refine v_sub (lv' := [(0, .ref p0), (1, .int (q_i p1)), (2, .int (q_i (v2 + 1)))]) [1, 2, 0] rfl ?_
        exact ih _ _ hf
set_option maxRecDepth 20000 in
theorem c_X9_runClustering {S : q_S} {R : q_HR} {I : q_HI} {a0 : Nat} {a1 : Int} {rz : Int} {Iz : q_HI} (hf : f_X9_runClustering S R I a0 a1 = some (rz, Iz)) : ∀ (l : Launch) (D : va_G) (cy : Nat → ClassId) (B : Nat), Met l yX9_runClustering [Cond.code yX9_runClustering cX9_runClustering 4 (some .boolean)] rmX9_runClustering (q_Pc B D cy [.ref a0, .int (q_i a1)] S R I) (q_Qc B D cy (some (.int (q_i rz))) S R Iz) 0 0 (fun q => B ≤ q) := by
  refine q_met (lv := [(0, .ref a0), (1, .int (q_i a1))]) (own := RX9) (nm := "runClustering") (by decide) rfl rfl (Nat.le_of_ble_eq_true rfl) rfl (fun X hX hE => ?_)
  unfold f_X9_runClustering at hf
  refine v_aload_n 0 0 hX dX9_runClustering_0 rfl rfl ?_
  obtain ⟨g1, hf⟩ := q_gd_some hf
  obtain ⟨g2, hf⟩ := q_gd_some hf
  refine v_getA hX fa_RX9_46 (fun _ _ => rfl) g1 g2 (by decide) dX9_runClustering_1 ?_
  obtain ⟨I3, h4, hf⟩ := q_bd_some hf
  refine v_callV (As := []) (rest := []) (st1 := []) none hX mv_RX9_293 (c_X4_clear h4) ⟨rfl, rfl⟩ ⟨Nat.le_of_ble_eq_true rfl, Nat.le_of_ble_eq_true rfl⟩ g2 rfl rfl (Nat.le_of_ble_eq_true rfl) ⟨Nat.le_of_ble_eq_true rfl, Nat.le_of_ble_eq_true rfl⟩ dX9_runClustering_4 rfl ?_
  refine v_iconst hX dX9_runClustering_7 ?_
  refine v_istore_n 2 (lw := [(2, .int (q_i 0)), (0, .ref a0), (1, .int (q_i a1))]) hX dX9_runClustering_8 rfl (by decide) rfl ?_
  refine v_sub (lv' := [(0, .ref a0), (1, .int (q_i a1)), (2, .int (q_i 0))]) [1, 2, 0] rfl ?_
  refine l_X9_runClustering_9 hX hE (fun w28 I29 hk => ?_) 100 _ _ hf
  clear hf
  have hf := hk
  clear hk
  refine v_aload_n 0 0 hX dX9_runClustering_71 rfl rfl ?_
  refine v_getA hX fa_RX9_46 (fun _ _ => rfl) g1 g2 (by decide) dX9_runClustering_72 ?_
  refine v_iload_n 1 1 hX dX9_runClustering_75 rfl rfl ?_
  obtain ⟨r30, I31, h32, hf⟩ := q_bd2_some hf
  refine v_callV (As := [.int (q_i a1)]) (rest := []) (st1 := [.int (q_i r30)]) (some (.int (q_i r30))) hX mv_RX9_301 (c_X4_runTo h32) ⟨rfl, rfl⟩ ⟨Nat.le_of_ble_eq_true rfl, Nat.le_of_ble_eq_true rfl⟩ g2 rfl rfl (Nat.le_of_ble_eq_true rfl) ⟨Nat.le_of_ble_eq_true rfl, Nat.le_of_ble_eq_true rfl⟩ dX9_runClustering_76 rfl ?_
  obtain ⟨g33, hf⟩ := q_gd_some hf
  cases hf
  exact v_zret hX g33 hE (Nat.le_of_ble_eq_true rfl) (Nat.le_of_ble_eq_true rfl) dX9_runClustering_79
noncomputable def f_X9_closestClasses (S : q_S) (R : q_HR) (I : q_HI) (a0 : Nat) : Option (Int × q_HI) := q_gd (S.1 a0 = 10) (q_bd (f_X9_prepare S R I a0) fun I2 => q_bd2 (f_X9_runClustering S R I2 a0 0) fun r4 I5 => q_gd (r_i r4) (if r4 = 0 then some ((-1), I5) else q_gd (S.1 (R a0 5) = 5) (q_bd (f_X4_pairCode S R I5 (R a0 5)) fun r10 => some (r10, I5))))
abbrev rmX9_closestClasses : Room := { frames := 6, cells := 0, slots := 0, locals := 141 }
set_option maxRecDepth 20000 in
theorem c_X9_closestClasses {S : q_S} {R : q_HR} {I : q_HI} {a0 : Nat} {rz : Int} {Iz : q_HI} (hf : f_X9_closestClasses S R I a0 = some (rz, Iz)) : ∀ (l : Launch) (D : va_G) (cy : Nat → ClassId) (B : Nat), Met l yX9_closestClasses [Cond.code yX9_closestClasses cX9_closestClasses 1 (some .int)] rmX9_closestClasses (q_Pc B D cy [.ref a0] S R I) (q_Qc B D cy (some (.int (q_i rz))) S R Iz) 0 0 (fun q => B ≤ q) := by
  refine q_met (lv := [(0, .ref a0)]) (own := RX9) (nm := "closestClasses") (by decide) rfl rfl (Nat.le_of_ble_eq_true rfl) rfl (fun X hX hE => ?_)
  unfold f_X9_closestClasses at hf
  refine v_aload_n 0 0 hX dX9_closestClasses_0 rfl rfl ?_
  obtain ⟨g1, hf⟩ := q_gd_some hf
  obtain ⟨I2, h3, hf⟩ := q_bd_some hf
  refine v_callV (As := []) (rest := []) (st1 := []) none hX mv_RX9_200 (c_X9_prepare h3) ⟨rfl, rfl⟩ ⟨Nat.le_of_ble_eq_true rfl, Nat.le_of_ble_eq_true rfl⟩ g1 rfl rfl (Nat.le_of_ble_eq_true rfl) ⟨Nat.le_of_ble_eq_true rfl, Nat.le_of_ble_eq_true rfl⟩ dX9_closestClasses_1 rfl ?_
  refine v_aload_n 0 0 hX dX9_closestClasses_4 rfl rfl ?_
  refine v_iconst hX dX9_closestClasses_5 ?_
  obtain ⟨r4, I5, h6, hf⟩ := q_bd2_some hf
  refine v_callV (As := [.int (q_i 0)]) (rest := []) (st1 := [.int (q_i r4)]) (some (.int (q_i r4))) hX mv_RX9_223 (c_X9_runClustering h6) ⟨rfl, rfl⟩ ⟨Nat.le_of_ble_eq_true rfl, Nat.le_of_ble_eq_true rfl⟩ g1 rfl rfl (Nat.le_of_ble_eq_true rfl) ⟨Nat.le_of_ble_eq_true rfl, Nat.le_of_ble_eq_true rfl⟩ dX9_closestClasses_6 rfl ?_
  obtain ⟨g7, hf⟩ := q_gd_some hf
  refine v_if_eq (tgt := 22) hX g7 dX9_closestClasses_9 (by decide) (fun c8 => ?_) (fun c8 => ?_)
  · replace hf := q_ifp c8 hf
    refine v_iconst hX dX9_closestClasses_22 ?_
    cases hf
    exact v_iret hX hE (Nat.le_of_ble_eq_true rfl) (Nat.le_of_ble_eq_true rfl) dX9_closestClasses_23
  · replace hf := q_ifn c8 hf
    refine v_aload_n 0 0 hX dX9_closestClasses_12 rfl rfl ?_
    obtain ⟨g9, hf⟩ := q_gd_some hf
    refine v_getA hX fa_RX9_46 (fun _ _ => rfl) g1 g9 (by decide) dX9_closestClasses_13 ?_
    obtain ⟨r10, h11, hf⟩ := q_bd_some hf
    refine v_callV (As := []) (rest := []) (st1 := [.int (q_i r10)]) (some (.int (q_i r10))) hX mv_RX9_226 (c_X4_pairCode h11) ⟨rfl, rfl⟩ ⟨Nat.le_of_ble_eq_true rfl, Nat.le_of_ble_eq_true rfl⟩ g9 rfl rfl (Nat.le_of_ble_eq_true rfl) ⟨Nat.le_of_ble_eq_true rfl, Nat.le_of_ble_eq_true rfl⟩ dX9_closestClasses_16 rfl ?_
    refine v_goto (tgt := 23) hX dX9_closestClasses_19 (by decide) ?_
    cases hf
    exact v_iret hX hE (Nat.le_of_ble_eq_true rfl) (Nat.le_of_ble_eq_true rfl) dX9_closestClasses_23
noncomputable def f_X9_allBut (a0 : Int) : Option (Int) := some (q_and 31 (q_xor (q_shl 1 a0) (-1)))
abbrev rmX9_allBut : Room := { frames := 0, cells := 0, slots := 0, locals := 0 }
set_option maxRecDepth 20000 in
theorem c_X9_allBut {S : q_S} {R : q_HR} {I : q_HI} {a0 : Int} {rz : Int} (hf : f_X9_allBut a0 = some rz) : ∀ (l : Launch) (D : va_G) (cy : Nat → ClassId) (B : Nat), Met l yX9_allBut [Cond.code yX9_allBut cX9_allBut 1 (some .int)] rmX9_allBut (q_Pc B D cy [.int (q_i a0)] S R I) (q_Qc B D cy (some (.int (q_i rz))) S R I) 0 0 (fun q => B ≤ q) := by
  refine q_met (lv := [(0, .int (q_i a0))]) (own := RX9) (nm := "allBut") (by decide) rfl rfl (Nat.le_of_ble_eq_true rfl) rfl (fun X hX hE => ?_)
  unfold f_X9_allBut at hf
  refine v_bipush 31 hX dX9_allBut_0 (by decide) ?_
  refine v_iconst hX dX9_allBut_2 ?_
  refine v_iload_n 0 0 hX dX9_allBut_3 rfl rfl ?_
  refine v_ishl hX dX9_allBut_4 ?_
  refine v_iconst hX dX9_allBut_5 ?_
  refine v_ixor hX dX9_allBut_6 ?_
  refine v_iand hX dX9_allBut_7 ?_
  cases hf
  exact v_iret hX hE (Nat.le_of_ble_eq_true rfl) (Nat.le_of_ble_eq_true rfl) dX9_allBut_8
noncomputable def f_X9_suspectSensor_L20 (S : q_S) (R : q_HR) (p0 : Nat) (k : Int → Int → Int → q_HI → Option (Int × q_HI)) : Nat → Int → Int → Int → q_HI → Option (Int × q_HI)
  | 0, _, _, _, _ => none
  | n + 1, v1, v2, v3, I => q_gd (S.1 p0 = 10) (q_gd (S.1 (R p0 0) = 1) (q_gd (r_i v3) (q_gd (r_i (I (R p0 0) 6)) (if I (R p0 0) 6 ≤ v3 then k v1 v2 v3 I else q_gd (S.1 (R p0 2) = 7) (q_gd (S.1 (R p0 1) = 2) (q_bd (f_X9_allBut v3) fun r13 => q_bd (f_X6_aim S R I (R p0 2) (R p0 1) r13) fun I15 => q_gd (S.1 (R p0 7) = 12) (q_bd (f_X9_nearestTo S R I15 p0 (R p0 7) (-1)) fun r18 => q_gd (r_i r18) (if r18 = (-1) then some ((-1), I15) else q_bd (f_X9_gapToClass S R I15 p0 (R p0 7) r18) fun r22 => q_gd (r_i v1) (if v1 = (-1) then f_X9_suspectSensor_L20 S R p0 k n v3 r22 (v3 + 1) I15 else q_gd (r_i r22) (q_gd (r_i v2) (if v2 ≤ r22 then f_X9_suspectSensor_L20 S R p0 k n v1 v2 (v3 + 1) I15 else f_X9_suspectSensor_L20 S R p0 k n v3 r22 (v3 + 1) I15)))))))))))
noncomputable def f_X9_suspectSensor (S : q_S) (R : q_HR) (I : q_HI) (a0 : Nat) : Option (Int × q_HI) := q_gd (S.1 a0 = 10) (q_gd (r_i (I a0 9)) (if I a0 9 = 0 then some ((-5), I) else q_bd (f_X9_prepare S R I a0) fun I4 => f_X9_suspectSensor_L20 S R a0 (fun w29 w30 w31 I32 => some (w29, I32)) 100 (-1) 0 0 I4))
abbrev rmX9_suspectSensor : Room := { frames := 6, cells := 0, slots := 0, locals := 141 }
set_option maxRecDepth 20000 in
theorem l_X9_suspectSensor_20 {X : q_X} {S : q_S} {R : q_HR} {p0 : Nat} {rz : Int} {Iz : q_HI} (hX : q_C X cX9_suspectSensor 6 RX9 (some .int) "suspectSensor") (hE : q_E X 0 0 (some (.int (q_i rz))) S R Iz) {k : Int → Int → Int → q_HI → Option (Int × q_HI)} (hk : ∀ (v1 : Int) (v2 : Int) (v3 : Int) (I : q_HI), k v1 v2 v3 I = some (rz, Iz) → q_V X rmX9_suspectSensor cX9_suspectSensor 6 0 0 99 [(1, .int (q_i v1))] [] S R I) :
    ∀ (n : Nat), ∀ (v1 : Int) (v2 : Int) (v3 : Int) (I : q_HI), f_X9_suspectSensor_L20 S R p0 k n v1 v2 v3 I = some (rz, Iz) → q_V X rmX9_suspectSensor cX9_suspectSensor 6 0 0 20 [(0, .ref p0), (1, .int (q_i v1)), (2, .int (q_i v2)), (3, .int (q_i v3))] [] S R I := by
  intro n
  induction n with
  | zero =>
    intro v1 v2 v3 I hf
    cases (show (none : Option (Int × q_HI)) = some _ from hf)
  | succ n ih =>
    intro v1 v2 v3 I hf
    rw [f_X9_suspectSensor_L20] at hf
    refine v_iload_n 3 3 hX dX9_suspectSensor_20 rfl rfl ?_
    refine v_aload_n 0 0 hX dX9_suspectSensor_21 rfl rfl ?_
    obtain ⟨g6, hf⟩ := q_gd_some hf
    obtain ⟨g7, hf⟩ := q_gd_some hf
    refine v_getA hX fa_RX9_12 (fun _ _ => rfl) g6 g7 (by decide) dX9_suspectSensor_22 ?_
    refine v_getI hX fa_RX9_75 (fun _ _ => rfl) g7 dX9_suspectSensor_25 ?_
    obtain ⟨g8, hf⟩ := q_gd_some hf
    obtain ⟨g9, hf⟩ := q_gd_some hf
    refine v_icmp_ge (tgt := 99) hX g8 g9 dX9_suspectSensor_28 (by decide) (fun c10 => ?_) (fun c10 => ?_)
    · replace hf := q_ifp c10 hf
      refine v_sub (lv' := [(1, .int (q_i v1))]) [1] rfl ?_
      exact hk _ _ _ _ hf
    · replace hf := q_ifn c10 hf
      refine v_aload_n 0 0 hX dX9_suspectSensor_31 rfl rfl ?_
      obtain ⟨g11, hf⟩ := q_gd_some hf
      refine v_getA hX fa_RX9_26 (fun _ _ => rfl) g6 g11 (by decide) dX9_suspectSensor_32 ?_
      refine v_aload_n 0 0 hX dX9_suspectSensor_35 rfl rfl ?_
      obtain ⟨g12, hf⟩ := q_gd_some hf
      refine v_getA hX fa_RX9_19 (fun _ _ => rfl) g6 g12 (by decide) dX9_suspectSensor_36 ?_
      refine v_iload_n 3 3 hX dX9_suspectSensor_39 rfl rfl ?_
      obtain ⟨r13, h14, hf⟩ := q_bd_some hf
      refine v_callS (As := [.int (q_i v3)]) (rest := [.ref (R p0 1), .ref (R p0 2)]) (st1 := [.int (q_i r13), .ref (R p0 1), .ref (R p0 2)]) (some (.int (q_i r13))) hX ms_RX9_229 (c_X9_allBut h14) ⟨rfl, rfl⟩ ⟨Nat.le_of_ble_eq_true rfl, Nat.le_of_ble_eq_true rfl⟩ rfl rfl (Nat.le_of_ble_eq_true rfl) ⟨Nat.le_of_ble_eq_true rfl, Nat.le_of_ble_eq_true rfl⟩ dX9_suspectSensor_40 rfl ?_
      obtain ⟨I15, h16, hf⟩ := q_bd_some hf
      refine v_callV (As := [.ref (R p0 1), .int (q_i r13)]) (rest := []) (st1 := []) none hX mv_RX9_232 (c_X6_aim h16) ⟨rfl, rfl⟩ ⟨Nat.le_of_ble_eq_true rfl, Nat.le_of_ble_eq_true rfl⟩ g11 rfl rfl (Nat.le_of_ble_eq_true rfl) ⟨Nat.le_of_ble_eq_true rfl, Nat.le_of_ble_eq_true rfl⟩ dX9_suspectSensor_43 rfl ?_
      refine v_aload_n 0 0 hX dX9_suspectSensor_46 rfl rfl ?_
      refine v_aload_n 0 0 hX dX9_suspectSensor_47 rfl rfl ?_
      obtain ⟨g17, hf⟩ := q_gd_some hf
      refine v_getA hX fa_RX9_59 (fun _ _ => rfl) g6 g17 (by decide) dX9_suspectSensor_48 ?_
      refine v_iconst hX dX9_suspectSensor_51 ?_
      obtain ⟨r18, h19, hf⟩ := q_bd_some hf
      refine v_callV (As := [.ref (R p0 7), .int (q_i (-1))]) (rest := []) (st1 := [.int (q_i r18)]) (some (.int (q_i r18))) hX mv_RX9_207 (c_X9_nearestTo h19) ⟨rfl, rfl⟩ ⟨Nat.le_of_ble_eq_true rfl, Nat.le_of_ble_eq_true rfl⟩ g6 rfl rfl (Nat.le_of_ble_eq_true rfl) ⟨Nat.le_of_ble_eq_true rfl, Nat.le_of_ble_eq_true rfl⟩ dX9_suspectSensor_52 rfl ?_
      refine v_istore (lw := [(4, .int (q_i r18)), (0, .ref p0), (1, .int (q_i v1)), (2, .int (q_i v2)), (3, .int (q_i v3))]) hX dX9_suspectSensor_55 (by decide) rfl ?_
      refine v_iload 0 hX dX9_suspectSensor_57 rfl ?_
      refine v_iconst hX dX9_suspectSensor_59 ?_
      obtain ⟨g20, hf⟩ := q_gd_some hf
      refine v_icmp_ne (tgt := 65) hX g20 (by unfold r_i; omega) dX9_suspectSensor_60 (by decide) (fun c21 => ?_) (fun c21 => ?_)
      · replace hf := q_ifp c21 hf
        refine v_iconst hX dX9_suspectSensor_63 ?_
        cases hf
        exact v_iret hX hE (Nat.le_of_ble_eq_true rfl) (Nat.le_of_ble_eq_true rfl) dX9_suspectSensor_64
      · replace hf := q_ifn c21 hf
        refine v_aload_n 0 1 hX dX9_suspectSensor_65 rfl rfl ?_
        refine v_aload_n 0 1 hX dX9_suspectSensor_66 rfl rfl ?_
        refine v_getA hX fa_RX9_59 (fun _ _ => rfl) g6 g17 (by decide) dX9_suspectSensor_67 ?_
        refine v_iload 0 hX dX9_suspectSensor_70 rfl ?_
        obtain ⟨r22, h23, hf⟩ := q_bd_some hf
        refine v_callV (As := [.ref (R p0 7), .int (q_i r18)]) (rest := []) (st1 := [.int (q_i r22)]) (some (.int (q_i r22))) hX mv_RX9_203 (c_X9_gapToClass h23) ⟨rfl, rfl⟩ ⟨Nat.le_of_ble_eq_true rfl, Nat.le_of_ble_eq_true rfl⟩ g6 rfl rfl (Nat.le_of_ble_eq_true rfl) ⟨Nat.le_of_ble_eq_true rfl, Nat.le_of_ble_eq_true rfl⟩ dX9_suspectSensor_72 rfl ?_
        refine v_istore (lw := [(5, .int (q_i r22)), (4, .int (q_i r18)), (0, .ref p0), (1, .int (q_i v1)), (2, .int (q_i v2)), (3, .int (q_i v3))]) hX dX9_suspectSensor_75 (by decide) rfl ?_
        refine v_iload_n 1 3 hX dX9_suspectSensor_77 rfl rfl ?_
        refine v_iconst hX dX9_suspectSensor_78 ?_
        obtain ⟨g24, hf⟩ := q_gd_some hf
        refine v_icmp_eq (tgt := 88) hX g24 (by unfold r_i; omega) dX9_suspectSensor_79 (by decide) (fun c25 => ?_) (fun c25 => ?_)
        · replace hf := q_ifp c25 hf
          refine v_iload_n 3 5 hX dX9_suspectSensor_88 rfl rfl ?_
          refine v_istore_n 1 (lw := [(1, .int (q_i v3)), (5, .int (q_i r22)), (4, .int (q_i r18)), (0, .ref p0), (2, .int (q_i v2)), (3, .int (q_i v3))]) hX dX9_suspectSensor_89 rfl (by decide) rfl ?_
          refine v_iload 1 hX dX9_suspectSensor_90 rfl ?_
          refine v_istore_n 2 (lw := [(2, .int (q_i r22)), (1, .int (q_i v3)), (5, .int (q_i r22)), (4, .int (q_i r18)), (0, .ref p0), (3, .int (q_i v3))]) hX dX9_suspectSensor_92 rfl (by decide) rfl ?_
          refine v_iinc 5 (lw := [(3, .int (q_i (v3 + 1))), (2, .int (q_i r22)), (1, .int (q_i v3)), (5, .int (q_i r22)), (4, .int (q_i r18)), (0, .ref p0)]) hX dX9_suspectSensor_93 rfl (by decide) rfl ?_
          refine v_goto (tgt := 20) hX dX9_suspectSensor_96 (by decide) ?_
          refine v_sub (lv' := [(0, .ref p0), (1, .int (q_i v3)), (2, .int (q_i r22)), (3, .int (q_i (v3 + 1)))]) [5, 2, 1, 0] rfl ?_
          exact ih _ _ _ _ hf
        · replace hf := q_ifn c25 hf
          refine v_iload 0 hX dX9_suspectSensor_82 rfl ?_
          refine v_iload_n 2 4 hX dX9_suspectSensor_84 rfl rfl ?_
          obtain ⟨g26, hf⟩ := q_gd_some hf
          obtain ⟨g27, hf⟩ := q_gd_some hf
          refine v_icmp_ge (tgt := 93) hX g26 g27 dX9_suspectSensor_85 (by decide) (fun c28 => ?_) (fun c28 => ?_)
          · replace hf := q_ifp c28 hf
            refine v_iinc 5 (lw := [(3, .int (q_i (v3 + 1))), (5, .int (q_i r22)), (4, .int (q_i r18)), (0, .ref p0), (1, .int (q_i v1)), (2, .int (q_i v2))]) hX dX9_suspectSensor_93 rfl (by decide) rfl ?_
            refine v_goto (tgt := 20) hX dX9_suspectSensor_96 (by decide) ?_
            refine v_sub (lv' := [(0, .ref p0), (1, .int (q_i v1)), (2, .int (q_i v2)), (3, .int (q_i (v3 + 1)))]) [3, 4, 5, 0] rfl ?_
            exact ih _ _ _ _ hf
          · replace hf := q_ifn c28 hf
            refine v_iload_n 3 5 hX dX9_suspectSensor_88 rfl rfl ?_
            refine v_istore_n 1 (lw := [(1, .int (q_i v3)), (5, .int (q_i r22)), (4, .int (q_i r18)), (0, .ref p0), (2, .int (q_i v2)), (3, .int (q_i v3))]) hX dX9_suspectSensor_89 rfl (by decide) rfl ?_
            refine v_iload 1 hX dX9_suspectSensor_90 rfl ?_
            refine v_istore_n 2 (lw := [(2, .int (q_i r22)), (1, .int (q_i v3)), (5, .int (q_i r22)), (4, .int (q_i r18)), (0, .ref p0), (3, .int (q_i v3))]) hX dX9_suspectSensor_92 rfl (by decide) rfl ?_
            refine v_iinc 5 (lw := [(3, .int (q_i (v3 + 1))), (2, .int (q_i r22)), (1, .int (q_i v3)), (5, .int (q_i r22)), (4, .int (q_i r18)), (0, .ref p0)]) hX dX9_suspectSensor_93 rfl (by decide) rfl ?_
            refine v_goto (tgt := 20) hX dX9_suspectSensor_96 (by decide) ?_
            refine v_sub (lv' := [(0, .ref p0), (1, .int (q_i v3)), (2, .int (q_i r22)), (3, .int (q_i (v3 + 1)))]) [5, 2, 1, 0] rfl ?_
            exact ih _ _ _ _ hf
set_option maxRecDepth 20000 in
theorem c_X9_suspectSensor {S : q_S} {R : q_HR} {I : q_HI} {a0 : Nat} {rz : Int} {Iz : q_HI} (hf : f_X9_suspectSensor S R I a0 = some (rz, Iz)) : ∀ (l : Launch) (D : va_G) (cy : Nat → ClassId) (B : Nat), Met l yX9_suspectSensor [Cond.code yX9_suspectSensor cX9_suspectSensor 6 (some .int)] rmX9_suspectSensor (q_Pc B D cy [.ref a0] S R I) (q_Qc B D cy (some (.int (q_i rz))) S R Iz) 0 0 (fun q => B ≤ q) := by
  refine q_met (lv := [(0, .ref a0)]) (own := RX9) (nm := "suspectSensor") (by decide) rfl rfl (Nat.le_of_ble_eq_true rfl) rfl (fun X hX hE => ?_)
  unfold f_X9_suspectSensor at hf
  refine v_aload_n 0 0 hX dX9_suspectSensor_0 rfl rfl ?_
  obtain ⟨g1, hf⟩ := q_gd_some hf
  refine v_getI hX fa_RX9_91 (fun _ _ => rfl) g1 dX9_suspectSensor_1 ?_
  obtain ⟨g2, hf⟩ := q_gd_some hf
  refine v_if_ne (tgt := 10) hX g2 dX9_suspectSensor_4 (by decide) (fun c3 => ?_) (fun c3 => ?_)
  · replace hf := q_ifp c3 hf
    refine v_bipush (-5) hX dX9_suspectSensor_7 (by decide) ?_
    cases hf
    exact v_iret hX hE (Nat.le_of_ble_eq_true rfl) (Nat.le_of_ble_eq_true rfl) dX9_suspectSensor_9
  · replace hf := q_ifn c3 hf
    refine v_aload_n 0 0 hX dX9_suspectSensor_10 rfl rfl ?_
    obtain ⟨I4, h5, hf⟩ := q_bd_some hf
    refine v_callV (As := []) (rest := []) (st1 := []) none hX mv_RX9_200 (c_X9_prepare h5) ⟨rfl, rfl⟩ ⟨Nat.le_of_ble_eq_true rfl, Nat.le_of_ble_eq_true rfl⟩ g1 rfl rfl (Nat.le_of_ble_eq_true rfl) ⟨Nat.le_of_ble_eq_true rfl, Nat.le_of_ble_eq_true rfl⟩ dX9_suspectSensor_11 rfl ?_
    refine v_iconst hX dX9_suspectSensor_14 ?_
    refine v_istore_n 1 (lw := [(1, .int (q_i (-1))), (0, .ref a0)]) hX dX9_suspectSensor_15 rfl (by decide) rfl ?_
    refine v_iconst hX dX9_suspectSensor_16 ?_
    refine v_istore_n 2 (lw := [(2, .int (q_i 0)), (1, .int (q_i (-1))), (0, .ref a0)]) hX dX9_suspectSensor_17 rfl (by decide) rfl ?_
    refine v_iconst hX dX9_suspectSensor_18 ?_
    refine v_istore_n 3 (lw := [(3, .int (q_i 0)), (2, .int (q_i 0)), (1, .int (q_i (-1))), (0, .ref a0)]) hX dX9_suspectSensor_19 rfl (by decide) rfl ?_
    refine v_sub (lv' := [(0, .ref a0), (1, .int (q_i (-1))), (2, .int (q_i 0)), (3, .int (q_i 0))]) [3, 2, 1, 0] rfl ?_
    refine l_X9_suspectSensor_20 hX hE (fun w29 w30 w31 I32 hk => ?_) 100 _ _ _ _ hf
    clear hf
    have hf := hk
    clear hk
    refine v_iload_n 1 0 hX dX9_suspectSensor_99 rfl rfl ?_
    cases hf
    exact v_iret hX hE (Nat.le_of_ble_eq_true rfl) (Nat.le_of_ble_eq_true rfl) dX9_suspectSensor_100
noncomputable def f_X9_joinedGroups (S : q_S) (R : q_HR) (I : q_HI) (a0 : Nat) (a1 : Int) : Option (Int × q_HI) := q_gd (r_i a1) (if 0 ≤ a1 then q_gd (S.1 a0 = 10) (q_bd (f_X9_prepare S R I a0) fun I4 => q_bd2 (f_X9_runClustering S R I4 a0 a1) fun r6 I7 => q_gd (r_i r6) (if r6 = 0 then some ((-1), I7) else q_gd (S.1 (R a0 5) = 5) (q_bd (f_X4_pairCode S R I7 (R a0 5)) fun r12 => some (r12, I7)))) else some ((-3), I))
abbrev rmX9_joinedGroups : Room := { frames := 6, cells := 0, slots := 0, locals := 141 }
set_option maxRecDepth 20000 in
theorem c_X9_joinedGroups {S : q_S} {R : q_HR} {I : q_HI} {a0 : Nat} {a1 : Int} {rz : Int} {Iz : q_HI} (hf : f_X9_joinedGroups S R I a0 a1 = some (rz, Iz)) : ∀ (l : Launch) (D : va_G) (cy : Nat → ClassId) (B : Nat), Met l yX9_joinedGroups [Cond.code yX9_joinedGroups cX9_joinedGroups 2 (some .int)] rmX9_joinedGroups (q_Pc B D cy [.ref a0, .int (q_i a1)] S R I) (q_Qc B D cy (some (.int (q_i rz))) S R Iz) 0 0 (fun q => B ≤ q) := by
  refine q_met (lv := [(0, .ref a0), (1, .int (q_i a1))]) (own := RX9) (nm := "joinedGroups") (by decide) rfl rfl (Nat.le_of_ble_eq_true rfl) rfl (fun X hX hE => ?_)
  unfold f_X9_joinedGroups at hf
  refine v_iload_n 1 1 hX dX9_joinedGroups_0 rfl rfl ?_
  obtain ⟨g1, hf⟩ := q_gd_some hf
  refine v_if_ge (tgt := 7) hX g1 dX9_joinedGroups_1 (by decide) (fun c2 => ?_) (fun c2 => ?_)
  · replace hf := q_ifp c2 hf
    refine v_aload_n 0 0 hX dX9_joinedGroups_7 rfl rfl ?_
    obtain ⟨g3, hf⟩ := q_gd_some hf
    obtain ⟨I4, h5, hf⟩ := q_bd_some hf
    refine v_callV (As := []) (rest := []) (st1 := []) none hX mv_RX9_200 (c_X9_prepare h5) ⟨rfl, rfl⟩ ⟨Nat.le_of_ble_eq_true rfl, Nat.le_of_ble_eq_true rfl⟩ g3 rfl rfl (Nat.le_of_ble_eq_true rfl) ⟨Nat.le_of_ble_eq_true rfl, Nat.le_of_ble_eq_true rfl⟩ dX9_joinedGroups_8 rfl ?_
    refine v_aload_n 0 0 hX dX9_joinedGroups_11 rfl rfl ?_
    refine v_iload_n 1 1 hX dX9_joinedGroups_12 rfl rfl ?_
    obtain ⟨r6, I7, h8, hf⟩ := q_bd2_some hf
    refine v_callV (As := [.int (q_i a1)]) (rest := []) (st1 := [.int (q_i r6)]) (some (.int (q_i r6))) hX mv_RX9_223 (c_X9_runClustering h8) ⟨rfl, rfl⟩ ⟨Nat.le_of_ble_eq_true rfl, Nat.le_of_ble_eq_true rfl⟩ g3 rfl rfl (Nat.le_of_ble_eq_true rfl) ⟨Nat.le_of_ble_eq_true rfl, Nat.le_of_ble_eq_true rfl⟩ dX9_joinedGroups_13 rfl ?_
    obtain ⟨g9, hf⟩ := q_gd_some hf
    refine v_if_eq (tgt := 29) hX g9 dX9_joinedGroups_16 (by decide) (fun c10 => ?_) (fun c10 => ?_)
    · replace hf := q_ifp c10 hf
      refine v_iconst hX dX9_joinedGroups_29 ?_
      cases hf
      exact v_iret hX hE (Nat.le_of_ble_eq_true rfl) (Nat.le_of_ble_eq_true rfl) dX9_joinedGroups_30
    · replace hf := q_ifn c10 hf
      refine v_aload_n 0 0 hX dX9_joinedGroups_19 rfl rfl ?_
      obtain ⟨g11, hf⟩ := q_gd_some hf
      refine v_getA hX fa_RX9_46 (fun _ _ => rfl) g3 g11 (by decide) dX9_joinedGroups_20 ?_
      obtain ⟨r12, h13, hf⟩ := q_bd_some hf
      refine v_callV (As := []) (rest := []) (st1 := [.int (q_i r12)]) (some (.int (q_i r12))) hX mv_RX9_226 (c_X4_pairCode h13) ⟨rfl, rfl⟩ ⟨Nat.le_of_ble_eq_true rfl, Nat.le_of_ble_eq_true rfl⟩ g11 rfl rfl (Nat.le_of_ble_eq_true rfl) ⟨Nat.le_of_ble_eq_true rfl, Nat.le_of_ble_eq_true rfl⟩ dX9_joinedGroups_23 rfl ?_
      refine v_goto (tgt := 30) hX dX9_joinedGroups_26 (by decide) ?_
      cases hf
      exact v_iret hX hE (Nat.le_of_ble_eq_true rfl) (Nat.le_of_ble_eq_true rfl) dX9_joinedGroups_30
  · replace hf := q_ifn c2 hf
    refine v_bipush (-3) hX dX9_joinedGroups_4 (by decide) ?_
    cases hf
    exact v_iret hX hE (Nat.le_of_ble_eq_true rfl) (Nat.le_of_ble_eq_true rfl) dX9_joinedGroups_6
noncomputable def f_X9_joinDistance (S : q_S) (R : q_HR) (I : q_HI) (a0 : Nat) (a1 : Int) : Option (Int × q_HI) := q_gd (r_i a1) (if 0 ≤ a1 then q_gd (S.1 a0 = 10) (q_bd (f_X9_prepare S R I a0) fun I4 => q_bd2 (f_X9_runClustering S R I4 a0 a1) fun r6 I7 => q_gd (r_i r6) (if r6 = 0 then some ((-1), I7) else q_gd (S.1 (R a0 5) = 5) (some (I7 (R a0 5) 4, I7)))) else some ((-3), I))
abbrev rmX9_joinDistance : Room := { frames := 6, cells := 0, slots := 0, locals := 141 }
set_option maxRecDepth 20000 in
theorem c_X9_joinDistance {S : q_S} {R : q_HR} {I : q_HI} {a0 : Nat} {a1 : Int} {rz : Int} {Iz : q_HI} (hf : f_X9_joinDistance S R I a0 a1 = some (rz, Iz)) : ∀ (l : Launch) (D : va_G) (cy : Nat → ClassId) (B : Nat), Met l yX9_joinDistance [Cond.code yX9_joinDistance cX9_joinDistance 2 (some .int)] rmX9_joinDistance (q_Pc B D cy [.ref a0, .int (q_i a1)] S R I) (q_Qc B D cy (some (.int (q_i rz))) S R Iz) 0 0 (fun q => B ≤ q) := by
  refine q_met (lv := [(0, .ref a0), (1, .int (q_i a1))]) (own := RX9) (nm := "joinDistance") (by decide) rfl rfl (Nat.le_of_ble_eq_true rfl) rfl (fun X hX hE => ?_)
  unfold f_X9_joinDistance at hf
  refine v_iload_n 1 1 hX dX9_joinDistance_0 rfl rfl ?_
  obtain ⟨g1, hf⟩ := q_gd_some hf
  refine v_if_ge (tgt := 7) hX g1 dX9_joinDistance_1 (by decide) (fun c2 => ?_) (fun c2 => ?_)
  · replace hf := q_ifp c2 hf
    refine v_aload_n 0 0 hX dX9_joinDistance_7 rfl rfl ?_
    obtain ⟨g3, hf⟩ := q_gd_some hf
    obtain ⟨I4, h5, hf⟩ := q_bd_some hf
    refine v_callV (As := []) (rest := []) (st1 := []) none hX mv_RX9_200 (c_X9_prepare h5) ⟨rfl, rfl⟩ ⟨Nat.le_of_ble_eq_true rfl, Nat.le_of_ble_eq_true rfl⟩ g3 rfl rfl (Nat.le_of_ble_eq_true rfl) ⟨Nat.le_of_ble_eq_true rfl, Nat.le_of_ble_eq_true rfl⟩ dX9_joinDistance_8 rfl ?_
    refine v_aload_n 0 0 hX dX9_joinDistance_11 rfl rfl ?_
    refine v_iload_n 1 1 hX dX9_joinDistance_12 rfl rfl ?_
    obtain ⟨r6, I7, h8, hf⟩ := q_bd2_some hf
    refine v_callV (As := [.int (q_i a1)]) (rest := []) (st1 := [.int (q_i r6)]) (some (.int (q_i r6))) hX mv_RX9_223 (c_X9_runClustering h8) ⟨rfl, rfl⟩ ⟨Nat.le_of_ble_eq_true rfl, Nat.le_of_ble_eq_true rfl⟩ g3 rfl rfl (Nat.le_of_ble_eq_true rfl) ⟨Nat.le_of_ble_eq_true rfl, Nat.le_of_ble_eq_true rfl⟩ dX9_joinDistance_13 rfl ?_
    obtain ⟨g9, hf⟩ := q_gd_some hf
    refine v_if_eq (tgt := 29) hX g9 dX9_joinDistance_16 (by decide) (fun c10 => ?_) (fun c10 => ?_)
    · replace hf := q_ifp c10 hf
      refine v_iconst hX dX9_joinDistance_29 ?_
      cases hf
      exact v_iret hX hE (Nat.le_of_ble_eq_true rfl) (Nat.le_of_ble_eq_true rfl) dX9_joinDistance_30
    · replace hf := q_ifn c10 hf
      refine v_aload_n 0 0 hX dX9_joinDistance_19 rfl rfl ?_
      obtain ⟨g11, hf⟩ := q_gd_some hf
      refine v_getA hX fa_RX9_46 (fun _ _ => rfl) g3 g11 (by decide) dX9_joinDistance_20 ?_
      refine v_getI hX fa_RX9_236 (fun _ _ => rfl) g11 dX9_joinDistance_23 ?_
      refine v_goto (tgt := 30) hX dX9_joinDistance_26 (by decide) ?_
      cases hf
      exact v_iret hX hE (Nat.le_of_ble_eq_true rfl) (Nat.le_of_ble_eq_true rfl) dX9_joinDistance_30
  · replace hf := q_ifn c2 hf
    refine v_bipush (-3) hX dX9_joinDistance_4 (by decide) ?_
    cases hf
    exact v_iret hX hE (Nat.le_of_ble_eq_true rfl) (Nat.le_of_ble_eq_true rfl) dX9_joinDistance_6
noncomputable def f_X9_gapToSample (S : q_S) (R : q_HR) (I : q_HI) (a0 : Nat) (a1 : Nat) (a2 : Int) (a3 : Int) : Option (Int) := q_gd (S.1 a0 = 10) (q_gd (S.1 (R a0 2) = 7) (q_gd (S.1 (R a0 3) = 15) (q_gd ((0 : Int) ≤ a2 ∧ a2 < (S.2.1 (R a0 3) : Int)) (q_gd (S.1 (R (R a0 3) (Int.toNat a2)) = 3) (q_gd (S.1 (R (R (R a0 3) (Int.toNat a2)) 1) = 17) (q_gd ((0 : Int) ≤ a3 ∧ a3 < (S.2.1 (R (R (R a0 3) (Int.toNat a2)) 1) : Int)) (q_gd (S.1 (R (R (R (R a0 3) (Int.toNat a2)) 1) (Int.toNat a3)) = 12) (q_bd (f_X6_gap S R I (R a0 2) a1 1 (R (R (R (R a0 3) (Int.toNat a2)) 1) (Int.toNat a3)) 1) fun r9 => some r9))))))))
abbrev rmX9_gapToSample : Room := { frames := 1, cells := 0, slots := 0, locals := 31 }
set_option maxRecDepth 20000 in
theorem c_X9_gapToSample {S : q_S} {R : q_HR} {I : q_HI} {a0 : Nat} {a1 : Nat} {a2 : Int} {a3 : Int} {rz : Int} (hf : f_X9_gapToSample S R I a0 a1 a2 a3 = some rz) : ∀ (l : Launch) (D : va_G) (cy : Nat → ClassId) (B : Nat), Met l yX9_gapToSample [Cond.code yX9_gapToSample cX9_gapToSample 4 (some .int)] rmX9_gapToSample (q_Pc B D cy [.ref a0, .ref a1, .int (q_i a2), .int (q_i a3)] S R I) (q_Qc B D cy (some (.int (q_i rz))) S R I) 0 0 (fun q => B ≤ q) := by
  refine q_met (lv := [(0, .ref a0), (1, .ref a1), (2, .int (q_i a2)), (3, .int (q_i a3))]) (own := RX9) (nm := "gapToSample") (by decide) rfl rfl (Nat.le_of_ble_eq_true rfl) rfl (fun X hX hE => ?_)
  unfold f_X9_gapToSample at hf
  refine v_aload_n 0 0 hX dX9_gapToSample_0 rfl rfl ?_
  obtain ⟨g1, hf⟩ := q_gd_some hf
  obtain ⟨g2, hf⟩ := q_gd_some hf
  refine v_getA hX fa_RX9_26 (fun _ _ => rfl) g1 g2 (by decide) dX9_gapToSample_1 ?_
  refine v_aload_n 1 1 hX dX9_gapToSample_4 rfl rfl ?_
  refine v_iconst hX dX9_gapToSample_5 ?_
  refine v_aload_n 0 0 hX dX9_gapToSample_6 rfl rfl ?_
  obtain ⟨g3, hf⟩ := q_gd_some hf
  refine v_getA hX fa_RX9_32 (fun _ _ => rfl) g1 g3 (by decide) dX9_gapToSample_7 ?_
  refine v_iload_n 2 2 hX dX9_gapToSample_10 rfl rfl ?_
  obtain ⟨g4, hf⟩ := q_gd_some hf
  obtain ⟨g5, hf⟩ := q_gd_some hf
  refine v_aaload (t0 := 3) hX g3 (by decide) (fun _ => rfl) rfl (fun _ _ _ => rfl) g4 g5 (by decide) dX9_gapToSample_11 ?_
  obtain ⟨g6, hf⟩ := q_gd_some hf
  refine v_getA hX fa_RX9_287 (fun _ _ => rfl) g5 g6 (by decide) dX9_gapToSample_12 ?_
  refine v_iload_n 3 3 hX dX9_gapToSample_15 rfl rfl ?_
  obtain ⟨g7, hf⟩ := q_gd_some hf
  obtain ⟨g8, hf⟩ := q_gd_some hf
  refine v_aaload (t0 := 5) hX g6 (by decide) (fun _ => rfl) rfl (fun _ _ _ => rfl) g7 g8 (by decide) dX9_gapToSample_16 ?_
  refine v_iconst hX dX9_gapToSample_17 ?_
  obtain ⟨r9, h10, hf⟩ := q_bd_some hf
  refine v_callV (As := [.ref a1, .int (q_i 1), .ref (R (R (R (R a0 3) (Int.toNat a2)) 1) (Int.toNat a3)), .int (q_i 1)]) (rest := []) (st1 := [.int (q_i r9)]) (some (.int (q_i r9))) hX mv_RX9_284 (c_X6_gap h10) ⟨rfl, rfl⟩ ⟨Nat.le_of_ble_eq_true rfl, Nat.le_of_ble_eq_true rfl⟩ g2 rfl rfl (Nat.le_of_ble_eq_true rfl) ⟨Nat.le_of_ble_eq_true rfl, Nat.le_of_ble_eq_true rfl⟩ dX9_gapToSample_18 rfl ?_
  cases hf
  exact v_iret hX hE (Nat.le_of_ble_eq_true rfl) (Nat.le_of_ble_eq_true rfl) dX9_gapToSample_21
noncomputable def f_X9_rankSamples_L19 (S : q_S) (R : q_HR) (p0 : Nat) (p1 : Int) (k : Int → q_HI → Option (q_HI)) : Nat → Int → q_HI → Option (q_HI)
  | 0, _, _ => none
  | n + 1, v2, I => q_gd (S.1 p0 = 10) (q_gd (S.1 (R p0 3) = 15) (q_gd ((0 : Int) ≤ p1 ∧ p1 < (S.2.1 (R p0 3) : Int)) (q_gd (S.1 (R (R p0 3) (Int.toNat p1)) = 3) (q_gd (S.1 (R (R (R p0 3) (Int.toNat p1)) 0) = 9) (q_gd (r_i v2) (q_gd (r_i (I (R (R (R p0 3) (Int.toNat p1)) 0) 2)) (if I (R (R (R p0 3) (Int.toNat p1)) 0) 2 ≤ v2 then k v2 I else q_gd (S.1 (R p0 4) = 8) (q_gd (S.1 (R p0 7) = 12) (q_bd (f_X9_gapToSample S R I p0 (R p0 7) p1 v2) fun r19 => q_bd (f_X7_insert S R I (R p0 4) ((10 * p1) + v2) r19) fun I21 => f_X9_rankSamples_L19 S R p0 p1 k n (v2 + 1) I21)))))))))
noncomputable def f_X9_rankSamples_L9 (S : q_S) (R : q_HR) (p0 : Nat) (k : Int → q_HI → Option (q_HI)) : Nat → Int → q_HI → Option (q_HI)
  | 0, _, _ => none
  | n + 1, v1, I => q_gd (S.1 p0 = 10) (q_gd (r_i v1) (q_gd (r_i (I p0 10)) (if I p0 10 ≤ v1 then k v1 I else f_X9_rankSamples_L19 S R p0 v1 (fun w23 I24 => f_X9_rankSamples_L9 S R p0 k n (v1 + 1) I24) 100 0 I)))
noncomputable def f_X9_rankSamples (S : q_S) (R : q_HR) (I : q_HI) (a0 : Nat) : Option (q_HI) := q_gd (S.1 a0 = 10) (q_gd (S.1 (R a0 4) = 8) (q_bd (f_X7_clear S R I (R a0 4)) fun I3 => f_X9_rankSamples_L9 S R a0 (fun w25 I26 => some I26) 100 0 I3))
abbrev rmX9_rankSamples : Room := { frames := 2, cells := 0, slots := 0, locals := 54 }
set_option maxRecDepth 20000 in
theorem l_X9_rankSamples_19 {X : q_X} {S : q_S} {R : q_HR} {p0 : Nat} {p1 : Int} {Iz : q_HI} (hX : q_C X cX9_rankSamples 3 RX9 none "rankSamples") (hE : q_E X 0 0 none S R Iz) {k : Int → q_HI → Option (q_HI)} (hk : ∀ (v2 : Int) (I : q_HI), k v2 I = some Iz → q_V X rmX9_rankSamples cX9_rankSamples 3 0 0 64 [(0, .ref p0), (1, .int (q_i p1))] [] S R I) :
    ∀ (n : Nat), ∀ (v2 : Int) (I : q_HI), f_X9_rankSamples_L19 S R p0 p1 k n v2 I = some Iz → q_V X rmX9_rankSamples cX9_rankSamples 3 0 0 19 [(0, .ref p0), (1, .int (q_i p1)), (2, .int (q_i v2))] [] S R I := by
  intro n
  induction n with
  | zero =>
    intro v2 I hf
    cases (show (none : Option (q_HI)) = some _ from hf)
  | succ n ih =>
    intro v2 I hf
    rw [f_X9_rankSamples_L19] at hf
    refine v_iload_n 2 2 hX dX9_rankSamples_19 rfl rfl ?_
    refine v_aload_n 0 0 hX dX9_rankSamples_20 rfl rfl ?_
    obtain ⟨g9, hf⟩ := q_gd_some hf
    obtain ⟨g10, hf⟩ := q_gd_some hf
    refine v_getA hX fa_RX9_32 (fun _ _ => rfl) g9 g10 (by decide) dX9_rankSamples_21 ?_
    refine v_iload_n 1 1 hX dX9_rankSamples_24 rfl rfl ?_
    obtain ⟨g11, hf⟩ := q_gd_some hf
    obtain ⟨g12, hf⟩ := q_gd_some hf
    refine v_aaload (t0 := 3) hX g10 (by decide) (fun _ => rfl) rfl (fun _ _ _ => rfl) g11 g12 (by decide) dX9_rankSamples_25 ?_
    obtain ⟨g13, hf⟩ := q_gd_some hf
    refine v_getA hX fa_RX9_184 (fun _ _ => rfl) g12 g13 (by decide) dX9_rankSamples_26 ?_
    refine v_getI hX fa_RX9_116 (fun _ _ => rfl) g13 dX9_rankSamples_29 ?_
    obtain ⟨g14, hf⟩ := q_gd_some hf
    obtain ⟨g15, hf⟩ := q_gd_some hf
    refine v_icmp_ge (tgt := 64) hX g14 g15 dX9_rankSamples_32 (by decide) (fun c16 => ?_) (fun c16 => ?_)
    · replace hf := q_ifp c16 hf
      refine v_sub (lv' := [(0, .ref p0), (1, .int (q_i p1))]) [0, 1] rfl ?_
      exact hk _ _ hf
    · replace hf := q_ifn c16 hf
      refine v_aload_n 0 0 hX dX9_rankSamples_35 rfl rfl ?_
      obtain ⟨g17, hf⟩ := q_gd_some hf
      refine v_getA hX fa_RX9_39 (fun _ _ => rfl) g9 g17 (by decide) dX9_rankSamples_36 ?_
      refine v_bipush 10 hX dX9_rankSamples_39 (by decide) ?_
      refine v_iload_n 1 1 hX dX9_rankSamples_41 rfl rfl ?_
      refine v_imul hX dX9_rankSamples_42 ?_
      refine v_iload_n 2 2 hX dX9_rankSamples_43 rfl rfl ?_
      refine v_iadd hX dX9_rankSamples_44 ?_
      refine v_aload_n 0 0 hX dX9_rankSamples_45 rfl rfl ?_
      refine v_aload_n 0 0 hX dX9_rankSamples_46 rfl rfl ?_
      obtain ⟨g18, hf⟩ := q_gd_some hf
      refine v_getA hX fa_RX9_59 (fun _ _ => rfl) g9 g18 (by decide) dX9_rankSamples_47 ?_
      refine v_iload_n 1 1 hX dX9_rankSamples_50 rfl rfl ?_
      refine v_iload_n 2 2 hX dX9_rankSamples_51 rfl rfl ?_
      obtain ⟨r19, h20, hf⟩ := q_bd_some hf
      refine v_callV (As := [.ref (R p0 7), .int (q_i p1), .int (q_i v2)]) (rest := [.int (q_i ((10 * p1) + v2)), .ref (R p0 4)]) (st1 := [.int (q_i r19), .int (q_i ((10 * p1) + v2)), .ref (R p0 4)]) (some (.int (q_i r19))) hX mv_RX9_305 (c_X9_gapToSample h20) ⟨rfl, rfl⟩ ⟨Nat.le_of_ble_eq_true rfl, Nat.le_of_ble_eq_true rfl⟩ g9 rfl rfl (Nat.le_of_ble_eq_true rfl) ⟨Nat.le_of_ble_eq_true rfl, Nat.le_of_ble_eq_true rfl⟩ dX9_rankSamples_52 rfl ?_
      obtain ⟨I21, h22, hf⟩ := q_bd_some hf
      refine v_callV (As := [.int (q_i ((10 * p1) + v2)), .int (q_i r19)]) (rest := []) (st1 := []) none hX mv_RX9_309 (c_X7_insert h22) ⟨rfl, rfl⟩ ⟨Nat.le_of_ble_eq_true rfl, Nat.le_of_ble_eq_true rfl⟩ g17 rfl rfl (Nat.le_of_ble_eq_true rfl) ⟨Nat.le_of_ble_eq_true rfl, Nat.le_of_ble_eq_true rfl⟩ dX9_rankSamples_55 rfl ?_
      refine v_iinc 2 (lw := [(2, .int (q_i (v2 + 1))), (0, .ref p0), (1, .int (q_i p1))]) hX dX9_rankSamples_58 rfl (by decide) rfl ?_
      refine v_goto (tgt := 19) hX dX9_rankSamples_61 (by decide) ?_
      refine v_sub (lv' := [(0, .ref p0), (1, .int (q_i p1)), (2, .int (q_i (v2 + 1)))]) [1, 2, 0] rfl ?_
      exact ih _ _ hf
set_option maxRecDepth 20000 in
theorem l_X9_rankSamples_9 {X : q_X} {S : q_S} {R : q_HR} {p0 : Nat} {Iz : q_HI} (hX : q_C X cX9_rankSamples 3 RX9 none "rankSamples") (hE : q_E X 0 0 none S R Iz) {k : Int → q_HI → Option (q_HI)} (hk : ∀ (v1 : Int) (I : q_HI), k v1 I = some Iz → q_V X rmX9_rankSamples cX9_rankSamples 3 0 0 70 [] [] S R I) :
    ∀ (n : Nat), ∀ (v1 : Int) (I : q_HI), f_X9_rankSamples_L9 S R p0 k n v1 I = some Iz → q_V X rmX9_rankSamples cX9_rankSamples 3 0 0 9 [(0, .ref p0), (1, .int (q_i v1))] [] S R I := by
  intro n
  induction n with
  | zero =>
    intro v1 I hf
    cases (show (none : Option (q_HI)) = some _ from hf)
  | succ n ih =>
    intro v1 I hf
    rw [f_X9_rankSamples_L9] at hf
    refine v_iload_n 1 1 hX dX9_rankSamples_9 rfl rfl ?_
    refine v_aload_n 0 0 hX dX9_rankSamples_10 rfl rfl ?_
    obtain ⟨g5, hf⟩ := q_gd_some hf
    refine v_getI hX fa_RX9_178 (fun _ _ => rfl) g5 dX9_rankSamples_11 ?_
    obtain ⟨g6, hf⟩ := q_gd_some hf
    obtain ⟨g7, hf⟩ := q_gd_some hf
    refine v_icmp_ge (tgt := 70) hX g6 g7 dX9_rankSamples_14 (by decide) (fun c8 => ?_) (fun c8 => ?_)
    · replace hf := q_ifp c8 hf
      refine v_sub (lv' := []) [] rfl ?_
      exact hk _ _ hf
    · replace hf := q_ifn c8 hf
      refine v_iconst hX dX9_rankSamples_17 ?_
      refine v_istore_n 2 (lw := [(2, .int (q_i 0)), (0, .ref p0), (1, .int (q_i v1))]) hX dX9_rankSamples_18 rfl (by decide) rfl ?_
      refine v_sub (lv' := [(0, .ref p0), (1, .int (q_i v1)), (2, .int (q_i 0))]) [1, 2, 0] rfl ?_
      refine l_X9_rankSamples_19 hX hE (fun w23 I24 hk => ?_) 100 _ _ hf
      clear hf
      have hf := hk
      clear hk
      refine v_iinc 1 (lw := [(1, .int (q_i (v1 + 1))), (0, .ref p0)]) hX dX9_rankSamples_64 rfl (by decide) rfl ?_
      refine v_goto (tgt := 9) hX dX9_rankSamples_67 (by decide) ?_
      refine v_sub (lv' := [(0, .ref p0), (1, .int (q_i (v1 + 1)))]) [1, 0] rfl ?_
      exact ih _ _ hf
set_option maxRecDepth 20000 in
theorem c_X9_rankSamples {S : q_S} {R : q_HR} {I : q_HI} {a0 : Nat} {Iz : q_HI} (hf : f_X9_rankSamples S R I a0 = some Iz) : ∀ (l : Launch) (D : va_G) (cy : Nat → ClassId) (B : Nat), Met l yX9_rankSamples [Cond.code yX9_rankSamples cX9_rankSamples 3 none] rmX9_rankSamples (q_Pc B D cy [.ref a0] S R I) (q_Qc B D cy none S R Iz) 0 0 (fun q => B ≤ q) := by
  refine q_met (lv := [(0, .ref a0)]) (own := RX9) (nm := "rankSamples") (by decide) rfl rfl (Nat.le_of_ble_eq_true rfl) rfl (fun X hX hE => ?_)
  unfold f_X9_rankSamples at hf
  refine v_aload_n 0 0 hX dX9_rankSamples_0 rfl rfl ?_
  obtain ⟨g1, hf⟩ := q_gd_some hf
  obtain ⟨g2, hf⟩ := q_gd_some hf
  refine v_getA hX fa_RX9_39 (fun _ _ => rfl) g1 g2 (by decide) dX9_rankSamples_1 ?_
  obtain ⟨I3, h4, hf⟩ := q_bd_some hf
  refine v_callV (As := []) (rest := []) (st1 := []) none hX mv_RX9_304 (c_X7_clear h4) ⟨rfl, rfl⟩ ⟨Nat.le_of_ble_eq_true rfl, Nat.le_of_ble_eq_true rfl⟩ g2 rfl rfl (Nat.le_of_ble_eq_true rfl) ⟨Nat.le_of_ble_eq_true rfl, Nat.le_of_ble_eq_true rfl⟩ dX9_rankSamples_4 rfl ?_
  refine v_iconst hX dX9_rankSamples_7 ?_
  refine v_istore_n 1 (lw := [(1, .int (q_i 0)), (0, .ref a0)]) hX dX9_rankSamples_8 rfl (by decide) rfl ?_
  refine v_sub (lv' := [(0, .ref a0), (1, .int (q_i 0))]) [1, 0] rfl ?_
  refine l_X9_rankSamples_9 hX hE (fun w25 I26 hk => ?_) 100 _ _ hf
  clear hf
  have hf := hk
  clear hk
  cases hf
  exact v_vret hX hE (Nat.le_of_ble_eq_true rfl) (Nat.le_of_ble_eq_true rfl) dX9_rankSamples_70
noncomputable def f_X9_nearestSample (S : q_S) (R : q_HR) (I : q_HI) (a0 : Nat) (a1 : Int) : Option (Int × q_HI) := q_gd (r_i a1) (if 0 ≤ a1 then q_gd (S.1 a0 = 10) (q_gd (r_i (I a0 9)) (if I a0 9 = 0 then some ((-5), I) else q_bd (f_X9_prepare S R I a0) fun I6 => q_bd (f_X9_rankSamples S R I6 a0) fun I8 => q_gd (S.1 (R a0 4) = 8) (q_gd (r_i (I8 (R a0 4) 3)) (if I8 (R a0 4) 3 ≤ a1 then some ((-1), I8) else q_gd (S.1 (R (R a0 4) 0) = 12) (q_gd ((0 : Int) ≤ a1 ∧ a1 < (S.2.1 (R (R a0 4) 0) : Int)) (some (I8 (R (R a0 4) 0) (Int.toNat a1), I8))))))) else some ((-3), I))
abbrev rmX9_nearestSample : Room := { frames := 6, cells := 0, slots := 0, locals := 141 }
set_option maxRecDepth 20000 in
theorem c_X9_nearestSample {S : q_S} {R : q_HR} {I : q_HI} {a0 : Nat} {a1 : Int} {rz : Int} {Iz : q_HI} (hf : f_X9_nearestSample S R I a0 a1 = some (rz, Iz)) : ∀ (l : Launch) (D : va_G) (cy : Nat → ClassId) (B : Nat), Met l yX9_nearestSample [Cond.code yX9_nearestSample cX9_nearestSample 2 (some .int)] rmX9_nearestSample (q_Pc B D cy [.ref a0, .int (q_i a1)] S R I) (q_Qc B D cy (some (.int (q_i rz))) S R Iz) 0 0 (fun q => B ≤ q) := by
  refine q_met (lv := [(0, .ref a0), (1, .int (q_i a1))]) (own := RX9) (nm := "nearestSample") (by decide) rfl rfl (Nat.le_of_ble_eq_true rfl) rfl (fun X hX hE => ?_)
  unfold f_X9_nearestSample at hf
  refine v_iload_n 1 1 hX dX9_nearestSample_0 rfl rfl ?_
  obtain ⟨g1, hf⟩ := q_gd_some hf
  refine v_if_ge (tgt := 7) hX g1 dX9_nearestSample_1 (by decide) (fun c2 => ?_) (fun c2 => ?_)
  · replace hf := q_ifp c2 hf
    refine v_aload_n 0 0 hX dX9_nearestSample_7 rfl rfl ?_
    obtain ⟨g3, hf⟩ := q_gd_some hf
    refine v_getI hX fa_RX9_91 (fun _ _ => rfl) g3 dX9_nearestSample_8 ?_
    obtain ⟨g4, hf⟩ := q_gd_some hf
    refine v_if_ne (tgt := 17) hX g4 dX9_nearestSample_11 (by decide) (fun c5 => ?_) (fun c5 => ?_)
    · replace hf := q_ifp c5 hf
      refine v_bipush (-5) hX dX9_nearestSample_14 (by decide) ?_
      cases hf
      exact v_iret hX hE (Nat.le_of_ble_eq_true rfl) (Nat.le_of_ble_eq_true rfl) dX9_nearestSample_16
    · replace hf := q_ifn c5 hf
      refine v_aload_n 0 0 hX dX9_nearestSample_17 rfl rfl ?_
      obtain ⟨I6, h7, hf⟩ := q_bd_some hf
      refine v_callV (As := []) (rest := []) (st1 := []) none hX mv_RX9_200 (c_X9_prepare h7) ⟨rfl, rfl⟩ ⟨Nat.le_of_ble_eq_true rfl, Nat.le_of_ble_eq_true rfl⟩ g3 rfl rfl (Nat.le_of_ble_eq_true rfl) ⟨Nat.le_of_ble_eq_true rfl, Nat.le_of_ble_eq_true rfl⟩ dX9_nearestSample_18 rfl ?_
      refine v_aload_n 0 0 hX dX9_nearestSample_21 rfl rfl ?_
      obtain ⟨I8, h9, hf⟩ := q_bd_some hf
      refine v_callV (As := []) (rest := []) (st1 := []) none hX mv_RX9_239 (c_X9_rankSamples h9) ⟨rfl, rfl⟩ ⟨Nat.le_of_ble_eq_true rfl, Nat.le_of_ble_eq_true rfl⟩ g3 rfl rfl (Nat.le_of_ble_eq_true rfl) ⟨Nat.le_of_ble_eq_true rfl, Nat.le_of_ble_eq_true rfl⟩ dX9_nearestSample_22 rfl ?_
      refine v_iload_n 1 1 hX dX9_nearestSample_25 rfl rfl ?_
      refine v_aload_n 0 0 hX dX9_nearestSample_26 rfl rfl ?_
      obtain ⟨g10, hf⟩ := q_gd_some hf
      refine v_getA hX fa_RX9_39 (fun _ _ => rfl) g3 g10 (by decide) dX9_nearestSample_27 ?_
      refine v_getI hX fa_RX9_242 (fun _ _ => rfl) g10 dX9_nearestSample_30 ?_
      obtain ⟨g11, hf⟩ := q_gd_some hf
      refine v_icmp_ge (tgt := 48) hX g1 g11 dX9_nearestSample_33 (by decide) (fun c12 => ?_) (fun c12 => ?_)
      · replace hf := q_ifp c12 hf
        refine v_iconst hX dX9_nearestSample_48 ?_
        cases hf
        exact v_iret hX hE (Nat.le_of_ble_eq_true rfl) (Nat.le_of_ble_eq_true rfl) dX9_nearestSample_49
      · replace hf := q_ifn c12 hf
        refine v_aload_n 0 0 hX dX9_nearestSample_36 rfl rfl ?_
        refine v_getA hX fa_RX9_39 (fun _ _ => rfl) g3 g10 (by decide) dX9_nearestSample_37 ?_
        obtain ⟨g13, hf⟩ := q_gd_some hf
        refine v_getA hX fa_RX9_245 (fun _ _ => rfl) g10 g13 (by decide) dX9_nearestSample_40 ?_
        refine v_iload_n 1 1 hX dX9_nearestSample_43 rfl rfl ?_
        obtain ⟨g14, hf⟩ := q_gd_some hf
        refine v_iaload hX g13 g14 dX9_nearestSample_44 ?_
        refine v_goto (tgt := 49) hX dX9_nearestSample_45 (by decide) ?_
        cases hf
        exact v_iret hX hE (Nat.le_of_ble_eq_true rfl) (Nat.le_of_ble_eq_true rfl) dX9_nearestSample_49
  · replace hf := q_ifn c2 hf
    refine v_bipush (-3) hX dX9_nearestSample_4 (by decide) ?_
    cases hf
    exact v_iret hX hE (Nat.le_of_ble_eq_true rfl) (Nat.le_of_ble_eq_true rfl) dX9_nearestSample_6
noncomputable def f_X9_vote (S : q_S) (R : q_HR) (I : q_HI) (a0 : Nat) (a1 : Int) : Option (Int × q_HI) := q_bd (f_X9_isWithin a1 1 64) fun r1 => q_gd (r_i r1) (if r1 = 0 then some ((-3), I) else q_gd (S.1 a0 = 10) (q_gd (r_i (I a0 9)) (if I a0 9 = 0 then some ((-5), I) else q_bd (f_X9_prepare S R I a0) fun I8 => q_bd (f_X9_rankSamples S R I8 a0) fun I10 => q_gd (S.1 (R a0 4) = 8) (q_bd2 (f_X7_winnerOf S R I10 (R a0 4) a1) fun r13 I14 => some (r13, I14)))))
abbrev rmX9_vote : Room := { frames := 6, cells := 0, slots := 0, locals := 141 }
set_option maxRecDepth 20000 in
theorem c_X9_vote {S : q_S} {R : q_HR} {I : q_HI} {a0 : Nat} {a1 : Int} {rz : Int} {Iz : q_HI} (hf : f_X9_vote S R I a0 a1 = some (rz, Iz)) : ∀ (l : Launch) (D : va_G) (cy : Nat → ClassId) (B : Nat), Met l yX9_vote [Cond.code yX9_vote cX9_vote 2 (some .int)] rmX9_vote (q_Pc B D cy [.ref a0, .int (q_i a1)] S R I) (q_Qc B D cy (some (.int (q_i rz))) S R Iz) 0 0 (fun q => B ≤ q) := by
  refine q_met (lv := [(0, .ref a0), (1, .int (q_i a1))]) (own := RX9) (nm := "vote") (by decide) rfl rfl (Nat.le_of_ble_eq_true rfl) rfl (fun X hX hE => ?_)
  unfold f_X9_vote at hf
  refine v_iload_n 1 1 hX dX9_vote_0 rfl rfl ?_
  refine v_iconst hX dX9_vote_1 ?_
  refine v_bipush 64 hX dX9_vote_2 (by decide) ?_
  obtain ⟨r1, h2, hf⟩ := q_bd_some hf
  refine v_callS (As := [.int (q_i a1), .int (q_i 1), .int (q_i 64)]) (rest := []) (st1 := [.int (q_i r1)]) (some (.int (q_i r1))) hX ms_RX9_71 (c_X9_isWithin h2) ⟨rfl, rfl⟩ ⟨Nat.le_of_ble_eq_true rfl, Nat.le_of_ble_eq_true rfl⟩ rfl rfl (Nat.le_of_ble_eq_true rfl) ⟨Nat.le_of_ble_eq_true rfl, Nat.le_of_ble_eq_true rfl⟩ dX9_vote_4 rfl ?_
  obtain ⟨g3, hf⟩ := q_gd_some hf
  refine v_if_ne (tgt := 13) hX g3 dX9_vote_7 (by decide) (fun c4 => ?_) (fun c4 => ?_)
  · replace hf := q_ifp c4 hf
    refine v_bipush (-3) hX dX9_vote_10 (by decide) ?_
    cases hf
    exact v_iret hX hE (Nat.le_of_ble_eq_true rfl) (Nat.le_of_ble_eq_true rfl) dX9_vote_12
  · replace hf := q_ifn c4 hf
    refine v_aload_n 0 0 hX dX9_vote_13 rfl rfl ?_
    obtain ⟨g5, hf⟩ := q_gd_some hf
    refine v_getI hX fa_RX9_91 (fun _ _ => rfl) g5 dX9_vote_14 ?_
    obtain ⟨g6, hf⟩ := q_gd_some hf
    refine v_if_ne (tgt := 23) hX g6 dX9_vote_17 (by decide) (fun c7 => ?_) (fun c7 => ?_)
    · replace hf := q_ifp c7 hf
      refine v_bipush (-5) hX dX9_vote_20 (by decide) ?_
      cases hf
      exact v_iret hX hE (Nat.le_of_ble_eq_true rfl) (Nat.le_of_ble_eq_true rfl) dX9_vote_22
    · replace hf := q_ifn c7 hf
      refine v_aload_n 0 0 hX dX9_vote_23 rfl rfl ?_
      obtain ⟨I8, h9, hf⟩ := q_bd_some hf
      refine v_callV (As := []) (rest := []) (st1 := []) none hX mv_RX9_200 (c_X9_prepare h9) ⟨rfl, rfl⟩ ⟨Nat.le_of_ble_eq_true rfl, Nat.le_of_ble_eq_true rfl⟩ g5 rfl rfl (Nat.le_of_ble_eq_true rfl) ⟨Nat.le_of_ble_eq_true rfl, Nat.le_of_ble_eq_true rfl⟩ dX9_vote_24 rfl ?_
      refine v_aload_n 0 0 hX dX9_vote_27 rfl rfl ?_
      obtain ⟨I10, h11, hf⟩ := q_bd_some hf
      refine v_callV (As := []) (rest := []) (st1 := []) none hX mv_RX9_239 (c_X9_rankSamples h11) ⟨rfl, rfl⟩ ⟨Nat.le_of_ble_eq_true rfl, Nat.le_of_ble_eq_true rfl⟩ g5 rfl rfl (Nat.le_of_ble_eq_true rfl) ⟨Nat.le_of_ble_eq_true rfl, Nat.le_of_ble_eq_true rfl⟩ dX9_vote_28 rfl ?_
      refine v_aload_n 0 0 hX dX9_vote_31 rfl rfl ?_
      obtain ⟨g12, hf⟩ := q_gd_some hf
      refine v_getA hX fa_RX9_39 (fun _ _ => rfl) g5 g12 (by decide) dX9_vote_32 ?_
      refine v_iload_n 1 1 hX dX9_vote_35 rfl rfl ?_
      obtain ⟨r13, I14, h15, hf⟩ := q_bd2_some hf
      refine v_callV (As := [.int (q_i a1)]) (rest := []) (st1 := [.int (q_i r13)]) (some (.int (q_i r13))) hX mv_RX9_248 (c_X7_winnerOf h15) ⟨rfl, rfl⟩ ⟨Nat.le_of_ble_eq_true rfl, Nat.le_of_ble_eq_true rfl⟩ g12 rfl rfl (Nat.le_of_ble_eq_true rfl) ⟨Nat.le_of_ble_eq_true rfl, Nat.le_of_ble_eq_true rfl⟩ dX9_vote_36 rfl ?_
      cases hf
      exact v_iret hX hE (Nat.le_of_ble_eq_true rfl) (Nat.le_of_ble_eq_true rfl) dX9_vote_39
noncomputable def f_X9_resultOfTest (S : q_S) (R : q_HR) (I : q_HI) (a0 : Nat) (a1 : Int) (a2 : Int) : Option (Int × q_HI) := q_gd (S.1 a0 = 10) (q_gd (S.1 (R a0 3) = 15) (q_gd ((0 : Int) ≤ a1 ∧ a1 < (S.2.1 (R a0 3) : Int)) (q_gd (S.1 (R (R a0 3) (Int.toNat a1)) = 3) (q_lt (R (R a0 3) (Int.toNat a1)) fun x5 => q_bd (f_X2_weigh S R I x5 a2 (-1)) fun I8 => q_gd (S.1 (R x5 1) = 17) (q_gd ((0 : Int) ≤ a2 ∧ a2 < (S.2.1 (R x5 1) : Int)) (q_gd (S.1 (R (R x5 1) (Int.toNat a2)) = 12) (q_bd (f_X9_nearestTo S R I8 a0 (R (R x5 1) (Int.toNat a2)) (-1)) fun r13 => q_bd (f_X2_weigh S R I8 x5 a2 1) fun I15 => some (r13, I15))))))))
abbrev rmX9_resultOfTest : Room := { frames := 3, cells := 0, slots := 0, locals := 79 }
set_option maxRecDepth 20000 in
theorem c_X9_resultOfTest {S : q_S} {R : q_HR} {I : q_HI} {a0 : Nat} {a1 : Int} {a2 : Int} {rz : Int} {Iz : q_HI} (hf : f_X9_resultOfTest S R I a0 a1 a2 = some (rz, Iz)) : ∀ (l : Launch) (D : va_G) (cy : Nat → ClassId) (B : Nat), Met l yX9_resultOfTest [Cond.code yX9_resultOfTest cX9_resultOfTest 5 (some .int)] rmX9_resultOfTest (q_Pc B D cy [.ref a0, .int (q_i a1), .int (q_i a2)] S R I) (q_Qc B D cy (some (.int (q_i rz))) S R Iz) 0 0 (fun q => B ≤ q) := by
  refine q_met (lv := [(0, .ref a0), (1, .int (q_i a1)), (2, .int (q_i a2))]) (own := RX9) (nm := "resultOfTest") (by decide) rfl rfl (Nat.le_of_ble_eq_true rfl) rfl (fun X hX hE => ?_)
  unfold f_X9_resultOfTest at hf
  refine v_aload_n 0 0 hX dX9_resultOfTest_0 rfl rfl ?_
  obtain ⟨g1, hf⟩ := q_gd_some hf
  obtain ⟨g2, hf⟩ := q_gd_some hf
  refine v_getA hX fa_RX9_32 (fun _ _ => rfl) g1 g2 (by decide) dX9_resultOfTest_1 ?_
  refine v_iload_n 1 1 hX dX9_resultOfTest_4 rfl rfl ?_
  obtain ⟨g3, hf⟩ := q_gd_some hf
  obtain ⟨g4, hf⟩ := q_gd_some hf
  refine v_aaload (t0 := 3) hX g2 (by decide) (fun _ => rfl) rfl (fun _ _ _ => rfl) g3 g4 (by decide) dX9_resultOfTest_5 ?_
  obtain ⟨x5, e6, hf⟩ := q_lt_nm hf
  rw [e6]
  have g7 := g4
  rw [e6] at g7
  refine v_astore_n 3 (lw := [(3, .ref x5), (0, .ref a0), (1, .int (q_i a1)), (2, .int (q_i a2))]) hX dX9_resultOfTest_6 rfl (by decide) rfl ?_
  refine v_aload_n 3 0 hX dX9_resultOfTest_7 rfl rfl ?_
  refine v_iload_n 2 3 hX dX9_resultOfTest_8 rfl rfl ?_
  refine v_iconst hX dX9_resultOfTest_9 ?_
  obtain ⟨I8, h9, hf⟩ := q_bd_some hf
  refine v_callV (As := [.int (q_i a2), .int (q_i (-1))]) (rest := []) (st1 := []) none hX mv_RX9_313 (c_X2_weigh h9) ⟨rfl, rfl⟩ ⟨Nat.le_of_ble_eq_true rfl, Nat.le_of_ble_eq_true rfl⟩ g7 rfl rfl (Nat.le_of_ble_eq_true rfl) ⟨Nat.le_of_ble_eq_true rfl, Nat.le_of_ble_eq_true rfl⟩ dX9_resultOfTest_10 rfl ?_
  refine v_aload_n 0 1 hX dX9_resultOfTest_13 rfl rfl ?_
  refine v_aload_n 3 0 hX dX9_resultOfTest_14 rfl rfl ?_
  obtain ⟨g10, hf⟩ := q_gd_some hf
  refine v_getA hX fa_RX9_287 (fun _ _ => rfl) g7 g10 (by decide) dX9_resultOfTest_15 ?_
  refine v_iload_n 2 3 hX dX9_resultOfTest_18 rfl rfl ?_
  obtain ⟨g11, hf⟩ := q_gd_some hf
  obtain ⟨g12, hf⟩ := q_gd_some hf
  refine v_aaload (t0 := 5) hX g10 (by decide) (fun _ => rfl) rfl (fun _ _ _ => rfl) g11 g12 (by decide) dX9_resultOfTest_19 ?_
  refine v_iconst hX dX9_resultOfTest_20 ?_
  obtain ⟨r13, h14, hf⟩ := q_bd_some hf
  refine v_callV (As := [.ref (R (R x5 1) (Int.toNat a2)), .int (q_i (-1))]) (rest := []) (st1 := [.int (q_i r13)]) (some (.int (q_i r13))) hX mv_RX9_207 (c_X9_nearestTo h14) ⟨rfl, rfl⟩ ⟨Nat.le_of_ble_eq_true rfl, Nat.le_of_ble_eq_true rfl⟩ g1 rfl rfl (Nat.le_of_ble_eq_true rfl) ⟨Nat.le_of_ble_eq_true rfl, Nat.le_of_ble_eq_true rfl⟩ dX9_resultOfTest_21 rfl ?_
  refine v_istore (lw := [(4, .int (q_i r13)), (3, .ref x5), (0, .ref a0), (1, .int (q_i a1)), (2, .int (q_i a2))]) hX dX9_resultOfTest_24 (by decide) rfl ?_
  refine v_aload_n 3 1 hX dX9_resultOfTest_26 rfl rfl ?_
  refine v_iload_n 2 4 hX dX9_resultOfTest_27 rfl rfl ?_
  refine v_iconst hX dX9_resultOfTest_28 ?_
  obtain ⟨I15, h16, hf⟩ := q_bd_some hf
  refine v_callV (As := [.int (q_i a2), .int (q_i 1)]) (rest := []) (st1 := []) none hX mv_RX9_313 (c_X2_weigh h16) ⟨rfl, rfl⟩ ⟨Nat.le_of_ble_eq_true rfl, Nat.le_of_ble_eq_true rfl⟩ g7 rfl rfl (Nat.le_of_ble_eq_true rfl) ⟨Nat.le_of_ble_eq_true rfl, Nat.le_of_ble_eq_true rfl⟩ dX9_resultOfTest_29 rfl ?_
  refine v_iload 0 hX dX9_resultOfTest_32 rfl ?_
  cases hf
  exact v_iret hX hE (Nat.le_of_ble_eq_true rfl) (Nat.le_of_ble_eq_true rfl) dX9_resultOfTest_34
noncomputable def f_X9_leaveOneOut (S : q_S) (R : q_HR) (I : q_HI) (a0 : Nat) (a1 : Int) (a2 : Int) : Option (Int × q_HI) := q_gd (S.1 a0 = 10) (q_bd (f_X9_hasSample S R I a0 a1 a2) fun r2 => q_gd (r_i r2) (if r2 = 0 then some ((-2), I) else q_bd (f_X9_prepare S R I a0) fun I6 => q_bd2 (f_X9_resultOfTest S R I6 a0 a1 a2) fun r8 I9 => some (r8, I9)))
abbrev rmX9_leaveOneOut : Room := { frames := 6, cells := 0, slots := 0, locals := 141 }
set_option maxRecDepth 20000 in
theorem c_X9_leaveOneOut {S : q_S} {R : q_HR} {I : q_HI} {a0 : Nat} {a1 : Int} {a2 : Int} {rz : Int} {Iz : q_HI} (hf : f_X9_leaveOneOut S R I a0 a1 a2 = some (rz, Iz)) : ∀ (l : Launch) (D : va_G) (cy : Nat → ClassId) (B : Nat), Met l yX9_leaveOneOut [Cond.code yX9_leaveOneOut cX9_leaveOneOut 3 (some .int)] rmX9_leaveOneOut (q_Pc B D cy [.ref a0, .int (q_i a1), .int (q_i a2)] S R I) (q_Qc B D cy (some (.int (q_i rz))) S R Iz) 0 0 (fun q => B ≤ q) := by
  refine q_met (lv := [(0, .ref a0), (1, .int (q_i a1)), (2, .int (q_i a2))]) (own := RX9) (nm := "leaveOneOut") (by decide) rfl rfl (Nat.le_of_ble_eq_true rfl) rfl (fun X hX hE => ?_)
  unfold f_X9_leaveOneOut at hf
  refine v_aload_n 0 0 hX dX9_leaveOneOut_0 rfl rfl ?_
  refine v_iload_n 1 1 hX dX9_leaveOneOut_1 rfl rfl ?_
  refine v_iload_n 2 2 hX dX9_leaveOneOut_2 rfl rfl ?_
  obtain ⟨g1, hf⟩ := q_gd_some hf
  obtain ⟨r2, h3, hf⟩ := q_bd_some hf
  refine v_callV (As := [.int (q_i a1), .int (q_i a2)]) (rest := []) (st1 := [.int (q_i r2)]) (some (.int (q_i r2))) hX mv_RX9_190 (c_X9_hasSample h3) ⟨rfl, rfl⟩ ⟨Nat.le_of_ble_eq_true rfl, Nat.le_of_ble_eq_true rfl⟩ g1 rfl rfl (Nat.le_of_ble_eq_true rfl) ⟨Nat.le_of_ble_eq_true rfl, Nat.le_of_ble_eq_true rfl⟩ dX9_leaveOneOut_3 rfl ?_
  obtain ⟨g4, hf⟩ := q_gd_some hf
  refine v_if_ne (tgt := 12) hX g4 dX9_leaveOneOut_6 (by decide) (fun c5 => ?_) (fun c5 => ?_)
  · replace hf := q_ifp c5 hf
    refine v_bipush (-2) hX dX9_leaveOneOut_9 (by decide) ?_
    cases hf
    exact v_iret hX hE (Nat.le_of_ble_eq_true rfl) (Nat.le_of_ble_eq_true rfl) dX9_leaveOneOut_11
  · replace hf := q_ifn c5 hf
    refine v_aload_n 0 0 hX dX9_leaveOneOut_12 rfl rfl ?_
    obtain ⟨I6, h7, hf⟩ := q_bd_some hf
    refine v_callV (As := []) (rest := []) (st1 := []) none hX mv_RX9_200 (c_X9_prepare h7) ⟨rfl, rfl⟩ ⟨Nat.le_of_ble_eq_true rfl, Nat.le_of_ble_eq_true rfl⟩ g1 rfl rfl (Nat.le_of_ble_eq_true rfl) ⟨Nat.le_of_ble_eq_true rfl, Nat.le_of_ble_eq_true rfl⟩ dX9_leaveOneOut_13 rfl ?_
    refine v_aload_n 0 0 hX dX9_leaveOneOut_16 rfl rfl ?_
    refine v_iload_n 1 1 hX dX9_leaveOneOut_17 rfl rfl ?_
    refine v_iload_n 2 2 hX dX9_leaveOneOut_18 rfl rfl ?_
    obtain ⟨r8, I9, h10, hf⟩ := q_bd2_some hf
    refine v_callV (As := [.int (q_i a1), .int (q_i a2)]) (rest := []) (st1 := [.int (q_i r8)]) (some (.int (q_i r8))) hX mv_RX9_251 (c_X9_resultOfTest h10) ⟨rfl, rfl⟩ ⟨Nat.le_of_ble_eq_true rfl, Nat.le_of_ble_eq_true rfl⟩ g1 rfl rfl (Nat.le_of_ble_eq_true rfl) ⟨Nat.le_of_ble_eq_true rfl, Nat.le_of_ble_eq_true rfl⟩ dX9_leaveOneOut_19 rfl ?_
    cases hf
    exact v_iret hX hE (Nat.le_of_ble_eq_true rfl) (Nat.le_of_ble_eq_true rfl) dX9_leaveOneOut_22
noncomputable def f_X9_countResults_L5 (S : q_S) (R : q_HR) (p0 : Nat) (p1 : Int) (p2 : Int) (k : Int → Int → q_HI → Option (Int × q_HI)) : Nat → Int → Int → q_HI → Option (Int × q_HI)
  | 0, _, _, _ => none
  | n + 1, v3, v4, I => q_gd (S.1 p0 = 10) (q_gd (S.1 (R p0 3) = 15) (q_gd ((0 : Int) ≤ p1 ∧ p1 < (S.2.1 (R p0 3) : Int)) (q_gd (S.1 (R (R p0 3) (Int.toNat p1)) = 3) (q_gd (S.1 (R (R (R p0 3) (Int.toNat p1)) 0) = 9) (q_gd (r_i v4) (q_gd (r_i (I (R (R (R p0 3) (Int.toNat p1)) 0) 2)) (if I (R (R (R p0 3) (Int.toNat p1)) 0) 2 ≤ v4 then k v3 v4 I else q_bd2 (f_X9_resultOfTest S R I p0 p1 v4) fun r9 I10 => q_gd (r_i r9) (q_gd (r_i p2) (if r9 = p2 then f_X9_countResults_L5 S R p0 p1 p2 k n (v3 + 1) (v4 + 1) I10 else f_X9_countResults_L5 S R p0 p1 p2 k n v3 (v4 + 1) I10)))))))))
noncomputable def f_X9_countResults (S : q_S) (R : q_HR) (I : q_HI) (a0 : Nat) (a1 : Int) (a2 : Int) : Option (Int × q_HI) := f_X9_countResults_L5 S R a0 a1 a2 (fun w15 w16 I17 => some (w15, I17)) 100 0 0 I
abbrev rmX9_countResults : Room := { frames := 4, cells := 0, slots := 0, locals := 103 }
set_option maxRecDepth 20000 in
theorem l_X9_countResults_5 {X : q_X} {S : q_S} {R : q_HR} {p0 : Nat} {p1 : Int} {p2 : Int} {rz : Int} {Iz : q_HI} (hX : q_C X cX9_countResults 5 RX9 (some .int) "countResults") (hE : q_E X 0 0 (some (.int (q_i rz))) S R Iz) {k : Int → Int → q_HI → Option (Int × q_HI)} (hk : ∀ (v3 : Int) (v4 : Int) (I : q_HI), k v3 v4 I = some (rz, Iz) → q_V X rmX9_countResults cX9_countResults 5 0 0 42 [(3, .int (q_i v3))] [] S R I) :
    ∀ (n : Nat), ∀ (v3 : Int) (v4 : Int) (I : q_HI), f_X9_countResults_L5 S R p0 p1 p2 k n v3 v4 I = some (rz, Iz) → q_V X rmX9_countResults cX9_countResults 5 0 0 5 [(0, .ref p0), (1, .int (q_i p1)), (2, .int (q_i p2)), (3, .int (q_i v3)), (4, .int (q_i v4))] [] S R I := by
  intro n
  induction n with
  | zero =>
    intro v3 v4 I hf
    cases (show (none : Option (Int × q_HI)) = some _ from hf)
  | succ n ih =>
    intro v3 v4 I hf
    rw [f_X9_countResults_L5] at hf
    refine v_iload 4 hX dX9_countResults_5 rfl ?_
    refine v_aload_n 0 0 hX dX9_countResults_7 rfl rfl ?_
    obtain ⟨g1, hf⟩ := q_gd_some hf
    obtain ⟨g2, hf⟩ := q_gd_some hf
    refine v_getA hX fa_RX9_32 (fun _ _ => rfl) g1 g2 (by decide) dX9_countResults_8 ?_
    refine v_iload_n 1 1 hX dX9_countResults_11 rfl rfl ?_
    obtain ⟨g3, hf⟩ := q_gd_some hf
    obtain ⟨g4, hf⟩ := q_gd_some hf
    refine v_aaload (t0 := 3) hX g2 (by decide) (fun _ => rfl) rfl (fun _ _ _ => rfl) g3 g4 (by decide) dX9_countResults_12 ?_
    obtain ⟨g5, hf⟩ := q_gd_some hf
    refine v_getA hX fa_RX9_184 (fun _ _ => rfl) g4 g5 (by decide) dX9_countResults_13 ?_
    refine v_getI hX fa_RX9_116 (fun _ _ => rfl) g5 dX9_countResults_16 ?_
    obtain ⟨g6, hf⟩ := q_gd_some hf
    obtain ⟨g7, hf⟩ := q_gd_some hf
    refine v_icmp_ge (tgt := 42) hX g6 g7 dX9_countResults_19 (by decide) (fun c8 => ?_) (fun c8 => ?_)
    · replace hf := q_ifp c8 hf
      refine v_sub (lv' := [(3, .int (q_i v3))]) [3] rfl ?_
      exact hk _ _ _ hf
    · replace hf := q_ifn c8 hf
      refine v_aload_n 0 0 hX dX9_countResults_22 rfl rfl ?_
      refine v_iload_n 1 1 hX dX9_countResults_23 rfl rfl ?_
      refine v_iload 4 hX dX9_countResults_24 rfl ?_
      obtain ⟨r9, I10, h11, hf⟩ := q_bd2_some hf
      refine v_callV (As := [.int (q_i p1), .int (q_i v4)]) (rest := []) (st1 := [.int (q_i r9)]) (some (.int (q_i r9))) hX mv_RX9_251 (c_X9_resultOfTest h11) ⟨rfl, rfl⟩ ⟨Nat.le_of_ble_eq_true rfl, Nat.le_of_ble_eq_true rfl⟩ g1 rfl rfl (Nat.le_of_ble_eq_true rfl) ⟨Nat.le_of_ble_eq_true rfl, Nat.le_of_ble_eq_true rfl⟩ dX9_countResults_26 rfl ?_
      refine v_iload_n 2 2 hX dX9_countResults_29 rfl rfl ?_
      obtain ⟨g12, hf⟩ := q_gd_some hf
      obtain ⟨g13, hf⟩ := q_gd_some hf
      refine v_icmp_ne (tgt := 36) hX g12 g13 dX9_countResults_30 (by decide) (fun c14 => ?_) (fun c14 => ?_)
      · replace hf := q_ifp c14 hf
        refine v_iinc 3 (lw := [(3, .int (q_i (v3 + 1))), (0, .ref p0), (1, .int (q_i p1)), (2, .int (q_i p2)), (4, .int (q_i v4))]) hX dX9_countResults_33 rfl (by decide) rfl ?_
        refine v_iinc 4 (lw := [(4, .int (q_i (v4 + 1))), (3, .int (q_i (v3 + 1))), (0, .ref p0), (1, .int (q_i p1)), (2, .int (q_i p2))]) hX dX9_countResults_36 rfl (by decide) rfl ?_
        refine v_goto (tgt := 5) hX dX9_countResults_39 (by decide) ?_
        refine v_sub (lv' := [(0, .ref p0), (1, .int (q_i p1)), (2, .int (q_i p2)), (3, .int (q_i (v3 + 1))), (4, .int (q_i (v4 + 1)))]) [2, 3, 4, 1, 0] rfl ?_
        exact ih _ _ _ hf
      · replace hf := q_ifn c14 hf
        refine v_iinc 4 (lw := [(4, .int (q_i (v4 + 1))), (0, .ref p0), (1, .int (q_i p1)), (2, .int (q_i p2)), (3, .int (q_i v3))]) hX dX9_countResults_36 rfl (by decide) rfl ?_
        refine v_goto (tgt := 5) hX dX9_countResults_39 (by decide) ?_
        refine v_sub (lv' := [(0, .ref p0), (1, .int (q_i p1)), (2, .int (q_i p2)), (3, .int (q_i v3)), (4, .int (q_i (v4 + 1)))]) [1, 2, 3, 4, 0] rfl ?_
        exact ih _ _ _ hf
set_option maxRecDepth 20000 in
theorem c_X9_countResults {S : q_S} {R : q_HR} {I : q_HI} {a0 : Nat} {a1 : Int} {a2 : Int} {rz : Int} {Iz : q_HI} (hf : f_X9_countResults S R I a0 a1 a2 = some (rz, Iz)) : ∀ (l : Launch) (D : va_G) (cy : Nat → ClassId) (B : Nat), Met l yX9_countResults [Cond.code yX9_countResults cX9_countResults 5 (some .int)] rmX9_countResults (q_Pc B D cy [.ref a0, .int (q_i a1), .int (q_i a2)] S R I) (q_Qc B D cy (some (.int (q_i rz))) S R Iz) 0 0 (fun q => B ≤ q) := by
  refine q_met (lv := [(0, .ref a0), (1, .int (q_i a1)), (2, .int (q_i a2))]) (own := RX9) (nm := "countResults") (by decide) rfl rfl (Nat.le_of_ble_eq_true rfl) rfl (fun X hX hE => ?_)
  unfold f_X9_countResults at hf
  refine v_iconst hX dX9_countResults_0 ?_
  refine v_istore_n 3 (lw := [(3, .int (q_i 0)), (0, .ref a0), (1, .int (q_i a1)), (2, .int (q_i a2))]) hX dX9_countResults_1 rfl (by decide) rfl ?_
  refine v_iconst hX dX9_countResults_2 ?_
  refine v_istore (lw := [(4, .int (q_i 0)), (3, .int (q_i 0)), (0, .ref a0), (1, .int (q_i a1)), (2, .int (q_i a2))]) hX dX9_countResults_3 (by decide) rfl ?_
  refine v_sub (lv' := [(0, .ref a0), (1, .int (q_i a1)), (2, .int (q_i a2)), (3, .int (q_i 0)), (4, .int (q_i 0))]) [2, 3, 4, 1, 0] rfl ?_
  refine l_X9_countResults_5 hX hE (fun w15 w16 I17 hk => ?_) 100 _ _ _ hf
  clear hf
  have hf := hk
  clear hk
  refine v_iload_n 3 0 hX dX9_countResults_42 rfl rfl ?_
  cases hf
  exact v_iret hX hE (Nat.le_of_ble_eq_true rfl) (Nat.le_of_ble_eq_true rfl) dX9_countResults_43
noncomputable def f_X9_confusion (S : q_S) (R : q_HR) (I : q_HI) (a0 : Nat) (a1 : Int) (a2 : Int) : Option (Int × q_HI) := q_gd (S.1 a0 = 10) (q_bd (f_X9_hasClass S R I a0 a1) fun r2 => q_gd (r_i r2) (if r2 = 0 then some ((-2), I) else q_bd (f_X9_hasClass S R I a0 a2) fun r6 => q_gd (r_i r6) (if r6 = 0 then some ((-2), I) else q_bd (f_X9_prepare S R I a0) fun I10 => q_bd2 (f_X9_countResults S R I10 a0 a1 a2) fun r12 I13 => some (r12, I13))))
abbrev rmX9_confusion : Room := { frames := 6, cells := 0, slots := 0, locals := 141 }
set_option maxRecDepth 20000 in
theorem c_X9_confusion {S : q_S} {R : q_HR} {I : q_HI} {a0 : Nat} {a1 : Int} {a2 : Int} {rz : Int} {Iz : q_HI} (hf : f_X9_confusion S R I a0 a1 a2 = some (rz, Iz)) : ∀ (l : Launch) (D : va_G) (cy : Nat → ClassId) (B : Nat), Met l yX9_confusion [Cond.code yX9_confusion cX9_confusion 3 (some .int)] rmX9_confusion (q_Pc B D cy [.ref a0, .int (q_i a1), .int (q_i a2)] S R I) (q_Qc B D cy (some (.int (q_i rz))) S R Iz) 0 0 (fun q => B ≤ q) := by
  refine q_met (lv := [(0, .ref a0), (1, .int (q_i a1)), (2, .int (q_i a2))]) (own := RX9) (nm := "confusion") (by decide) rfl rfl (Nat.le_of_ble_eq_true rfl) rfl (fun X hX hE => ?_)
  unfold f_X9_confusion at hf
  refine v_aload_n 0 0 hX dX9_confusion_0 rfl rfl ?_
  refine v_iload_n 1 1 hX dX9_confusion_1 rfl rfl ?_
  obtain ⟨g1, hf⟩ := q_gd_some hf
  obtain ⟨r2, h3, hf⟩ := q_bd_some hf
  refine v_callV (As := [.int (q_i a1)]) (rest := []) (st1 := [.int (q_i r2)]) (some (.int (q_i r2))) hX mv_RX9_181 (c_X9_hasClass h3) ⟨rfl, rfl⟩ ⟨Nat.le_of_ble_eq_true rfl, Nat.le_of_ble_eq_true rfl⟩ g1 rfl rfl (Nat.le_of_ble_eq_true rfl) ⟨Nat.le_of_ble_eq_true rfl, Nat.le_of_ble_eq_true rfl⟩ dX9_confusion_2 rfl ?_
  obtain ⟨g4, hf⟩ := q_gd_some hf
  refine v_if_eq (tgt := 16) hX g4 dX9_confusion_5 (by decide) (fun c5 => ?_) (fun c5 => ?_)
  · replace hf := q_ifp c5 hf
    refine v_bipush (-2) hX dX9_confusion_16 (by decide) ?_
    cases hf
    exact v_iret hX hE (Nat.le_of_ble_eq_true rfl) (Nat.le_of_ble_eq_true rfl) dX9_confusion_18
  · replace hf := q_ifn c5 hf
    refine v_aload_n 0 0 hX dX9_confusion_8 rfl rfl ?_
    refine v_iload_n 2 2 hX dX9_confusion_9 rfl rfl ?_
    obtain ⟨r6, h7, hf⟩ := q_bd_some hf
    refine v_callV (As := [.int (q_i a2)]) (rest := []) (st1 := [.int (q_i r6)]) (some (.int (q_i r6))) hX mv_RX9_181 (c_X9_hasClass h7) ⟨rfl, rfl⟩ ⟨Nat.le_of_ble_eq_true rfl, Nat.le_of_ble_eq_true rfl⟩ g1 rfl rfl (Nat.le_of_ble_eq_true rfl) ⟨Nat.le_of_ble_eq_true rfl, Nat.le_of_ble_eq_true rfl⟩ dX9_confusion_10 rfl ?_
    obtain ⟨g8, hf⟩ := q_gd_some hf
    refine v_if_ne (tgt := 19) hX g8 dX9_confusion_13 (by decide) (fun c9 => ?_) (fun c9 => ?_)
    · replace hf := q_ifp c9 hf
      refine v_bipush (-2) hX dX9_confusion_16 (by decide) ?_
      cases hf
      exact v_iret hX hE (Nat.le_of_ble_eq_true rfl) (Nat.le_of_ble_eq_true rfl) dX9_confusion_18
    · replace hf := q_ifn c9 hf
      refine v_aload_n 0 0 hX dX9_confusion_19 rfl rfl ?_
      obtain ⟨I10, h11, hf⟩ := q_bd_some hf
      refine v_callV (As := []) (rest := []) (st1 := []) none hX mv_RX9_200 (c_X9_prepare h11) ⟨rfl, rfl⟩ ⟨Nat.le_of_ble_eq_true rfl, Nat.le_of_ble_eq_true rfl⟩ g1 rfl rfl (Nat.le_of_ble_eq_true rfl) ⟨Nat.le_of_ble_eq_true rfl, Nat.le_of_ble_eq_true rfl⟩ dX9_confusion_20 rfl ?_
      refine v_aload_n 0 0 hX dX9_confusion_23 rfl rfl ?_
      refine v_iload_n 1 1 hX dX9_confusion_24 rfl rfl ?_
      refine v_iload_n 2 2 hX dX9_confusion_25 rfl rfl ?_
      obtain ⟨r12, I13, h14, hf⟩ := q_bd2_some hf
      refine v_callV (As := [.int (q_i a1), .int (q_i a2)]) (rest := []) (st1 := [.int (q_i r12)]) (some (.int (q_i r12))) hX mv_RX9_254 (c_X9_countResults h14) ⟨rfl, rfl⟩ ⟨Nat.le_of_ble_eq_true rfl, Nat.le_of_ble_eq_true rfl⟩ g1 rfl rfl (Nat.le_of_ble_eq_true rfl) ⟨Nat.le_of_ble_eq_true rfl, Nat.le_of_ble_eq_true rfl⟩ dX9_confusion_26 rfl ?_
      cases hf
      exact v_iret hX hE (Nat.le_of_ble_eq_true rfl) (Nat.le_of_ble_eq_true rfl) dX9_confusion_29
noncomputable def f_X9_countCorrect_L16 (S : q_S) (R : q_HR) (p0 : Nat) (k : Int → Int → q_HI → Option (Int × q_HI)) : Nat → Int → Int → q_HI → Option (Int × q_HI)
  | 0, _, _, _ => none
  | n + 1, v2, v3, I => q_gd (S.1 p0 = 10) (q_gd (r_i v3) (q_gd (r_i (I p0 10)) (if I p0 10 ≤ v3 then k v2 v3 I else q_bd2 (f_X9_countResults S R I p0 v3 v3) fun r10 I11 => q_lt (v2 + r10) fun x13 => f_X9_countCorrect_L16 S R p0 k n x13 (v3 + 1) I11)))
noncomputable def f_X9_countCorrect (S : q_S) (R : q_HR) (I : q_HI) (a0 : Nat) (a1 : Int) : Option (Int × q_HI) := q_gd (S.1 a0 = 10) (q_gd (S.1 (R a0 2) = 7) (q_gd (S.1 (R a0 1) = 2) (q_bd (f_X6_aim S R I (R a0 2) (R a0 1) a1) fun I4 => f_X9_countCorrect_L16 S R a0 (fun w15 w16 I17 => some (w15, I17)) 100 0 0 I4)))
abbrev rmX9_countCorrect : Room := { frames := 5, cells := 0, slots := 0, locals := 127 }
set_option maxRecDepth 20000 in
theorem l_X9_countCorrect_16 {X : q_X} {S : q_S} {R : q_HR} {p0 : Nat} {rz : Int} {Iz : q_HI} (hX : q_C X cX9_countCorrect 4 RX9 (some .int) "countCorrect") (hE : q_E X 0 0 (some (.int (q_i rz))) S R Iz) {k : Int → Int → q_HI → Option (Int × q_HI)} (hk : ∀ (v2 : Int) (v3 : Int) (I : q_HI), k v2 v3 I = some (rz, Iz) → q_V X rmX9_countCorrect cX9_countCorrect 4 0 0 39 [(2, .int (q_i v2))] [] S R I) :
    ∀ (n : Nat), ∀ (v2 : Int) (v3 : Int) (I : q_HI), f_X9_countCorrect_L16 S R p0 k n v2 v3 I = some (rz, Iz) → q_V X rmX9_countCorrect cX9_countCorrect 4 0 0 16 [(0, .ref p0), (2, .int (q_i v2)), (3, .int (q_i v3))] [] S R I := by
  intro n
  induction n with
  | zero =>
    intro v2 v3 I hf
    cases (show (none : Option (Int × q_HI)) = some _ from hf)
  | succ n ih =>
    intro v2 v3 I hf
    rw [f_X9_countCorrect_L16] at hf
    refine v_iload_n 3 2 hX dX9_countCorrect_16 rfl rfl ?_
    refine v_aload_n 0 0 hX dX9_countCorrect_17 rfl rfl ?_
    obtain ⟨g6, hf⟩ := q_gd_some hf
    refine v_getI hX fa_RX9_178 (fun _ _ => rfl) g6 dX9_countCorrect_18 ?_
    obtain ⟨g7, hf⟩ := q_gd_some hf
    obtain ⟨g8, hf⟩ := q_gd_some hf
    refine v_icmp_ge (tgt := 39) hX g7 g8 dX9_countCorrect_21 (by decide) (fun c9 => ?_) (fun c9 => ?_)
    · replace hf := q_ifp c9 hf
      refine v_sub (lv' := [(2, .int (q_i v2))]) [1] rfl ?_
      exact hk _ _ _ hf
    · replace hf := q_ifn c9 hf
      refine v_iload_n 2 1 hX dX9_countCorrect_24 rfl rfl ?_
      refine v_aload_n 0 0 hX dX9_countCorrect_25 rfl rfl ?_
      refine v_iload_n 3 2 hX dX9_countCorrect_26 rfl rfl ?_
      refine v_iload_n 3 2 hX dX9_countCorrect_27 rfl rfl ?_
      obtain ⟨r10, I11, h12, hf⟩ := q_bd2_some hf
      refine v_callV (As := [.int (q_i v3), .int (q_i v3)]) (rest := [.int (q_i v2)]) (st1 := [.int (q_i r10), .int (q_i v2)]) (some (.int (q_i r10))) hX mv_RX9_254 (c_X9_countResults h12) ⟨rfl, rfl⟩ ⟨Nat.le_of_ble_eq_true rfl, Nat.le_of_ble_eq_true rfl⟩ g6 rfl rfl (Nat.le_of_ble_eq_true rfl) ⟨Nat.le_of_ble_eq_true rfl, Nat.le_of_ble_eq_true rfl⟩ dX9_countCorrect_28 rfl ?_
      refine v_iadd hX dX9_countCorrect_31 ?_
      obtain ⟨x13, e14, hf⟩ := q_lt_nm hf
      rw [e14]
      refine v_istore_n 2 (lw := [(2, .int (q_i x13)), (0, .ref p0), (3, .int (q_i v3))]) hX dX9_countCorrect_32 rfl (by decide) rfl ?_
      refine v_iinc 2 (lw := [(3, .int (q_i (v3 + 1))), (2, .int (q_i x13)), (0, .ref p0)]) hX dX9_countCorrect_33 rfl (by decide) rfl ?_
      refine v_goto (tgt := 16) hX dX9_countCorrect_36 (by decide) ?_
      refine v_sub (lv' := [(0, .ref p0), (2, .int (q_i x13)), (3, .int (q_i (v3 + 1)))]) [2, 1, 0] rfl ?_
      exact ih _ _ _ hf
set_option maxRecDepth 20000 in
theorem c_X9_countCorrect {S : q_S} {R : q_HR} {I : q_HI} {a0 : Nat} {a1 : Int} {rz : Int} {Iz : q_HI} (hf : f_X9_countCorrect S R I a0 a1 = some (rz, Iz)) : ∀ (l : Launch) (D : va_G) (cy : Nat → ClassId) (B : Nat), Met l yX9_countCorrect [Cond.code yX9_countCorrect cX9_countCorrect 4 (some .int)] rmX9_countCorrect (q_Pc B D cy [.ref a0, .int (q_i a1)] S R I) (q_Qc B D cy (some (.int (q_i rz))) S R Iz) 0 0 (fun q => B ≤ q) := by
  refine q_met (lv := [(0, .ref a0), (1, .int (q_i a1))]) (own := RX9) (nm := "countCorrect") (by decide) rfl rfl (Nat.le_of_ble_eq_true rfl) rfl (fun X hX hE => ?_)
  unfold f_X9_countCorrect at hf
  refine v_aload_n 0 0 hX dX9_countCorrect_0 rfl rfl ?_
  obtain ⟨g1, hf⟩ := q_gd_some hf
  obtain ⟨g2, hf⟩ := q_gd_some hf
  refine v_getA hX fa_RX9_26 (fun _ _ => rfl) g1 g2 (by decide) dX9_countCorrect_1 ?_
  refine v_aload_n 0 0 hX dX9_countCorrect_4 rfl rfl ?_
  obtain ⟨g3, hf⟩ := q_gd_some hf
  refine v_getA hX fa_RX9_19 (fun _ _ => rfl) g1 g3 (by decide) dX9_countCorrect_5 ?_
  refine v_iload_n 1 1 hX dX9_countCorrect_8 rfl rfl ?_
  obtain ⟨I4, h5, hf⟩ := q_bd_some hf
  refine v_callV (As := [.ref (R a0 1), .int (q_i a1)]) (rest := []) (st1 := []) none hX mv_RX9_232 (c_X6_aim h5) ⟨rfl, rfl⟩ ⟨Nat.le_of_ble_eq_true rfl, Nat.le_of_ble_eq_true rfl⟩ g2 rfl rfl (Nat.le_of_ble_eq_true rfl) ⟨Nat.le_of_ble_eq_true rfl, Nat.le_of_ble_eq_true rfl⟩ dX9_countCorrect_9 rfl ?_
  refine v_iconst hX dX9_countCorrect_12 ?_
  refine v_istore_n 2 (lw := [(2, .int (q_i 0)), (0, .ref a0), (1, .int (q_i a1))]) hX dX9_countCorrect_13 rfl (by decide) rfl ?_
  refine v_iconst hX dX9_countCorrect_14 ?_
  refine v_istore_n 3 (lw := [(3, .int (q_i 0)), (2, .int (q_i 0)), (0, .ref a0), (1, .int (q_i a1))]) hX dX9_countCorrect_15 rfl (by decide) rfl ?_
  refine v_sub (lv' := [(0, .ref a0), (2, .int (q_i 0)), (3, .int (q_i 0))]) [2, 1, 0] rfl ?_
  refine l_X9_countCorrect_16 hX hE (fun w15 w16 I17 hk => ?_) 100 _ _ _ hf
  clear hf
  have hf := hk
  clear hk
  refine v_iload_n 2 0 hX dX9_countCorrect_39 rfl rfl ?_
  cases hf
  exact v_iret hX hE (Nat.le_of_ble_eq_true rfl) (Nat.le_of_ble_eq_true rfl) dX9_countCorrect_40
noncomputable def f_X9_correctCount (S : q_S) (R : q_HR) (I : q_HI) (a0 : Nat) : Option (Int × q_HI) := q_gd (S.1 a0 = 10) (q_bd (f_X9_prepare S R I a0) fun I2 => q_bd2 (f_X9_countCorrect S R I2 a0 31) fun r4 I5 => some (r4, I5))
abbrev rmX9_correctCount : Room := { frames := 6, cells := 0, slots := 0, locals := 150 }
set_option maxRecDepth 20000 in
theorem c_X9_correctCount {S : q_S} {R : q_HR} {I : q_HI} {a0 : Nat} {rz : Int} {Iz : q_HI} (hf : f_X9_correctCount S R I a0 = some (rz, Iz)) : ∀ (l : Launch) (D : va_G) (cy : Nat → ClassId) (B : Nat), Met l yX9_correctCount [Cond.code yX9_correctCount cX9_correctCount 1 (some .int)] rmX9_correctCount (q_Pc B D cy [.ref a0] S R I) (q_Qc B D cy (some (.int (q_i rz))) S R Iz) 0 0 (fun q => B ≤ q) := by
  refine q_met (lv := [(0, .ref a0)]) (own := RX9) (nm := "correctCount") (by decide) rfl rfl (Nat.le_of_ble_eq_true rfl) rfl (fun X hX hE => ?_)
  unfold f_X9_correctCount at hf
  refine v_aload_n 0 0 hX dX9_correctCount_0 rfl rfl ?_
  obtain ⟨g1, hf⟩ := q_gd_some hf
  obtain ⟨I2, h3, hf⟩ := q_bd_some hf
  refine v_callV (As := []) (rest := []) (st1 := []) none hX mv_RX9_200 (c_X9_prepare h3) ⟨rfl, rfl⟩ ⟨Nat.le_of_ble_eq_true rfl, Nat.le_of_ble_eq_true rfl⟩ g1 rfl rfl (Nat.le_of_ble_eq_true rfl) ⟨Nat.le_of_ble_eq_true rfl, Nat.le_of_ble_eq_true rfl⟩ dX9_correctCount_1 rfl ?_
  refine v_aload_n 0 0 hX dX9_correctCount_4 rfl rfl ?_
  refine v_bipush 31 hX dX9_correctCount_5 (by decide) ?_
  obtain ⟨r4, I5, h6, hf⟩ := q_bd2_some hf
  refine v_callV (As := [.int (q_i 31)]) (rest := []) (st1 := [.int (q_i r4)]) (some (.int (q_i r4))) hX mv_RX9_257 (c_X9_countCorrect h6) ⟨rfl, rfl⟩ ⟨Nat.le_of_ble_eq_true rfl, Nat.le_of_ble_eq_true rfl⟩ g1 rfl rfl (Nat.le_of_ble_eq_true rfl) ⟨Nat.le_of_ble_eq_true rfl, Nat.le_of_ble_eq_true rfl⟩ dX9_correctCount_7 rfl ?_
  cases hf
  exact v_iret hX hE (Nat.le_of_ble_eq_true rfl) (Nat.le_of_ble_eq_true rfl) dX9_correctCount_10
noncomputable def f_X9_correctWithout (S : q_S) (R : q_HR) (I : q_HI) (a0 : Nat) (a1 : Int) : Option (Int × q_HI) := q_gd (S.1 a0 = 10) (q_bd (f_X9_hasSensor S R I a0 a1) fun r2 => q_gd (r_i r2) (if r2 = 0 then some ((-2), I) else q_bd (f_X9_prepare S R I a0) fun I6 => q_bd (f_X9_allBut a1) fun r8 => q_bd2 (f_X9_countCorrect S R I6 a0 r8) fun r10 I11 => some (r10, I11)))
abbrev rmX9_correctWithout : Room := { frames := 6, cells := 0, slots := 0, locals := 150 }
set_option maxRecDepth 20000 in
theorem c_X9_correctWithout {S : q_S} {R : q_HR} {I : q_HI} {a0 : Nat} {a1 : Int} {rz : Int} {Iz : q_HI} (hf : f_X9_correctWithout S R I a0 a1 = some (rz, Iz)) : ∀ (l : Launch) (D : va_G) (cy : Nat → ClassId) (B : Nat), Met l yX9_correctWithout [Cond.code yX9_correctWithout cX9_correctWithout 2 (some .int)] rmX9_correctWithout (q_Pc B D cy [.ref a0, .int (q_i a1)] S R I) (q_Qc B D cy (some (.int (q_i rz))) S R Iz) 0 0 (fun q => B ≤ q) := by
  refine q_met (lv := [(0, .ref a0), (1, .int (q_i a1))]) (own := RX9) (nm := "correctWithout") (by decide) rfl rfl (Nat.le_of_ble_eq_true rfl) rfl (fun X hX hE => ?_)
  unfold f_X9_correctWithout at hf
  refine v_aload_n 0 0 hX dX9_correctWithout_0 rfl rfl ?_
  refine v_iload_n 1 1 hX dX9_correctWithout_1 rfl rfl ?_
  obtain ⟨g1, hf⟩ := q_gd_some hf
  obtain ⟨r2, h3, hf⟩ := q_bd_some hf
  refine v_callV (As := [.int (q_i a1)]) (rest := []) (st1 := [.int (q_i r2)]) (some (.int (q_i r2))) hX mv_RX9_79 (c_X9_hasSensor h3) ⟨rfl, rfl⟩ ⟨Nat.le_of_ble_eq_true rfl, Nat.le_of_ble_eq_true rfl⟩ g1 rfl rfl (Nat.le_of_ble_eq_true rfl) ⟨Nat.le_of_ble_eq_true rfl, Nat.le_of_ble_eq_true rfl⟩ dX9_correctWithout_2 rfl ?_
  obtain ⟨g4, hf⟩ := q_gd_some hf
  refine v_if_ne (tgt := 11) hX g4 dX9_correctWithout_5 (by decide) (fun c5 => ?_) (fun c5 => ?_)
  · replace hf := q_ifp c5 hf
    refine v_bipush (-2) hX dX9_correctWithout_8 (by decide) ?_
    cases hf
    exact v_iret hX hE (Nat.le_of_ble_eq_true rfl) (Nat.le_of_ble_eq_true rfl) dX9_correctWithout_10
  · replace hf := q_ifn c5 hf
    refine v_aload_n 0 0 hX dX9_correctWithout_11 rfl rfl ?_
    obtain ⟨I6, h7, hf⟩ := q_bd_some hf
    refine v_callV (As := []) (rest := []) (st1 := []) none hX mv_RX9_200 (c_X9_prepare h7) ⟨rfl, rfl⟩ ⟨Nat.le_of_ble_eq_true rfl, Nat.le_of_ble_eq_true rfl⟩ g1 rfl rfl (Nat.le_of_ble_eq_true rfl) ⟨Nat.le_of_ble_eq_true rfl, Nat.le_of_ble_eq_true rfl⟩ dX9_correctWithout_12 rfl ?_
    refine v_aload_n 0 0 hX dX9_correctWithout_15 rfl rfl ?_
    refine v_iload_n 1 1 hX dX9_correctWithout_16 rfl rfl ?_
    obtain ⟨r8, h9, hf⟩ := q_bd_some hf
    refine v_callS (As := [.int (q_i a1)]) (rest := [.ref a0]) (st1 := [.int (q_i r8), .ref a0]) (some (.int (q_i r8))) hX ms_RX9_229 (c_X9_allBut h9) ⟨rfl, rfl⟩ ⟨Nat.le_of_ble_eq_true rfl, Nat.le_of_ble_eq_true rfl⟩ rfl rfl (Nat.le_of_ble_eq_true rfl) ⟨Nat.le_of_ble_eq_true rfl, Nat.le_of_ble_eq_true rfl⟩ dX9_correctWithout_17 rfl ?_
    obtain ⟨r10, I11, h12, hf⟩ := q_bd2_some hf
    refine v_callV (As := [.int (q_i r8)]) (rest := []) (st1 := [.int (q_i r10)]) (some (.int (q_i r10))) hX mv_RX9_257 (c_X9_countCorrect h12) ⟨rfl, rfl⟩ ⟨Nat.le_of_ble_eq_true rfl, Nat.le_of_ble_eq_true rfl⟩ g1 rfl rfl (Nat.le_of_ble_eq_true rfl) ⟨Nat.le_of_ble_eq_true rfl, Nat.le_of_ble_eq_true rfl⟩ dX9_correctWithout_20 rfl ?_
    cases hf
    exact v_iret hX hE (Nat.le_of_ble_eq_true rfl) (Nat.le_of_ble_eq_true rfl) dX9_correctWithout_23
noncomputable def f_X9_correctWith (S : q_S) (R : q_HR) (I : q_HI) (a0 : Nat) (a1 : Int) : Option (Int × q_HI) := q_gd (S.1 a0 = 10) (q_gd (S.1 (R a0 0) = 1) (q_bd (f_X9_isWithin a1 1 ((q_shl 1 (I (R a0 0) 6)) - 1)) fun r3 => q_gd (r_i r3) (if r3 = 0 then some ((-3), I) else q_bd (f_X9_prepare S R I a0) fun I7 => q_bd2 (f_X9_countCorrect S R I7 a0 a1) fun r9 I10 => some (r9, I10))))
abbrev rmX9_correctWith : Room := { frames := 6, cells := 0, slots := 0, locals := 150 }
set_option maxRecDepth 20000 in
theorem c_X9_correctWith {S : q_S} {R : q_HR} {I : q_HI} {a0 : Nat} {a1 : Int} {rz : Int} {Iz : q_HI} (hf : f_X9_correctWith S R I a0 a1 = some (rz, Iz)) : ∀ (l : Launch) (D : va_G) (cy : Nat → ClassId) (B : Nat), Met l yX9_correctWith [Cond.code yX9_correctWith cX9_correctWith 2 (some .int)] rmX9_correctWith (q_Pc B D cy [.ref a0, .int (q_i a1)] S R I) (q_Qc B D cy (some (.int (q_i rz))) S R Iz) 0 0 (fun q => B ≤ q) := by
  refine q_met (lv := [(0, .ref a0), (1, .int (q_i a1))]) (own := RX9) (nm := "correctWith") (by decide) rfl rfl (Nat.le_of_ble_eq_true rfl) rfl (fun X hX hE => ?_)
  unfold f_X9_correctWith at hf
  refine v_iload_n 1 1 hX dX9_correctWith_0 rfl rfl ?_
  refine v_iconst hX dX9_correctWith_1 ?_
  refine v_iconst hX dX9_correctWith_2 ?_
  refine v_aload_n 0 0 hX dX9_correctWith_3 rfl rfl ?_
  obtain ⟨g1, hf⟩ := q_gd_some hf
  obtain ⟨g2, hf⟩ := q_gd_some hf
  refine v_getA hX fa_RX9_12 (fun _ _ => rfl) g1 g2 (by decide) dX9_correctWith_4 ?_
  refine v_getI hX fa_RX9_75 (fun _ _ => rfl) g2 dX9_correctWith_7 ?_
  refine v_ishl hX dX9_correctWith_10 ?_
  refine v_iconst hX dX9_correctWith_11 ?_
  refine v_isub hX dX9_correctWith_12 ?_
  obtain ⟨r3, h4, hf⟩ := q_bd_some hf
  refine v_callS (As := [.int (q_i a1), .int (q_i 1), .int (q_i ((q_shl 1 (I (R a0 0) 6)) - 1))]) (rest := []) (st1 := [.int (q_i r3)]) (some (.int (q_i r3))) hX ms_RX9_71 (c_X9_isWithin h4) ⟨rfl, rfl⟩ ⟨Nat.le_of_ble_eq_true rfl, Nat.le_of_ble_eq_true rfl⟩ rfl rfl (Nat.le_of_ble_eq_true rfl) ⟨Nat.le_of_ble_eq_true rfl, Nat.le_of_ble_eq_true rfl⟩ dX9_correctWith_13 rfl ?_
  obtain ⟨g5, hf⟩ := q_gd_some hf
  refine v_if_ne (tgt := 22) hX g5 dX9_correctWith_16 (by decide) (fun c6 => ?_) (fun c6 => ?_)
  · replace hf := q_ifp c6 hf
    refine v_bipush (-3) hX dX9_correctWith_19 (by decide) ?_
    cases hf
    exact v_iret hX hE (Nat.le_of_ble_eq_true rfl) (Nat.le_of_ble_eq_true rfl) dX9_correctWith_21
  · replace hf := q_ifn c6 hf
    refine v_aload_n 0 0 hX dX9_correctWith_22 rfl rfl ?_
    obtain ⟨I7, h8, hf⟩ := q_bd_some hf
    refine v_callV (As := []) (rest := []) (st1 := []) none hX mv_RX9_200 (c_X9_prepare h8) ⟨rfl, rfl⟩ ⟨Nat.le_of_ble_eq_true rfl, Nat.le_of_ble_eq_true rfl⟩ g1 rfl rfl (Nat.le_of_ble_eq_true rfl) ⟨Nat.le_of_ble_eq_true rfl, Nat.le_of_ble_eq_true rfl⟩ dX9_correctWith_23 rfl ?_
    refine v_aload_n 0 0 hX dX9_correctWith_26 rfl rfl ?_
    refine v_iload_n 1 1 hX dX9_correctWith_27 rfl rfl ?_
    obtain ⟨r9, I10, h11, hf⟩ := q_bd2_some hf
    refine v_callV (As := [.int (q_i a1)]) (rest := []) (st1 := [.int (q_i r9)]) (some (.int (q_i r9))) hX mv_RX9_257 (c_X9_countCorrect h11) ⟨rfl, rfl⟩ ⟨Nat.le_of_ble_eq_true rfl, Nat.le_of_ble_eq_true rfl⟩ g1 rfl rfl (Nat.le_of_ble_eq_true rfl) ⟨Nat.le_of_ble_eq_true rfl, Nat.le_of_ble_eq_true rfl⟩ dX9_correctWith_28 rfl ?_
    cases hf
    exact v_iret hX hE (Nat.le_of_ble_eq_true rfl) (Nat.le_of_ble_eq_true rfl) dX9_correctWith_31
noncomputable def f_J6_bitCount_0f7a4 (a0 : Int) : Option (Int) := q_lt (a0 - (q_and (q_ushr a0 1) 1431655765)) fun x1 => q_lt ((q_and x1 858993459) + (q_and (q_ushr x1 2) 858993459)) fun x3 => q_lt (q_and (x3 + (q_ushr x3 4)) 252645135) fun x5 => q_lt (x5 + (q_ushr x5 8)) fun x7 => q_lt (x7 + (q_ushr x7 16)) fun x9 => some (q_and x9 63)
abbrev rmJ6_bitCount_0f7a4 : Room := { frames := 0, cells := 0, slots := 0, locals := 0 }
set_option maxRecDepth 20000 in
theorem c_J6_bitCount_0f7a4 {S : q_S} {R : q_HR} {I : q_HI} {a0 : Int} {rz : Int} (hf : f_J6_bitCount_0f7a4 a0 = some rz) : ∀ (l : Launch) (D : va_G) (cy : Nat → ClassId) (B : Nat), Met l yJ6_bitCount_0f7a4 [Cond.code yJ6_bitCount_0f7a4 cJ6_bitCount_0f7a4 1 (some .int)] rmJ6_bitCount_0f7a4 (q_Pc B D cy [.int (q_i a0)] S R I) (q_Qc B D cy (some (.int (q_i rz))) S R I) 0 0 (fun q => B ≤ q) := by
  refine q_met (lv := [(0, .int (q_i a0))]) (own := RJ6) (nm := "bitCount") (by decide) rfl rfl (Nat.le_of_ble_eq_true rfl) rfl (fun X hX hE => ?_)
  unfold f_J6_bitCount_0f7a4 at hf
  refine v_iload_n 0 0 hX dJ6_bitCount_0f7a4_0 rfl rfl ?_
  refine v_iload_n 0 0 hX dJ6_bitCount_0f7a4_1 rfl rfl ?_
  refine v_iconst hX dJ6_bitCount_0f7a4_2 ?_
  refine v_iushr hX dJ6_bitCount_0f7a4_3 ?_
  refine v_ldcw 1431655765 hX kc_RJ6_265 (by decide) dJ6_bitCount_0f7a4_4 ?_
  refine v_iand hX dJ6_bitCount_0f7a4_7 ?_
  refine v_isub hX dJ6_bitCount_0f7a4_8 ?_
  obtain ⟨x1, e2, hf⟩ := q_lt_nm hf
  rw [e2]
  refine v_istore_n 0 (lw := [(0, .int (q_i x1))]) hX dJ6_bitCount_0f7a4_9 rfl (by decide) rfl ?_
  refine v_iload_n 0 0 hX dJ6_bitCount_0f7a4_10 rfl rfl ?_
  refine v_ldcw 858993459 hX kc_RJ6_266 (by decide) dJ6_bitCount_0f7a4_11 ?_
  refine v_iand hX dJ6_bitCount_0f7a4_14 ?_
  refine v_iload_n 0 0 hX dJ6_bitCount_0f7a4_15 rfl rfl ?_
  refine v_iconst hX dJ6_bitCount_0f7a4_16 ?_
  refine v_iushr hX dJ6_bitCount_0f7a4_17 ?_
  refine v_ldcw 858993459 hX kc_RJ6_266 (by decide) dJ6_bitCount_0f7a4_18 ?_
  refine v_iand hX dJ6_bitCount_0f7a4_21 ?_
  refine v_iadd hX dJ6_bitCount_0f7a4_22 ?_
  obtain ⟨x3, e4, hf⟩ := q_lt_nm hf
  rw [e4]
  refine v_istore_n 0 (lw := [(0, .int (q_i x3))]) hX dJ6_bitCount_0f7a4_23 rfl (by decide) rfl ?_
  refine v_iload_n 0 0 hX dJ6_bitCount_0f7a4_24 rfl rfl ?_
  refine v_iload_n 0 0 hX dJ6_bitCount_0f7a4_25 rfl rfl ?_
  refine v_iconst hX dJ6_bitCount_0f7a4_26 ?_
  refine v_iushr hX dJ6_bitCount_0f7a4_27 ?_
  refine v_iadd hX dJ6_bitCount_0f7a4_28 ?_
  refine v_ldcw 252645135 hX kc_RJ6_267 (by decide) dJ6_bitCount_0f7a4_29 ?_
  refine v_iand hX dJ6_bitCount_0f7a4_32 ?_
  obtain ⟨x5, e6, hf⟩ := q_lt_nm hf
  rw [e6]
  refine v_istore_n 0 (lw := [(0, .int (q_i x5))]) hX dJ6_bitCount_0f7a4_33 rfl (by decide) rfl ?_
  refine v_iload_n 0 0 hX dJ6_bitCount_0f7a4_34 rfl rfl ?_
  refine v_iload_n 0 0 hX dJ6_bitCount_0f7a4_35 rfl rfl ?_
  refine v_bipush 8 hX dJ6_bitCount_0f7a4_36 (by decide) ?_
  refine v_iushr hX dJ6_bitCount_0f7a4_38 ?_
  refine v_iadd hX dJ6_bitCount_0f7a4_39 ?_
  obtain ⟨x7, e8, hf⟩ := q_lt_nm hf
  rw [e8]
  refine v_istore_n 0 (lw := [(0, .int (q_i x7))]) hX dJ6_bitCount_0f7a4_40 rfl (by decide) rfl ?_
  refine v_iload_n 0 0 hX dJ6_bitCount_0f7a4_41 rfl rfl ?_
  refine v_iload_n 0 0 hX dJ6_bitCount_0f7a4_42 rfl rfl ?_
  refine v_bipush 16 hX dJ6_bitCount_0f7a4_43 (by decide) ?_
  refine v_iushr hX dJ6_bitCount_0f7a4_45 ?_
  refine v_iadd hX dJ6_bitCount_0f7a4_46 ?_
  obtain ⟨x9, e10, hf⟩ := q_lt_nm hf
  rw [e10]
  refine v_istore_n 0 (lw := [(0, .int (q_i x9))]) hX dJ6_bitCount_0f7a4_47 rfl (by decide) rfl ?_
  refine v_iload_n 0 0 hX dJ6_bitCount_0f7a4_48 rfl rfl ?_
  refine v_bipush 63 hX dJ6_bitCount_0f7a4_49 (by decide) ?_
  refine v_iand hX dJ6_bitCount_0f7a4_51 ?_
  cases hf
  exact v_iret hX hE (Nat.le_of_ble_eq_true rfl) (Nat.le_of_ble_eq_true rfl) dJ6_bitCount_0f7a4_52
noncomputable def f_X9_bestSubset_L29 (S : q_S) (R : q_HR) (p0 : Nat) (p1 : Int) (k : Int → Int → Int → q_HI → Option (Int × q_HI)) : Nat → Int → Int → Int → q_HI → Option (Int × q_HI)
  | 0, _, _, _, _ => none
  | n + 1, v2, v3, v4, I => q_gd (S.1 p0 = 10) (q_gd (S.1 (R p0 0) = 1) (q_gd (r_i v4) (q_gd (r_i (q_shl 1 (I (R p0 0) 6))) (if q_shl 1 (I (R p0 0) 6) ≤ v4 then k v2 v3 v4 I else q_bd (f_J6_bitCount_0f7a4 v4) fun r14 => q_gd (r_i r14) (q_gd (r_i p1) (if r14 = p1 then q_bd2 (f_X9_countCorrect S R I p0 v4) fun r19 I20 => q_gd (r_i r19) (q_gd (r_i v3) (if r19 ≤ v3 then f_X9_bestSubset_L29 S R p0 p1 k n v2 v3 (v4 + 1) I20 else f_X9_bestSubset_L29 S R p0 p1 k n v4 r19 (v4 + 1) I20)) else f_X9_bestSubset_L29 S R p0 p1 k n v2 v3 (v4 + 1) I))))))
noncomputable def f_X9_bestSubset (S : q_S) (R : q_HR) (I : q_HI) (a0 : Nat) (a1 : Int) : Option (Int × q_HI) := q_gd (S.1 a0 = 10) (q_gd (S.1 (R a0 0) = 1) (q_bd (f_X9_isWithin a1 1 (I (R a0 0) 6)) fun r3 => q_gd (r_i r3) (if r3 = 0 then some ((-3), I) else q_bd (f_X9_prepare S R I a0) fun I7 => f_X9_bestSubset_L29 S R a0 a1 (fun w25 w26 w27 I28 => some (w25, I28)) 100 (-1) (-1) 1 I7)))
abbrev rmX9_bestSubset : Room := { frames := 6, cells := 0, slots := 0, locals := 150 }
set_option maxRecDepth 20000 in
theorem l_X9_bestSubset_29 {X : q_X} {S : q_S} {R : q_HR} {p0 : Nat} {p1 : Int} {rz : Int} {Iz : q_HI} (hX : q_C X cX9_bestSubset 6 RX9 (some .int) "bestSubset") (hE : q_E X 0 0 (some (.int (q_i rz))) S R Iz) {k : Int → Int → Int → q_HI → Option (Int × q_HI)} (hk : ∀ (v2 : Int) (v3 : Int) (v4 : Int) (I : q_HI), k v2 v3 v4 I = some (rz, Iz) → q_V X rmX9_bestSubset cX9_bestSubset 6 0 0 78 [(2, .int (q_i v2))] [] S R I) :
    ∀ (n : Nat), ∀ (v2 : Int) (v3 : Int) (v4 : Int) (I : q_HI), f_X9_bestSubset_L29 S R p0 p1 k n v2 v3 v4 I = some (rz, Iz) → q_V X rmX9_bestSubset cX9_bestSubset 6 0 0 29 [(0, .ref p0), (1, .int (q_i p1)), (2, .int (q_i v2)), (3, .int (q_i v3)), (4, .int (q_i v4))] [] S R I := by
  intro n
  induction n with
  | zero =>
    intro v2 v3 v4 I hf
    cases (show (none : Option (Int × q_HI)) = some _ from hf)
  | succ n ih =>
    intro v2 v3 v4 I hf
    rw [f_X9_bestSubset_L29] at hf
    refine v_iload 4 hX dX9_bestSubset_29 rfl ?_
    refine v_iconst hX dX9_bestSubset_31 ?_
    refine v_aload_n 0 0 hX dX9_bestSubset_32 rfl rfl ?_
    obtain ⟨g9, hf⟩ := q_gd_some hf
    obtain ⟨g10, hf⟩ := q_gd_some hf
    refine v_getA hX fa_RX9_12 (fun _ _ => rfl) g9 g10 (by decide) dX9_bestSubset_33 ?_
    refine v_getI hX fa_RX9_75 (fun _ _ => rfl) g10 dX9_bestSubset_36 ?_
    refine v_ishl hX dX9_bestSubset_39 ?_
    obtain ⟨g11, hf⟩ := q_gd_some hf
    obtain ⟨g12, hf⟩ := q_gd_some hf
    refine v_icmp_ge (tgt := 78) hX g11 g12 dX9_bestSubset_40 (by decide) (fun c13 => ?_) (fun c13 => ?_)
    · replace hf := q_ifp c13 hf
      refine v_sub (lv' := [(2, .int (q_i v2))]) [2] rfl ?_
      exact hk _ _ _ _ hf
    · replace hf := q_ifn c13 hf
      refine v_iload 4 hX dX9_bestSubset_43 rfl ?_
      obtain ⟨r14, h15, hf⟩ := q_bd_some hf
      refine v_callS (As := [.int (q_i v4)]) (rest := []) (st1 := [.int (q_i r14)]) (some (.int (q_i r14))) hX ms_RX9_260 (c_J6_bitCount_0f7a4 h15) ⟨rfl, rfl⟩ ⟨Nat.le_of_ble_eq_true rfl, Nat.le_of_ble_eq_true rfl⟩ rfl rfl (Nat.le_of_ble_eq_true rfl) ⟨Nat.le_of_ble_eq_true rfl, Nat.le_of_ble_eq_true rfl⟩ dX9_bestSubset_45 rfl ?_
      refine v_iload_n 1 1 hX dX9_bestSubset_48 rfl rfl ?_
      obtain ⟨g16, hf⟩ := q_gd_some hf
      obtain ⟨g17, hf⟩ := q_gd_some hf
      refine v_icmp_ne (tgt := 72) hX g16 g17 dX9_bestSubset_49 (by decide) (fun c18 => ?_) (fun c18 => ?_)
      · replace hf := q_ifp c18 hf
        refine v_aload_n 0 0 hX dX9_bestSubset_52 rfl rfl ?_
        refine v_iload 4 hX dX9_bestSubset_53 rfl ?_
        obtain ⟨r19, I20, h21, hf⟩ := q_bd2_some hf
        refine v_callV (As := [.int (q_i v4)]) (rest := []) (st1 := [.int (q_i r19)]) (some (.int (q_i r19))) hX mv_RX9_257 (c_X9_countCorrect h21) ⟨rfl, rfl⟩ ⟨Nat.le_of_ble_eq_true rfl, Nat.le_of_ble_eq_true rfl⟩ g9 rfl rfl (Nat.le_of_ble_eq_true rfl) ⟨Nat.le_of_ble_eq_true rfl, Nat.le_of_ble_eq_true rfl⟩ dX9_bestSubset_55 rfl ?_
        refine v_istore (lw := [(5, .int (q_i r19)), (0, .ref p0), (1, .int (q_i p1)), (2, .int (q_i v2)), (3, .int (q_i v3)), (4, .int (q_i v4))]) hX dX9_bestSubset_58 (by decide) rfl ?_
        refine v_iload 0 hX dX9_bestSubset_60 rfl ?_
        refine v_iload_n 3 4 hX dX9_bestSubset_62 rfl rfl ?_
        obtain ⟨g22, hf⟩ := q_gd_some hf
        obtain ⟨g23, hf⟩ := q_gd_some hf
        refine v_icmp_le (tgt := 72) hX g22 g23 dX9_bestSubset_63 (by decide) (fun c24 => ?_) (fun c24 => ?_)
        · replace hf := q_ifp c24 hf
          refine v_iinc 5 (lw := [(4, .int (q_i (v4 + 1))), (5, .int (q_i r19)), (0, .ref p0), (1, .int (q_i p1)), (2, .int (q_i v2)), (3, .int (q_i v3))]) hX dX9_bestSubset_72 rfl (by decide) rfl ?_
          refine v_goto (tgt := 29) hX dX9_bestSubset_75 (by decide) ?_
          refine v_sub (lv' := [(0, .ref p0), (1, .int (q_i p1)), (2, .int (q_i v2)), (3, .int (q_i v3)), (4, .int (q_i (v4 + 1)))]) [2, 3, 4, 5, 0] rfl ?_
          exact ih _ _ _ _ hf
        · replace hf := q_ifn c24 hf
          refine v_iload 5 hX dX9_bestSubset_66 rfl ?_
          refine v_istore_n 2 (lw := [(2, .int (q_i v4)), (5, .int (q_i r19)), (0, .ref p0), (1, .int (q_i p1)), (3, .int (q_i v3)), (4, .int (q_i v4))]) hX dX9_bestSubset_68 rfl (by decide) rfl ?_
          refine v_iload 1 hX dX9_bestSubset_69 rfl ?_
          refine v_istore_n 3 (lw := [(3, .int (q_i r19)), (2, .int (q_i v4)), (5, .int (q_i r19)), (0, .ref p0), (1, .int (q_i p1)), (4, .int (q_i v4))]) hX dX9_bestSubset_71 rfl (by decide) rfl ?_
          refine v_iinc 5 (lw := [(4, .int (q_i (v4 + 1))), (3, .int (q_i r19)), (2, .int (q_i v4)), (5, .int (q_i r19)), (0, .ref p0), (1, .int (q_i p1))]) hX dX9_bestSubset_72 rfl (by decide) rfl ?_
          refine v_goto (tgt := 29) hX dX9_bestSubset_75 (by decide) ?_
          refine v_sub (lv' := [(0, .ref p0), (1, .int (q_i p1)), (2, .int (q_i v4)), (3, .int (q_i r19)), (4, .int (q_i (v4 + 1)))]) [4, 5, 2, 1, 0] rfl ?_
          exact ih _ _ _ _ hf
      · replace hf := q_ifn c18 hf
        refine v_iinc 4 (lw := [(4, .int (q_i (v4 + 1))), (0, .ref p0), (1, .int (q_i p1)), (2, .int (q_i v2)), (3, .int (q_i v3))]) hX dX9_bestSubset_72 rfl (by decide) rfl ?_
        refine v_goto (tgt := 29) hX dX9_bestSubset_75 (by decide) ?_
        refine v_sub (lv' := [(0, .ref p0), (1, .int (q_i p1)), (2, .int (q_i v2)), (3, .int (q_i v3)), (4, .int (q_i (v4 + 1)))]) [1, 2, 3, 4, 0] rfl ?_
        exact ih _ _ _ _ hf
set_option maxRecDepth 20000 in
theorem c_X9_bestSubset {S : q_S} {R : q_HR} {I : q_HI} {a0 : Nat} {a1 : Int} {rz : Int} {Iz : q_HI} (hf : f_X9_bestSubset S R I a0 a1 = some (rz, Iz)) : ∀ (l : Launch) (D : va_G) (cy : Nat → ClassId) (B : Nat), Met l yX9_bestSubset [Cond.code yX9_bestSubset cX9_bestSubset 6 (some .int)] rmX9_bestSubset (q_Pc B D cy [.ref a0, .int (q_i a1)] S R I) (q_Qc B D cy (some (.int (q_i rz))) S R Iz) 0 0 (fun q => B ≤ q) := by
  refine q_met (lv := [(0, .ref a0), (1, .int (q_i a1))]) (own := RX9) (nm := "bestSubset") (by decide) rfl rfl (Nat.le_of_ble_eq_true rfl) rfl (fun X hX hE => ?_)
  unfold f_X9_bestSubset at hf
  refine v_iload_n 1 1 hX dX9_bestSubset_0 rfl rfl ?_
  refine v_iconst hX dX9_bestSubset_1 ?_
  refine v_aload_n 0 0 hX dX9_bestSubset_2 rfl rfl ?_
  obtain ⟨g1, hf⟩ := q_gd_some hf
  obtain ⟨g2, hf⟩ := q_gd_some hf
  refine v_getA hX fa_RX9_12 (fun _ _ => rfl) g1 g2 (by decide) dX9_bestSubset_3 ?_
  refine v_getI hX fa_RX9_75 (fun _ _ => rfl) g2 dX9_bestSubset_6 ?_
  obtain ⟨r3, h4, hf⟩ := q_bd_some hf
  refine v_callS (As := [.int (q_i a1), .int (q_i 1), .int (q_i (I (R a0 0) 6))]) (rest := []) (st1 := [.int (q_i r3)]) (some (.int (q_i r3))) hX ms_RX9_71 (c_X9_isWithin h4) ⟨rfl, rfl⟩ ⟨Nat.le_of_ble_eq_true rfl, Nat.le_of_ble_eq_true rfl⟩ rfl rfl (Nat.le_of_ble_eq_true rfl) ⟨Nat.le_of_ble_eq_true rfl, Nat.le_of_ble_eq_true rfl⟩ dX9_bestSubset_9 rfl ?_
  obtain ⟨g5, hf⟩ := q_gd_some hf
  refine v_if_ne (tgt := 18) hX g5 dX9_bestSubset_12 (by decide) (fun c6 => ?_) (fun c6 => ?_)
  · replace hf := q_ifp c6 hf
    refine v_bipush (-3) hX dX9_bestSubset_15 (by decide) ?_
    cases hf
    exact v_iret hX hE (Nat.le_of_ble_eq_true rfl) (Nat.le_of_ble_eq_true rfl) dX9_bestSubset_17
  · replace hf := q_ifn c6 hf
    refine v_aload_n 0 0 hX dX9_bestSubset_18 rfl rfl ?_
    obtain ⟨I7, h8, hf⟩ := q_bd_some hf
    refine v_callV (As := []) (rest := []) (st1 := []) none hX mv_RX9_200 (c_X9_prepare h8) ⟨rfl, rfl⟩ ⟨Nat.le_of_ble_eq_true rfl, Nat.le_of_ble_eq_true rfl⟩ g1 rfl rfl (Nat.le_of_ble_eq_true rfl) ⟨Nat.le_of_ble_eq_true rfl, Nat.le_of_ble_eq_true rfl⟩ dX9_bestSubset_19 rfl ?_
    refine v_iconst hX dX9_bestSubset_22 ?_
    refine v_istore_n 2 (lw := [(2, .int (q_i (-1))), (0, .ref a0), (1, .int (q_i a1))]) hX dX9_bestSubset_23 rfl (by decide) rfl ?_
    refine v_iconst hX dX9_bestSubset_24 ?_
    refine v_istore_n 3 (lw := [(3, .int (q_i (-1))), (2, .int (q_i (-1))), (0, .ref a0), (1, .int (q_i a1))]) hX dX9_bestSubset_25 rfl (by decide) rfl ?_
    refine v_iconst hX dX9_bestSubset_26 ?_
    refine v_istore (lw := [(4, .int (q_i 1)), (3, .int (q_i (-1))), (2, .int (q_i (-1))), (0, .ref a0), (1, .int (q_i a1))]) hX dX9_bestSubset_27 (by decide) rfl ?_
    refine v_sub (lv' := [(0, .ref a0), (1, .int (q_i a1)), (2, .int (q_i (-1))), (3, .int (q_i (-1))), (4, .int (q_i 1))]) [3, 4, 2, 1, 0] rfl ?_
    refine l_X9_bestSubset_29 hX hE (fun w25 w26 w27 I28 hk => ?_) 100 _ _ _ _ hf
    clear hf
    have hf := hk
    clear hk
    refine v_iload_n 2 0 hX dX9_bestSubset_78 rfl rfl ?_
    cases hf
    exact v_iret hX hE (Nat.le_of_ble_eq_true rfl) (Nat.le_of_ble_eq_true rfl) dX9_bestSubset_79
noncomputable def f_X9_leastUsefulSensor_L10 (S : q_S) (R : q_HR) (p0 : Nat) (k : Int → Int → Int → q_HI → Option (Int × q_HI)) : Nat → Int → Int → Int → q_HI → Option (Int × q_HI)
  | 0, _, _, _, _ => none
  | n + 1, v1, v2, v3, I => q_gd (S.1 p0 = 10) (q_gd (S.1 (R p0 0) = 1) (q_gd (r_i v3) (q_gd (r_i (I (R p0 0) 6)) (if I (R p0 0) 6 ≤ v3 then k v1 v2 v3 I else q_bd (f_X9_allBut v3) fun r9 => q_bd2 (f_X9_countCorrect S R I p0 r9) fun r11 I12 => q_gd (r_i r11) (q_gd (r_i v2) (if r11 ≤ v2 then f_X9_leastUsefulSensor_L10 S R p0 k n v1 v2 (v3 + 1) I12 else f_X9_leastUsefulSensor_L10 S R p0 k n v3 r11 (v3 + 1) I12))))))
noncomputable def f_X9_leastUsefulSensor (S : q_S) (R : q_HR) (I : q_HI) (a0 : Nat) : Option (Int × q_HI) := q_gd (S.1 a0 = 10) (q_bd (f_X9_prepare S R I a0) fun I2 => f_X9_leastUsefulSensor_L10 S R a0 (fun w17 w18 w19 I20 => some (w17, I20)) 100 (-1) (-1) 0 I2)
abbrev rmX9_leastUsefulSensor : Room := { frames := 6, cells := 0, slots := 0, locals := 150 }
set_option maxRecDepth 20000 in
theorem l_X9_leastUsefulSensor_10 {X : q_X} {S : q_S} {R : q_HR} {p0 : Nat} {rz : Int} {Iz : q_HI} (hX : q_C X cX9_leastUsefulSensor 5 RX9 (some .int) "leastUsefulSensor") (hE : q_E X 0 0 (some (.int (q_i rz))) S R Iz) {k : Int → Int → Int → q_HI → Option (Int × q_HI)} (hk : ∀ (v1 : Int) (v2 : Int) (v3 : Int) (I : q_HI), k v1 v2 v3 I = some (rz, Iz) → q_V X rmX9_leastUsefulSensor cX9_leastUsefulSensor 5 0 0 48 [(1, .int (q_i v1))] [] S R I) :
    ∀ (n : Nat), ∀ (v1 : Int) (v2 : Int) (v3 : Int) (I : q_HI), f_X9_leastUsefulSensor_L10 S R p0 k n v1 v2 v3 I = some (rz, Iz) → q_V X rmX9_leastUsefulSensor cX9_leastUsefulSensor 5 0 0 10 [(0, .ref p0), (1, .int (q_i v1)), (2, .int (q_i v2)), (3, .int (q_i v3))] [] S R I := by
  intro n
  induction n with
  | zero =>
    intro v1 v2 v3 I hf
    cases (show (none : Option (Int × q_HI)) = some _ from hf)
  | succ n ih =>
    intro v1 v2 v3 I hf
    rw [f_X9_leastUsefulSensor_L10] at hf
    refine v_iload_n 3 3 hX dX9_leastUsefulSensor_10 rfl rfl ?_
    refine v_aload_n 0 0 hX dX9_leastUsefulSensor_11 rfl rfl ?_
    obtain ⟨g4, hf⟩ := q_gd_some hf
    obtain ⟨g5, hf⟩ := q_gd_some hf
    refine v_getA hX fa_RX9_12 (fun _ _ => rfl) g4 g5 (by decide) dX9_leastUsefulSensor_12 ?_
    refine v_getI hX fa_RX9_75 (fun _ _ => rfl) g5 dX9_leastUsefulSensor_15 ?_
    obtain ⟨g6, hf⟩ := q_gd_some hf
    obtain ⟨g7, hf⟩ := q_gd_some hf
    refine v_icmp_ge (tgt := 48) hX g6 g7 dX9_leastUsefulSensor_18 (by decide) (fun c8 => ?_) (fun c8 => ?_)
    · replace hf := q_ifp c8 hf
      refine v_sub (lv' := [(1, .int (q_i v1))]) [1] rfl ?_
      exact hk _ _ _ _ hf
    · replace hf := q_ifn c8 hf
      refine v_aload_n 0 0 hX dX9_leastUsefulSensor_21 rfl rfl ?_
      refine v_iload_n 3 3 hX dX9_leastUsefulSensor_22 rfl rfl ?_
      obtain ⟨r9, h10, hf⟩ := q_bd_some hf
      refine v_callS (As := [.int (q_i v3)]) (rest := [.ref p0]) (st1 := [.int (q_i r9), .ref p0]) (some (.int (q_i r9))) hX ms_RX9_229 (c_X9_allBut h10) ⟨rfl, rfl⟩ ⟨Nat.le_of_ble_eq_true rfl, Nat.le_of_ble_eq_true rfl⟩ rfl rfl (Nat.le_of_ble_eq_true rfl) ⟨Nat.le_of_ble_eq_true rfl, Nat.le_of_ble_eq_true rfl⟩ dX9_leastUsefulSensor_23 rfl ?_
      obtain ⟨r11, I12, h13, hf⟩ := q_bd2_some hf
      refine v_callV (As := [.int (q_i r9)]) (rest := []) (st1 := [.int (q_i r11)]) (some (.int (q_i r11))) hX mv_RX9_257 (c_X9_countCorrect h13) ⟨rfl, rfl⟩ ⟨Nat.le_of_ble_eq_true rfl, Nat.le_of_ble_eq_true rfl⟩ g4 rfl rfl (Nat.le_of_ble_eq_true rfl) ⟨Nat.le_of_ble_eq_true rfl, Nat.le_of_ble_eq_true rfl⟩ dX9_leastUsefulSensor_26 rfl ?_
      refine v_istore (lw := [(4, .int (q_i r11)), (0, .ref p0), (1, .int (q_i v1)), (2, .int (q_i v2)), (3, .int (q_i v3))]) hX dX9_leastUsefulSensor_29 (by decide) rfl ?_
      refine v_iload 0 hX dX9_leastUsefulSensor_31 rfl ?_
      refine v_iload_n 2 3 hX dX9_leastUsefulSensor_33 rfl rfl ?_
      obtain ⟨g14, hf⟩ := q_gd_some hf
      obtain ⟨g15, hf⟩ := q_gd_some hf
      refine v_icmp_le (tgt := 42) hX g14 g15 dX9_leastUsefulSensor_34 (by decide) (fun c16 => ?_) (fun c16 => ?_)
      · replace hf := q_ifp c16 hf
        refine v_iinc 4 (lw := [(3, .int (q_i (v3 + 1))), (4, .int (q_i r11)), (0, .ref p0), (1, .int (q_i v1)), (2, .int (q_i v2))]) hX dX9_leastUsefulSensor_42 rfl (by decide) rfl ?_
        refine v_goto (tgt := 10) hX dX9_leastUsefulSensor_45 (by decide) ?_
        refine v_sub (lv' := [(0, .ref p0), (1, .int (q_i v1)), (2, .int (q_i v2)), (3, .int (q_i (v3 + 1)))]) [2, 3, 4, 0] rfl ?_
        exact ih _ _ _ _ hf
      · replace hf := q_ifn c16 hf
        refine v_iload_n 3 4 hX dX9_leastUsefulSensor_37 rfl rfl ?_
        refine v_istore_n 1 (lw := [(1, .int (q_i v3)), (4, .int (q_i r11)), (0, .ref p0), (2, .int (q_i v2)), (3, .int (q_i v3))]) hX dX9_leastUsefulSensor_38 rfl (by decide) rfl ?_
        refine v_iload 1 hX dX9_leastUsefulSensor_39 rfl ?_
        refine v_istore_n 2 (lw := [(2, .int (q_i r11)), (1, .int (q_i v3)), (4, .int (q_i r11)), (0, .ref p0), (3, .int (q_i v3))]) hX dX9_leastUsefulSensor_41 rfl (by decide) rfl ?_
        refine v_iinc 4 (lw := [(3, .int (q_i (v3 + 1))), (2, .int (q_i r11)), (1, .int (q_i v3)), (4, .int (q_i r11)), (0, .ref p0)]) hX dX9_leastUsefulSensor_42 rfl (by decide) rfl ?_
        refine v_goto (tgt := 10) hX dX9_leastUsefulSensor_45 (by decide) ?_
        refine v_sub (lv' := [(0, .ref p0), (1, .int (q_i v3)), (2, .int (q_i r11)), (3, .int (q_i (v3 + 1)))]) [4, 2, 1, 0] rfl ?_
        exact ih _ _ _ _ hf
set_option maxRecDepth 20000 in
theorem c_X9_leastUsefulSensor {S : q_S} {R : q_HR} {I : q_HI} {a0 : Nat} {rz : Int} {Iz : q_HI} (hf : f_X9_leastUsefulSensor S R I a0 = some (rz, Iz)) : ∀ (l : Launch) (D : va_G) (cy : Nat → ClassId) (B : Nat), Met l yX9_leastUsefulSensor [Cond.code yX9_leastUsefulSensor cX9_leastUsefulSensor 5 (some .int)] rmX9_leastUsefulSensor (q_Pc B D cy [.ref a0] S R I) (q_Qc B D cy (some (.int (q_i rz))) S R Iz) 0 0 (fun q => B ≤ q) := by
  refine q_met (lv := [(0, .ref a0)]) (own := RX9) (nm := "leastUsefulSensor") (by decide) rfl rfl (Nat.le_of_ble_eq_true rfl) rfl (fun X hX hE => ?_)
  unfold f_X9_leastUsefulSensor at hf
  refine v_aload_n 0 0 hX dX9_leastUsefulSensor_0 rfl rfl ?_
  obtain ⟨g1, hf⟩ := q_gd_some hf
  obtain ⟨I2, h3, hf⟩ := q_bd_some hf
  refine v_callV (As := []) (rest := []) (st1 := []) none hX mv_RX9_200 (c_X9_prepare h3) ⟨rfl, rfl⟩ ⟨Nat.le_of_ble_eq_true rfl, Nat.le_of_ble_eq_true rfl⟩ g1 rfl rfl (Nat.le_of_ble_eq_true rfl) ⟨Nat.le_of_ble_eq_true rfl, Nat.le_of_ble_eq_true rfl⟩ dX9_leastUsefulSensor_1 rfl ?_
  refine v_iconst hX dX9_leastUsefulSensor_4 ?_
  refine v_istore_n 1 (lw := [(1, .int (q_i (-1))), (0, .ref a0)]) hX dX9_leastUsefulSensor_5 rfl (by decide) rfl ?_
  refine v_iconst hX dX9_leastUsefulSensor_6 ?_
  refine v_istore_n 2 (lw := [(2, .int (q_i (-1))), (1, .int (q_i (-1))), (0, .ref a0)]) hX dX9_leastUsefulSensor_7 rfl (by decide) rfl ?_
  refine v_iconst hX dX9_leastUsefulSensor_8 ?_
  refine v_istore_n 3 (lw := [(3, .int (q_i 0)), (2, .int (q_i (-1))), (1, .int (q_i (-1))), (0, .ref a0)]) hX dX9_leastUsefulSensor_9 rfl (by decide) rfl ?_
  refine v_sub (lv' := [(0, .ref a0), (1, .int (q_i (-1))), (2, .int (q_i (-1))), (3, .int (q_i 0))]) [3, 2, 1, 0] rfl ?_
  refine l_X9_leastUsefulSensor_10 hX hE (fun w17 w18 w19 I20 hk => ?_) 100 _ _ _ _ hf
  clear hf
  have hf := hk
  clear hk
  refine v_iload_n 1 0 hX dX9_leastUsefulSensor_48 rfl rfl ?_
  cases hf
  exact v_iret hX hE (Nat.le_of_ble_eq_true rfl) (Nat.le_of_ble_eq_true rfl) dX9_leastUsefulSensor_49
noncomputable def f_X9_scatter (a0 : Int) (a2 : Int) (a4 : Int) : Option (Int) := q_bd (f_X9_quotient ((a0 * a4) - (a2 * a2)) a0) fun r1 => some r1
abbrev rmX9_scatter : Room := { frames := 1, cells := 0, slots := 0, locals := 25 }
set_option maxRecDepth 20000 in
theorem c_X9_scatter {S : q_S} {R : q_HR} {I : q_HI} {a0 : Int} {a2 : Int} {a4 : Int} {rz : Int} (hf : f_X9_scatter a0 a2 a4 = some rz) : ∀ (l : Launch) (D : va_G) (cy : Nat → ClassId) (B : Nat), Met l yX9_scatter [Cond.code yX9_scatter cX9_scatter 6 (some .long)] rmX9_scatter (q_Pc B D cy [.long (q_l a0), .long (q_l a2), .long (q_l a4)] S R I) (q_Qc B D cy (some (.long (q_l rz))) S R I) 0 0 (fun q => B ≤ q) := by
  refine q_met (lv := [(0, .long (q_l a0)), (2, .long (q_l a2)), (4, .long (q_l a4))]) (own := RX9) (nm := "scatter") (by decide) rfl rfl (Nat.le_of_ble_eq_true rfl) rfl (fun X hX hE => ?_)
  unfold f_X9_scatter at hf
  refine v_lload_n 0 0 hX dX9_scatter_0 rfl rfl ?_
  refine v_lload 2 hX dX9_scatter_1 rfl ?_
  refine v_lmul hX dX9_scatter_3 ?_
  refine v_lload_n 2 1 hX dX9_scatter_4 rfl rfl ?_
  refine v_lload_n 2 1 hX dX9_scatter_5 rfl rfl ?_
  refine v_lmul hX dX9_scatter_6 ?_
  refine v_lsub hX dX9_scatter_7 ?_
  refine v_lload_n 0 0 hX dX9_scatter_8 rfl rfl ?_
  obtain ⟨r1, h2, hf⟩ := q_bd_some hf
  refine v_callS (As := [.long (q_l ((a0 * a4) - (a2 * a2))), .long (q_l a0)]) (rest := []) (st1 := [.long (q_l r1)]) (some (.long (q_l r1))) hX ms_RX9_133 (c_X9_quotient h2) ⟨rfl, rfl⟩ ⟨Nat.le_of_ble_eq_true rfl, Nat.le_of_ble_eq_true rfl⟩ rfl rfl (Nat.le_of_ble_eq_true rfl) ⟨Nat.le_of_ble_eq_true rfl, Nat.le_of_ble_eq_true rfl⟩ dX9_scatter_9 rfl ?_
  cases hf
  exact v_lret hX hE (Nat.le_of_ble_eq_true rfl) (Nat.le_of_ble_eq_true rfl) dX9_scatter_12
noncomputable def f_X9_scoreOf_L14 (S : q_S) (R : q_HR) (I : q_HI) (p0 : Nat) (p1 : Int) (k : Int → Int → Int → Int → Int → Option (Int)) : Nat → Int → Int → Int → Int → Int → Option (Int)
  | 0, _, _, _, _, _ => none
  | n + 1, v2, v4, v6, v8, v10 => q_gd (S.1 p0 = 10) (q_gd (r_i v10) (q_gd (r_i (I p0 10)) (if I p0 10 ≤ v10 then k v2 v4 v6 v8 v10 else q_gd (S.1 (R p0 3) = 15) (q_gd ((0 : Int) ≤ v10 ∧ v10 < (S.2.1 (R p0 3) : Int)) (q_gd (S.1 (R (R p0 3) (Int.toNat v10)) = 3) (q_lt (R (R p0 3) (Int.toNat v10)) fun x8 => q_gd (r_i (I x8 3)) (if I x8 3 = 0 then f_X9_scoreOf_L14 S R I p0 p1 k n v2 v4 v6 v8 (v10 + 1) else q_gd (S.1 (R x8 2) = 12) (q_gd ((0 : Int) ≤ p1 ∧ p1 < (S.2.1 (R x8 2) : Int)) (q_gd (r_i (I (R x8 2) (Int.toNat p1))) (q_lt (I (R x8 2) (Int.toNat p1)) fun x16 => q_bd (f_X2_squaresOf S R I x8 p1) fun r19 => q_bd (f_X9_scatter (I x8 3) x16 r19) fun r21 => q_lt (v2 + r21) fun x23 => q_lt (v4 + (I x8 3)) fun x25 => q_lt (v6 + x16) fun x27 => q_lt (v8 + r19) fun x29 => f_X9_scoreOf_L14 S R I p0 p1 k n x23 x25 x27 x29 (v10 + 1)))))))))))
noncomputable def f_X9_scoreOf (S : q_S) (R : q_HR) (I : q_HI) (a0 : Nat) (a1 : Int) : Option (Int) := f_X9_scoreOf_L14 S R I a0 a1 (fun w31 w32 w33 w34 w35 => q_gd (r_l w32) (if w32 = 0 then some (-1) else q_bd (f_X9_scatter w32 w33 w34) fun r38 => q_lt (r38 - w31) fun x40 => q_gd (r_l w31) (if w31 = 0 then q_gd (r_l x40) (if x40 ≤ 0 then some 0 else some 1000000) else q_bd (f_X9_quotient (1000 * x40) w31) fun r46 => q_gd (r_l r46) (some (q_mn r46 2000000000))))) 100 0 0 0 0 0
abbrev rmX9_scoreOf : Room := { frames := 2, cells := 0, slots := 0, locals := 50 }
set_option maxRecDepth 20000 in
theorem l_X9_scoreOf_14 {X : q_X} {S : q_S} {R : q_HR} {I : q_HI} {p0 : Nat} {p1 : Int} {rz : Int} (hX : q_C X cX9_scoreOf 16 RX9 (some .int) "scoreOf") (hE : q_E X 0 0 (some (.int (q_i rz))) S R I) {k : Int → Int → Int → Int → Int → Option (Int)} (hk : ∀ (v2 : Int) (v4 : Int) (v6 : Int) (v8 : Int) (v10 : Int), k v2 v4 v6 v8 v10 = some rz → q_V X rmX9_scoreOf cX9_scoreOf 16 0 0 105 [(2, .long (q_l v2)), (4, .long (q_l v4)), (6, .long (q_l v6)), (8, .long (q_l v8))] [] S R I) :
    ∀ (n : Nat), ∀ (v2 : Int) (v4 : Int) (v6 : Int) (v8 : Int) (v10 : Int), f_X9_scoreOf_L14 S R I p0 p1 k n v2 v4 v6 v8 v10 = some rz → q_V X rmX9_scoreOf cX9_scoreOf 16 0 0 14 [(0, .ref p0), (1, .int (q_i p1)), (2, .long (q_l v2)), (4, .long (q_l v4)), (6, .long (q_l v6)), (8, .long (q_l v8)), (10, .int (q_i v10))] [] S R I := by
  intro n
  induction n with
  | zero =>
    intro v2 v4 v6 v8 v10 hf
    cases (show (none : Option (Int)) = some _ from hf)
  | succ n ih =>
    intro v2 v4 v6 v8 v10 hf
    rw [f_X9_scoreOf_L14] at hf
    refine v_iload 6 hX dX9_scoreOf_14 rfl ?_
    refine v_aload_n 0 0 hX dX9_scoreOf_16 rfl rfl ?_
    obtain ⟨g1, hf⟩ := q_gd_some hf
    refine v_getI hX fa_RX9_178 (fun _ _ => rfl) g1 dX9_scoreOf_17 ?_
    obtain ⟨g2, hf⟩ := q_gd_some hf
    obtain ⟨g3, hf⟩ := q_gd_some hf
    refine v_icmp_ge (tgt := 105) hX g2 g3 dX9_scoreOf_20 (by decide) (fun c4 => ?_) (fun c4 => ?_)
    · replace hf := q_ifp c4 hf
      refine v_sub (lv' := [(2, .long (q_l v2)), (4, .long (q_l v4)), (6, .long (q_l v6)), (8, .long (q_l v8))]) [2, 3, 4, 5] rfl ?_
      exact hk _ _ _ _ _ hf
    · replace hf := q_ifn c4 hf
      refine v_aload_n 0 0 hX dX9_scoreOf_23 rfl rfl ?_
      obtain ⟨g5, hf⟩ := q_gd_some hf
      refine v_getA hX fa_RX9_32 (fun _ _ => rfl) g1 g5 (by decide) dX9_scoreOf_24 ?_
      refine v_iload 6 hX dX9_scoreOf_27 rfl ?_
      obtain ⟨g6, hf⟩ := q_gd_some hf
      obtain ⟨g7, hf⟩ := q_gd_some hf
      refine v_aaload (t0 := 3) hX g5 (by decide) (fun _ => rfl) rfl (fun _ _ _ => rfl) g6 g7 (by decide) dX9_scoreOf_29 ?_
      obtain ⟨x8, e9, hf⟩ := q_lt_nm hf
      rw [e9]
      have g10 := g7
      rw [e9] at g10
      refine v_astore (lw := [(11, .ref x8), (0, .ref p0), (1, .int (q_i p1)), (2, .long (q_l v2)), (4, .long (q_l v4)), (6, .long (q_l v6)), (8, .long (q_l v8)), (10, .int (q_i v10))]) hX dX9_scoreOf_30 (by decide) rfl ?_
      refine v_aload 0 hX dX9_scoreOf_32 rfl ?_
      refine v_getI hX fa_RX9_281 (fun _ _ => rfl) g10 dX9_scoreOf_34 ?_
      obtain ⟨g11, hf⟩ := q_gd_some hf
      refine v_if_eq (tgt := 99) hX g11 dX9_scoreOf_37 (by decide) (fun c12 => ?_) (fun c12 => ?_)
      · replace hf := q_ifp c12 hf
        refine v_iinc 7 (lw := [(10, .int (q_i (v10 + 1))), (11, .ref x8), (0, .ref p0), (1, .int (q_i p1)), (2, .long (q_l v2)), (4, .long (q_l v4)), (6, .long (q_l v6)), (8, .long (q_l v8))]) hX dX9_scoreOf_99 rfl (by decide) rfl ?_
        refine v_goto (tgt := 14) hX dX9_scoreOf_102 (by decide) ?_
        refine v_sub (lv' := [(0, .ref p0), (1, .int (q_i p1)), (2, .long (q_l v2)), (4, .long (q_l v4)), (6, .long (q_l v6)), (8, .long (q_l v8)), (10, .int (q_i (v10 + 1)))]) [2, 3, 4, 5, 6, 7, 0] rfl ?_
        exact ih _ _ _ _ _ hf
      · replace hf := q_ifn c12 hf
        refine v_aload 0 hX dX9_scoreOf_40 rfl ?_
        obtain ⟨g13, hf⟩ := q_gd_some hf
        refine v_getA hX fa_RX9_278 (fun _ _ => rfl) g10 g13 (by decide) dX9_scoreOf_42 ?_
        refine v_iload_n 1 2 hX dX9_scoreOf_45 rfl rfl ?_
        obtain ⟨g14, hf⟩ := q_gd_some hf
        refine v_iaload hX g13 g14 dX9_scoreOf_46 ?_
        obtain ⟨g15, hf⟩ := q_gd_some hf
        refine v_i2l hX g15 dX9_scoreOf_47 ?_
        obtain ⟨x16, e17, hf⟩ := q_lt_nm hf
        rw [e17]
        have g18 := g15
        rw [e17] at g18
        refine v_lstore (lw := [(12, .long (q_l x16)), (11, .ref x8), (0, .ref p0), (1, .int (q_i p1)), (2, .long (q_l v2)), (4, .long (q_l v4)), (6, .long (q_l v6)), (8, .long (q_l v8)), (10, .int (q_i v10))]) hX dX9_scoreOf_48 (by decide) rfl ?_
        refine v_aload 1 hX dX9_scoreOf_50 rfl ?_
        refine v_iload_n 1 3 hX dX9_scoreOf_52 rfl rfl ?_
        obtain ⟨r19, h20, hf⟩ := q_bd_some hf
        refine v_callV (As := [.int (q_i p1)]) (rest := []) (st1 := [.long (q_l r19)]) (some (.long (q_l r19))) hX mv_RX9_316 (c_X2_squaresOf h20) ⟨rfl, rfl⟩ ⟨Nat.le_of_ble_eq_true rfl, Nat.le_of_ble_eq_true rfl⟩ g10 rfl rfl (Nat.le_of_ble_eq_true rfl) ⟨Nat.le_of_ble_eq_true rfl, Nat.le_of_ble_eq_true rfl⟩ dX9_scoreOf_53 rfl ?_
        refine v_lstore (lw := [(14, .long (q_l r19)), (12, .long (q_l x16)), (11, .ref x8), (0, .ref p0), (1, .int (q_i p1)), (2, .long (q_l v2)), (4, .long (q_l v4)), (6, .long (q_l v6)), (8, .long (q_l v8)), (10, .int (q_i v10))]) hX dX9_scoreOf_56 (by decide) rfl ?_
        refine v_lload_n 2 5 hX dX9_scoreOf_58 rfl rfl ?_
        refine v_aload 2 hX dX9_scoreOf_59 rfl ?_
        refine v_getI hX fa_RX9_281 (fun _ _ => rfl) g10 dX9_scoreOf_61 ?_
        refine v_i2l hX g11 dX9_scoreOf_64 ?_
        refine v_lload 1 hX dX9_scoreOf_65 rfl ?_
        refine v_lload 0 hX dX9_scoreOf_67 rfl ?_
        obtain ⟨r21, h22, hf⟩ := q_bd_some hf
        refine v_callS (As := [.long (q_l (I x8 3)), .long (q_l x16), .long (q_l r19)]) (rest := [.long (q_l v2)]) (st1 := [.long (q_l r21), .long (q_l v2)]) (some (.long (q_l r21))) hX ms_RX9_320 (c_X9_scatter h22) ⟨rfl, rfl⟩ ⟨Nat.le_of_ble_eq_true rfl, Nat.le_of_ble_eq_true rfl⟩ rfl rfl (Nat.le_of_ble_eq_true rfl) ⟨Nat.le_of_ble_eq_true rfl, Nat.le_of_ble_eq_true rfl⟩ dX9_scoreOf_69 rfl ?_
        refine v_ladd hX dX9_scoreOf_72 ?_
        obtain ⟨x23, e24, hf⟩ := q_lt_nm hf
        rw [e24]
        refine v_lstore_n 2 (lw := [(2, .long (q_l x23)), (14, .long (q_l r19)), (12, .long (q_l x16)), (11, .ref x8), (0, .ref p0), (1, .int (q_i p1)), (4, .long (q_l v4)), (6, .long (q_l v6)), (8, .long (q_l v8)), (10, .int (q_i v10))]) hX dX9_scoreOf_73 rfl (by decide) rfl ?_
        refine v_lload 6 hX dX9_scoreOf_74 rfl ?_
        refine v_aload 3 hX dX9_scoreOf_76 rfl ?_
        refine v_getI hX fa_RX9_281 (fun _ _ => rfl) g10 dX9_scoreOf_78 ?_
        refine v_i2l hX g11 dX9_scoreOf_81 ?_
        refine v_ladd hX dX9_scoreOf_82 ?_
        obtain ⟨x25, e26, hf⟩ := q_lt_nm hf
        rw [e26]
        refine v_lstore (lw := [(4, .long (q_l x25)), (2, .long (q_l x23)), (14, .long (q_l r19)), (12, .long (q_l x16)), (11, .ref x8), (0, .ref p0), (1, .int (q_i p1)), (6, .long (q_l v6)), (8, .long (q_l v8)), (10, .int (q_i v10))]) hX dX9_scoreOf_83 (by decide) rfl ?_
        refine v_lload 7 hX dX9_scoreOf_85 rfl ?_
        refine v_lload 3 hX dX9_scoreOf_87 rfl ?_
        refine v_ladd hX dX9_scoreOf_89 ?_
        obtain ⟨x27, e28, hf⟩ := q_lt_nm hf
        rw [e28]
        refine v_lstore (lw := [(6, .long (q_l x27)), (4, .long (q_l x25)), (2, .long (q_l x23)), (14, .long (q_l r19)), (12, .long (q_l x16)), (11, .ref x8), (0, .ref p0), (1, .int (q_i p1)), (8, .long (q_l v8)), (10, .int (q_i v10))]) hX dX9_scoreOf_90 (by decide) rfl ?_
        refine v_lload 8 hX dX9_scoreOf_92 rfl ?_
        refine v_lload 3 hX dX9_scoreOf_94 rfl ?_
        refine v_ladd hX dX9_scoreOf_96 ?_
        obtain ⟨x29, e30, hf⟩ := q_lt_nm hf
        rw [e30]
        refine v_lstore (lw := [(8, .long (q_l x29)), (6, .long (q_l x27)), (4, .long (q_l x25)), (2, .long (q_l x23)), (14, .long (q_l r19)), (12, .long (q_l x16)), (11, .ref x8), (0, .ref p0), (1, .int (q_i p1)), (10, .int (q_i v10))]) hX dX9_scoreOf_97 (by decide) rfl ?_
        refine v_iinc 9 (lw := [(10, .int (q_i (v10 + 1))), (8, .long (q_l x29)), (6, .long (q_l x27)), (4, .long (q_l x25)), (2, .long (q_l x23)), (14, .long (q_l r19)), (12, .long (q_l x16)), (11, .ref x8), (0, .ref p0), (1, .int (q_i p1))]) hX dX9_scoreOf_99 rfl (by decide) rfl ?_
        refine v_goto (tgt := 14) hX dX9_scoreOf_102 (by decide) ?_
        refine v_sub (lv' := [(0, .ref p0), (1, .int (q_i p1)), (2, .long (q_l x23)), (4, .long (q_l x25)), (6, .long (q_l x27)), (8, .long (q_l x29)), (10, .int (q_i (v10 + 1)))]) [8, 9, 4, 3, 2, 1, 0] rfl ?_
        exact ih _ _ _ _ _ hf
set_option maxRecDepth 20000 in
theorem c_X9_scoreOf {S : q_S} {R : q_HR} {I : q_HI} {a0 : Nat} {a1 : Int} {rz : Int} (hf : f_X9_scoreOf S R I a0 a1 = some rz) : ∀ (l : Launch) (D : va_G) (cy : Nat → ClassId) (B : Nat), Met l yX9_scoreOf [Cond.code yX9_scoreOf cX9_scoreOf 16 (some .int)] rmX9_scoreOf (q_Pc B D cy [.ref a0, .int (q_i a1)] S R I) (q_Qc B D cy (some (.int (q_i rz))) S R I) 0 0 (fun q => B ≤ q) := by
  refine q_met (lv := [(0, .ref a0), (1, .int (q_i a1))]) (own := RX9) (nm := "scoreOf") (by decide) rfl rfl (Nat.le_of_ble_eq_true rfl) rfl (fun X hX hE => ?_)
  unfold f_X9_scoreOf at hf
  refine v_lconst 0 hX dX9_scoreOf_0 (by decide) ?_
  refine v_lstore_n 2 (lw := [(2, .long (q_l 0)), (0, .ref a0), (1, .int (q_i a1))]) hX dX9_scoreOf_1 rfl (by decide) rfl ?_
  refine v_lconst 0 hX dX9_scoreOf_2 (by decide) ?_
  refine v_lstore (lw := [(4, .long (q_l 0)), (2, .long (q_l 0)), (0, .ref a0), (1, .int (q_i a1))]) hX dX9_scoreOf_3 (by decide) rfl ?_
  refine v_lconst 0 hX dX9_scoreOf_5 (by decide) ?_
  refine v_lstore (lw := [(6, .long (q_l 0)), (4, .long (q_l 0)), (2, .long (q_l 0)), (0, .ref a0), (1, .int (q_i a1))]) hX dX9_scoreOf_6 (by decide) rfl ?_
  refine v_lconst 0 hX dX9_scoreOf_8 (by decide) ?_
  refine v_lstore (lw := [(8, .long (q_l 0)), (6, .long (q_l 0)), (4, .long (q_l 0)), (2, .long (q_l 0)), (0, .ref a0), (1, .int (q_i a1))]) hX dX9_scoreOf_9 (by decide) rfl ?_
  refine v_iconst hX dX9_scoreOf_11 ?_
  refine v_istore (lw := [(10, .int (q_i 0)), (8, .long (q_l 0)), (6, .long (q_l 0)), (4, .long (q_l 0)), (2, .long (q_l 0)), (0, .ref a0), (1, .int (q_i a1))]) hX dX9_scoreOf_12 (by decide) rfl ?_
  refine v_sub (lv' := [(0, .ref a0), (1, .int (q_i a1)), (2, .long (q_l 0)), (4, .long (q_l 0)), (6, .long (q_l 0)), (8, .long (q_l 0)), (10, .int (q_i 0))]) [5, 6, 4, 3, 2, 1, 0] rfl ?_
  refine l_X9_scoreOf_14 hX hE (fun w31 w32 w33 w34 w35 hk => ?_) 100 _ _ _ _ _ hf
  clear hf
  have hf := hk
  clear hk
  refine v_lload 1 hX dX9_scoreOf_105 rfl ?_
  refine v_lconst 0 hX dX9_scoreOf_107 (by decide) ?_
  obtain ⟨g36, hf⟩ := q_gd_some hf
  refine v_lcmp hX g36 (by unfold r_l; omega) dX9_scoreOf_108 ?_
  refine v_ifc_ne (tgt := 114) hX dX9_scoreOf_109 (by decide) (fun c37 => ?_) (fun c37 => ?_)
  · replace hf := q_ifp c37 hf
    refine v_iconst hX dX9_scoreOf_112 ?_
    cases hf
    exact v_iret hX hE (Nat.le_of_ble_eq_true rfl) (Nat.le_of_ble_eq_true rfl) dX9_scoreOf_113
  · replace hf := q_ifn c37 hf
    refine v_lload 1 hX dX9_scoreOf_114 rfl ?_
    refine v_lload 2 hX dX9_scoreOf_116 rfl ?_
    refine v_lload 3 hX dX9_scoreOf_118 rfl ?_
    obtain ⟨r38, h39, hf⟩ := q_bd_some hf
    refine v_callS (As := [.long (q_l w32), .long (q_l w33), .long (q_l w34)]) (rest := []) (st1 := [.long (q_l r38)]) (some (.long (q_l r38))) hX ms_RX9_320 (c_X9_scatter h39) ⟨rfl, rfl⟩ ⟨Nat.le_of_ble_eq_true rfl, Nat.le_of_ble_eq_true rfl⟩ rfl rfl (Nat.le_of_ble_eq_true rfl) ⟨Nat.le_of_ble_eq_true rfl, Nat.le_of_ble_eq_true rfl⟩ dX9_scoreOf_120 rfl ?_
    refine v_lload_n 2 0 hX dX9_scoreOf_123 rfl rfl ?_
    refine v_lsub hX dX9_scoreOf_124 ?_
    obtain ⟨x40, e41, hf⟩ := q_lt_nm hf
    rw [e41]
    refine v_lstore (lw := [(10, .long (q_l x40)), (2, .long (q_l w31)), (4, .long (q_l w32)), (6, .long (q_l w33)), (8, .long (q_l w34))]) hX dX9_scoreOf_125 (by decide) rfl ?_
    refine v_lload_n 2 1 hX dX9_scoreOf_127 rfl rfl ?_
    refine v_lconst 0 hX dX9_scoreOf_128 (by decide) ?_
    obtain ⟨g42, hf⟩ := q_gd_some hf
    refine v_lcmp hX g42 (by unfold r_l; omega) dX9_scoreOf_129 ?_
    refine v_ifc_ne (tgt := 149) hX dX9_scoreOf_130 (by decide) (fun c43 => ?_) (fun c43 => ?_)
    · replace hf := q_ifp c43 hf
      refine v_lload 0 hX dX9_scoreOf_133 rfl ?_
      refine v_lconst 0 hX dX9_scoreOf_135 (by decide) ?_
      obtain ⟨g44, hf⟩ := q_gd_some hf
      refine v_lcmp hX g44 (by unfold r_l; omega) dX9_scoreOf_136 ?_
      refine v_ifc_le (tgt := 146) hX dX9_scoreOf_137 (by decide) (fun c45 => ?_) (fun c45 => ?_)
      · replace hf := q_ifp c45 hf
        refine v_lconst 0 hX dX9_scoreOf_146 (by decide) ?_
        refine v_l2i hX dX9_scoreOf_147 ?_
        cases hf
        exact v_iret hX hE (Nat.le_of_ble_eq_true rfl) (Nat.le_of_ble_eq_true rfl) dX9_scoreOf_148
      · replace hf := q_ifn c45 hf
        refine v_ldc2 1000000 hX kl_RX9_324 (by decide) dX9_scoreOf_140 ?_
        refine v_goto (tgt := 147) hX dX9_scoreOf_143 (by decide) ?_
        refine v_l2i hX dX9_scoreOf_147 ?_
        cases hf
        exact v_iret hX hE (Nat.le_of_ble_eq_true rfl) (Nat.le_of_ble_eq_true rfl) dX9_scoreOf_148
    · replace hf := q_ifn c43 hf
      refine v_ldc2 1000 hX kl_RX9_127 (by decide) dX9_scoreOf_149 ?_
      refine v_lload 0 hX dX9_scoreOf_152 rfl ?_
      refine v_lmul hX dX9_scoreOf_154 ?_
      refine v_lload_n 2 1 hX dX9_scoreOf_155 rfl rfl ?_
      obtain ⟨r46, h47, hf⟩ := q_bd_some hf
      refine v_callS (As := [.long (q_l (1000 * x40)), .long (q_l w31)]) (rest := []) (st1 := [.long (q_l r46)]) (some (.long (q_l r46))) hX ms_RX9_133 (c_X9_quotient h47) ⟨rfl, rfl⟩ ⟨Nat.le_of_ble_eq_true rfl, Nat.le_of_ble_eq_true rfl⟩ rfl rfl (Nat.le_of_ble_eq_true rfl) ⟨Nat.le_of_ble_eq_true rfl, Nat.le_of_ble_eq_true rfl⟩ dX9_scoreOf_156 rfl ?_
      refine v_ldc2 2000000000 hX kl_RX9_326 (by decide) dX9_scoreOf_159 ?_
      obtain ⟨g48, hf⟩ := q_gd_some hf
      refine v_mminJ hX g48 (by unfold r_l; omega) wml_RX9_328 (Nat.le_of_ble_eq_true rfl) (Nat.le_of_ble_eq_true rfl) (Nat.le_of_ble_eq_true rfl) (Nat.le_of_ble_eq_true rfl) dX9_scoreOf_162 ?_
      refine v_l2i hX dX9_scoreOf_165 ?_
      cases hf
      exact v_iret hX hE (Nat.le_of_ble_eq_true rfl) (Nat.le_of_ble_eq_true rfl) dX9_scoreOf_166
noncomputable def f_X9_sensorScore (S : q_S) (R : q_HR) (I : q_HI) (a0 : Nat) (a1 : Int) : Option (Int × q_HI) := q_gd (S.1 a0 = 10) (q_bd (f_X9_hasSensor S R I a0 a1) fun r2 => q_gd (r_i r2) (if r2 = 0 then some ((-2), I) else q_bd (f_X9_prepare S R I a0) fun I6 => q_bd (f_X9_scoreOf S R I6 a0 a1) fun r8 => some (r8, I6)))
abbrev rmX9_sensorScore : Room := { frames := 6, cells := 0, slots := 0, locals := 141 }
set_option maxRecDepth 20000 in
theorem c_X9_sensorScore {S : q_S} {R : q_HR} {I : q_HI} {a0 : Nat} {a1 : Int} {rz : Int} {Iz : q_HI} (hf : f_X9_sensorScore S R I a0 a1 = some (rz, Iz)) : ∀ (l : Launch) (D : va_G) (cy : Nat → ClassId) (B : Nat), Met l yX9_sensorScore [Cond.code yX9_sensorScore cX9_sensorScore 2 (some .int)] rmX9_sensorScore (q_Pc B D cy [.ref a0, .int (q_i a1)] S R I) (q_Qc B D cy (some (.int (q_i rz))) S R Iz) 0 0 (fun q => B ≤ q) := by
  refine q_met (lv := [(0, .ref a0), (1, .int (q_i a1))]) (own := RX9) (nm := "sensorScore") (by decide) rfl rfl (Nat.le_of_ble_eq_true rfl) rfl (fun X hX hE => ?_)
  unfold f_X9_sensorScore at hf
  refine v_aload_n 0 0 hX dX9_sensorScore_0 rfl rfl ?_
  refine v_iload_n 1 1 hX dX9_sensorScore_1 rfl rfl ?_
  obtain ⟨g1, hf⟩ := q_gd_some hf
  obtain ⟨r2, h3, hf⟩ := q_bd_some hf
  refine v_callV (As := [.int (q_i a1)]) (rest := []) (st1 := [.int (q_i r2)]) (some (.int (q_i r2))) hX mv_RX9_79 (c_X9_hasSensor h3) ⟨rfl, rfl⟩ ⟨Nat.le_of_ble_eq_true rfl, Nat.le_of_ble_eq_true rfl⟩ g1 rfl rfl (Nat.le_of_ble_eq_true rfl) ⟨Nat.le_of_ble_eq_true rfl, Nat.le_of_ble_eq_true rfl⟩ dX9_sensorScore_2 rfl ?_
  obtain ⟨g4, hf⟩ := q_gd_some hf
  refine v_if_ne (tgt := 11) hX g4 dX9_sensorScore_5 (by decide) (fun c5 => ?_) (fun c5 => ?_)
  · replace hf := q_ifp c5 hf
    refine v_bipush (-2) hX dX9_sensorScore_8 (by decide) ?_
    cases hf
    exact v_iret hX hE (Nat.le_of_ble_eq_true rfl) (Nat.le_of_ble_eq_true rfl) dX9_sensorScore_10
  · replace hf := q_ifn c5 hf
    refine v_aload_n 0 0 hX dX9_sensorScore_11 rfl rfl ?_
    obtain ⟨I6, h7, hf⟩ := q_bd_some hf
    refine v_callV (As := []) (rest := []) (st1 := []) none hX mv_RX9_200 (c_X9_prepare h7) ⟨rfl, rfl⟩ ⟨Nat.le_of_ble_eq_true rfl, Nat.le_of_ble_eq_true rfl⟩ g1 rfl rfl (Nat.le_of_ble_eq_true rfl) ⟨Nat.le_of_ble_eq_true rfl, Nat.le_of_ble_eq_true rfl⟩ dX9_sensorScore_12 rfl ?_
    refine v_aload_n 0 0 hX dX9_sensorScore_15 rfl rfl ?_
    refine v_iload_n 1 1 hX dX9_sensorScore_16 rfl rfl ?_
    obtain ⟨r8, h9, hf⟩ := q_bd_some hf
    refine v_callV (As := [.int (q_i a1)]) (rest := []) (st1 := [.int (q_i r8)]) (some (.int (q_i r8))) hX mv_RX9_265 (c_X9_scoreOf h9) ⟨rfl, rfl⟩ ⟨Nat.le_of_ble_eq_true rfl, Nat.le_of_ble_eq_true rfl⟩ g1 rfl rfl (Nat.le_of_ble_eq_true rfl) ⟨Nat.le_of_ble_eq_true rfl, Nat.le_of_ble_eq_true rfl⟩ dX9_sensorScore_17 rfl ?_
    cases hf
    exact v_iret hX hE (Nat.le_of_ble_eq_true rfl) (Nat.le_of_ble_eq_true rfl) dX9_sensorScore_20
