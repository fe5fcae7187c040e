noncomputable def f_X9_isReading (S : q_S) (R : q_HR) (I : q_HI) (a0 : Nat) (a1 : Int) (a2 : Int) : Option (Int) := q_gd (S.1 a0 = 10) (q_bd (f_X9_hasSensor S R I a0 a1) fun r2 => q_gd (r_i r2) (if r2 = 0 then q_bd (f_X9_isWithin a2 0 0) fun r6 => q_gd (r6 = 0 ∨ r6 = 1) (some r6) else q_bd (f_X9_isWithin a2 0 9999) fun r9 => q_gd (r9 = 0 ∨ r9 = 1) (some r9)))
abbrev rmX9_isReading : Room := { frames := 1, cells := 0, slots := 0, locals := 22 }
set_option maxRecDepth 20000 in
theorem c_X9_isReading {S : q_S} {R : q_HR} {I : q_HI} {a0 : Nat} {a1 : Int} {a2 : Int} {rz : Int} (hf : f_X9_isReading S R I a0 a1 a2 = some rz) : ∀ (l : Launch) (D : va_G) (cy : Nat → ClassId) (B : Nat), Met l yX9_isReading [Cond.code yX9_isReading cX9_isReading 3 (some .boolean)] rmX9_isReading (q_Pc B D cy [.ref a0, .int (q_i a1), .int (q_i a2)] S R I) (q_Qc B D cy (some (.int (q_i rz))) S R I) 0 0 (fun q => B ≤ q) := by
  refine q_met (lv := [(0, .ref a0), (1, .int (q_i a1)), (2, .int (q_i a2))]) (own := RX9) (nm := "isReading") (by decide) rfl rfl (Nat.le_of_ble_eq_true rfl) rfl (fun X hX hE => ?_)
  unfold f_X9_isReading at hf
  refine v_iload_n 2 2 hX dX9_isReading_0 rfl rfl ?_
  refine v_iconst hX dX9_isReading_1 ?_
  refine v_aload_n 0 0 hX dX9_isReading_2 rfl rfl ?_
  refine v_iload_n 1 1 hX dX9_isReading_3 rfl rfl ?_
  obtain ⟨g1, hf⟩ := q_gd_some hf
  obtain ⟨r2, h3, hf⟩ := q_bd_some hf
  refine v_callV (As := [.int (q_i a1)]) (rest := [.int (q_i 0), .int (q_i a2)]) (st1 := [.int (q_i r2), .int (q_i 0), .int (q_i a2)]) (some (.int (q_i r2))) hX mv_RX9_79 (c_X9_hasSensor h3) ⟨rfl, rfl⟩ ⟨Nat.le_of_ble_eq_true rfl, Nat.le_of_ble_eq_true rfl⟩ g1 rfl rfl (Nat.le_of_ble_eq_true rfl) ⟨Nat.le_of_ble_eq_true rfl, Nat.le_of_ble_eq_true rfl⟩ dX9_isReading_4 rfl ?_
  obtain ⟨g4, hf⟩ := q_gd_some hf
  refine v_if_eq (tgt := 16) hX g4 dX9_isReading_7 (by decide) (fun c5 => ?_) (fun c5 => ?_)
  · replace hf := q_ifp c5 hf
    refine v_iconst hX dX9_isReading_16 ?_
    obtain ⟨r6, h7, hf⟩ := q_bd_some hf
    refine v_callS (As := [.int (q_i a2), .int (q_i 0), .int (q_i 0)]) (rest := []) (st1 := [.int (q_i r6)]) (some (.int (q_i r6))) hX ms_RX9_71 (c_X9_isWithin h7) ⟨rfl, rfl⟩ ⟨Nat.le_of_ble_eq_true rfl, Nat.le_of_ble_eq_true rfl⟩ rfl rfl (Nat.le_of_ble_eq_true rfl) ⟨Nat.le_of_ble_eq_true rfl, Nat.le_of_ble_eq_true rfl⟩ dX9_isReading_17 rfl ?_
    obtain ⟨g8, hf⟩ := q_gd_some hf
    cases hf
    exact v_zret hX g8 hE (Nat.le_of_ble_eq_true rfl) (Nat.le_of_ble_eq_true rfl) dX9_isReading_20
  · replace hf := q_ifn c5 hf
    refine v_sipush 9999 hX dX9_isReading_10 (by decide) ?_
    refine v_goto (tgt := 17) hX dX9_isReading_13 (by decide) ?_
    obtain ⟨r9, h10, hf⟩ := q_bd_some hf
    refine v_callS (As := [.int (q_i a2), .int (q_i 0), .int (q_i 9999)]) (rest := []) (st1 := [.int (q_i r9)]) (some (.int (q_i r9))) hX ms_RX9_71 (c_X9_isWithin h10) ⟨rfl, rfl⟩ ⟨Nat.le_of_ble_eq_true rfl, Nat.le_of_ble_eq_true rfl⟩ rfl rfl (Nat.le_of_ble_eq_true rfl) ⟨Nat.le_of_ble_eq_true rfl, Nat.le_of_ble_eq_true rfl⟩ dX9_isReading_17 rfl ?_
    obtain ⟨g11, hf⟩ := q_gd_some hf
    cases hf
    exact v_zret hX g11 hE (Nat.le_of_ble_eq_true rfl) (Nat.le_of_ble_eq_true rfl) dX9_isReading_20
noncomputable def f_X9_measure (S : q_S) (R : q_HR) (I : q_HI) (a0 : Nat) (a1 : Int) (a2 : Int) (a3 : Int) (a4 : Int) (a5 : Int) (a6 : Int) : Option (Int × q_S × q_HR × q_HI) := q_bd (f_X9_isWithin a1 0 100) fun r1 => q_gd (r_i r1) (if r1 = 0 then some ((-3), S, R, I) else q_gd (S.1 a0 = 10) (q_bd (f_X9_isReading S R I a0 0 a2) fun r6 => q_gd (r_i r6) (if r6 = 0 then some ((-3), S, R, I) else q_bd (f_X9_isReading S R I a0 1 a3) fun r11 => q_gd (r_i r11) (if r11 = 0 then some ((-3), S, R, I) else q_bd (f_X9_isReading S R I a0 2 a4) fun r16 => q_gd (r_i r16) (if r16 = 0 then some ((-3), S, R, I) else q_bd (f_X9_isReading S R I a0 3 a5) fun r21 => q_gd (r_i r21) (if r21 = 0 then some ((-3), S, R, I) else q_bd (f_X9_isReading S R I a0 4 a6) fun r26 => q_gd (r_i r26) (if r26 = 0 then some ((-3), S, R, I) else q_lt (q_nw S 6 0) fun S32 => q_lt (q_zr R S.2.2 0) fun R34 => q_lt (q_zr I S.2.2 0) fun I36 => q_bd3 (f_X5_init S32 R34 I36 (S.2.2) a1 a2 a3 a4 a5 a6) fun S38 R39 I40 => q_gd (S38.1 a0 = 10) (q_gd (S38.1 (S.2.2) = 6) (q_lt (q_up R39 a0 8 (S.2.2)) fun R44 => q_lt (q_up I40 a0 9 1) fun I46 => some ((((a2 + a3) + a4) + a5) + a6, S38, R44, I46))))))))))
abbrev rmX9_measure : Room := { frames := 2, cells := 2, slots := 7, locals := 44 }
set_option maxRecDepth 20000 in
theorem c_X9_measure {S : q_S} {R : q_HR} {I : q_HI} {a0 : Nat} {a1 : Int} {a2 : Int} {a3 : Int} {a4 : Int} {a5 : Int} {a6 : Int} {rz : Int} {Sz : q_S} {Rz : q_HR} {Iz : q_HI} (hf : f_X9_measure S R I a0 a1 a2 a3 a4 a5 a6 = some (rz, Sz, Rz, Iz)) : ∀ (l : Launch) (D : va_G) (cy : Nat → ClassId) (B : Nat), Met l yX9_measure [Cond.code yX9_measure cX9_measure 8 (some .int)] rmX9_measure (q_Pc B D cy [.ref a0, .int (q_i a1), .int (q_i a2), .int (q_i a3), .int (q_i a4), .int (q_i a5), .int (q_i a6)] S R I) (q_Qc B D cy (some (.int (q_i rz))) Sz Rz Iz) 2 7 (fun q => B ≤ q) := by
  refine q_met (lv := [(0, .ref a0), (1, .int (q_i a1)), (2, .int (q_i a2)), (3, .int (q_i a3)), (4, .int (q_i a4)), (5, .int (q_i a5)), (6, .int (q_i a6))]) (own := RX9) (nm := "measure") (by decide) rfl rfl (Nat.le_of_ble_eq_true rfl) rfl (fun X hX hE => ?_)
  unfold f_X9_measure at hf
  refine v_iload_n 1 1 hX dX9_measure_0 rfl rfl ?_
  refine v_iconst hX dX9_measure_1 ?_
  refine v_bipush 100 hX dX9_measure_2 (by decide) ?_
  obtain ⟨r1, h2, hf⟩ := q_bd_some hf
  refine v_callS (As := [.int (q_i a1), .int (q_i 0), .int (q_i 100)]) (rest := []) (st1 := [.int (q_i r1)]) (some (.int (q_i r1))) hX ms_RX9_71 (c_X9_isWithin h2) ⟨rfl, rfl⟩ ⟨Nat.le_of_ble_eq_true rfl, Nat.le_of_ble_eq_true rfl⟩ rfl rfl (Nat.le_of_ble_eq_true rfl) ⟨Nat.le_of_ble_eq_true rfl, Nat.le_of_ble_eq_true rfl⟩ dX9_measure_4 rfl ?_
  obtain ⟨g3, hf⟩ := q_gd_some hf
  refine v_if_ne (tgt := 13) hX g3 dX9_measure_7 (by decide) (fun c4 => ?_) (fun c4 => ?_)
  · replace hf := q_ifp c4 hf
    refine v_bipush (-3) hX dX9_measure_10 (by decide) ?_
    cases hf
    exact v_iret hX hE (Nat.le_of_ble_eq_true rfl) (Nat.le_of_ble_eq_true rfl) dX9_measure_12
  · replace hf := q_ifn c4 hf
    refine v_aload_n 0 0 hX dX9_measure_13 rfl rfl ?_
    refine v_iconst hX dX9_measure_14 ?_
    refine v_iload_n 2 2 hX dX9_measure_15 rfl rfl ?_
    obtain ⟨g5, hf⟩ := q_gd_some hf
    obtain ⟨r6, h7, hf⟩ := q_bd_some hf
    refine v_callV (As := [.int (q_i 0), .int (q_i a2)]) (rest := []) (st1 := [.int (q_i r6)]) (some (.int (q_i r6))) hX mv_RX9_87 (c_X9_isReading h7) ⟨rfl, rfl⟩ ⟨Nat.le_of_ble_eq_true rfl, Nat.le_of_ble_eq_true rfl⟩ g5 rfl rfl (Nat.le_of_ble_eq_true rfl) ⟨Nat.le_of_ble_eq_true rfl, Nat.le_of_ble_eq_true rfl⟩ dX9_measure_16 rfl ?_
    obtain ⟨g8, hf⟩ := q_gd_some hf
    refine v_if_eq (tgt := 65) hX g8 dX9_measure_19 (by decide) (fun c9 => ?_) (fun c9 => ?_)
    · replace hf := q_ifp c9 hf
      refine v_iconst hX dX9_measure_65 ?_
      refine v_istore (lw := [(7, .int (q_i 0)), (0, .ref a0), (1, .int (q_i a1)), (2, .int (q_i a2)), (3, .int (q_i a3)), (4, .int (q_i a4)), (5, .int (q_i a5)), (6, .int (q_i a6))]) hX dX9_measure_66 (by decide) rfl ?_
      refine v_iload 0 hX dX9_measure_68 rfl ?_
      refine v_if_ne (tgt := 76) hX (by unfold r_i; omega) dX9_measure_70 (by decide) (fun _ => ?_) (fun c10 => absurd (by decide) c10)
      refine v_bipush (-3) hX dX9_measure_73 (by decide) ?_
      cases hf
      exact v_iret hX hE (Nat.le_of_ble_eq_true rfl) (Nat.le_of_ble_eq_true rfl) dX9_measure_75
    · replace hf := q_ifn c9 hf
      refine v_aload_n 0 0 hX dX9_measure_22 rfl rfl ?_
      refine v_iconst hX dX9_measure_23 ?_
      refine v_iload_n 3 3 hX dX9_measure_24 rfl rfl ?_
      obtain ⟨r11, h12, hf⟩ := q_bd_some hf
      refine v_callV (As := [.int (q_i 1), .int (q_i a3)]) (rest := []) (st1 := [.int (q_i r11)]) (some (.int (q_i r11))) hX mv_RX9_87 (c_X9_isReading h12) ⟨rfl, rfl⟩ ⟨Nat.le_of_ble_eq_true rfl, Nat.le_of_ble_eq_true rfl⟩ g5 rfl rfl (Nat.le_of_ble_eq_true rfl) ⟨Nat.le_of_ble_eq_true rfl, Nat.le_of_ble_eq_true rfl⟩ dX9_measure_25 rfl ?_
      obtain ⟨g13, hf⟩ := q_gd_some hf
      refine v_if_eq (tgt := 65) hX g13 dX9_measure_28 (by decide) (fun c14 => ?_) (fun c14 => ?_)
      · replace hf := q_ifp c14 hf
        refine v_iconst hX dX9_measure_65 ?_
        refine v_istore (lw := [(7, .int (q_i 0)), (0, .ref a0), (1, .int (q_i a1)), (2, .int (q_i a2)), (3, .int (q_i a3)), (4, .int (q_i a4)), (5, .int (q_i a5)), (6, .int (q_i a6))]) hX dX9_measure_66 (by decide) rfl ?_
        refine v_iload 0 hX dX9_measure_68 rfl ?_
        refine v_if_ne (tgt := 76) hX (by unfold r_i; omega) dX9_measure_70 (by decide) (fun _ => ?_) (fun c15 => absurd (by decide) c15)
        refine v_bipush (-3) hX dX9_measure_73 (by decide) ?_
        cases hf
        exact v_iret hX hE (Nat.le_of_ble_eq_true rfl) (Nat.le_of_ble_eq_true rfl) dX9_measure_75
      · replace hf := q_ifn c14 hf
        refine v_aload_n 0 0 hX dX9_measure_31 rfl rfl ?_
        refine v_iconst hX dX9_measure_32 ?_
        refine v_iload 4 hX dX9_measure_33 rfl ?_
        obtain ⟨r16, h17, hf⟩ := q_bd_some hf
        refine v_callV (As := [.int (q_i 2), .int (q_i a4)]) (rest := []) (st1 := [.int (q_i r16)]) (some (.int (q_i r16))) hX mv_RX9_87 (c_X9_isReading h17) ⟨rfl, rfl⟩ ⟨Nat.le_of_ble_eq_true rfl, Nat.le_of_ble_eq_true rfl⟩ g5 rfl rfl (Nat.le_of_ble_eq_true rfl) ⟨Nat.le_of_ble_eq_true rfl, Nat.le_of_ble_eq_true rfl⟩ dX9_measure_35 rfl ?_
        obtain ⟨g18, hf⟩ := q_gd_some hf
        refine v_if_eq (tgt := 65) hX g18 dX9_measure_38 (by decide) (fun c19 => ?_) (fun c19 => ?_)
        · replace hf := q_ifp c19 hf
          refine v_iconst hX dX9_measure_65 ?_
          refine v_istore (lw := [(7, .int (q_i 0)), (0, .ref a0), (1, .int (q_i a1)), (2, .int (q_i a2)), (3, .int (q_i a3)), (4, .int (q_i a4)), (5, .int (q_i a5)), (6, .int (q_i a6))]) hX dX9_measure_66 (by decide) rfl ?_
          refine v_iload 0 hX dX9_measure_68 rfl ?_
          refine v_if_ne (tgt := 76) hX (by unfold r_i; omega) dX9_measure_70 (by decide) (fun _ => ?_) (fun c20 => absurd (by decide) c20)
          refine v_bipush (-3) hX dX9_measure_73 (by decide) ?_
          cases hf
          exact v_iret hX hE (Nat.le_of_ble_eq_true rfl) (Nat.le_of_ble_eq_true rfl) dX9_measure_75
        · replace hf := q_ifn c19 hf
          refine v_aload_n 0 0 hX dX9_measure_41 rfl rfl ?_
          refine v_iconst hX dX9_measure_42 ?_
          refine v_iload 5 hX dX9_measure_43 rfl ?_
          obtain ⟨r21, h22, hf⟩ := q_bd_some hf
          refine v_callV (As := [.int (q_i 3), .int (q_i a5)]) (rest := []) (st1 := [.int (q_i r21)]) (some (.int (q_i r21))) hX mv_RX9_87 (c_X9_isReading h22) ⟨rfl, rfl⟩ ⟨Nat.le_of_ble_eq_true rfl, Nat.le_of_ble_eq_true rfl⟩ g5 rfl rfl (Nat.le_of_ble_eq_true rfl) ⟨Nat.le_of_ble_eq_true rfl, Nat.le_of_ble_eq_true rfl⟩ dX9_measure_45 rfl ?_
          obtain ⟨g23, hf⟩ := q_gd_some hf
          refine v_if_eq (tgt := 65) hX g23 dX9_measure_48 (by decide) (fun c24 => ?_) (fun c24 => ?_)
          · replace hf := q_ifp c24 hf
            refine v_iconst hX dX9_measure_65 ?_
            refine v_istore (lw := [(7, .int (q_i 0)), (0, .ref a0), (1, .int (q_i a1)), (2, .int (q_i a2)), (3, .int (q_i a3)), (4, .int (q_i a4)), (5, .int (q_i a5)), (6, .int (q_i a6))]) hX dX9_measure_66 (by decide) rfl ?_
            refine v_iload 0 hX dX9_measure_68 rfl ?_
            refine v_if_ne (tgt := 76) hX (by unfold r_i; omega) dX9_measure_70 (by decide) (fun _ => ?_) (fun c25 => absurd (by decide) c25)
            refine v_bipush (-3) hX dX9_measure_73 (by decide) ?_
            cases hf
            exact v_iret hX hE (Nat.le_of_ble_eq_true rfl) (Nat.le_of_ble_eq_true rfl) dX9_measure_75
          · replace hf := q_ifn c24 hf
            refine v_aload_n 0 0 hX dX9_measure_51 rfl rfl ?_
            refine v_iconst hX dX9_measure_52 ?_
            refine v_iload 6 hX dX9_measure_53 rfl ?_
            obtain ⟨r26, h27, hf⟩ := q_bd_some hf
            refine v_callV (As := [.int (q_i 4), .int (q_i a6)]) (rest := []) (st1 := [.int (q_i r26)]) (some (.int (q_i r26))) hX mv_RX9_87 (c_X9_isReading h27) ⟨rfl, rfl⟩ ⟨Nat.le_of_ble_eq_true rfl, Nat.le_of_ble_eq_true rfl⟩ g5 rfl rfl (Nat.le_of_ble_eq_true rfl) ⟨Nat.le_of_ble_eq_true rfl, Nat.le_of_ble_eq_true rfl⟩ dX9_measure_55 rfl ?_
            obtain ⟨g28, hf⟩ := q_gd_some hf
            refine v_if_eq (tgt := 65) hX g28 dX9_measure_58 (by decide) (fun c29 => ?_) (fun c29 => ?_)
            · replace hf := q_ifp c29 hf
              refine v_iconst hX dX9_measure_65 ?_
              refine v_istore (lw := [(7, .int (q_i 0)), (0, .ref a0), (1, .int (q_i a1)), (2, .int (q_i a2)), (3, .int (q_i a3)), (4, .int (q_i a4)), (5, .int (q_i a5)), (6, .int (q_i a6))]) hX dX9_measure_66 (by decide) rfl ?_
              refine v_iload 0 hX dX9_measure_68 rfl ?_
              refine v_if_ne (tgt := 76) hX (by unfold r_i; omega) dX9_measure_70 (by decide) (fun _ => ?_) (fun c30 => absurd (by decide) c30)
              refine v_bipush (-3) hX dX9_measure_73 (by decide) ?_
              cases hf
              exact v_iret hX hE (Nat.le_of_ble_eq_true rfl) (Nat.le_of_ble_eq_true rfl) dX9_measure_75
            · replace hf := q_ifn c29 hf
              refine v_iconst hX dX9_measure_61 ?_
              refine v_goto (tgt := 66) hX dX9_measure_62 (by decide) ?_
              refine v_istore (lw := [(7, .int (q_i 1)), (0, .ref a0), (1, .int (q_i a1)), (2, .int (q_i a2)), (3, .int (q_i a3)), (4, .int (q_i a4)), (5, .int (q_i a5)), (6, .int (q_i a6))]) hX dX9_measure_66 (by decide) rfl ?_
              refine v_iload 0 hX dX9_measure_68 rfl ?_
              refine v_if_ne (tgt := 76) hX (by unfold r_i; omega) dX9_measure_70 (by decide) (fun c31 => absurd c31 (by decide)) (fun _ => ?_)
              refine v_aload_n 0 1 hX dX9_measure_76 rfl rfl ?_
              refine v_new hX na_RX9_50 (Nat.le_of_ble_eq_true rfl) (Nat.le_of_ble_eq_true rfl) dX9_measure_77 ?_
              refine v_cs (k := 1) (n := 2) rfl rfl ?_
              obtain ⟨S32, e33, hf⟩ := q_lt_nm hf
              rw [e33]
              obtain ⟨R34, e35, hf⟩ := q_lt_nm hf
              rw [e35]
              obtain ⟨I36, e37, hf⟩ := q_lt_nm hf
              rw [e37]
              refine v_dup hX dX9_measure_80 rfl ?_
              refine v_iload_n 1 2 hX dX9_measure_81 rfl rfl ?_
              refine v_iload_n 2 3 hX dX9_measure_82 rfl rfl ?_
              refine v_iload_n 3 4 hX dX9_measure_83 rfl rfl ?_
              refine v_iload 5 hX dX9_measure_84 rfl ?_
              refine v_iload 6 hX dX9_measure_86 rfl ?_
              refine v_iload 7 hX dX9_measure_88 rfl ?_
              obtain ⟨S38, R39, I40, h41, hf⟩ := q_bd3_some hf
              refine v_callI (As := [.int (q_i a1), .int (q_i a2), .int (q_i a3), .int (q_i a4), .int (q_i a5), .int (q_i a6)]) (rest := [.ref (S.2.2), .ref a0]) hX mi_RX9_52 (c_X5_init h41) ⟨rfl, rfl⟩ ⟨Nat.le_of_ble_eq_true rfl, Nat.le_of_ble_eq_true rfl⟩ rfl rfl (Nat.le_of_ble_eq_true rfl) ⟨Nat.le_of_ble_eq_true rfl, Nat.le_of_ble_eq_true rfl⟩ dX9_measure_90 ?_
              refine v_cs (k := 2) (n := 7) rfl rfl ?_
              obtain ⟨g42, hf⟩ := q_gd_some hf
              obtain ⟨g43, hf⟩ := q_gd_some hf
              refine v_putA hX fa_RX9_63 (fun _ _ => rfl) rfl rfl g42 g43 (by decide) dX9_measure_93 ?_
              obtain ⟨R44, e45, hf⟩ := q_lt_nm hf
              rw [e45]
              refine v_aload_n 0 1 hX dX9_measure_96 rfl rfl ?_
              refine v_iconst hX dX9_measure_97 ?_
              refine v_putZ hX fa_RX9_91 rfl (Or.inr rfl) g42 dX9_measure_98 ?_
              obtain ⟨I46, e47, hf⟩ := q_lt_nm hf
              rw [e47]
              refine v_iload_n 2 3 hX dX9_measure_101 rfl rfl ?_
              refine v_iload_n 3 4 hX dX9_measure_102 rfl rfl ?_
              refine v_iadd hX dX9_measure_103 ?_
              refine v_iload 5 hX dX9_measure_104 rfl ?_
              refine v_iadd hX dX9_measure_106 ?_
              refine v_iload 6 hX dX9_measure_107 rfl ?_
              refine v_iadd hX dX9_measure_109 ?_
              refine v_iload 7 hX dX9_measure_110 rfl ?_
              refine v_iadd hX dX9_measure_112 ?_
              cases hf
              exact v_iret hX hE (Nat.le_of_ble_eq_true rfl) (Nat.le_of_ble_eq_true rfl) dX9_measure_113
noncomputable def f_X9_ratio (S : q_S) (R : q_HR) (I : q_HI) (a0 : Nat) (a1 : Int) : Option (Int) := q_gd (S.1 a0 = 10) (q_bd (f_X9_hasSensor S R I a0 a1) fun r2 => q_gd (r_i r2) (if r2 = 0 then some (-2) else q_gd (r_i (I a0 9)) (if I a0 9 = 0 then some (-5) else q_gd (S.1 (R a0 0) = 1) (q_gd (S.1 (R a0 8) = 6) (q_bd (f_X0_ratioIn S R I (R a0 0) (R a0 8) a1) fun r10 => some r10)))))
abbrev rmX9_ratio : Room := { frames := 2, cells := 0, slots := 0, locals := 49 }
set_option maxRecDepth 20000 in
theorem c_X9_ratio {S : q_S} {R : q_HR} {I : q_HI} {a0 : Nat} {a1 : Int} {rz : Int} (hf : f_X9_ratio S R I a0 a1 = some rz) : ∀ (l : Launch) (D : va_G) (cy : Nat → ClassId) (B : Nat), Met l yX9_ratio [Cond.code yX9_ratio cX9_ratio 2 (some .int)] rmX9_ratio (q_Pc B D cy [.ref a0, .int (q_i a1)] S R I) (q_Qc B D cy (some (.int (q_i rz))) S R I) 0 0 (fun q => B ≤ q) := by
  refine q_met (lv := [(0, .ref a0), (1, .int (q_i a1))]) (own := RX9) (nm := "ratio") (by decide) rfl rfl (Nat.le_of_ble_eq_true rfl) rfl (fun X hX hE => ?_)
  unfold f_X9_ratio at hf
  refine v_aload_n 0 0 hX dX9_ratio_0 rfl rfl ?_
  refine v_iload_n 1 1 hX dX9_ratio_1 rfl rfl ?_
  obtain ⟨g1, hf⟩ := q_gd_some hf
  obtain ⟨r2, h3, hf⟩ := q_bd_some hf
  refine v_callV (As := [.int (q_i a1)]) (rest := []) (st1 := [.int (q_i r2)]) (some (.int (q_i r2))) hX mv_RX9_79 (c_X9_hasSensor h3) ⟨rfl, rfl⟩ ⟨Nat.le_of_ble_eq_true rfl, Nat.le_of_ble_eq_true rfl⟩ g1 rfl rfl (Nat.le_of_ble_eq_true rfl) ⟨Nat.le_of_ble_eq_true rfl, Nat.le_of_ble_eq_true rfl⟩ dX9_ratio_2 rfl ?_
  obtain ⟨g4, hf⟩ := q_gd_some hf
  refine v_if_ne (tgt := 11) hX g4 dX9_ratio_5 (by decide) (fun c5 => ?_) (fun c5 => ?_)
  · replace hf := q_ifp c5 hf
    refine v_bipush (-2) hX dX9_ratio_8 (by decide) ?_
    cases hf
    exact v_iret hX hE (Nat.le_of_ble_eq_true rfl) (Nat.le_of_ble_eq_true rfl) dX9_ratio_10
  · replace hf := q_ifn c5 hf
    refine v_aload_n 0 0 hX dX9_ratio_11 rfl rfl ?_
    refine v_getI hX fa_RX9_91 (fun _ _ => rfl) g1 dX9_ratio_12 ?_
    obtain ⟨g6, hf⟩ := q_gd_some hf
    refine v_if_ne (tgt := 21) hX g6 dX9_ratio_15 (by decide) (fun c7 => ?_) (fun c7 => ?_)
    · replace hf := q_ifp c7 hf
      refine v_bipush (-5) hX dX9_ratio_18 (by decide) ?_
      cases hf
      exact v_iret hX hE (Nat.le_of_ble_eq_true rfl) (Nat.le_of_ble_eq_true rfl) dX9_ratio_20
    · replace hf := q_ifn c7 hf
      refine v_aload_n 0 0 hX dX9_ratio_21 rfl rfl ?_
      obtain ⟨g8, hf⟩ := q_gd_some hf
      refine v_getA hX fa_RX9_12 (fun _ _ => rfl) g1 g8 (by decide) dX9_ratio_22 ?_
      refine v_aload_n 0 0 hX dX9_ratio_25 rfl rfl ?_
      obtain ⟨g9, hf⟩ := q_gd_some hf
      refine v_getA hX fa_RX9_63 (fun _ _ => rfl) g1 g9 (by decide) dX9_ratio_26 ?_
      refine v_iload_n 1 1 hX dX9_ratio_29 rfl rfl ?_
      obtain ⟨r10, h11, hf⟩ := q_bd_some hf
      refine v_callV (As := [.ref (R a0 8), .int (q_i a1)]) (rest := []) (st1 := [.int (q_i r10)]) (some (.int (q_i r10))) hX mv_RX9_95 (c_X0_ratioIn h11) ⟨rfl, rfl⟩ ⟨Nat.le_of_ble_eq_true rfl, Nat.le_of_ble_eq_true rfl⟩ g8 rfl rfl (Nat.le_of_ble_eq_true rfl) ⟨Nat.le_of_ble_eq_true rfl, Nat.le_of_ble_eq_true rfl⟩ dX9_ratio_30 rfl ?_
      cases hf
      exact v_iret hX hE (Nat.le_of_ble_eq_true rfl) (Nat.le_of_ble_eq_true rfl) dX9_ratio_33
noncomputable def f_X9_feature (S : q_S) (R : q_HR) (I : q_HI) (a0 : Nat) (a1 : Int) : Option (Int) := q_gd (S.1 a0 = 10) (q_bd (f_X9_hasSensor S R I a0 a1) fun r2 => q_gd (r_i r2) (if r2 = 0 then some (-2) else q_gd (r_i (I a0 9)) (if I a0 9 = 0 then some (-5) else q_gd (S.1 (R a0 0) = 1) (q_gd (S.1 (R a0 8) = 6) (q_bd (f_X0_featureIn S R I (R a0 0) (R a0 8) a1) fun r10 => some (r10 + 10000))))))
abbrev rmX9_feature : Room := { frames := 3, cells := 0, slots := 0, locals := 73 }
set_option maxRecDepth 20000 in
theorem c_X9_feature {S : q_S} {R : q_HR} {I : q_HI} {a0 : Nat} {a1 : Int} {rz : Int} (hf : f_X9_feature S R I a0 a1 = some rz) : ∀ (l : Launch) (D : va_G) (cy : Nat → ClassId) (B : Nat), Met l yX9_feature [Cond.code yX9_feature cX9_feature 2 (some .int)] rmX9_feature (q_Pc B D cy [.ref a0, .int (q_i a1)] S R I) (q_Qc B D cy (some (.int (q_i rz))) S R I) 0 0 (fun q => B ≤ q) := by
  refine q_met (lv := [(0, .ref a0), (1, .int (q_i a1))]) (own := RX9) (nm := "feature") (by decide) rfl rfl (Nat.le_of_ble_eq_true rfl) rfl (fun X hX hE => ?_)
  unfold f_X9_feature at hf
  refine v_aload_n 0 0 hX dX9_feature_0 rfl rfl ?_
  refine v_iload_n 1 1 hX dX9_feature_1 rfl rfl ?_
  obtain ⟨g1, hf⟩ := q_gd_some hf
  obtain ⟨r2, h3, hf⟩ := q_bd_some hf
  refine v_callV (As := [.int (q_i a1)]) (rest := []) (st1 := [.int (q_i r2)]) (some (.int (q_i r2))) hX mv_RX9_79 (c_X9_hasSensor h3) ⟨rfl, rfl⟩ ⟨Nat.le_of_ble_eq_true rfl, Nat.le_of_ble_eq_true rfl⟩ g1 rfl rfl (Nat.le_of_ble_eq_true rfl) ⟨Nat.le_of_ble_eq_true rfl, Nat.le_of_ble_eq_true rfl⟩ dX9_feature_2 rfl ?_
  obtain ⟨g4, hf⟩ := q_gd_some hf
  refine v_if_ne (tgt := 11) hX g4 dX9_feature_5 (by decide) (fun c5 => ?_) (fun c5 => ?_)
  · replace hf := q_ifp c5 hf
    refine v_bipush (-2) hX dX9_feature_8 (by decide) ?_
    cases hf
    exact v_iret hX hE (Nat.le_of_ble_eq_true rfl) (Nat.le_of_ble_eq_true rfl) dX9_feature_10
  · replace hf := q_ifn c5 hf
    refine v_aload_n 0 0 hX dX9_feature_11 rfl rfl ?_
    refine v_getI hX fa_RX9_91 (fun _ _ => rfl) g1 dX9_feature_12 ?_
    obtain ⟨g6, hf⟩ := q_gd_some hf
    refine v_if_ne (tgt := 21) hX g6 dX9_feature_15 (by decide) (fun c7 => ?_) (fun c7 => ?_)
    · replace hf := q_ifp c7 hf
      refine v_bipush (-5) hX dX9_feature_18 (by decide) ?_
      cases hf
      exact v_iret hX hE (Nat.le_of_ble_eq_true rfl) (Nat.le_of_ble_eq_true rfl) dX9_feature_20
    · replace hf := q_ifn c7 hf
      refine v_aload_n 0 0 hX dX9_feature_21 rfl rfl ?_
      obtain ⟨g8, hf⟩ := q_gd_some hf
      refine v_getA hX fa_RX9_12 (fun _ _ => rfl) g1 g8 (by decide) dX9_feature_22 ?_
      refine v_aload_n 0 0 hX dX9_feature_25 rfl rfl ?_
      obtain ⟨g9, hf⟩ := q_gd_some hf
      refine v_getA hX fa_RX9_63 (fun _ _ => rfl) g1 g9 (by decide) dX9_feature_26 ?_
      refine v_iload_n 1 1 hX dX9_feature_29 rfl rfl ?_
      obtain ⟨r10, h11, hf⟩ := q_bd_some hf
      refine v_callV (As := [.ref (R a0 8), .int (q_i a1)]) (rest := []) (st1 := [.int (q_i r10)]) (some (.int (q_i r10))) hX mv_RX9_99 (c_X0_featureIn h11) ⟨rfl, rfl⟩ ⟨Nat.le_of_ble_eq_true rfl, Nat.le_of_ble_eq_true rfl⟩ g8 rfl rfl (Nat.le_of_ble_eq_true rfl) ⟨Nat.le_of_ble_eq_true rfl, Nat.le_of_ble_eq_true rfl⟩ dX9_feature_30 rfl ?_
      refine v_sipush 10000 hX dX9_feature_33 (by decide) ?_
      refine v_iadd hX dX9_feature_36 ?_
      cases hf
      exact v_iret hX hE (Nat.le_of_ble_eq_true rfl) (Nat.le_of_ble_eq_true rfl) dX9_feature_37
noncomputable def f_X9_addCalibration (S : q_S) (R : q_HR) (I : q_HI) (a0 : Nat) : Option (Int × q_HR × q_HI) := q_gd (S.1 a0 = 10) (q_gd (r_i (I a0 9)) (if I a0 9 = 0 then some ((-5), R, I) else q_gd (S.1 (R a0 0) = 1) (q_gd (S.1 (R (R a0 0) 1) = 9) (q_bd (f_X8_isFull S R I (R (R a0 0) 1)) fun r6 => q_gd (r_i r6) (if r6 = 0 then q_gd (S.1 (R a0 8) = 6) (q_bd3 (f_X0_addToFit S R I (R a0 0) (R a0 8)) fun r11 R12 I13 => some (r11, R12, I13)) else some ((-4), R, I))))))
abbrev rmX9_addCalibration : Room := { frames := 4, cells := 0, slots := 0, locals := 93 }
set_option maxRecDepth 20000 in
theorem c_X9_addCalibration {S : q_S} {R : q_HR} {I : q_HI} {a0 : Nat} {rz : Int} {Rz : q_HR} {Iz : q_HI} (hf : f_X9_addCalibration S R I a0 = some (rz, Rz, Iz)) : ∀ (l : Launch) (D : va_G) (cy : Nat → ClassId) (B : Nat), Met l yX9_addCalibration [Cond.code yX9_addCalibration cX9_addCalibration 1 (some .int)] rmX9_addCalibration (q_Pc B D cy [.ref a0] S R I) (q_Qc B D cy (some (.int (q_i rz))) S Rz Iz) 0 0 (fun q => B ≤ q) := by
  refine q_met (lv := [(0, .ref a0)]) (own := RX9) (nm := "addCalibration") (by decide) rfl rfl (Nat.le_of_ble_eq_true rfl) rfl (fun X hX hE => ?_)
  unfold f_X9_addCalibration at hf
  refine v_aload_n 0 0 hX dX9_addCalibration_0 rfl rfl ?_
  obtain ⟨g1, hf⟩ := q_gd_some hf
  refine v_getI hX fa_RX9_91 (fun _ _ => rfl) g1 dX9_addCalibration_1 ?_
  obtain ⟨g2, hf⟩ := q_gd_some hf
  refine v_if_ne (tgt := 10) hX g2 dX9_addCalibration_4 (by decide) (fun c3 => ?_) (fun c3 => ?_)
  · replace hf := q_ifp c3 hf
    refine v_bipush (-5) hX dX9_addCalibration_7 (by decide) ?_
    cases hf
    exact v_iret hX hE (Nat.le_of_ble_eq_true rfl) (Nat.le_of_ble_eq_true rfl) dX9_addCalibration_9
  · replace hf := q_ifn c3 hf
    refine v_aload_n 0 0 hX dX9_addCalibration_10 rfl rfl ?_
    obtain ⟨g4, hf⟩ := q_gd_some hf
    refine v_getA hX fa_RX9_12 (fun _ _ => rfl) g1 g4 (by decide) dX9_addCalibration_11 ?_
    obtain ⟨g5, hf⟩ := q_gd_some hf
    refine v_getA hX fa_RX9_102 (fun _ _ => rfl) g4 g5 (by decide) dX9_addCalibration_14 ?_
    obtain ⟨r6, h7, hf⟩ := q_bd_some hf
    refine v_callV (As := []) (rest := []) (st1 := [.int (q_i r6)]) (some (.int (q_i r6))) hX mv_RX9_106 (c_X8_isFull h7) ⟨rfl, rfl⟩ ⟨Nat.le_of_ble_eq_true rfl, Nat.le_of_ble_eq_true rfl⟩ g5 rfl rfl (Nat.le_of_ble_eq_true rfl) ⟨Nat.le_of_ble_eq_true rfl, Nat.le_of_ble_eq_true rfl⟩ dX9_addCalibration_17 rfl ?_
    obtain ⟨g8, hf⟩ := q_gd_some hf
    refine v_if_eq (tgt := 26) hX g8 dX9_addCalibration_20 (by decide) (fun c9 => ?_) (fun c9 => ?_)
    · replace hf := q_ifp c9 hf
      refine v_aload_n 0 0 hX dX9_addCalibration_26 rfl rfl ?_
      refine v_getA hX fa_RX9_12 (fun _ _ => rfl) g1 g4 (by decide) dX9_addCalibration_27 ?_
      refine v_aload_n 0 0 hX dX9_addCalibration_30 rfl rfl ?_
      obtain ⟨g10, hf⟩ := q_gd_some hf
      refine v_getA hX fa_RX9_63 (fun _ _ => rfl) g1 g10 (by decide) dX9_addCalibration_31 ?_
      obtain ⟨r11, R12, I13, h14, hf⟩ := q_bd3_some hf
      refine v_callV (As := [.ref (R a0 8)]) (rest := []) (st1 := [.int (q_i r11)]) (some (.int (q_i r11))) hX mv_RX9_112 (c_X0_addToFit h14) ⟨rfl, rfl⟩ ⟨Nat.le_of_ble_eq_true rfl, Nat.le_of_ble_eq_true rfl⟩ g4 rfl rfl (Nat.le_of_ble_eq_true rfl) ⟨Nat.le_of_ble_eq_true rfl, Nat.le_of_ble_eq_true rfl⟩ dX9_addCalibration_34 rfl ?_
      cases hf
      exact v_iret hX hE (Nat.le_of_ble_eq_true rfl) (Nat.le_of_ble_eq_true rfl) dX9_addCalibration_37
    · replace hf := q_ifn c9 hf
      refine v_bipush (-4) hX dX9_addCalibration_23 (by decide) ?_
      cases hf
      exact v_iret hX hE (Nat.le_of_ble_eq_true rfl) (Nat.le_of_ble_eq_true rfl) dX9_addCalibration_25
noncomputable def f_X9_removeCalibration (S : q_S) (R : q_HR) (I : q_HI) (a0 : Nat) : Option (Int × q_HR × q_HI) := q_gd (S.1 a0 = 10) (q_gd (S.1 (R a0 0) = 1) (q_gd (S.1 (R (R a0 0) 1) = 9) (q_gd (r_i (I (R (R a0 0) 1) 2)) (if I (R (R a0 0) 1) 2 = 0 then some ((-2), R, I) else q_bd3 (f_X0_removeFromFit S R I (R a0 0)) fun r6 R7 I8 => some (r6, R7, I8)))))
abbrev rmX9_removeCalibration : Room := { frames := 4, cells := 0, slots := 0, locals := 92 }
set_option maxRecDepth 20000 in
theorem c_X9_removeCalibration {S : q_S} {R : q_HR} {I : q_HI} {a0 : Nat} {rz : Int} {Rz : q_HR} {Iz : q_HI} (hf : f_X9_removeCalibration S R I a0 = some (rz, Rz, Iz)) : ∀ (l : Launch) (D : va_G) (cy : Nat → ClassId) (B : Nat), Met l yX9_removeCalibration [Cond.code yX9_removeCalibration cX9_removeCalibration 1 (some .int)] rmX9_removeCalibration (q_Pc B D cy [.ref a0] S R I) (q_Qc B D cy (some (.int (q_i rz))) S Rz Iz) 0 0 (fun q => B ≤ q) := by
  refine q_met (lv := [(0, .ref a0)]) (own := RX9) (nm := "removeCalibration") (by decide) rfl rfl (Nat.le_of_ble_eq_true rfl) rfl (fun X hX hE => ?_)
  unfold f_X9_removeCalibration at hf
  refine v_aload_n 0 0 hX dX9_removeCalibration_0 rfl rfl ?_
  obtain ⟨g1, hf⟩ := q_gd_some hf
  obtain ⟨g2, hf⟩ := q_gd_some hf
  refine v_getA hX fa_RX9_12 (fun _ _ => rfl) g1 g2 (by decide) dX9_removeCalibration_1 ?_
  obtain ⟨g3, hf⟩ := q_gd_some hf
  refine v_getA hX fa_RX9_102 (fun _ _ => rfl) g2 g3 (by decide) dX9_removeCalibration_4 ?_
  refine v_getI hX fa_RX9_116 (fun _ _ => rfl) g3 dX9_removeCalibration_7 ?_
  obtain ⟨g4, hf⟩ := q_gd_some hf
  refine v_if_ne (tgt := 16) hX g4 dX9_removeCalibration_10 (by decide) (fun c5 => ?_) (fun c5 => ?_)
  · replace hf := q_ifp c5 hf
    refine v_bipush (-2) hX dX9_removeCalibration_13 (by decide) ?_
    cases hf
    exact v_iret hX hE (Nat.le_of_ble_eq_true rfl) (Nat.le_of_ble_eq_true rfl) dX9_removeCalibration_15
  · replace hf := q_ifn c5 hf
    refine v_aload_n 0 0 hX dX9_removeCalibration_16 rfl rfl ?_
    refine v_getA hX fa_RX9_12 (fun _ _ => rfl) g1 g2 (by decide) dX9_removeCalibration_17 ?_
    obtain ⟨r6, R7, I8, h9, hf⟩ := q_bd3_some hf
    refine v_callV (As := []) (rest := []) (st1 := [.int (q_i r6)]) (some (.int (q_i r6))) hX mv_RX9_119 (c_X0_removeFromFit h9) ⟨rfl, rfl⟩ ⟨Nat.le_of_ble_eq_true rfl, Nat.le_of_ble_eq_true rfl⟩ g2 rfl rfl (Nat.le_of_ble_eq_true rfl) ⟨Nat.le_of_ble_eq_true rfl, Nat.le_of_ble_eq_true rfl⟩ dX9_removeCalibration_20 rfl ?_
    cases hf
    exact v_iret hX hE (Nat.le_of_ble_eq_true rfl) (Nat.le_of_ble_eq_true rfl) dX9_removeCalibration_23
noncomputable def f_X9_humiditySlope (S : q_S) (R : q_HR) (I : q_HI) (a0 : Nat) (a1 : Int) : Option (Int) := q_gd (S.1 a0 = 10) (q_bd (f_X9_hasSensor S R I a0 a1) fun r2 => q_gd (r_i r2) (if r2 = 0 then some (-2) else q_gd (S.1 (R a0 0) = 1) (q_gd (r_l (I (R a0 0) 4)) (if I (R a0 0) 4 = 0 then some (-1) else q_gd (S.1 (R (R a0 0) 3) = 13) (q_gd ((0 : Int) ≤ a1 ∧ a1 < (S.2.1 (R (R a0 0) 3) : Int)) (q_bd (f_X9_quotient (1000 * (I (R (R a0 0) 3) (Int.toNat a1))) (I (R a0 0) 4)) fun r11 => some (r11 + 10000000)))))))
abbrev rmX9_humiditySlope : Room := { frames := 1, cells := 0, slots := 0, locals := 25 }
set_option maxRecDepth 20000 in
theorem c_X9_humiditySlope {S : q_S} {R : q_HR} {I : q_HI} {a0 : Nat} {a1 : Int} {rz : Int} (hf : f_X9_humiditySlope S R I a0 a1 = some rz) : ∀ (l : Launch) (D : va_G) (cy : Nat → ClassId) (B : Nat), Met l yX9_humiditySlope [Cond.code yX9_humiditySlope cX9_humiditySlope 2 (some .int)] rmX9_humiditySlope (q_Pc B D cy [.ref a0, .int (q_i a1)] S R I) (q_Qc B D cy (some (.int (q_i rz))) S R I) 0 0 (fun q => B ≤ q) := by
  refine q_met (lv := [(0, .ref a0), (1, .int (q_i a1))]) (own := RX9) (nm := "humiditySlope") (by decide) rfl rfl (Nat.le_of_ble_eq_true rfl) rfl (fun X hX hE => ?_)
  unfold f_X9_humiditySlope at hf
  refine v_aload_n 0 0 hX dX9_humiditySlope_0 rfl rfl ?_
  refine v_iload_n 1 1 hX dX9_humiditySlope_1 rfl rfl ?_
  obtain ⟨g1, hf⟩ := q_gd_some hf
  obtain ⟨r2, h3, hf⟩ := q_bd_some hf
  refine v_callV (As := [.int (q_i a1)]) (rest := []) (st1 := [.int (q_i r2)]) (some (.int (q_i r2))) hX mv_RX9_79 (c_X9_hasSensor h3) ⟨rfl, rfl⟩ ⟨Nat.le_of_ble_eq_true rfl, Nat.le_of_ble_eq_true rfl⟩ g1 rfl rfl (Nat.le_of_ble_eq_true rfl) ⟨Nat.le_of_ble_eq_true rfl, Nat.le_of_ble_eq_true rfl⟩ dX9_humiditySlope_2 rfl ?_
  obtain ⟨g4, hf⟩ := q_gd_some hf
  refine v_if_ne (tgt := 11) hX g4 dX9_humiditySlope_5 (by decide) (fun c5 => ?_) (fun c5 => ?_)
  · replace hf := q_ifp c5 hf
    refine v_bipush (-2) hX dX9_humiditySlope_8 (by decide) ?_
    cases hf
    exact v_iret hX hE (Nat.le_of_ble_eq_true rfl) (Nat.le_of_ble_eq_true rfl) dX9_humiditySlope_10
  · replace hf := q_ifn c5 hf
    refine v_aload_n 0 0 hX dX9_humiditySlope_11 rfl rfl ?_
    obtain ⟨g6, hf⟩ := q_gd_some hf
    refine v_getA hX fa_RX9_12 (fun _ _ => rfl) g1 g6 (by decide) dX9_humiditySlope_12 ?_
    refine v_getJ hX fa_RX9_123 (fun _ _ => rfl) g6 dX9_humiditySlope_15 ?_
    refine v_lconst 0 hX dX9_humiditySlope_18 (by decide) ?_
    obtain ⟨g7, hf⟩ := q_gd_some hf
    refine v_lcmp hX g7 (by unfold r_l; omega) dX9_humiditySlope_19 ?_
    refine v_ifc_ne (tgt := 25) hX dX9_humiditySlope_20 (by decide) (fun c8 => ?_) (fun c8 => ?_)
    · replace hf := q_ifp c8 hf
      refine v_iconst hX dX9_humiditySlope_23 ?_
      cases hf
      exact v_iret hX hE (Nat.le_of_ble_eq_true rfl) (Nat.le_of_ble_eq_true rfl) dX9_humiditySlope_24
    · replace hf := q_ifn c8 hf
      refine v_ldc2 1000 hX kl_RX9_127 (by decide) dX9_humiditySlope_25 ?_
      refine v_aload_n 0 0 hX dX9_humiditySlope_28 rfl rfl ?_
      refine v_getA hX fa_RX9_12 (fun _ _ => rfl) g1 g6 (by decide) dX9_humiditySlope_29 ?_
      obtain ⟨g9, hf⟩ := q_gd_some hf
      refine v_getA hX fa_RX9_129 (fun _ _ => rfl) g6 g9 (by decide) dX9_humiditySlope_32 ?_
      refine v_iload_n 1 1 hX dX9_humiditySlope_35 rfl rfl ?_
      obtain ⟨g10, hf⟩ := q_gd_some hf
      refine v_laload hX g9 g10 dX9_humiditySlope_36 ?_
      refine v_lmul hX dX9_humiditySlope_37 ?_
      refine v_aload_n 0 0 hX dX9_humiditySlope_38 rfl rfl ?_
      refine v_getA hX fa_RX9_12 (fun _ _ => rfl) g1 g6 (by decide) dX9_humiditySlope_39 ?_
      refine v_getJ hX fa_RX9_123 (fun _ _ => rfl) g6 dX9_humiditySlope_42 ?_
      obtain ⟨r11, h12, hf⟩ := q_bd_some hf
      refine v_callS (As := [.long (q_l (1000 * (I (R (R a0 0) 3) (Int.toNat a1)))), .long (q_l (I (R a0 0) 4))]) (rest := []) (st1 := [.long (q_l r11)]) (some (.long (q_l r11))) hX ms_RX9_133 (c_X9_quotient h12) ⟨rfl, rfl⟩ ⟨Nat.le_of_ble_eq_true rfl, Nat.le_of_ble_eq_true rfl⟩ rfl rfl (Nat.le_of_ble_eq_true rfl) ⟨Nat.le_of_ble_eq_true rfl, Nat.le_of_ble_eq_true rfl⟩ dX9_humiditySlope_45 rfl ?_
      refine v_l2i hX dX9_humiditySlope_48 ?_
      refine v_ldc 10000000 hX kc_RX9_137 (by decide) dX9_humiditySlope_49 ?_
      refine v_iadd hX dX9_humiditySlope_51 ?_
      cases hf
      exact v_iret hX hE (Nat.le_of_ble_eq_true rfl) (Nat.le_of_ble_eq_true rfl) dX9_humiditySlope_52
noncomputable def f_X9_useHumidity (S : q_S) (R : q_HR) (I : q_HI) (a0 : Nat) (a1 : Int) : Option (Int × q_HI) := q_gd (S.1 a0 = 10) (q_gd (S.1 (R a0 0) = 1) (q_gd (r_i (I (R a0 0) 5)) (if I (R a0 0) 5 = 0 then q_gd (a1 = 0 ∨ a1 = 1) (q_lt (q_up I (R a0 0) 5 a1) fun I6 => some (0, I6)) else q_gd (a1 = 0 ∨ a1 = 1) (q_lt (q_up I (R a0 0) 5 a1) fun I9 => some (1, I9)))))
abbrev rmX9_useHumidity : Room := { frames := 0, cells := 0, slots := 0, locals := 0 }
set_option maxRecDepth 20000 in
theorem c_X9_useHumidity {S : q_S} {R : q_HR} {I : q_HI} {a0 : Nat} {a1 : Int} {rz : Int} {Iz : q_HI} (hf : f_X9_useHumidity S R I a0 a1 = some (rz, Iz)) : ∀ (l : Launch) (D : va_G) (cy : Nat → ClassId) (B : Nat), Met l yX9_useHumidity [Cond.code yX9_useHumidity cX9_useHumidity 3 (some .int)] rmX9_useHumidity (q_Pc B D cy [.ref a0, .int (q_i a1)] S R I) (q_Qc B D cy (some (.int (q_i rz))) S R Iz) 0 0 (fun q => B ≤ q) := by
  refine q_met (lv := [(0, .ref a0), (1, .int (q_i a1))]) (own := RX9) (nm := "useHumidity") (by decide) rfl rfl (Nat.le_of_ble_eq_true rfl) rfl (fun X hX hE => ?_)
  unfold f_X9_useHumidity at hf
  refine v_aload_n 0 0 hX dX9_useHumidity_0 rfl rfl ?_
  obtain ⟨g1, hf⟩ := q_gd_some hf
  obtain ⟨g2, hf⟩ := q_gd_some hf
  refine v_getA hX fa_RX9_12 (fun _ _ => rfl) g1 g2 (by decide) dX9_useHumidity_1 ?_
  refine v_getI hX fa_RX9_138 (fun _ _ => rfl) g2 dX9_useHumidity_4 ?_
  obtain ⟨g3, hf⟩ := q_gd_some hf
  refine v_if_eq (tgt := 14) hX g3 dX9_useHumidity_7 (by decide) (fun c4 => ?_) (fun c4 => ?_)
  · replace hf := q_ifp c4 hf
    refine v_iconst hX dX9_useHumidity_14 ?_
    refine v_istore_n 2 (lw := [(2, .int (q_i 0)), (0, .ref a0), (1, .int (q_i a1))]) hX dX9_useHumidity_15 rfl (by decide) rfl ?_
    refine v_aload_n 0 1 hX dX9_useHumidity_16 rfl rfl ?_
    refine v_getA hX fa_RX9_12 (fun _ _ => rfl) g1 g2 (by decide) dX9_useHumidity_17 ?_
    refine v_iload_n 1 2 hX dX9_useHumidity_20 rfl rfl ?_
    obtain ⟨g5, hf⟩ := q_gd_some hf
    refine v_putZ hX fa_RX9_138 rfl g5 g2 dX9_useHumidity_21 ?_
    obtain ⟨I6, e7, hf⟩ := q_lt_nm hf
    rw [e7]
    refine v_iload_n 2 0 hX dX9_useHumidity_24 rfl rfl ?_
    cases hf
    exact v_iret hX hE (Nat.le_of_ble_eq_true rfl) (Nat.le_of_ble_eq_true rfl) dX9_useHumidity_25
  · replace hf := q_ifn c4 hf
    refine v_iconst hX dX9_useHumidity_10 ?_
    refine v_goto (tgt := 15) hX dX9_useHumidity_11 (by decide) ?_
    refine v_istore_n 2 (lw := [(2, .int (q_i 1)), (0, .ref a0), (1, .int (q_i a1))]) hX dX9_useHumidity_15 rfl (by decide) rfl ?_
    refine v_aload_n 0 1 hX dX9_useHumidity_16 rfl rfl ?_
    refine v_getA hX fa_RX9_12 (fun _ _ => rfl) g1 g2 (by decide) dX9_useHumidity_17 ?_
    refine v_iload_n 1 2 hX dX9_useHumidity_20 rfl rfl ?_
    obtain ⟨g8, hf⟩ := q_gd_some hf
    refine v_putZ hX fa_RX9_138 rfl g8 g2 dX9_useHumidity_21 ?_
    obtain ⟨I9, e10, hf⟩ := q_lt_nm hf
    rw [e10]
    refine v_iload_n 2 0 hX dX9_useHumidity_24 rfl rfl ?_
    cases hf
    exact v_iret hX hE (Nat.le_of_ble_eq_true rfl) (Nat.le_of_ble_eq_true rfl) dX9_useHumidity_25
noncomputable def f_X9_addReference (S : q_S) (R : q_HR) (I : q_HI) (a0 : Nat) (a1 : Int) : Option (Int × q_HR × q_HI) := q_gd (S.1 a0 = 10) (q_gd (r_i (I a0 9)) (if I a0 9 = 0 then some ((-5), R, I) else q_bd (f_X9_isWithin a1 0 999) fun r4 => q_gd (r_i r4) (if r4 = 0 then some ((-3), R, I) else q_gd (S.1 (R a0 1) = 2) (q_bd (f_X1_latestTime S R I (R a0 1)) fun r9 => q_gd (r_i a1) (q_gd (r_i r9) (if r9 < a1 then q_gd (S.1 (R (R a0 1) 0) = 9) (q_bd (f_X8_isFull S R I (R (R a0 1) 0)) fun r15 => q_gd (r_i r15) (if r15 = 0 then q_gd (S.1 (R a0 8) = 6) (q_bd3 (f_X1_append S R I (R a0 1) (R a0 8) a1) fun r20 R21 I22 => some (r20, R21, I22)) else some ((-4), R, I))) else some ((-3), R, I)))))))
abbrev rmX9_addReference : Room := { frames := 2, cells := 0, slots := 0, locals := 43 }
set_option maxRecDepth 20000 in
theorem c_X9_addReference {S : q_S} {R : q_HR} {I : q_HI} {a0 : Nat} {a1 : Int} {rz : Int} {Rz : q_HR} {Iz : q_HI} (hf : f_X9_addReference S R I a0 a1 = some (rz, Rz, Iz)) : ∀ (l : Launch) (D : va_G) (cy : Nat → ClassId) (B : Nat), Met l yX9_addReference [Cond.code yX9_addReference cX9_addReference 2 (some .int)] rmX9_addReference (q_Pc B D cy [.ref a0, .int (q_i a1)] S R I) (q_Qc B D cy (some (.int (q_i rz))) S Rz Iz) 0 0 (fun q => B ≤ q) := by
  refine q_met (lv := [(0, .ref a0), (1, .int (q_i a1))]) (own := RX9) (nm := "addReference") (by decide) rfl rfl (Nat.le_of_ble_eq_true rfl) rfl (fun X hX hE => ?_)
  unfold f_X9_addReference at hf
  refine v_aload_n 0 0 hX dX9_addReference_0 rfl rfl ?_
  obtain ⟨g1, hf⟩ := q_gd_some hf
  refine v_getI hX fa_RX9_91 (fun _ _ => rfl) g1 dX9_addReference_1 ?_
  obtain ⟨g2, hf⟩ := q_gd_some hf
  refine v_if_ne (tgt := 10) hX g2 dX9_addReference_4 (by decide) (fun c3 => ?_) (fun c3 => ?_)
  · replace hf := q_ifp c3 hf
    refine v_bipush (-5) hX dX9_addReference_7 (by decide) ?_
    cases hf
    exact v_iret hX hE (Nat.le_of_ble_eq_true rfl) (Nat.le_of_ble_eq_true rfl) dX9_addReference_9
  · replace hf := q_ifn c3 hf
    refine v_iload_n 1 1 hX dX9_addReference_10 rfl rfl ?_
    refine v_iconst hX dX9_addReference_11 ?_
    refine v_sipush 999 hX dX9_addReference_12 (by decide) ?_
    obtain ⟨r4, h5, hf⟩ := q_bd_some hf
    refine v_callS (As := [.int (q_i a1), .int (q_i 0), .int (q_i 999)]) (rest := []) (st1 := [.int (q_i r4)]) (some (.int (q_i r4))) hX ms_RX9_71 (c_X9_isWithin h5) ⟨rfl, rfl⟩ ⟨Nat.le_of_ble_eq_true rfl, Nat.le_of_ble_eq_true rfl⟩ rfl rfl (Nat.le_of_ble_eq_true rfl) ⟨Nat.le_of_ble_eq_true rfl, Nat.le_of_ble_eq_true rfl⟩ dX9_addReference_15 rfl ?_
    obtain ⟨g6, hf⟩ := q_gd_some hf
    refine v_if_eq (tgt := 32) hX g6 dX9_addReference_18 (by decide) (fun c7 => ?_) (fun c7 => ?_)
    · replace hf := q_ifp c7 hf
      refine v_bipush (-3) hX dX9_addReference_32 (by decide) ?_
      cases hf
      exact v_iret hX hE (Nat.le_of_ble_eq_true rfl) (Nat.le_of_ble_eq_true rfl) dX9_addReference_34
    · replace hf := q_ifn c7 hf
      refine v_iload_n 1 1 hX dX9_addReference_21 rfl rfl ?_
      refine v_aload_n 0 0 hX dX9_addReference_22 rfl rfl ?_
      obtain ⟨g8, hf⟩ := q_gd_some hf
      refine v_getA hX fa_RX9_19 (fun _ _ => rfl) g1 g8 (by decide) dX9_addReference_23 ?_
      obtain ⟨r9, h10, hf⟩ := q_bd_some hf
      refine v_callV (As := []) (rest := [.int (q_i a1)]) (st1 := [.int (q_i r9), .int (q_i a1)]) (some (.int (q_i r9))) hX mv_RX9_141 (c_X1_latestTime h10) ⟨rfl, rfl⟩ ⟨Nat.le_of_ble_eq_true rfl, Nat.le_of_ble_eq_true rfl⟩ g8 rfl rfl (Nat.le_of_ble_eq_true rfl) ⟨Nat.le_of_ble_eq_true rfl, Nat.le_of_ble_eq_true rfl⟩ dX9_addReference_26 rfl ?_
      obtain ⟨g11, hf⟩ := q_gd_some hf
      obtain ⟨g12, hf⟩ := q_gd_some hf
      refine v_icmp_gt (tgt := 35) hX g11 g12 dX9_addReference_29 (by decide) (fun c13 => ?_) (fun c13 => ?_)
      · replace hf := q_ifp c13 hf
        refine v_aload_n 0 0 hX dX9_addReference_35 rfl rfl ?_
        refine v_getA hX fa_RX9_19 (fun _ _ => rfl) g1 g8 (by decide) dX9_addReference_36 ?_
        obtain ⟨g14, hf⟩ := q_gd_some hf
        refine v_getA hX fa_RX9_144 (fun _ _ => rfl) g8 g14 (by decide) dX9_addReference_39 ?_
        obtain ⟨r15, h16, hf⟩ := q_bd_some hf
        refine v_callV (As := []) (rest := []) (st1 := [.int (q_i r15)]) (some (.int (q_i r15))) hX mv_RX9_106 (c_X8_isFull h16) ⟨rfl, rfl⟩ ⟨Nat.le_of_ble_eq_true rfl, Nat.le_of_ble_eq_true rfl⟩ g14 rfl rfl (Nat.le_of_ble_eq_true rfl) ⟨Nat.le_of_ble_eq_true rfl, Nat.le_of_ble_eq_true rfl⟩ dX9_addReference_42 rfl ?_
        obtain ⟨g17, hf⟩ := q_gd_some hf
        refine v_if_eq (tgt := 51) hX g17 dX9_addReference_45 (by decide) (fun c18 => ?_) (fun c18 => ?_)
        · replace hf := q_ifp c18 hf
          refine v_aload_n 0 0 hX dX9_addReference_51 rfl rfl ?_
          refine v_getA hX fa_RX9_19 (fun _ _ => rfl) g1 g8 (by decide) dX9_addReference_52 ?_
          refine v_aload_n 0 0 hX dX9_addReference_55 rfl rfl ?_
          obtain ⟨g19, hf⟩ := q_gd_some hf
          refine v_getA hX fa_RX9_63 (fun _ _ => rfl) g1 g19 (by decide) dX9_addReference_56 ?_
          refine v_iload_n 1 1 hX dX9_addReference_59 rfl rfl ?_
          obtain ⟨r20, R21, I22, h23, hf⟩ := q_bd3_some hf
          refine v_callV (As := [.ref (R a0 8), .int (q_i a1)]) (rest := []) (st1 := [.int (q_i r20)]) (some (.int (q_i r20))) hX mv_RX9_147 (c_X1_append h23) ⟨rfl, rfl⟩ ⟨Nat.le_of_ble_eq_true rfl, Nat.le_of_ble_eq_true rfl⟩ g8 rfl rfl (Nat.le_of_ble_eq_true rfl) ⟨Nat.le_of_ble_eq_true rfl, Nat.le_of_ble_eq_true rfl⟩ dX9_addReference_60 rfl ?_
          cases hf
          exact v_iret hX hE (Nat.le_of_ble_eq_true rfl) (Nat.le_of_ble_eq_true rfl) dX9_addReference_63
        · replace hf := q_ifn c18 hf
          refine v_bipush (-4) hX dX9_addReference_48 (by decide) ?_
          cases hf
          exact v_iret hX hE (Nat.le_of_ble_eq_true rfl) (Nat.le_of_ble_eq_true rfl) dX9_addReference_50
      · replace hf := q_ifn c13 hf
        refine v_bipush (-3) hX dX9_addReference_32 (by decide) ?_
        cases hf
        exact v_iret hX hE (Nat.le_of_ble_eq_true rfl) (Nat.le_of_ble_eq_true rfl) dX9_addReference_34
noncomputable def f_X9_removeReference (S : q_S) (R : q_HR) (I : q_HI) (a0 : Nat) : Option (Int × q_HR × q_HI) := q_gd (S.1 a0 = 10) (q_gd (S.1 (R a0 1) = 2) (q_gd (S.1 (R (R a0 1) 0) = 9) (q_gd (r_i (I (R (R a0 1) 0) 2)) (if I (R (R a0 1) 0) 2 = 0 then some ((-2), R, I) else q_bd2 (f_X8_removeAt S R I (R (R a0 1) 0) ((I (R (R a0 1) 0) 2) - 1)) fun R6 I7 => q_gd (S.1 (R6 a0 1) = 2) (q_gd (S.1 (R6 (R6 a0 1) 0) = 9) (some (I7 (R6 (R6 a0 1) 0) 2, R6, I7)))))))
abbrev rmX9_removeReference : Room := { frames := 1, cells := 0, slots := 0, locals := 22 }
set_option maxRecDepth 20000 in
theorem c_X9_removeReference {S : q_S} {R : q_HR} {I : q_HI} {a0 : Nat} {rz : Int} {Rz : q_HR} {Iz : q_HI} (hf : f_X9_removeReference S R I a0 = some (rz, Rz, Iz)) : ∀ (l : Launch) (D : va_G) (cy : Nat → ClassId) (B : Nat), Met l yX9_removeReference [Cond.code yX9_removeReference cX9_removeReference 1 (some .int)] rmX9_removeReference (q_Pc B D cy [.ref a0] S R I) (q_Qc B D cy (some (.int (q_i rz))) S Rz Iz) 0 0 (fun q => B ≤ q) := by
  refine q_met (lv := [(0, .ref a0)]) (own := RX9) (nm := "removeReference") (by decide) rfl rfl (Nat.le_of_ble_eq_true rfl) rfl (fun X hX hE => ?_)
  unfold f_X9_removeReference at hf
  refine v_aload_n 0 0 hX dX9_removeReference_0 rfl rfl ?_
  obtain ⟨g1, hf⟩ := q_gd_some hf
  obtain ⟨g2, hf⟩ := q_gd_some hf
  refine v_getA hX fa_RX9_19 (fun _ _ => rfl) g1 g2 (by decide) dX9_removeReference_1 ?_
  obtain ⟨g3, hf⟩ := q_gd_some hf
  refine v_getA hX fa_RX9_144 (fun _ _ => rfl) g2 g3 (by decide) dX9_removeReference_4 ?_
  refine v_getI hX fa_RX9_116 (fun _ _ => rfl) g3 dX9_removeReference_7 ?_
  obtain ⟨g4, hf⟩ := q_gd_some hf
  refine v_if_ne (tgt := 16) hX g4 dX9_removeReference_10 (by decide) (fun c5 => ?_) (fun c5 => ?_)
  · replace hf := q_ifp c5 hf
    refine v_bipush (-2) hX dX9_removeReference_13 (by decide) ?_
    cases hf
    exact v_iret hX hE (Nat.le_of_ble_eq_true rfl) (Nat.le_of_ble_eq_true rfl) dX9_removeReference_15
  · replace hf := q_ifn c5 hf
    refine v_aload_n 0 0 hX dX9_removeReference_16 rfl rfl ?_
    refine v_getA hX fa_RX9_19 (fun _ _ => rfl) g1 g2 (by decide) dX9_removeReference_17 ?_
    refine v_getA hX fa_RX9_144 (fun _ _ => rfl) g2 g3 (by decide) dX9_removeReference_20 ?_
    refine v_aload_n 0 0 hX dX9_removeReference_23 rfl rfl ?_
    refine v_getA hX fa_RX9_19 (fun _ _ => rfl) g1 g2 (by decide) dX9_removeReference_24 ?_
    refine v_getA hX fa_RX9_144 (fun _ _ => rfl) g2 g3 (by decide) dX9_removeReference_27 ?_
    refine v_getI hX fa_RX9_116 (fun _ _ => rfl) g3 dX9_removeReference_30 ?_
    refine v_iconst hX dX9_removeReference_33 ?_
    refine v_isub hX dX9_removeReference_34 ?_
    obtain ⟨R6, I7, h8, hf⟩ := q_bd2_some hf
    refine v_callV (As := [.int (q_i ((I (R (R a0 1) 0) 2) - 1))]) (rest := []) (st1 := []) none hX mv_RX9_150 (c_X8_removeAt h8) ⟨rfl, rfl⟩ ⟨Nat.le_of_ble_eq_true rfl, Nat.le_of_ble_eq_true rfl⟩ g3 rfl rfl (Nat.le_of_ble_eq_true rfl) ⟨Nat.le_of_ble_eq_true rfl, Nat.le_of_ble_eq_true rfl⟩ dX9_removeReference_35 rfl ?_
    refine v_aload_n 0 0 hX dX9_removeReference_38 rfl rfl ?_
    obtain ⟨g9, hf⟩ := q_gd_some hf
    refine v_getA hX fa_RX9_19 (fun _ _ => rfl) g1 g9 (by decide) dX9_removeReference_39 ?_
    obtain ⟨g10, hf⟩ := q_gd_some hf
    refine v_getA hX fa_RX9_144 (fun _ _ => rfl) g9 g10 (by decide) dX9_removeReference_42 ?_
    refine v_getI hX fa_RX9_116 (fun _ _ => rfl) g10 dX9_removeReference_45 ?_
    cases hf
    exact v_iret hX hE (Nat.le_of_ble_eq_true rfl) (Nat.le_of_ble_eq_true rfl) dX9_removeReference_48
noncomputable def f_X9_driftComponent (S : q_S) (R : q_HR) (I : q_HI) (a0 : Nat) (a1 : Int) : Option (Int × q_HI) := q_gd (S.1 a0 = 10) (q_bd (f_X9_hasSensor S R I a0 a1) fun r2 => q_gd (r_i r2) (if r2 = 0 then some ((-2), I) else q_gd (S.1 (R a0 1) = 2) (q_gd (S.1 (R a0 0) = 1) (q_bd (f_X1_refresh S R I (R a0 1) (R a0 0)) fun I8 => q_gd (S.1 (R (R a0 1) 5) = 12) (q_gd ((0 : Int) ≤ a1 ∧ a1 < (S.2.1 (R (R a0 1) 5) : Int)) (some ((I8 (R (R a0 1) 5) (Int.toNat a1)) + 1000, I8)))))))
abbrev rmX9_driftComponent : Room := { frames := 5, cells := 0, slots := 0, locals := 120 }
set_option maxRecDepth 20000 in
theorem c_X9_driftComponent {S : q_S} {R : q_HR} {I : q_HI} {a0 : Nat} {a1 : Int} {rz : Int} {Iz : q_HI} (hf : f_X9_driftComponent S R I a0 a1 = some (rz, Iz)) : ∀ (l : Launch) (D : va_G) (cy : Nat → ClassId) (B : Nat), Met l yX9_driftComponent [Cond.code yX9_driftComponent cX9_driftComponent 2 (some .int)] rmX9_driftComponent (q_Pc B D cy [.ref a0, .int (q_i a1)] S R I) (q_Qc B D cy (some (.int (q_i rz))) S R Iz) 0 0 (fun q => B ≤ q) := by
  refine q_met (lv := [(0, .ref a0), (1, .int (q_i a1))]) (own := RX9) (nm := "driftComponent") (by decide) rfl rfl (Nat.le_of_ble_eq_true rfl) rfl (fun X hX hE => ?_)
  unfold f_X9_driftComponent at hf
  refine v_aload_n 0 0 hX dX9_driftComponent_0 rfl rfl ?_
  refine v_iload_n 1 1 hX dX9_driftComponent_1 rfl rfl ?_
  obtain ⟨g1, hf⟩ := q_gd_some hf
  obtain ⟨r2, h3, hf⟩ := q_bd_some hf
  refine v_callV (As := [.int (q_i a1)]) (rest := []) (st1 := [.int (q_i r2)]) (some (.int (q_i r2))) hX mv_RX9_79 (c_X9_hasSensor h3) ⟨rfl, rfl⟩ ⟨Nat.le_of_ble_eq_true rfl, Nat.le_of_ble_eq_true rfl⟩ g1 rfl rfl (Nat.le_of_ble_eq_true rfl) ⟨Nat.le_of_ble_eq_true rfl, Nat.le_of_ble_eq_true rfl⟩ dX9_driftComponent_2 rfl ?_
  obtain ⟨g4, hf⟩ := q_gd_some hf
  refine v_if_ne (tgt := 11) hX g4 dX9_driftComponent_5 (by decide) (fun c5 => ?_) (fun c5 => ?_)
  · replace hf := q_ifp c5 hf
    refine v_bipush (-2) hX dX9_driftComponent_8 (by decide) ?_
    cases hf
    exact v_iret hX hE (Nat.le_of_ble_eq_true rfl) (Nat.le_of_ble_eq_true rfl) dX9_driftComponent_10
  · replace hf := q_ifn c5 hf
    refine v_aload_n 0 0 hX dX9_driftComponent_11 rfl rfl ?_
    obtain ⟨g6, hf⟩ := q_gd_some hf
    refine v_getA hX fa_RX9_19 (fun _ _ => rfl) g1 g6 (by decide) dX9_driftComponent_12 ?_
    refine v_aload_n 0 0 hX dX9_driftComponent_15 rfl rfl ?_
    obtain ⟨g7, hf⟩ := q_gd_some hf
    refine v_getA hX fa_RX9_12 (fun _ _ => rfl) g1 g7 (by decide) dX9_driftComponent_16 ?_
    obtain ⟨I8, h9, hf⟩ := q_bd_some hf
    refine v_callV (As := [.ref (R a0 0)]) (rest := []) (st1 := []) none hX mv_RX9_153 (c_X1_refresh h9) ⟨rfl, rfl⟩ ⟨Nat.le_of_ble_eq_true rfl, Nat.le_of_ble_eq_true rfl⟩ g6 rfl rfl (Nat.le_of_ble_eq_true rfl) ⟨Nat.le_of_ble_eq_true rfl, Nat.le_of_ble_eq_true rfl⟩ dX9_driftComponent_19 rfl ?_
    refine v_aload_n 0 0 hX dX9_driftComponent_22 rfl rfl ?_
    refine v_getA hX fa_RX9_19 (fun _ _ => rfl) g1 g6 (by decide) dX9_driftComponent_23 ?_
    obtain ⟨g10, hf⟩ := q_gd_some hf
    refine v_getA hX fa_RX9_157 (fun _ _ => rfl) g6 g10 (by decide) dX9_driftComponent_26 ?_
    refine v_iload_n 1 1 hX dX9_driftComponent_29 rfl rfl ?_
    obtain ⟨g11, hf⟩ := q_gd_some hf
    refine v_iaload hX g10 g11 dX9_driftComponent_30 ?_
    refine v_sipush 1000 hX dX9_driftComponent_31 (by decide) ?_
    refine v_iadd hX dX9_driftComponent_34 ?_
    cases hf
    exact v_iret hX hE (Nat.le_of_ble_eq_true rfl) (Nat.le_of_ble_eq_true rfl) dX9_driftComponent_35
noncomputable def f_X9_driftPosition (S : q_S) (R : q_HR) (I : q_HI) (a0 : Nat) : Option (Int × q_HI) := q_gd (S.1 a0 = 10) (q_gd (r_i (I a0 9)) (if I a0 9 = 0 then some ((-5), I) else q_gd (S.1 (R a0 1) = 2) (q_gd (S.1 (R a0 0) = 1) (q_bd (f_X1_refresh S R I (R a0 1) (R a0 0)) fun I6 => q_gd (r_i (I6 (R a0 1) 6)) (if I6 (R a0 1) 6 = 0 then some ((-1), I6) else q_gd (S.1 (R a0 8) = 6) (q_gd (S.1 (R a0 7) = 12) (q_bd (f_X0_fillFeatures S R I6 (R a0 0) (R a0 8) (R a0 7)) fun I12 => q_bd (f_X1_positionOf S R I12 (R a0 1) (R a0 7)) fun r14 => some (r14 + 1000000, I12))))))))
abbrev rmX9_driftPosition : Room := { frames := 5, cells := 0, slots := 0, locals := 120 }
set_option maxRecDepth 20000 in
theorem c_X9_driftPosition {S : q_S} {R : q_HR} {I : q_HI} {a0 : Nat} {rz : Int} {Iz : q_HI} (hf : f_X9_driftPosition S R I a0 = some (rz, Iz)) : ∀ (l : Launch) (D : va_G) (cy : Nat → ClassId) (B : Nat), Met l yX9_driftPosition [Cond.code yX9_driftPosition cX9_driftPosition 1 (some .int)] rmX9_driftPosition (q_Pc B D cy [.ref a0] S R I) (q_Qc B D cy (some (.int (q_i rz))) S R Iz) 0 0 (fun q => B ≤ q) := by
  refine q_met (lv := [(0, .ref a0)]) (own := RX9) (nm := "driftPosition") (by decide) rfl rfl (Nat.le_of_ble_eq_true rfl) rfl (fun X hX hE => ?_)
  unfold f_X9_driftPosition at hf
  refine v_aload_n 0 0 hX dX9_driftPosition_0 rfl rfl ?_
  obtain ⟨g1, hf⟩ := q_gd_some hf
  refine v_getI hX fa_RX9_91 (fun _ _ => rfl) g1 dX9_driftPosition_1 ?_
  obtain ⟨g2, hf⟩ := q_gd_some hf
  refine v_if_ne (tgt := 10) hX g2 dX9_driftPosition_4 (by decide) (fun c3 => ?_) (fun c3 => ?_)
  · replace hf := q_ifp c3 hf
    refine v_bipush (-5) hX dX9_driftPosition_7 (by decide) ?_
    cases hf
    exact v_iret hX hE (Nat.le_of_ble_eq_true rfl) (Nat.le_of_ble_eq_true rfl) dX9_driftPosition_9
  · replace hf := q_ifn c3 hf
    refine v_aload_n 0 0 hX dX9_driftPosition_10 rfl rfl ?_
    obtain ⟨g4, hf⟩ := q_gd_some hf
    refine v_getA hX fa_RX9_19 (fun _ _ => rfl) g1 g4 (by decide) dX9_driftPosition_11 ?_
    refine v_aload_n 0 0 hX dX9_driftPosition_14 rfl rfl ?_
    obtain ⟨g5, hf⟩ := q_gd_some hf
    refine v_getA hX fa_RX9_12 (fun _ _ => rfl) g1 g5 (by decide) dX9_driftPosition_15 ?_
    obtain ⟨I6, h7, hf⟩ := q_bd_some hf
    refine v_callV (As := [.ref (R a0 0)]) (rest := []) (st1 := []) none hX mv_RX9_153 (c_X1_refresh h7) ⟨rfl, rfl⟩ ⟨Nat.le_of_ble_eq_true rfl, Nat.le_of_ble_eq_true rfl⟩ g4 rfl rfl (Nat.le_of_ble_eq_true rfl) ⟨Nat.le_of_ble_eq_true rfl, Nat.le_of_ble_eq_true rfl⟩ dX9_driftPosition_18 rfl ?_
    refine v_aload_n 0 0 hX dX9_driftPosition_21 rfl rfl ?_
    refine v_getA hX fa_RX9_19 (fun _ _ => rfl) g1 g4 (by decide) dX9_driftPosition_22 ?_
    refine v_getI hX fa_RX9_160 (fun _ _ => rfl) g4 dX9_driftPosition_25 ?_
    obtain ⟨g8, hf⟩ := q_gd_some hf
    refine v_if_ne (tgt := 33) hX g8 dX9_driftPosition_28 (by decide) (fun c9 => ?_) (fun c9 => ?_)
    · replace hf := q_ifp c9 hf
      refine v_iconst hX dX9_driftPosition_31 ?_
      cases hf
      exact v_iret hX hE (Nat.le_of_ble_eq_true rfl) (Nat.le_of_ble_eq_true rfl) dX9_driftPosition_32
    · replace hf := q_ifn c9 hf
      refine v_aload_n 0 0 hX dX9_driftPosition_33 rfl rfl ?_
      refine v_getA hX fa_RX9_12 (fun _ _ => rfl) g1 g5 (by decide) dX9_driftPosition_34 ?_
      refine v_aload_n 0 0 hX dX9_driftPosition_37 rfl rfl ?_
      obtain ⟨g10, hf⟩ := q_gd_some hf
      refine v_getA hX fa_RX9_63 (fun _ _ => rfl) g1 g10 (by decide) dX9_driftPosition_38 ?_
      refine v_aload_n 0 0 hX dX9_driftPosition_41 rfl rfl ?_
      obtain ⟨g11, hf⟩ := q_gd_some hf
      refine v_getA hX fa_RX9_59 (fun _ _ => rfl) g1 g11 (by decide) dX9_driftPosition_42 ?_
      obtain ⟨I12, h13, hf⟩ := q_bd_some hf
      refine v_callV (As := [.ref (R a0 8), .ref (R a0 7)]) (rest := []) (st1 := []) none hX mv_RX9_163 (c_X0_fillFeatures h13) ⟨rfl, rfl⟩ ⟨Nat.le_of_ble_eq_true rfl, Nat.le_of_ble_eq_true rfl⟩ g5 rfl rfl (Nat.le_of_ble_eq_true rfl) ⟨Nat.le_of_ble_eq_true rfl, Nat.le_of_ble_eq_true rfl⟩ dX9_driftPosition_45 rfl ?_
      refine v_aload_n 0 0 hX dX9_driftPosition_48 rfl rfl ?_
      refine v_getA hX fa_RX9_19 (fun _ _ => rfl) g1 g4 (by decide) dX9_driftPosition_49 ?_
      refine v_aload_n 0 0 hX dX9_driftPosition_52 rfl rfl ?_
      refine v_getA hX fa_RX9_59 (fun _ _ => rfl) g1 g11 (by decide) dX9_driftPosition_53 ?_
      obtain ⟨r14, h15, hf⟩ := q_bd_some hf
      refine v_callV (As := [.ref (R a0 7)]) (rest := []) (st1 := [.int (q_i r14)]) (some (.int (q_i r14))) hX mv_RX9_167 (c_X1_positionOf h15) ⟨rfl, rfl⟩ ⟨Nat.le_of_ble_eq_true rfl, Nat.le_of_ble_eq_true rfl⟩ g4 rfl rfl (Nat.le_of_ble_eq_true rfl) ⟨Nat.le_of_ble_eq_true rfl, Nat.le_of_ble_eq_true rfl⟩ dX9_driftPosition_56 rfl ?_
      refine v_ldc 1000000 hX kc_RX9_171 (by decide) dX9_driftPosition_59 ?_
      refine v_iadd hX dX9_driftPosition_61 ?_
      cases hf
      exact v_iret hX hE (Nat.le_of_ble_eq_true rfl) (Nat.le_of_ble_eq_true rfl) dX9_driftPosition_62
noncomputable def f_X9_useDrift (S : q_S) (R : q_HR) (I : q_HI) (a0 : Nat) (a1 : Int) : Option (Int × q_HI) := q_gd (S.1 a0 = 10) (q_gd (S.1 (R a0 1) = 2) (q_gd (r_i (I (R a0 1) 7)) (if I (R a0 1) 7 = 0 then q_gd (a1 = 0 ∨ a1 = 1) (q_lt (q_up I (R a0 1) 7 a1) fun I6 => some (0, I6)) else q_gd (a1 = 0 ∨ a1 = 1) (q_lt (q_up I (R a0 1) 7 a1) fun I9 => some (1, I9)))))
abbrev rmX9_useDrift : Room := { frames := 0, cells := 0, slots := 0, locals := 0 }
set_option maxRecDepth 20000 in
theorem c_X9_useDrift {S : q_S} {R : q_HR} {I : q_HI} {a0 : Nat} {a1 : Int} {rz : Int} {Iz : q_HI} (hf : f_X9_useDrift S R I a0 a1 = some (rz, Iz)) : ∀ (l : Launch) (D : va_G) (cy : Nat → ClassId) (B : Nat), Met l yX9_useDrift [Cond.code yX9_useDrift cX9_useDrift 3 (some .int)] rmX9_useDrift (q_Pc B D cy [.ref a0, .int (q_i a1)] S R I) (q_Qc B D cy (some (.int (q_i rz))) S R Iz) 0 0 (fun q => B ≤ q) := by
  refine q_met (lv := [(0, .ref a0), (1, .int (q_i a1))]) (own := RX9) (nm := "useDrift") (by decide) rfl rfl (Nat.le_of_ble_eq_true rfl) rfl (fun X hX hE => ?_)
  unfold f_X9_useDrift at hf
  refine v_aload_n 0 0 hX dX9_useDrift_0 rfl rfl ?_
  obtain ⟨g1, hf⟩ := q_gd_some hf
  obtain ⟨g2, hf⟩ := q_gd_some hf
  refine v_getA hX fa_RX9_19 (fun _ _ => rfl) g1 g2 (by decide) dX9_useDrift_1 ?_
  refine v_getI hX fa_RX9_172 (fun _ _ => rfl) g2 dX9_useDrift_4 ?_
  obtain ⟨g3, hf⟩ := q_gd_some hf
  refine v_if_eq (tgt := 14) hX g3 dX9_useDrift_7 (by decide) (fun c4 => ?_) (fun c4 => ?_)
  · replace hf := q_ifp c4 hf
    refine v_iconst hX dX9_useDrift_14 ?_
    refine v_istore_n 2 (lw := [(2, .int (q_i 0)), (0, .ref a0), (1, .int (q_i a1))]) hX dX9_useDrift_15 rfl (by decide) rfl ?_
    refine v_aload_n 0 1 hX dX9_useDrift_16 rfl rfl ?_
    refine v_getA hX fa_RX9_19 (fun _ _ => rfl) g1 g2 (by decide) dX9_useDrift_17 ?_
    refine v_iload_n 1 2 hX dX9_useDrift_20 rfl rfl ?_
    obtain ⟨g5, hf⟩ := q_gd_some hf
    refine v_putZ hX fa_RX9_172 rfl g5 g2 dX9_useDrift_21 ?_
    obtain ⟨I6, e7, hf⟩ := q_lt_nm hf
    rw [e7]
    refine v_iload_n 2 0 hX dX9_useDrift_24 rfl rfl ?_
    cases hf
    exact v_iret hX hE (Nat.le_of_ble_eq_true rfl) (Nat.le_of_ble_eq_true rfl) dX9_useDrift_25
  · replace hf := q_ifn c4 hf
    refine v_iconst hX dX9_useDrift_10 ?_
    refine v_goto (tgt := 15) hX dX9_useDrift_11 (by decide) ?_
    refine v_istore_n 2 (lw := [(2, .int (q_i 1)), (0, .ref a0), (1, .int (q_i a1))]) hX dX9_useDrift_15 rfl (by decide) rfl ?_
    refine v_aload_n 0 1 hX dX9_useDrift_16 rfl rfl ?_
    refine v_getA hX fa_RX9_19 (fun _ _ => rfl) g1 g2 (by decide) dX9_useDrift_17 ?_
    refine v_iload_n 1 2 hX dX9_useDrift_20 rfl rfl ?_
    obtain ⟨g8, hf⟩ := q_gd_some hf
    refine v_putZ hX fa_RX9_172 rfl g8 g2 dX9_useDrift_21 ?_
    obtain ⟨I9, e10, hf⟩ := q_lt_nm hf
    rw [e10]
    refine v_iload_n 2 0 hX dX9_useDrift_24 rfl rfl ?_
    cases hf
    exact v_iret hX hE (Nat.le_of_ble_eq_true rfl) (Nat.le_of_ble_eq_true rfl) dX9_useDrift_25
noncomputable def f_X9_predictedReference (S : q_S) (R : q_HR) (I : q_HI) (a0 : Nat) (a1 : Int) (a2 : Int) : Option (Int × q_HI) := q_gd (S.1 a0 = 10) (q_bd (f_X9_hasSensor S R I a0 a1) fun r2 => q_gd (r_i r2) (if r2 = 0 then some ((-2), I) else q_bd (f_X9_isWithin a2 0 999) fun r6 => q_gd (r_i r6) (if r6 = 0 then some ((-3), I) else q_gd (S.1 (R a0 1) = 2) (q_gd (S.1 (R (R a0 1) 0) = 9) (q_gd (r_i (I (R (R a0 1) 0) 2)) (if 2 ≤ I (R (R a0 1) 0) 2 then q_gd (S.1 (R a0 0) = 1) (q_bd (f_X1_refresh S R I (R a0 1) (R a0 0)) fun I15 => q_bd2 (f_X1_predict S R I15 (R a0 1) a1 a2) fun r17 I18 => some (r17 + 10000000, I18)) else some ((-1), I)))))))
abbrev rmX9_predictedReference : Room := { frames := 5, cells := 0, slots := 0, locals := 120 }
set_option maxRecDepth 20000 in
theorem c_X9_predictedReference {S : q_S} {R : q_HR} {I : q_HI} {a0 : Nat} {a1 : Int} {a2 : Int} {rz : Int} {Iz : q_HI} (hf : f_X9_predictedReference S R I a0 a1 a2 = some (rz, Iz)) : ∀ (l : Launch) (D : va_G) (cy : Nat → ClassId) (B : Nat), Met l yX9_predictedReference [Cond.code yX9_predictedReference cX9_predictedReference 3 (some .int)] rmX9_predictedReference (q_Pc B D cy [.ref a0, .int (q_i a1), .int (q_i a2)] S R I) (q_Qc B D cy (some (.int (q_i rz))) S R Iz) 0 0 (fun q => B ≤ q) := by
  refine q_met (lv := [(0, .ref a0), (1, .int (q_i a1)), (2, .int (q_i a2))]) (own := RX9) (nm := "predictedReference") (by decide) rfl rfl (Nat.le_of_ble_eq_true rfl) rfl (fun X hX hE => ?_)
  unfold f_X9_predictedReference at hf
  refine v_aload_n 0 0 hX dX9_predictedReference_0 rfl rfl ?_
  refine v_iload_n 1 1 hX dX9_predictedReference_1 rfl rfl ?_
  obtain ⟨g1, hf⟩ := q_gd_some hf
  obtain ⟨r2, h3, hf⟩ := q_bd_some hf
  refine v_callV (As := [.int (q_i a1)]) (rest := []) (st1 := [.int (q_i r2)]) (some (.int (q_i r2))) hX mv_RX9_79 (c_X9_hasSensor h3) ⟨rfl, rfl⟩ ⟨Nat.le_of_ble_eq_true rfl, Nat.le_of_ble_eq_true rfl⟩ g1 rfl rfl (Nat.le_of_ble_eq_true rfl) ⟨Nat.le_of_ble_eq_true rfl, Nat.le_of_ble_eq_true rfl⟩ dX9_predictedReference_2 rfl ?_
  obtain ⟨g4, hf⟩ := q_gd_some hf
  refine v_if_ne (tgt := 11) hX g4 dX9_predictedReference_5 (by decide) (fun c5 => ?_) (fun c5 => ?_)
  · replace hf := q_ifp c5 hf
    refine v_bipush (-2) hX dX9_predictedReference_8 (by decide) ?_
    cases hf
    exact v_iret hX hE (Nat.le_of_ble_eq_true rfl) (Nat.le_of_ble_eq_true rfl) dX9_predictedReference_10
  · replace hf := q_ifn c5 hf
    refine v_iload_n 2 2 hX dX9_predictedReference_11 rfl rfl ?_
    refine v_iconst hX dX9_predictedReference_12 ?_
    refine v_sipush 999 hX dX9_predictedReference_13 (by decide) ?_
    obtain ⟨r6, h7, hf⟩ := q_bd_some hf
    refine v_callS (As := [.int (q_i a2), .int (q_i 0), .int (q_i 999)]) (rest := []) (st1 := [.int (q_i r6)]) (some (.int (q_i r6))) hX ms_RX9_71 (c_X9_isWithin h7) ⟨rfl, rfl⟩ ⟨Nat.le_of_ble_eq_true rfl, Nat.le_of_ble_eq_true rfl⟩ rfl rfl (Nat.le_of_ble_eq_true rfl) ⟨Nat.le_of_ble_eq_true rfl, Nat.le_of_ble_eq_true rfl⟩ dX9_predictedReference_16 rfl ?_
    obtain ⟨g8, hf⟩ := q_gd_some hf
    refine v_if_ne (tgt := 25) hX g8 dX9_predictedReference_19 (by decide) (fun c9 => ?_) (fun c9 => ?_)
    · replace hf := q_ifp c9 hf
      refine v_bipush (-3) hX dX9_predictedReference_22 (by decide) ?_
      cases hf
      exact v_iret hX hE (Nat.le_of_ble_eq_true rfl) (Nat.le_of_ble_eq_true rfl) dX9_predictedReference_24
    · replace hf := q_ifn c9 hf
      refine v_aload_n 0 0 hX dX9_predictedReference_25 rfl rfl ?_
      obtain ⟨g10, hf⟩ := q_gd_some hf
      refine v_getA hX fa_RX9_19 (fun _ _ => rfl) g1 g10 (by decide) dX9_predictedReference_26 ?_
      obtain ⟨g11, hf⟩ := q_gd_some hf
      refine v_getA hX fa_RX9_144 (fun _ _ => rfl) g10 g11 (by decide) dX9_predictedReference_29 ?_
      refine v_getI hX fa_RX9_116 (fun _ _ => rfl) g11 dX9_predictedReference_32 ?_
      refine v_iconst hX dX9_predictedReference_35 ?_
      obtain ⟨g12, hf⟩ := q_gd_some hf
      refine v_icmp_ge (tgt := 41) hX g12 (by unfold r_i; omega) dX9_predictedReference_36 (by decide) (fun c13 => ?_) (fun c13 => ?_)
      · replace hf := q_ifp c13 hf
        refine v_aload_n 0 0 hX dX9_predictedReference_41 rfl rfl ?_
        refine v_getA hX fa_RX9_19 (fun _ _ => rfl) g1 g10 (by decide) dX9_predictedReference_42 ?_
        refine v_aload_n 0 0 hX dX9_predictedReference_45 rfl rfl ?_
        obtain ⟨g14, hf⟩ := q_gd_some hf
        refine v_getA hX fa_RX9_12 (fun _ _ => rfl) g1 g14 (by decide) dX9_predictedReference_46 ?_
        obtain ⟨I15, h16, hf⟩ := q_bd_some hf
        refine v_callV (As := [.ref (R a0 0)]) (rest := []) (st1 := []) none hX mv_RX9_153 (c_X1_refresh h16) ⟨rfl, rfl⟩ ⟨Nat.le_of_ble_eq_true rfl, Nat.le_of_ble_eq_true rfl⟩ g10 rfl rfl (Nat.le_of_ble_eq_true rfl) ⟨Nat.le_of_ble_eq_true rfl, Nat.le_of_ble_eq_true rfl⟩ dX9_predictedReference_49 rfl ?_
        refine v_aload_n 0 0 hX dX9_predictedReference_52 rfl rfl ?_
        refine v_getA hX fa_RX9_19 (fun _ _ => rfl) g1 g10 (by decide) dX9_predictedReference_53 ?_
        refine v_iload_n 1 1 hX dX9_predictedReference_56 rfl rfl ?_
        refine v_iload_n 2 2 hX dX9_predictedReference_57 rfl rfl ?_
        obtain ⟨r17, I18, h19, hf⟩ := q_bd2_some hf
        refine v_callV (As := [.int (q_i a1), .int (q_i a2)]) (rest := []) (st1 := [.int (q_i r17)]) (some (.int (q_i r17))) hX mv_RX9_175 (c_X1_predict h19) ⟨rfl, rfl⟩ ⟨Nat.le_of_ble_eq_true rfl, Nat.le_of_ble_eq_true rfl⟩ g10 rfl rfl (Nat.le_of_ble_eq_true rfl) ⟨Nat.le_of_ble_eq_true rfl, Nat.le_of_ble_eq_true rfl⟩ dX9_predictedReference_58 rfl ?_
        refine v_ldc 10000000 hX kc_RX9_137 (by decide) dX9_predictedReference_61 ?_
        refine v_iadd hX dX9_predictedReference_63 ?_
        cases hf
        exact v_iret hX hE (Nat.le_of_ble_eq_true rfl) (Nat.le_of_ble_eq_true rfl) dX9_predictedReference_64
      · replace hf := q_ifn c13 hf
        refine v_iconst hX dX9_predictedReference_39 ?_
        cases hf
        exact v_iret hX hE (Nat.le_of_ble_eq_true rfl) (Nat.le_of_ble_eq_true rfl) dX9_predictedReference_40
noncomputable def f_X9_addClass (S : q_S) (R : q_HR) (I : q_HI) (a0 : Nat) : Option (Int × q_HI) := q_gd (S.1 a0 = 10) (q_gd (r_i (I a0 10)) (if I a0 10 < 8 then q_lt (q_up I a0 10 ((I a0 10) + 1)) fun I4 => some ((I4 a0 10) - 1, I4) else some ((-4), I)))
abbrev rmX9_addClass : Room := { frames := 0, cells := 0, slots := 0, locals := 0 }
set_option maxRecDepth 20000 in
theorem c_X9_addClass {S : q_S} {R : q_HR} {I : q_HI} {a0 : Nat} {rz : Int} {Iz : q_HI} (hf : f_X9_addClass S R I a0 = some (rz, Iz)) : ∀ (l : Launch) (D : va_G) (cy : Nat → ClassId) (B : Nat), Met l yX9_addClass [Cond.code yX9_addClass cX9_addClass 1 (some .int)] rmX9_addClass (q_Pc B D cy [.ref a0] S R I) (q_Qc B D cy (some (.int (q_i rz))) S R Iz) 0 0 (fun q => B ≤ q) := by
  refine q_met (lv := [(0, .ref a0)]) (own := RX9) (nm := "addClass") (by decide) rfl rfl (Nat.le_of_ble_eq_true rfl) rfl (fun X hX hE => ?_)
  unfold f_X9_addClass at hf
  refine v_aload_n 0 0 hX dX9_addClass_0 rfl rfl ?_
  obtain ⟨g1, hf⟩ := q_gd_some hf
  refine v_getI hX fa_RX9_178 (fun _ _ => rfl) g1 dX9_addClass_1 ?_
  refine v_bipush 8 hX dX9_addClass_4 (by decide) ?_
  obtain ⟨g2, hf⟩ := q_gd_some hf
  refine v_icmp_lt (tgt := 12) hX g2 (by unfold r_i; omega) dX9_addClass_6 (by decide) (fun c3 => ?_) (fun c3 => ?_)
  · replace hf := q_ifp c3 hf
    refine v_aload_n 0 0 hX dX9_addClass_12 rfl rfl ?_
    refine v_dup hX dX9_addClass_13 rfl ?_
    refine v_getI hX fa_RX9_178 (fun _ _ => rfl) g1 dX9_addClass_14 ?_
    refine v_iconst hX dX9_addClass_17 ?_
    refine v_iadd hX dX9_addClass_18 ?_
    refine v_putI hX fa_RX9_178 rfl g1 dX9_addClass_19 ?_
    obtain ⟨I4, e5, hf⟩ := q_lt_nm hf
    rw [e5]
    refine v_aload_n 0 0 hX dX9_addClass_22 rfl rfl ?_
    refine v_getI hX fa_RX9_178 (fun _ _ => rfl) g1 dX9_addClass_23 ?_
    refine v_iconst hX dX9_addClass_26 ?_
    refine v_isub hX dX9_addClass_27 ?_
    cases hf
    exact v_iret hX hE (Nat.le_of_ble_eq_true rfl) (Nat.le_of_ble_eq_true rfl) dX9_addClass_28
  · replace hf := q_ifn c3 hf
    refine v_bipush (-4) hX dX9_addClass_9 (by decide) ?_
    cases hf
    exact v_iret hX hE (Nat.le_of_ble_eq_true rfl) (Nat.le_of_ble_eq_true rfl) dX9_addClass_11
noncomputable def f_X9_classCount (S : q_S) (R : q_HR) (I : q_HI) (a0 : Nat) : Option (Int) := q_gd (S.1 a0 = 10) (some (I a0 10))
abbrev rmX9_classCount : Room := { frames := 0, cells := 0, slots := 0, locals := 0 }
set_option maxRecDepth 20000 in
theorem c_X9_classCount {S : q_S} {R : q_HR} {I : q_HI} {a0 : Nat} {rz : Int} (hf : f_X9_classCount S R I a0 = some rz) : ∀ (l : Launch) (D : va_G) (cy : Nat → ClassId) (B : Nat), Met l yX9_classCount [Cond.code yX9_classCount cX9_classCount 1 (some .int)] rmX9_classCount (q_Pc B D cy [.ref a0] S R I) (q_Qc B D cy (some (.int (q_i rz))) S R I) 0 0 (fun q => B ≤ q) := by
  refine q_met (lv := [(0, .ref a0)]) (own := RX9) (nm := "classCount") (by decide) rfl rfl (Nat.le_of_ble_eq_true rfl) rfl (fun X hX hE => ?_)
  unfold f_X9_classCount at hf
  refine v_aload_n 0 0 hX dX9_classCount_0 rfl rfl ?_
  obtain ⟨g1, hf⟩ := q_gd_some hf
  refine v_getI hX fa_RX9_178 (fun _ _ => rfl) g1 dX9_classCount_1 ?_
  cases hf
  exact v_iret hX hE (Nat.le_of_ble_eq_true rfl) (Nat.le_of_ble_eq_true rfl) dX9_classCount_4
noncomputable def f_X9_hasClass (S : q_S) (R : q_HR) (I : q_HI) (a0 : Nat) (a1 : Int) : Option (Int) := q_gd (r_i a1) (if a1 < 0 then some 0 else q_gd (S.1 a0 = 10) (q_gd (r_i (I a0 10)) (if I a0 10 ≤ a1 then some 0 else some 1)))
abbrev rmX9_hasClass : Room := { frames := 0, cells := 0, slots := 0, locals := 0 }
set_option maxRecDepth 20000 in
theorem c_X9_hasClass {S : q_S} {R : q_HR} {I : q_HI} {a0 : Nat} {a1 : Int} {rz : Int} (hf : f_X9_hasClass S R I a0 a1 = some rz) : ∀ (l : Launch) (D : va_G) (cy : Nat → ClassId) (B : Nat), Met l yX9_hasClass [Cond.code yX9_hasClass cX9_hasClass 2 (some .boolean)] rmX9_hasClass (q_Pc B D cy [.ref a0, .int (q_i a1)] S R I) (q_Qc B D cy (some (.int (q_i rz))) S R I) 0 0 (fun q => B ≤ q) := by
  refine q_met (lv := [(0, .ref a0), (1, .int (q_i a1))]) (own := RX9) (nm := "hasClass") (by decide) rfl rfl (Nat.le_of_ble_eq_true rfl) rfl (fun X hX hE => ?_)
  unfold f_X9_hasClass at hf
  refine v_iload_n 1 1 hX dX9_hasClass_0 rfl rfl ?_
  obtain ⟨g1, hf⟩ := q_gd_some hf
  refine v_if_lt (tgt := 16) hX g1 dX9_hasClass_1 (by decide) (fun c2 => ?_) (fun c2 => ?_)
  · replace hf := q_ifp c2 hf
    refine v_iconst hX dX9_hasClass_16 ?_
    cases hf
    exact v_zret hX (Or.inl rfl) hE (Nat.le_of_ble_eq_true rfl) (Nat.le_of_ble_eq_true rfl) dX9_hasClass_17
  · replace hf := q_ifn c2 hf
    refine v_iload_n 1 1 hX dX9_hasClass_4 rfl rfl ?_
    refine v_aload_n 0 0 hX dX9_hasClass_5 rfl rfl ?_
    obtain ⟨g3, hf⟩ := q_gd_some hf
    refine v_getI hX fa_RX9_178 (fun _ _ => rfl) g3 dX9_hasClass_6 ?_
    obtain ⟨g4, hf⟩ := q_gd_some hf
    refine v_icmp_ge (tgt := 16) hX g1 g4 dX9_hasClass_9 (by decide) (fun c5 => ?_) (fun c5 => ?_)
    · replace hf := q_ifp c5 hf
      refine v_iconst hX dX9_hasClass_16 ?_
      cases hf
      exact v_zret hX (Or.inl rfl) hE (Nat.le_of_ble_eq_true rfl) (Nat.le_of_ble_eq_true rfl) dX9_hasClass_17
    · replace hf := q_ifn c5 hf
      refine v_iconst hX dX9_hasClass_12 ?_
      refine v_goto (tgt := 17) hX dX9_hasClass_13 (by decide) ?_
      cases hf
      exact v_zret hX (Or.inr rfl) hE (Nat.le_of_ble_eq_true rfl) (Nat.le_of_ble_eq_true rfl) dX9_hasClass_17
noncomputable def f_X9_addSample (S : q_S) (R : q_HR) (I : q_HI) (a0 : Nat) (a1 : Int) : Option (Int × q_HR × q_HI) := q_gd (S.1 a0 = 10) (q_bd (f_X9_hasClass S R I a0 a1) fun r2 => q_gd (r_i r2) (if r2 = 0 then some ((-2), R, I) else q_gd (r_i (I a0 9)) (if I a0 9 = 0 then some ((-5), R, I) else q_gd (S.1 (R a0 3) = 15) (q_gd ((0 : Int) ≤ a1 ∧ a1 < (S.2.1 (R a0 3) : Int)) (q_gd (S.1 (R (R a0 3) (Int.toNat a1)) = 3) (q_gd (S.1 (R (R (R a0 3) (Int.toNat a1)) 0) = 9) (q_lt (R (R (R a0 3) (Int.toNat a1)) 0) fun x12 => q_bd (f_X8_isFull S R I x12) fun r15 => q_gd (r_i r15) (if r15 = 0 then q_gd (S.1 (R a0 8) = 6) (q_bd2 (f_X8_append S R I x12 (R a0 8)) fun R20 I21 => some ((I21 x12 2) - 1, R20, I21)) else some ((-4), R, I)))))))))
abbrev rmX9_addSample : Room := { frames := 1, cells := 0, slots := 0, locals := 21 }
set_option maxRecDepth 20000 in
theorem c_X9_addSample {S : q_S} {R : q_HR} {I : q_HI} {a0 : Nat} {a1 : Int} {rz : Int} {Rz : q_HR} {Iz : q_HI} (hf : f_X9_addSample S R I a0 a1 = some (rz, Rz, Iz)) : ∀ (l : Launch) (D : va_G) (cy : Nat → ClassId) (B : Nat), Met l yX9_addSample [Cond.code yX9_addSample cX9_addSample 3 (some .int)] rmX9_addSample (q_Pc B D cy [.ref a0, .int (q_i a1)] S R I) (q_Qc B D cy (some (.int (q_i rz))) S Rz Iz) 0 0 (fun q => B ≤ q) := by
  refine q_met (lv := [(0, .ref a0), (1, .int (q_i a1))]) (own := RX9) (nm := "addSample") (by decide) rfl rfl (Nat.le_of_ble_eq_true rfl) rfl (fun X hX hE => ?_)
  unfold f_X9_addSample at hf
  refine v_aload_n 0 0 hX dX9_addSample_0 rfl rfl ?_
  refine v_iload_n 1 1 hX dX9_addSample_1 rfl rfl ?_
  obtain ⟨g1, hf⟩ := q_gd_some hf
  obtain ⟨r2, h3, hf⟩ := q_bd_some hf
  refine v_callV (As := [.int (q_i a1)]) (rest := []) (st1 := [.int (q_i r2)]) (some (.int (q_i r2))) hX mv_RX9_181 (c_X9_hasClass h3) ⟨rfl, rfl⟩ ⟨Nat.le_of_ble_eq_true rfl, Nat.le_of_ble_eq_true rfl⟩ g1 rfl rfl (Nat.le_of_ble_eq_true rfl) ⟨Nat.le_of_ble_eq_true rfl, Nat.le_of_ble_eq_true rfl⟩ dX9_addSample_2 rfl ?_
  obtain ⟨g4, hf⟩ := q_gd_some hf
  refine v_if_ne (tgt := 11) hX g4 dX9_addSample_5 (by decide) (fun c5 => ?_) (fun c5 => ?_)
  · replace hf := q_ifp c5 hf
    refine v_bipush (-2) hX dX9_addSample_8 (by decide) ?_
    cases hf
    exact v_iret hX hE (Nat.le_of_ble_eq_true rfl) (Nat.le_of_ble_eq_true rfl) dX9_addSample_10
  · replace hf := q_ifn c5 hf
    refine v_aload_n 0 0 hX dX9_addSample_11 rfl rfl ?_
    refine v_getI hX fa_RX9_91 (fun _ _ => rfl) g1 dX9_addSample_12 ?_
    obtain ⟨g6, hf⟩ := q_gd_some hf
    refine v_if_ne (tgt := 21) hX g6 dX9_addSample_15 (by decide) (fun c7 => ?_) (fun c7 => ?_)
    · replace hf := q_ifp c7 hf
      refine v_bipush (-5) hX dX9_addSample_18 (by decide) ?_
      cases hf
      exact v_iret hX hE (Nat.le_of_ble_eq_true rfl) (Nat.le_of_ble_eq_true rfl) dX9_addSample_20
    · replace hf := q_ifn c7 hf
      refine v_aload_n 0 0 hX dX9_addSample_21 rfl rfl ?_
      obtain ⟨g8, hf⟩ := q_gd_some hf
      refine v_getA hX fa_RX9_32 (fun _ _ => rfl) g1 g8 (by decide) dX9_addSample_22 ?_
      refine v_iload_n 1 1 hX dX9_addSample_25 rfl rfl ?_
      obtain ⟨g9, hf⟩ := q_gd_some hf
      obtain ⟨g10, hf⟩ := q_gd_some hf
      refine v_aaload (t0 := 3) hX g8 (by decide) (fun _ => rfl) rfl (fun _ _ _ => rfl) g9 g10 (by decide) dX9_addSample_26 ?_
      obtain ⟨g11, hf⟩ := q_gd_some hf
      refine v_getA hX fa_RX9_184 (fun _ _ => rfl) g10 g11 (by decide) dX9_addSample_27 ?_
      obtain ⟨x12, e13, hf⟩ := q_lt_nm hf
      rw [e13]
      have g14 := g11
      rw [e13] at g14
      refine v_astore_n 2 (lw := [(2, .ref x12), (0, .ref a0), (1, .int (q_i a1))]) hX dX9_addSample_30 rfl (by decide) rfl ?_
      refine v_aload_n 2 0 hX dX9_addSample_31 rfl rfl ?_
      obtain ⟨r15, h16, hf⟩ := q_bd_some hf
      refine v_callV (As := []) (rest := []) (st1 := [.int (q_i r15)]) (some (.int (q_i r15))) hX mv_RX9_106 (c_X8_isFull h16) ⟨rfl, rfl⟩ ⟨Nat.le_of_ble_eq_true rfl, Nat.le_of_ble_eq_true rfl⟩ g14 rfl rfl (Nat.le_of_ble_eq_true rfl) ⟨Nat.le_of_ble_eq_true rfl, Nat.le_of_ble_eq_true rfl⟩ dX9_addSample_32 rfl ?_
      obtain ⟨g17, hf⟩ := q_gd_some hf
      refine v_if_eq (tgt := 41) hX g17 dX9_addSample_35 (by decide) (fun c18 => ?_) (fun c18 => ?_)
      · replace hf := q_ifp c18 hf
        refine v_aload_n 2 0 hX dX9_addSample_41 rfl rfl ?_
        refine v_aload_n 0 1 hX dX9_addSample_42 rfl rfl ?_
        obtain ⟨g19, hf⟩ := q_gd_some hf
        refine v_getA hX fa_RX9_63 (fun _ _ => rfl) g1 g19 (by decide) dX9_addSample_43 ?_
        obtain ⟨R20, I21, h22, hf⟩ := q_bd2_some hf
        refine v_callV (As := [.ref (R a0 8)]) (rest := []) (st1 := []) none hX mv_RX9_187 (c_X8_append h22) ⟨rfl, rfl⟩ ⟨Nat.le_of_ble_eq_true rfl, Nat.le_of_ble_eq_true rfl⟩ g14 rfl rfl (Nat.le_of_ble_eq_true rfl) ⟨Nat.le_of_ble_eq_true rfl, Nat.le_of_ble_eq_true rfl⟩ dX9_addSample_46 rfl ?_
        refine v_aload_n 2 0 hX dX9_addSample_49 rfl rfl ?_
        refine v_getI hX fa_RX9_116 (fun _ _ => rfl) g14 dX9_addSample_50 ?_
        refine v_iconst hX dX9_addSample_53 ?_
        refine v_isub hX dX9_addSample_54 ?_
        cases hf
        exact v_iret hX hE (Nat.le_of_ble_eq_true rfl) (Nat.le_of_ble_eq_true rfl) dX9_addSample_55
      · replace hf := q_ifn c18 hf
        refine v_bipush (-4) hX dX9_addSample_38 (by decide) ?_
        cases hf
        exact v_iret hX hE (Nat.le_of_ble_eq_true rfl) (Nat.le_of_ble_eq_true rfl) dX9_addSample_40
noncomputable def f_X9_hasSample (S : q_S) (R : q_HR) (I : q_HI) (a0 : Nat) (a1 : Int) (a2 : Int) : Option (Int) := q_gd (S.1 a0 = 10) (q_bd (f_X9_hasClass S R I a0 a1) fun r2 => q_gd (r_i r2) (if r2 = 0 then some 0 else q_gd (r_i a2) (if a2 < 0 then some 0 else q_gd (S.1 (R a0 3) = 15) (q_gd ((0 : Int) ≤ a1 ∧ a1 < (S.2.1 (R a0 3) : Int)) (q_gd (S.1 (R (R a0 3) (Int.toNat a1)) = 3) (q_gd (S.1 (R (R (R a0 3) (Int.toNat a1)) 0) = 9) (q_gd (r_i (I (R (R (R a0 3) (Int.toNat a1)) 0) 2)) (if I (R (R (R a0 3) (Int.toNat a1)) 0) 2 ≤ a2 then some 0 else some 1))))))))
abbrev rmX9_hasSample : Room := { frames := 1, cells := 0, slots := 0, locals := 21 }
set_option maxRecDepth 20000 in
theorem c_X9_hasSample {S : q_S} {R : q_HR} {I : q_HI} {a0 : Nat} {a1 : Int} {a2 : Int} {rz : Int} (hf : f_X9_hasSample S R I a0 a1 a2 = some rz) : ∀ (l : Launch) (D : va_G) (cy : Nat → ClassId) (B : Nat), Met l yX9_hasSample [Cond.code yX9_hasSample cX9_hasSample 3 (some .boolean)] rmX9_hasSample (q_Pc B D cy [.ref a0, .int (q_i a1), .int (q_i a2)] S R I) (q_Qc B D cy (some (.int (q_i rz))) S R I) 0 0 (fun q => B ≤ q) := by
  refine q_met (lv := [(0, .ref a0), (1, .int (q_i a1)), (2, .int (q_i a2))]) (own := RX9) (nm := "hasSample") (by decide) rfl rfl (Nat.le_of_ble_eq_true rfl) rfl (fun X hX hE => ?_)
  unfold f_X9_hasSample at hf
  refine v_aload_n 0 0 hX dX9_hasSample_0 rfl rfl ?_
  refine v_iload_n 1 1 hX dX9_hasSample_1 rfl rfl ?_
  obtain ⟨g1, hf⟩ := q_gd_some hf
  obtain ⟨r2, h3, hf⟩ := q_bd_some hf
  refine v_callV (As := [.int (q_i a1)]) (rest := []) (st1 := [.int (q_i r2)]) (some (.int (q_i r2))) hX mv_RX9_181 (c_X9_hasClass h3) ⟨rfl, rfl⟩ ⟨Nat.le_of_ble_eq_true rfl, Nat.le_of_ble_eq_true rfl⟩ g1 rfl rfl (Nat.le_of_ble_eq_true rfl) ⟨Nat.le_of_ble_eq_true rfl, Nat.le_of_ble_eq_true rfl⟩ dX9_hasSample_2 rfl ?_
  obtain ⟨g4, hf⟩ := q_gd_some hf
  refine v_if_eq (tgt := 32) hX g4 dX9_hasSample_5 (by decide) (fun c5 => ?_) (fun c5 => ?_)
  · replace hf := q_ifp c5 hf
    refine v_iconst hX dX9_hasSample_32 ?_
    cases hf
    exact v_zret hX (Or.inl rfl) hE (Nat.le_of_ble_eq_true rfl) (Nat.le_of_ble_eq_true rfl) dX9_hasSample_33
  · replace hf := q_ifn c5 hf
    refine v_iload_n 2 2 hX dX9_hasSample_8 rfl rfl ?_
    obtain ⟨g6, hf⟩ := q_gd_some hf
    refine v_if_lt (tgt := 32) hX g6 dX9_hasSample_9 (by decide) (fun c7 => ?_) (fun c7 => ?_)
    · replace hf := q_ifp c7 hf
      refine v_iconst hX dX9_hasSample_32 ?_
      cases hf
      exact v_zret hX (Or.inl rfl) hE (Nat.le_of_ble_eq_true rfl) (Nat.le_of_ble_eq_true rfl) dX9_hasSample_33
    · replace hf := q_ifn c7 hf
      refine v_iload_n 2 2 hX dX9_hasSample_12 rfl rfl ?_
      refine v_aload_n 0 0 hX dX9_hasSample_13 rfl rfl ?_
      obtain ⟨g8, hf⟩ := q_gd_some hf
      refine v_getA hX fa_RX9_32 (fun _ _ => rfl) g1 g8 (by decide) dX9_hasSample_14 ?_
      refine v_iload_n 1 1 hX dX9_hasSample_17 rfl rfl ?_
      obtain ⟨g9, hf⟩ := q_gd_some hf
      obtain ⟨g10, hf⟩ := q_gd_some hf
      refine v_aaload (t0 := 3) hX g8 (by decide) (fun _ => rfl) rfl (fun _ _ _ => rfl) g9 g10 (by decide) dX9_hasSample_18 ?_
      obtain ⟨g11, hf⟩ := q_gd_some hf
      refine v_getA hX fa_RX9_184 (fun _ _ => rfl) g10 g11 (by decide) dX9_hasSample_19 ?_
      refine v_getI hX fa_RX9_116 (fun _ _ => rfl) g11 dX9_hasSample_22 ?_
      obtain ⟨g12, hf⟩ := q_gd_some hf
      refine v_icmp_ge (tgt := 32) hX g6 g12 dX9_hasSample_25 (by decide) (fun c13 => ?_) (fun c13 => ?_)
      · replace hf := q_ifp c13 hf
        refine v_iconst hX dX9_hasSample_32 ?_
        cases hf
        exact v_zret hX (Or.inl rfl) hE (Nat.le_of_ble_eq_true rfl) (Nat.le_of_ble_eq_true rfl) dX9_hasSample_33
      · replace hf := q_ifn c13 hf
        refine v_iconst hX dX9_hasSample_28 ?_
        refine v_goto (tgt := 33) hX dX9_hasSample_29 (by decide) ?_
        cases hf
        exact v_zret hX (Or.inr rfl) hE (Nat.le_of_ble_eq_true rfl) (Nat.le_of_ble_eq_true rfl) dX9_hasSample_33
noncomputable def f_X9_removeSample (S : q_S) (R : q_HR) (I : q_HI) (a0 : Nat) (a1 : Int) (a2 : Int) : Option (Int × q_HR × q_HI) := q_gd (S.1 a0 = 10) (q_bd (f_X9_hasSample S R I a0 a1 a2) fun r2 => q_gd (r_i r2) (if r2 = 0 then some ((-2), R, I) else q_gd (S.1 (R a0 3) = 15) (q_gd ((0 : Int) ≤ a1 ∧ a1 < (S.2.1 (R a0 3) : Int)) (q_gd (S.1 (R (R a0 3) (Int.toNat a1)) = 3) (q_gd (S.1 (R (R (R a0 3) (Int.toNat a1)) 0) = 9) (q_lt (R (R (R a0 3) (Int.toNat a1)) 0) fun x10 => q_bd2 (f_X8_removeAt S R I x10 a2) fun R13 I14 => some (I14 x10 2, R13, I14)))))))
abbrev rmX9_removeSample : Room := { frames := 2, cells := 0, slots := 0, locals := 43 }
set_option maxRecDepth 20000 in
theorem c_X9_removeSample {S : q_S} {R : q_HR} {I : q_HI} {a0 : Nat} {a1 : Int} {a2 : Int} {rz : Int} {Rz : q_HR} {Iz : q_HI} (hf : f_X9_removeSample S R I a0 a1 a2 = some (rz, Rz, Iz)) : ∀ (l : Launch) (D : va_G) (cy : Nat → ClassId) (B : Nat), Met l yX9_removeSample [Cond.code yX9_removeSample cX9_removeSample 4 (some .int)] rmX9_removeSample (q_Pc B D cy [.ref a0, .int (q_i a1), .int (q_i a2)] S R I) (q_Qc B D cy (some (.int (q_i rz))) S Rz Iz) 0 0 (fun q => B ≤ q) := by
  refine q_met (lv := [(0, .ref a0), (1, .int (q_i a1)), (2, .int (q_i a2))]) (own := RX9) (nm := "removeSample") (by decide) rfl rfl (Nat.le_of_ble_eq_true rfl) rfl (fun X hX hE => ?_)
  unfold f_X9_removeSample at hf
  refine v_aload_n 0 0 hX dX9_removeSample_0 rfl rfl ?_
  refine v_iload_n 1 1 hX dX9_removeSample_1 rfl rfl ?_
  refine v_iload_n 2 2 hX dX9_removeSample_2 rfl rfl ?_
  obtain ⟨g1, hf⟩ := q_gd_some hf
  obtain ⟨r2, h3, hf⟩ := q_bd_some hf
  refine v_callV (As := [.int (q_i a1), .int (q_i a2)]) (rest := []) (st1 := [.int (q_i r2)]) (some (.int (q_i r2))) hX mv_RX9_190 (c_X9_hasSample h3) ⟨rfl, rfl⟩ ⟨Nat.le_of_ble_eq_true rfl, Nat.le_of_ble_eq_true rfl⟩ g1 rfl rfl (Nat.le_of_ble_eq_true rfl) ⟨Nat.le_of_ble_eq_true rfl, Nat.le_of_ble_eq_true rfl⟩ dX9_removeSample_3 rfl ?_
  obtain ⟨g4, hf⟩ := q_gd_some hf
  refine v_if_ne (tgt := 12) hX g4 dX9_removeSample_6 (by decide) (fun c5 => ?_) (fun c5 => ?_)
  · replace hf := q_ifp c5 hf
    refine v_bipush (-2) hX dX9_removeSample_9 (by decide) ?_
    cases hf
    exact v_iret hX hE (Nat.le_of_ble_eq_true rfl) (Nat.le_of_ble_eq_true rfl) dX9_removeSample_11
  · replace hf := q_ifn c5 hf
    refine v_aload_n 0 0 hX dX9_removeSample_12 rfl rfl ?_
    obtain ⟨g6, hf⟩ := q_gd_some hf
    refine v_getA hX fa_RX9_32 (fun _ _ => rfl) g1 g6 (by decide) dX9_removeSample_13 ?_
    refine v_iload_n 1 1 hX dX9_removeSample_16 rfl rfl ?_
    obtain ⟨g7, hf⟩ := q_gd_some hf
    obtain ⟨g8, hf⟩ := q_gd_some hf
    refine v_aaload (t0 := 3) hX g6 (by decide) (fun _ => rfl) rfl (fun _ _ _ => rfl) g7 g8 (by decide) dX9_removeSample_17 ?_
    obtain ⟨g9, hf⟩ := q_gd_some hf
    refine v_getA hX fa_RX9_184 (fun _ _ => rfl) g8 g9 (by decide) dX9_removeSample_18 ?_
    obtain ⟨x10, e11, hf⟩ := q_lt_nm hf
    rw [e11]
    have g12 := g9
    rw [e11] at g12
    refine v_astore_n 3 (lw := [(3, .ref x10), (0, .ref a0), (1, .int (q_i a1)), (2, .int (q_i a2))]) hX dX9_removeSample_21 rfl (by decide) rfl ?_
    refine v_aload_n 3 0 hX dX9_removeSample_22 rfl rfl ?_
    refine v_iload_n 2 3 hX dX9_removeSample_23 rfl rfl ?_
    obtain ⟨R13, I14, h15, hf⟩ := q_bd2_some hf
    refine v_callV (As := [.int (q_i a2)]) (rest := []) (st1 := []) none hX mv_RX9_150 (c_X8_removeAt h15) ⟨rfl, rfl⟩ ⟨Nat.le_of_ble_eq_true rfl, Nat.le_of_ble_eq_true rfl⟩ g12 rfl rfl (Nat.le_of_ble_eq_true rfl) ⟨Nat.le_of_ble_eq_true rfl, Nat.le_of_ble_eq_true rfl⟩ dX9_removeSample_24 rfl ?_
    refine v_aload_n 3 0 hX dX9_removeSample_27 rfl rfl ?_
    refine v_getI hX fa_RX9_116 (fun _ _ => rfl) g12 dX9_removeSample_28 ?_
    cases hf
    exact v_iret hX hE (Nat.le_of_ble_eq_true rfl) (Nat.le_of_ble_eq_true rfl) dX9_removeSample_31
noncomputable def f_X9_recall (S : q_S) (R : q_HR) (I : q_HI) (a0 : Nat) (a1 : Int) (a2 : Int) : Option (Int × q_HR × q_HI) := q_gd (S.1 a0 = 10) (q_bd (f_X9_hasSample S R I a0 a1 a2) fun r2 => q_gd (r_i r2) (if r2 = 0 then some ((-2), R, I) else q_gd (S.1 (R a0 3) = 15) (q_gd ((0 : Int) ≤ a1 ∧ a1 < (S.2.1 (R a0 3) : Int)) (q_gd (S.1 (R (R a0 3) (Int.toNat a1)) = 3) (q_gd (S.1 (R (R (R a0 3) (Int.toNat a1)) 0) = 9) (q_bd (f_X8_at S R I (R (R (R a0 3) (Int.toNat a1)) 0) a2) fun r10 => q_gd (S.1 r10 = 6) (q_lt (q_up R a0 8 r10) fun R13 => q_lt (q_up I a0 9 1) fun I15 => q_gd (S.1 (R13 a0 8) = 6) (some (I15 (R13 a0 8) 0, R13, I15)))))))))
abbrev rmX9_recall : Room := { frames := 2, cells := 0, slots := 0, locals := 43 }
set_option maxRecDepth 20000 in
theorem c_X9_recall {S : q_S} {R : q_HR} {I : q_HI} {a0 : Nat} {a1 : Int} {a2 : Int} {rz : Int} {Rz : q_HR} {Iz : q_HI} (hf : f_X9_recall S R I a0 a1 a2 = some (rz, Rz, Iz)) : ∀ (l : Launch) (D : va_G) (cy : Nat → ClassId) (B : Nat), Met l yX9_recall [Cond.code yX9_recall cX9_recall 3 (some .int)] rmX9_recall (q_Pc B D cy [.ref a0, .int (q_i a1), .int (q_i a2)] S R I) (q_Qc B D cy (some (.int (q_i rz))) S Rz Iz) 0 0 (fun q => B ≤ q) := by
  refine q_met (lv := [(0, .ref a0), (1, .int (q_i a1)), (2, .int (q_i a2))]) (own := RX9) (nm := "recall") (by decide) rfl rfl (Nat.le_of_ble_eq_true rfl) rfl (fun X hX hE => ?_)
  unfold f_X9_recall at hf
  refine v_aload_n 0 0 hX dX9_recall_0 rfl rfl ?_
  refine v_iload_n 1 1 hX dX9_recall_1 rfl rfl ?_
  refine v_iload_n 2 2 hX dX9_recall_2 rfl rfl ?_
  obtain ⟨g1, hf⟩ := q_gd_some hf
  obtain ⟨r2, h3, hf⟩ := q_bd_some hf
  refine v_callV (As := [.int (q_i a1), .int (q_i a2)]) (rest := []) (st1 := [.int (q_i r2)]) (some (.int (q_i r2))) hX mv_RX9_190 (c_X9_hasSample h3) ⟨rfl, rfl⟩ ⟨Nat.le_of_ble_eq_true rfl, Nat.le_of_ble_eq_true rfl⟩ g1 rfl rfl (Nat.le_of_ble_eq_true rfl) ⟨Nat.le_of_ble_eq_true rfl, Nat.le_of_ble_eq_true rfl⟩ dX9_recall_3 rfl ?_
  obtain ⟨g4, hf⟩ := q_gd_some hf
  refine v_if_ne (tgt := 12) hX g4 dX9_recall_6 (by decide) (fun c5 => ?_) (fun c5 => ?_)
  · replace hf := q_ifp c5 hf
    refine v_bipush (-2) hX dX9_recall_9 (by decide) ?_
    cases hf
    exact v_iret hX hE (Nat.le_of_ble_eq_true rfl) (Nat.le_of_ble_eq_true rfl) dX9_recall_11
  · replace hf := q_ifn c5 hf
    refine v_aload_n 0 0 hX dX9_recall_12 rfl rfl ?_
    refine v_aload_n 0 0 hX dX9_recall_13 rfl rfl ?_
    obtain ⟨g6, hf⟩ := q_gd_some hf
    refine v_getA hX fa_RX9_32 (fun _ _ => rfl) g1 g6 (by decide) dX9_recall_14 ?_
    refine v_iload_n 1 1 hX dX9_recall_17 rfl rfl ?_
    obtain ⟨g7, hf⟩ := q_gd_some hf
    obtain ⟨g8, hf⟩ := q_gd_some hf
    refine v_aaload (t0 := 3) hX g6 (by decide) (fun _ => rfl) rfl (fun _ _ _ => rfl) g7 g8 (by decide) dX9_recall_18 ?_
    obtain ⟨g9, hf⟩ := q_gd_some hf
    refine v_getA hX fa_RX9_184 (fun _ _ => rfl) g8 g9 (by decide) dX9_recall_19 ?_
    refine v_iload_n 2 2 hX dX9_recall_22 rfl rfl ?_
    obtain ⟨r10, h11, hf⟩ := q_bd_some hf
    refine v_callV (As := [.int (q_i a2)]) (rest := [.ref a0]) (st1 := [.ref r10, .ref a0]) (some (.ref r10)) hX mv_RX9_193 (c_X8_at h11) ⟨rfl, rfl⟩ ⟨Nat.le_of_ble_eq_true rfl, Nat.le_of_ble_eq_true rfl⟩ g9 rfl rfl (Nat.le_of_ble_eq_true rfl) ⟨Nat.le_of_ble_eq_true rfl, Nat.le_of_ble_eq_true rfl⟩ dX9_recall_23 rfl ?_
    obtain ⟨g12, hf⟩ := q_gd_some hf
    refine v_putA hX fa_RX9_63 (fun _ _ => rfl) rfl rfl g1 g12 (by decide) dX9_recall_26 ?_
    obtain ⟨R13, e14, hf⟩ := q_lt_nm hf
    rw [e14]
    refine v_aload_n 0 0 hX dX9_recall_29 rfl rfl ?_
    refine v_iconst hX dX9_recall_30 ?_
    refine v_putZ hX fa_RX9_91 rfl (Or.inr rfl) g1 dX9_recall_31 ?_
    obtain ⟨I15, e16, hf⟩ := q_lt_nm hf
    rw [e16]
    refine v_aload_n 0 0 hX dX9_recall_34 rfl rfl ?_
    obtain ⟨g17, hf⟩ := q_gd_some hf
    refine v_getA hX fa_RX9_63 (fun _ _ => rfl) g1 g17 (by decide) dX9_recall_35 ?_
    refine v_getI hX fa_RX9_197 (fun _ _ => rfl) g17 dX9_recall_38 ?_
    cases hf
    exact v_iret hX hE (Nat.le_of_ble_eq_true rfl) (Nat.le_of_ble_eq_true rfl) dX9_recall_41
noncomputable def f_X9_sampleCount (S : q_S) (R : q_HR) (I : q_HI) (a0 : Nat) (a1 : Int) : Option (Int) := q_gd (S.1 a0 = 10) (q_bd (f_X9_hasClass S R I a0 a1) fun r2 => q_gd (r_i r2) (if r2 = 0 then some (-2) else q_gd (S.1 (R a0 3) = 15) (q_gd ((0 : Int) ≤ a1 ∧ a1 < (S.2.1 (R a0 3) : Int)) (q_gd (S.1 (R (R a0 3) (Int.toNat a1)) = 3) (q_gd (S.1 (R (R (R a0 3) (Int.toNat a1)) 0) = 9) (some (I (R (R (R a0 3) (Int.toNat a1)) 0) 2)))))))
abbrev rmX9_sampleCount : Room := { frames := 1, cells := 0, slots := 0, locals := 21 }
set_option maxRecDepth 20000 in
theorem c_X9_sampleCount {S : q_S} {R : q_HR} {I : q_HI} {a0 : Nat} {a1 : Int} {rz : Int} (hf : f_X9_sampleCount S R I a0 a1 = some rz) : ∀ (l : Launch) (D : va_G) (cy : Nat → ClassId) (B : Nat), Met l yX9_sampleCount [Cond.code yX9_sampleCount cX9_sampleCount 2 (some .int)] rmX9_sampleCount (q_Pc B D cy [.ref a0, .int (q_i a1)] S R I) (q_Qc B D cy (some (.int (q_i rz))) S R I) 0 0 (fun q => B ≤ q) := by
  refine q_met (lv := [(0, .ref a0), (1, .int (q_i a1))]) (own := RX9) (nm := "sampleCount") (by decide) rfl rfl (Nat.le_of_ble_eq_true rfl) rfl (fun X hX hE => ?_)
  unfold f_X9_sampleCount at hf
  refine v_aload_n 0 0 hX dX9_sampleCount_0 rfl rfl ?_
  refine v_iload_n 1 1 hX dX9_sampleCount_1 rfl rfl ?_
  obtain ⟨g1, hf⟩ := q_gd_some hf
  obtain ⟨r2, h3, hf⟩ := q_bd_some hf
  refine v_callV (As := [.int (q_i a1)]) (rest := []) (st1 := [.int (q_i r2)]) (some (.int (q_i r2))) hX mv_RX9_181 (c_X9_hasClass h3) ⟨rfl, rfl⟩ ⟨Nat.le_of_ble_eq_true rfl, Nat.le_of_ble_eq_true rfl⟩ g1 rfl rfl (Nat.le_of_ble_eq_true rfl) ⟨Nat.le_of_ble_eq_true rfl, Nat.le_of_ble_eq_true rfl⟩ dX9_sampleCount_2 rfl ?_
  obtain ⟨g4, hf⟩ := q_gd_some hf
  refine v_if_eq (tgt := 23) hX g4 dX9_sampleCount_5 (by decide) (fun c5 => ?_) (fun c5 => ?_)
  · replace hf := q_ifp c5 hf
    refine v_bipush (-2) hX dX9_sampleCount_23 (by decide) ?_
    cases hf
    exact v_iret hX hE (Nat.le_of_ble_eq_true rfl) (Nat.le_of_ble_eq_true rfl) dX9_sampleCount_25
  · replace hf := q_ifn c5 hf
    refine v_aload_n 0 0 hX dX9_sampleCount_8 rfl rfl ?_
    obtain ⟨g6, hf⟩ := q_gd_some hf
    refine v_getA hX fa_RX9_32 (fun _ _ => rfl) g1 g6 (by decide) dX9_sampleCount_9 ?_
    refine v_iload_n 1 1 hX dX9_sampleCount_12 rfl rfl ?_
    obtain ⟨g7, hf⟩ := q_gd_some hf
    obtain ⟨g8, hf⟩ := q_gd_some hf
    refine v_aaload (t0 := 3) hX g6 (by decide) (fun _ => rfl) rfl (fun _ _ _ => rfl) g7 g8 (by decide) dX9_sampleCount_13 ?_
    obtain ⟨g9, hf⟩ := q_gd_some hf
    refine v_getA hX fa_RX9_184 (fun _ _ => rfl) g8 g9 (by decide) dX9_sampleCount_14 ?_
    refine v_getI hX fa_RX9_116 (fun _ _ => rfl) g9 dX9_sampleCount_17 ?_
    refine v_goto (tgt := 25) hX dX9_sampleCount_20 (by decide) ?_
    cases hf
    exact v_iret hX hE (Nat.le_of_ble_eq_true rfl) (Nat.le_of_ble_eq_true rfl) dX9_sampleCount_25
noncomputable def f_X9_prepare_L41 (S : q_S) (R : q_HR) (p0 : Nat) (k : Int → q_HI → Option (q_HI)) : Nat → Int → q_HI → Option (q_HI)
  | 0, _, _ => none
  | n + 1, v1, I => q_gd (S.1 p0 = 10) (q_gd (r_i v1) (q_gd (r_i (I p0 10)) (if I p0 10 ≤ v1 then k v1 I else q_gd (S.1 (R p0 3) = 15) (q_gd ((0 : Int) ≤ v1 ∧ v1 < (S.2.1 (R p0 3) : Int)) (q_gd (S.1 (R (R p0 3) (Int.toNat v1)) = 3) (q_gd (S.1 (R p0 0) = 1) (q_bd (f_X2_refresh S R I (R (R p0 3) (Int.toNat v1)) (R p0 0)) fun I21 => f_X9_prepare_L41 S R p0 k n (v1 + 1) I21)))))))
noncomputable def f_X9_prepare (S : q_S) (R : q_HR) (I : q_HI) (a0 : Nat) : Option (q_HI) := q_gd (S.1 a0 = 10) (q_gd (S.1 (R a0 0) = 1) (q_gd (S.1 (R a0 8) = 6) (q_gd (S.1 (R a0 7) = 12) (q_bd (f_X0_fillFeatures S R I (R a0 0) (R a0 8) (R a0 7)) fun I5 => q_gd (S.1 (R a0 1) = 2) (q_bd (f_X1_refresh S R I5 (R a0 1) (R a0 0)) fun I8 => q_gd (S.1 (R a0 2) = 7) (q_bd (f_X6_aim S R I8 (R a0 2) (R a0 1) 31) fun I11 => f_X9_prepare_L41 S R a0 (fun w23 I24 => some I24) 100 0 I11))))))
abbrev rmX9_prepare : Room := { frames := 5, cells := 0, slots := 0, locals := 120 }
set_option maxRecDepth 20000 in
theorem l_X9_prepare_41 {X : q_X} {S : q_S} {R : q_HR} {p0 : Nat} {Iz : q_HI} (hX : q_C X cX9_prepare 2 RX9 none "prepare") (hE : q_E X 0 0 none S R Iz) {k : Int → q_HI → Option (q_HI)} (hk : ∀ (v1 : Int) (I : q_HI), k v1 I = some Iz → q_V X rmX9_prepare cX9_prepare 2 0 0 68 [] [] S R I) :
    ∀ (n : Nat), ∀ (v1 : Int) (I : q_HI), f_X9_prepare_L41 S R p0 k n v1 I = some Iz → q_V X rmX9_prepare cX9_prepare 2 0 0 41 [(0, .ref p0), (1, .int (q_i v1))] [] S R I := by
  intro n
  induction n with
  | zero =>
    intro v1 I hf
    cases (show (none : Option (q_HI)) = some _ from hf)
  | succ n ih =>
    intro v1 I hf
    rw [f_X9_prepare_L41] at hf
    refine v_iload_n 1 1 hX dX9_prepare_41 rfl rfl ?_
    refine v_aload_n 0 0 hX dX9_prepare_42 rfl rfl ?_
    obtain ⟨g13, hf⟩ := q_gd_some hf
    refine v_getI hX fa_RX9_178 (fun _ _ => rfl) g13 dX9_prepare_43 ?_
    obtain ⟨g14, hf⟩ := q_gd_some hf
    obtain ⟨g15, hf⟩ := q_gd_some hf
    refine v_icmp_ge (tgt := 68) hX g14 g15 dX9_prepare_46 (by decide) (fun c16 => ?_) (fun c16 => ?_)
    · replace hf := q_ifp c16 hf
      refine v_sub (lv' := []) [] rfl ?_
      exact hk _ _ hf
    · replace hf := q_ifn c16 hf
      refine v_aload_n 0 0 hX dX9_prepare_49 rfl rfl ?_
      obtain ⟨g17, hf⟩ := q_gd_some hf
      refine v_getA hX fa_RX9_32 (fun _ _ => rfl) g13 g17 (by decide) dX9_prepare_50 ?_
      refine v_iload_n 1 1 hX dX9_prepare_53 rfl rfl ?_
      obtain ⟨g18, hf⟩ := q_gd_some hf
      obtain ⟨g19, hf⟩ := q_gd_some hf
      refine v_aaload (t0 := 3) hX g17 (by decide) (fun _ => rfl) rfl (fun _ _ _ => rfl) g18 g19 (by decide) dX9_prepare_54 ?_
      refine v_aload_n 0 0 hX dX9_prepare_55 rfl rfl ?_
      obtain ⟨g20, hf⟩ := q_gd_some hf
      refine v_getA hX fa_RX9_12 (fun _ _ => rfl) g13 g20 (by decide) dX9_prepare_56 ?_
      obtain ⟨I21, h22, hf⟩ := q_bd_some hf
      refine v_callV (As := [.ref (R p0 0)]) (rest := []) (st1 := []) none hX mv_RX9_277 (c_X2_refresh h22) ⟨rfl, rfl⟩ ⟨Nat.le_of_ble_eq_true rfl, Nat.le_of_ble_eq_true rfl⟩ g19 rfl rfl (Nat.le_of_ble_eq_true rfl) ⟨Nat.le_of_ble_eq_true rfl, Nat.le_of_ble_eq_true rfl⟩ dX9_prepare_59 rfl ?_
      refine v_iinc 1 (lw := [(1, .int (q_i (v1 + 1))), (0, .ref p0)]) hX dX9_prepare_62 rfl (by decide) rfl ?_
      refine v_goto (tgt := 41) hX dX9_prepare_65 (by decide) ?_
      refine v_sub (lv' := [(0, .ref p0), (1, .int (q_i (v1 + 1)))]) [1, 0] rfl ?_
      exact ih _ _ hf
set_option maxRecDepth 20000 in
theorem c_X9_prepare {S : q_S} {R : q_HR} {I : q_HI} {a0 : Nat} {Iz : q_HI} (hf : f_X9_prepare S R I a0 = some Iz) : ∀ (l : Launch) (D : va_G) (cy : Nat → ClassId) (B : Nat), Met l yX9_prepare [Cond.code yX9_prepare cX9_prepare 2 none] rmX9_prepare (q_Pc B D cy [.ref a0] S R I) (q_Qc B D cy none S R Iz) 0 0 (fun q => B ≤ q) := by
  refine q_met (lv := [(0, .ref a0)]) (own := RX9) (nm := "prepare") (by decide) rfl rfl (Nat.le_of_ble_eq_true rfl) rfl (fun X hX hE => ?_)
  unfold f_X9_prepare at hf
  refine v_aload_n 0 0 hX dX9_prepare_0 rfl rfl ?_
  obtain ⟨g1, hf⟩ := q_gd_some hf
  obtain ⟨g2, hf⟩ := q_gd_some hf
  refine v_getA hX fa_RX9_12 (fun _ _ => rfl) g1 g2 (by decide) dX9_prepare_1 ?_
  refine v_aload_n 0 0 hX dX9_prepare_4 rfl rfl ?_
  obtain ⟨g3, hf⟩ := q_gd_some hf
  refine v_getA hX fa_RX9_63 (fun _ _ => rfl) g1 g3 (by decide) dX9_prepare_5 ?_
  refine v_aload_n 0 0 hX dX9_prepare_8 rfl rfl ?_
  obtain ⟨g4, hf⟩ := q_gd_some hf
  refine v_getA hX fa_RX9_59 (fun _ _ => rfl) g1 g4 (by decide) dX9_prepare_9 ?_
  obtain ⟨I5, h6, hf⟩ := q_bd_some hf
  refine v_callV (As := [.ref (R a0 8), .ref (R a0 7)]) (rest := []) (st1 := []) none hX mv_RX9_163 (c_X0_fillFeatures h6) ⟨rfl, rfl⟩ ⟨Nat.le_of_ble_eq_true rfl, Nat.le_of_ble_eq_true rfl⟩ g2 rfl rfl (Nat.le_of_ble_eq_true rfl) ⟨Nat.le_of_ble_eq_true rfl, Nat.le_of_ble_eq_true rfl⟩ dX9_prepare_12 rfl ?_
  refine v_aload_n 0 0 hX dX9_prepare_15 rfl rfl ?_
  obtain ⟨g7, hf⟩ := q_gd_some hf
  refine v_getA hX fa_RX9_19 (fun _ _ => rfl) g1 g7 (by decide) dX9_prepare_16 ?_
  refine v_aload_n 0 0 hX dX9_prepare_19 rfl rfl ?_
  refine v_getA hX fa_RX9_12 (fun _ _ => rfl) g1 g2 (by decide) dX9_prepare_20 ?_
  obtain ⟨I8, h9, hf⟩ := q_bd_some hf
  refine v_callV (As := [.ref (R a0 0)]) (rest := []) (st1 := []) none hX mv_RX9_153 (c_X1_refresh h9) ⟨rfl, rfl⟩ ⟨Nat.le_of_ble_eq_true rfl, Nat.le_of_ble_eq_true rfl⟩ g7 rfl rfl (Nat.le_of_ble_eq_true rfl) ⟨Nat.le_of_ble_eq_true rfl, Nat.le_of_ble_eq_true rfl⟩ dX9_prepare_23 rfl ?_
  refine v_aload_n 0 0 hX dX9_prepare_26 rfl rfl ?_
  obtain ⟨g10, hf⟩ := q_gd_some hf
  refine v_getA hX fa_RX9_26 (fun _ _ => rfl) g1 g10 (by decide) dX9_prepare_27 ?_
  refine v_aload_n 0 0 hX dX9_prepare_30 rfl rfl ?_
  refine v_getA hX fa_RX9_19 (fun _ _ => rfl) g1 g7 (by decide) dX9_prepare_31 ?_
  refine v_bipush 31 hX dX9_prepare_34 (by decide) ?_
  obtain ⟨I11, h12, hf⟩ := q_bd_some hf
  refine v_callV (As := [.ref (R a0 1), .int (q_i 31)]) (rest := []) (st1 := []) none hX mv_RX9_232 (c_X6_aim h12) ⟨rfl, rfl⟩ ⟨Nat.le_of_ble_eq_true rfl, Nat.le_of_ble_eq_true rfl⟩ g10 rfl rfl (Nat.le_of_ble_eq_true rfl) ⟨Nat.le_of_ble_eq_true rfl, Nat.le_of_ble_eq_true rfl⟩ dX9_prepare_36 rfl ?_
  refine v_iconst hX dX9_prepare_39 ?_
  refine v_istore_n 1 (lw := [(1, .int (q_i 0)), (0, .ref a0)]) hX dX9_prepare_40 rfl (by decide) rfl ?_
  refine v_sub (lv' := [(0, .ref a0), (1, .int (q_i 0))]) [1, 0] rfl ?_
  refine l_X9_prepare_41 hX hE (fun w23 I24 hk => ?_) 100 _ _ hf
  clear hf
  have hf := hk
  clear hk
  cases hf
  exact v_vret hX hE (Nat.le_of_ble_eq_true rfl) (Nat.le_of_ble_eq_true rfl) dX9_prepare_68
noncomputable def f_X9_gapToClass (S : q_S) (R : q_HR) (I : q_HI) (a0 : Nat) (a1 : Nat) (a2 : Int) : Option (Int) := q_gd (S.1 a0 = 10) (q_gd (S.1 (R a0 2) = 7) (q_gd (S.1 (R a0 3) = 15) (q_gd ((0 : Int) ≤ a2 ∧ a2 < (S.2.1 (R a0 3) : Int)) (q_gd (S.1 (R (R a0 3) (Int.toNat a2)) = 3) (q_gd (S.1 (R (R (R a0 3) (Int.toNat a2)) 2) = 12) (q_bd (f_X6_gap S R I (R a0 2) a1 1 (R (R (R a0 3) (Int.toNat a2)) 2) (I (R (R a0 3) (Int.toNat a2)) 3)) fun r7 => some r7))))))
abbrev rmX9_gapToClass : Room := { frames := 1, cells := 0, slots := 0, locals := 31 }
set_option maxRecDepth 20000 in
theorem c_X9_gapToClass {S : q_S} {R : q_HR} {I : q_HI} {a0 : Nat} {a1 : Nat} {a2 : Int} {rz : Int} (hf : f_X9_gapToClass S R I a0 a1 a2 = some rz) : ∀ (l : Launch) (D : va_G) (cy : Nat → ClassId) (B : Nat), Met l yX9_gapToClass [Cond.code yX9_gapToClass cX9_gapToClass 3 (some .int)] rmX9_gapToClass (q_Pc B D cy [.ref a0, .ref a1, .int (q_i a2)] S R I) (q_Qc B D cy (some (.int (q_i rz))) S R I) 0 0 (fun q => B ≤ q) := by
  refine q_met (lv := [(0, .ref a0), (1, .ref a1), (2, .int (q_i a2))]) (own := RX9) (nm := "gapToClass") (by decide) rfl rfl (Nat.le_of_ble_eq_true rfl) rfl (fun X hX hE => ?_)
  unfold f_X9_gapToClass at hf
  refine v_aload_n 0 0 hX dX9_gapToClass_0 rfl rfl ?_
  obtain ⟨g1, hf⟩ := q_gd_some hf
  obtain ⟨g2, hf⟩ := q_gd_some hf
  refine v_getA hX fa_RX9_26 (fun _ _ => rfl) g1 g2 (by decide) dX9_gapToClass_1 ?_
  refine v_aload_n 1 1 hX dX9_gapToClass_4 rfl rfl ?_
  refine v_iconst hX dX9_gapToClass_5 ?_
  refine v_aload_n 0 0 hX dX9_gapToClass_6 rfl rfl ?_
  obtain ⟨g3, hf⟩ := q_gd_some hf
  refine v_getA hX fa_RX9_32 (fun _ _ => rfl) g1 g3 (by decide) dX9_gapToClass_7 ?_
  refine v_iload_n 2 2 hX dX9_gapToClass_10 rfl rfl ?_
  obtain ⟨g4, hf⟩ := q_gd_some hf
  obtain ⟨g5, hf⟩ := q_gd_some hf
  refine v_aaload (t0 := 3) hX g3 (by decide) (fun _ => rfl) rfl (fun _ _ _ => rfl) g4 g5 (by decide) dX9_gapToClass_11 ?_
  obtain ⟨g6, hf⟩ := q_gd_some hf
  refine v_getA hX fa_RX9_278 (fun _ _ => rfl) g5 g6 (by decide) dX9_gapToClass_12 ?_
  refine v_aload_n 0 0 hX dX9_gapToClass_15 rfl rfl ?_
  refine v_getA hX fa_RX9_32 (fun _ _ => rfl) g1 g3 (by decide) dX9_gapToClass_16 ?_
  refine v_iload_n 2 2 hX dX9_gapToClass_19 rfl rfl ?_
  refine v_aaload (t0 := 3) hX g3 (by decide) (fun _ => rfl) rfl (fun _ _ _ => rfl) g4 g5 (by decide) dX9_gapToClass_20 ?_
  refine v_getI hX fa_RX9_281 (fun _ _ => rfl) g5 dX9_gapToClass_21 ?_
  obtain ⟨r7, h8, hf⟩ := q_bd_some hf
  refine v_callV (As := [.ref a1, .int (q_i 1), .ref (R (R (R a0 3) (Int.toNat a2)) 2), .int (q_i (I (R (R a0 3) (Int.toNat a2)) 3))]) (rest := []) (st1 := [.int (q_i r7)]) (some (.int (q_i r7))) hX mv_RX9_284 (c_X6_gap h8) ⟨rfl, rfl⟩ ⟨Nat.le_of_ble_eq_true rfl, Nat.le_of_ble_eq_true rfl⟩ g2 rfl rfl (Nat.le_of_ble_eq_true rfl) ⟨Nat.le_of_ble_eq_true rfl, Nat.le_of_ble_eq_true rfl⟩ dX9_gapToClass_24 rfl ?_
  cases hf
  exact v_iret hX hE (Nat.le_of_ble_eq_true rfl) (Nat.le_of_ble_eq_true rfl) dX9_gapToClass_27
noncomputable def f_X9_distance (S : q_S) (R : q_HR) (I : q_HI) (a0 : Nat) (a1 : Int) : Option (Int × q_HI) := q_gd (S.1 a0 = 10) (q_bd (f_X9_hasClass S R I a0 a1) fun r2 => q_gd (r_i r2) (if r2 = 0 then some ((-2), I) else q_gd (r_i (I a0 9)) (if I a0 9 = 0 then some ((-5), I) else q_bd (f_X9_prepare S R I a0) fun I8 => q_gd (S.1 (R a0 7) = 12) (q_bd (f_X9_gapToClass S R I8 a0 (R a0 7) a1) fun r11 => some (r11, I8)))))
abbrev rmX9_distance : Room := { frames := 6, cells := 0, slots := 0, locals := 141 }
set_option maxRecDepth 20000 in
theorem c_X9_distance {S : q_S} {R : q_HR} {I : q_HI} {a0 : Nat} {a1 : Int} {rz : Int} {Iz : q_HI} (hf : f_X9_distance S R I a0 a1 = some (rz, Iz)) : ∀ (l : Launch) (D : va_G) (cy : Nat → ClassId) (B : Nat), Met l yX9_distance [Cond.code yX9_distance cX9_distance 2 (some .int)] rmX9_distance (q_Pc B D cy [.ref a0, .int (q_i a1)] S R I) (q_Qc B D cy (some (.int (q_i rz))) S R Iz) 0 0 (fun q => B ≤ q) := by
  refine q_met (lv := [(0, .ref a0), (1, .int (q_i a1))]) (own := RX9) (nm := "distance") (by decide) rfl rfl (Nat.le_of_ble_eq_true rfl) rfl (fun X hX hE => ?_)
  unfold f_X9_distance at hf
  refine v_aload_n 0 0 hX dX9_distance_0 rfl rfl ?_
  refine v_iload_n 1 1 hX dX9_distance_1 rfl rfl ?_
  obtain ⟨g1, hf⟩ := q_gd_some hf
  obtain ⟨r2, h3, hf⟩ := q_bd_some hf
  refine v_callV (As := [.int (q_i a1)]) (rest := []) (st1 := [.int (q_i r2)]) (some (.int (q_i r2))) hX mv_RX9_181 (c_X9_hasClass h3) ⟨rfl, rfl⟩ ⟨Nat.le_of_ble_eq_true rfl, Nat.le_of_ble_eq_true rfl⟩ g1 rfl rfl (Nat.le_of_ble_eq_true rfl) ⟨Nat.le_of_ble_eq_true rfl, Nat.le_of_ble_eq_true rfl⟩ dX9_distance_2 rfl ?_
  obtain ⟨g4, hf⟩ := q_gd_some hf
  refine v_if_ne (tgt := 11) hX g4 dX9_distance_5 (by decide) (fun c5 => ?_) (fun c5 => ?_)
  · replace hf := q_ifp c5 hf
    refine v_bipush (-2) hX dX9_distance_8 (by decide) ?_
    cases hf
    exact v_iret hX hE (Nat.le_of_ble_eq_true rfl) (Nat.le_of_ble_eq_true rfl) dX9_distance_10
  · replace hf := q_ifn c5 hf
    refine v_aload_n 0 0 hX dX9_distance_11 rfl rfl ?_
    refine v_getI hX fa_RX9_91 (fun _ _ => rfl) g1 dX9_distance_12 ?_
    obtain ⟨g6, hf⟩ := q_gd_some hf
    refine v_if_ne (tgt := 21) hX g6 dX9_distance_15 (by decide) (fun c7 => ?_) (fun c7 => ?_)
    · replace hf := q_ifp c7 hf
      refine v_bipush (-5) hX dX9_distance_18 (by decide) ?_
      cases hf
      exact v_iret hX hE (Nat.le_of_ble_eq_true rfl) (Nat.le_of_ble_eq_true rfl) dX9_distance_20
    · replace hf := q_ifn c7 hf
      refine v_aload_n 0 0 hX dX9_distance_21 rfl rfl ?_
      obtain ⟨I8, h9, hf⟩ := q_bd_some hf
      refine v_callV (As := []) (rest := []) (st1 := []) none hX mv_RX9_200 (c_X9_prepare h9) ⟨rfl, rfl⟩ ⟨Nat.le_of_ble_eq_true rfl, Nat.le_of_ble_eq_true rfl⟩ g1 rfl rfl (Nat.le_of_ble_eq_true rfl) ⟨Nat.le_of_ble_eq_true rfl, Nat.le_of_ble_eq_true rfl⟩ dX9_distance_22 rfl ?_
      refine v_aload_n 0 0 hX dX9_distance_25 rfl rfl ?_
      refine v_aload_n 0 0 hX dX9_distance_26 rfl rfl ?_
      obtain ⟨g10, hf⟩ := q_gd_some hf
      refine v_getA hX fa_RX9_59 (fun _ _ => rfl) g1 g10 (by decide) dX9_distance_27 ?_
      refine v_iload_n 1 1 hX dX9_distance_30 rfl rfl ?_
      obtain ⟨r11, h12, hf⟩ := q_bd_some hf
      refine v_callV (As := [.ref (R a0 7), .int (q_i a1)]) (rest := []) (st1 := [.int (q_i r11)]) (some (.int (q_i r11))) hX mv_RX9_203 (c_X9_gapToClass h12) ⟨rfl, rfl⟩ ⟨Nat.le_of_ble_eq_true rfl, Nat.le_of_ble_eq_true rfl⟩ g1 rfl rfl (Nat.le_of_ble_eq_true rfl) ⟨Nat.le_of_ble_eq_true rfl, Nat.le_of_ble_eq_true rfl⟩ dX9_distance_31 rfl ?_
      cases hf
      exact v_iret hX hE (Nat.le_of_ble_eq_true rfl) (Nat.le_of_ble_eq_true rfl) dX9_distance_34
noncomputable def f_X9_nearestTo_L8 (S : q_S) (R : q_HR) (I : q_HI) (p0 : Nat) (p1 : Nat) (p2 : Int) (k : Int → Int → Int → Option (Int)) : Nat → Int → Int → Int → Option (Int)
  | 0, _, _, _ => none
  | n + 1, v3, v4, v5 => q_gd (S.1 p0 = 10) (q_gd (r_i v5) (q_gd (r_i (I p0 10)) (if I p0 10 ≤ v5 then k v3 v4 v5 else q_gd (r_i p2) (if v5 = p2 then f_X9_nearestTo_L8 S R I p0 p1 p2 k n v3 v4 (v5 + 1) else q_bd (f_X9_gapToClass S R I p0 p1 v5) fun r8 => q_gd (r_i r8) (if r8 = (-1) then f_X9_nearestTo_L8 S R I p0 p1 p2 k n v3 v4 (v5 + 1) else q_gd (r_i v3) (if v3 = (-1) then f_X9_nearestTo_L8 S R I p0 p1 p2 k n v5 r8 (v5 + 1) else q_gd (r_i v4) (if v4 ≤ r8 then f_X9_nearestTo_L8 S R I p0 p1 p2 k n v3 v4 (v5 + 1) else f_X9_nearestTo_L8 S R I p0 p1 p2 k n v5 r8 (v5 + 1))))))))
noncomputable def f_X9_nearestTo (S : q_S) (R : q_HR) (I : q_HI) (a0 : Nat) (a1 : Nat) (a2 : Int) : Option (Int) := f_X9_nearestTo_L8 S R I a0 a1 a2 (fun w16 w17 w18 => some w16) 100 (-1) 0 0
abbrev rmX9_nearestTo : Room := { frames := 2, cells := 0, slots := 0, locals := 53 }
set_option maxRecDepth 20000 in
theorem l_X9_nearestTo_8 {X : q_X} {S : q_S} {R : q_HR} {I : q_HI} {p0 : Nat} {p1 : Nat} {p2 : Int} {rz : Int} (hX : q_C X cX9_nearestTo 7 RX9 (some .int) "nearestTo") (hE : q_E X 0 0 (some (.int (q_i rz))) S R I) {k : Int → Int → Int → Option (Int)} (hk : ∀ (v3 : Int) (v4 : Int) (v5 : Int), k v3 v4 v5 = some rz → q_V X rmX9_nearestTo cX9_nearestTo 7 0 0 67 [(3, .int (q_i v3))] [] S R I) :
    ∀ (n : Nat), ∀ (v3 : Int) (v4 : Int) (v5 : Int), f_X9_nearestTo_L8 S R I p0 p1 p2 k n v3 v4 v5 = some rz → q_V X rmX9_nearestTo cX9_nearestTo 7 0 0 8 [(0, .ref p0), (1, .ref p1), (2, .int (q_i p2)), (3, .int (q_i v3)), (4, .int (q_i v4)), (5, .int (q_i v5))] [] S R I := by
  intro n
  induction n with
  | zero =>
    intro v3 v4 v5 hf
    cases (show (none : Option (Int)) = some _ from hf)
  | succ n ih =>
    intro v3 v4 v5 hf
    rw [f_X9_nearestTo_L8] at hf
    refine v_iload 5 hX dX9_nearestTo_8 rfl ?_
    refine v_aload_n 0 0 hX dX9_nearestTo_10 rfl rfl ?_
    obtain ⟨g1, hf⟩ := q_gd_some hf
    refine v_getI hX fa_RX9_178 (fun _ _ => rfl) g1 dX9_nearestTo_11 ?_
    obtain ⟨g2, hf⟩ := q_gd_some hf
    obtain ⟨g3, hf⟩ := q_gd_some hf
    refine v_icmp_ge (tgt := 67) hX g2 g3 dX9_nearestTo_14 (by decide) (fun c4 => ?_) (fun c4 => ?_)
    · replace hf := q_ifp c4 hf
      refine v_sub (lv' := [(3, .int (q_i v3))]) [3] rfl ?_
      exact hk _ _ _ hf
    · replace hf := q_ifn c4 hf
      refine v_iload 5 hX dX9_nearestTo_17 rfl ?_
      refine v_iload_n 2 2 hX dX9_nearestTo_19 rfl rfl ?_
      obtain ⟨g5, hf⟩ := q_gd_some hf
      refine v_icmp_ne (tgt := 27) hX g2 g5 dX9_nearestTo_20 (by decide) (fun c6 => ?_) (fun c6 => ?_)
      · replace hf := q_ifp c6 hf
        refine v_iconst hX dX9_nearestTo_23 ?_
        refine v_goto (tgt := 34) hX dX9_nearestTo_24 (by decide) ?_
        refine v_istore (lw := [(6, .int (q_i (-1))), (0, .ref p0), (1, .ref p1), (2, .int (q_i p2)), (3, .int (q_i v3)), (4, .int (q_i v4)), (5, .int (q_i v5))]) hX dX9_nearestTo_34 (by decide) rfl ?_
        refine v_iload 0 hX dX9_nearestTo_36 rfl ?_
        refine v_iconst hX dX9_nearestTo_38 ?_
        refine v_icmp_eq (tgt := 61) hX (by unfold r_i; omega) (by unfold r_i; omega) dX9_nearestTo_39 (by decide) (fun _ => ?_) (fun c7 => absurd (by decide) c7)
        refine v_iinc 6 (lw := [(5, .int (q_i (v5 + 1))), (6, .int (q_i (-1))), (0, .ref p0), (1, .ref p1), (2, .int (q_i p2)), (3, .int (q_i v3)), (4, .int (q_i v4))]) hX dX9_nearestTo_61 rfl (by decide) rfl ?_
        refine v_goto (tgt := 8) hX dX9_nearestTo_64 (by decide) ?_
        refine v_sub (lv' := [(0, .ref p0), (1, .ref p1), (2, .int (q_i p2)), (3, .int (q_i v3)), (4, .int (q_i v4)), (5, .int (q_i (v5 + 1)))]) [2, 3, 4, 5, 6, 0] rfl ?_
        exact ih _ _ _ hf
      · replace hf := q_ifn c6 hf
        refine v_aload_n 0 0 hX dX9_nearestTo_27 rfl rfl ?_
        refine v_aload_n 1 1 hX dX9_nearestTo_28 rfl rfl ?_
        refine v_iload 5 hX dX9_nearestTo_29 rfl ?_
        obtain ⟨r8, h9, hf⟩ := q_bd_some hf
        refine v_callV (As := [.ref p1, .int (q_i v5)]) (rest := []) (st1 := [.int (q_i r8)]) (some (.int (q_i r8))) hX mv_RX9_203 (c_X9_gapToClass h9) ⟨rfl, rfl⟩ ⟨Nat.le_of_ble_eq_true rfl, Nat.le_of_ble_eq_true rfl⟩ g1 rfl rfl (Nat.le_of_ble_eq_true rfl) ⟨Nat.le_of_ble_eq_true rfl, Nat.le_of_ble_eq_true rfl⟩ dX9_nearestTo_31 rfl ?_
        refine v_istore (lw := [(6, .int (q_i r8)), (0, .ref p0), (1, .ref p1), (2, .int (q_i p2)), (3, .int (q_i v3)), (4, .int (q_i v4)), (5, .int (q_i v5))]) hX dX9_nearestTo_34 (by decide) rfl ?_
        refine v_iload 0 hX dX9_nearestTo_36 rfl ?_
        refine v_iconst hX dX9_nearestTo_38 ?_
        obtain ⟨g10, hf⟩ := q_gd_some hf
        refine v_icmp_eq (tgt := 61) hX g10 (by unfold r_i; omega) dX9_nearestTo_39 (by decide) (fun c11 => ?_) (fun c11 => ?_)
        · replace hf := q_ifp c11 hf
          refine v_iinc 6 (lw := [(5, .int (q_i (v5 + 1))), (6, .int (q_i r8)), (0, .ref p0), (1, .ref p1), (2, .int (q_i p2)), (3, .int (q_i v3)), (4, .int (q_i v4))]) hX dX9_nearestTo_61 rfl (by decide) rfl ?_
          refine v_goto (tgt := 8) hX dX9_nearestTo_64 (by decide) ?_
          refine v_sub (lv' := [(0, .ref p0), (1, .ref p1), (2, .int (q_i p2)), (3, .int (q_i v3)), (4, .int (q_i v4)), (5, .int (q_i (v5 + 1)))]) [2, 3, 4, 5, 6, 0] rfl ?_
          exact ih _ _ _ hf
        · replace hf := q_ifn c11 hf
          refine v_iload_n 3 4 hX dX9_nearestTo_42 rfl rfl ?_
          refine v_iconst hX dX9_nearestTo_43 ?_
          obtain ⟨g12, hf⟩ := q_gd_some hf
          refine v_icmp_eq (tgt := 54) hX g12 (by unfold r_i; omega) dX9_nearestTo_44 (by decide) (fun c13 => ?_) (fun c13 => ?_)
          · replace hf := q_ifp c13 hf
            refine v_iload 6 hX dX9_nearestTo_54 rfl ?_
            refine v_istore_n 3 (lw := [(3, .int (q_i v5)), (6, .int (q_i r8)), (0, .ref p0), (1, .ref p1), (2, .int (q_i p2)), (4, .int (q_i v4)), (5, .int (q_i v5))]) hX dX9_nearestTo_56 rfl (by decide) rfl ?_
            refine v_iload 1 hX dX9_nearestTo_57 rfl ?_
            refine v_istore (lw := [(4, .int (q_i r8)), (3, .int (q_i v5)), (6, .int (q_i r8)), (0, .ref p0), (1, .ref p1), (2, .int (q_i p2)), (5, .int (q_i v5))]) hX dX9_nearestTo_59 (by decide) rfl ?_
            refine v_iinc 6 (lw := [(5, .int (q_i (v5 + 1))), (4, .int (q_i r8)), (3, .int (q_i v5)), (6, .int (q_i r8)), (0, .ref p0), (1, .ref p1), (2, .int (q_i p2))]) hX dX9_nearestTo_61 rfl (by decide) rfl ?_
            refine v_goto (tgt := 8) hX dX9_nearestTo_64 (by decide) ?_
            refine v_sub (lv' := [(0, .ref p0), (1, .ref p1), (2, .int (q_i p2)), (3, .int (q_i v5)), (4, .int (q_i r8)), (5, .int (q_i (v5 + 1)))]) [4, 5, 6, 2, 1, 0] rfl ?_
            exact ih _ _ _ hf
          · replace hf := q_ifn c13 hf
            refine v_iload 0 hX dX9_nearestTo_47 rfl ?_
            refine v_iload 5 hX dX9_nearestTo_49 rfl ?_
            obtain ⟨g14, hf⟩ := q_gd_some hf
            refine v_icmp_ge (tgt := 61) hX g10 g14 dX9_nearestTo_51 (by decide) (fun c15 => ?_) (fun c15 => ?_)
            · replace hf := q_ifp c15 hf
              refine v_iinc 6 (lw := [(5, .int (q_i (v5 + 1))), (6, .int (q_i r8)), (0, .ref p0), (1, .ref p1), (2, .int (q_i p2)), (3, .int (q_i v3)), (4, .int (q_i v4))]) hX dX9_nearestTo_61 rfl (by decide) rfl ?_
              refine v_goto (tgt := 8) hX dX9_nearestTo_64 (by decide) ?_
              refine v_sub (lv' := [(0, .ref p0), (1, .ref p1), (2, .int (q_i p2)), (3, .int (q_i v3)), (4, .int (q_i v4)), (5, .int (q_i (v5 + 1)))]) [2, 3, 4, 5, 6, 0] rfl ?_
              exact ih _ _ _ hf
            · replace hf := q_ifn c15 hf
              refine v_iload 6 hX dX9_nearestTo_54 rfl ?_
              refine v_istore_n 3 (lw := [(3, .int (q_i v5)), (6, .int (q_i r8)), (0, .ref p0), (1, .ref p1), (2, .int (q_i p2)), (4, .int (q_i v4)), (5, .int (q_i v5))]) hX dX9_nearestTo_56 rfl (by decide) rfl ?_
              refine v_iload 1 hX dX9_nearestTo_57 rfl ?_
              refine v_istore (lw := [(4, .int (q_i r8)), (3, .int (q_i v5)), (6, .int (q_i r8)), (0, .ref p0), (1, .ref p1), (2, .int (q_i p2)), (5, .int (q_i v5))]) hX dX9_nearestTo_59 (by decide) rfl ?_
              refine v_iinc 6 (lw := [(5, .int (q_i (v5 + 1))), (4, .int (q_i r8)), (3, .int (q_i v5)), (6, .int (q_i r8)), (0, .ref p0), (1, .ref p1), (2, .int (q_i p2))]) hX dX9_nearestTo_61 rfl (by decide) rfl ?_
              refine v_goto (tgt := 8) hX dX9_nearestTo_64 (by decide) ?_
              refine v_sub (lv' := [(0, .ref p0), (1, .ref p1), (2, .int (q_i p2)), (3, .int (q_i v5)), (4, .int (q_i r8)), (5, .int (q_i (v5 + 1)))]) [4, 5, 6, 2, 1, 0] rfl ?_
              exact ih _ _ _ hf
set_option maxRecDepth 20000 in
theorem c_X9_nearestTo {S : q_S} {R : q_HR} {I : q_HI} {a0 : Nat} {a1 : Nat} {a2 : Int} {rz : Int} (hf : f_X9_nearestTo S R I a0 a1 a2 = some rz) : ∀ (l : Launch) (D : va_G) (cy : Nat → ClassId) (B : Nat), Met l yX9_nearestTo [Cond.code yX9_nearestTo cX9_nearestTo 7 (some .int)] rmX9_nearestTo (q_Pc B D cy [.ref a0, .ref a1, .int (q_i a2)] S R I) (q_Qc B D cy (some (.int (q_i rz))) S R I) 0 0 (fun q => B ≤ q) := by
  refine q_met (lv := [(0, .ref a0), (1, .ref a1), (2, .int (q_i a2))]) (own := RX9) (nm := "nearestTo") (by decide) rfl rfl (Nat.le_of_ble_eq_true rfl) rfl (fun X hX hE => ?_)
  unfold f_X9_nearestTo at hf
  refine v_iconst hX dX9_nearestTo_0 ?_
  refine v_istore_n 3 (lw := [(3, .int (q_i (-1))), (0, .ref a0), (1, .ref a1), (2, .int (q_i a2))]) hX dX9_nearestTo_1 rfl (by decide) rfl ?_
  refine v_iconst hX dX9_nearestTo_2 ?_
  refine v_istore (lw := [(4, .int (q_i 0)), (3, .int (q_i (-1))), (0, .ref a0), (1, .ref a1), (2, .int (q_i a2))]) hX dX9_nearestTo_3 (by decide) rfl ?_
  refine v_iconst hX dX9_nearestTo_5 ?_
  refine v_istore (lw := [(5, .int (q_i 0)), (4, .int (q_i 0)), (3, .int (q_i (-1))), (0, .ref a0), (1, .ref a1), (2, .int (q_i a2))]) hX dX9_nearestTo_6 (by decide) rfl ?_
  refine v_sub (lv' := [(0, .ref a0), (1, .ref a1), (2, .int (q_i a2)), (3, .int (q_i (-1))), (4, .int (q_i 0)), (5, .int (q_i 0))]) [3, 4, 5, 2, 1, 0] rfl ?_
  refine l_X9_nearestTo_8 hX hE (fun w16 w17 w18 hk => ?_) 100 _ _ _ hf
  clear hf
  have hf := hk
  clear hk
  refine v_iload_n 3 0 hX dX9_nearestTo_67 rfl rfl ?_
  cases hf
  exact v_iret hX hE (Nat.le_of_ble_eq_true rfl) (Nat.le_of_ble_eq_true rfl) dX9_nearestTo_68
noncomputable def f_X9_nearestClass (S : q_S) (R : q_HR) (I : q_HI) (a0 : Nat) : Option (Int × q_HI) := q_gd (S.1 a0 = 10) (q_gd (r_i (I a0 9)) (if I a0 9 = 0 then some ((-5), I) else q_bd (f_X9_prepare S R I a0) fun I4 => q_gd (S.1 (R a0 7) = 12) (q_bd (f_X9_nearestTo S R I4 a0 (R a0 7) (-1)) fun r7 => some (r7, I4))))
abbrev rmX9_nearestClass : Room := { frames := 6, cells := 0, slots := 0, locals := 141 }
set_option maxRecDepth 20000 in
theorem c_X9_nearestClass {S : q_S} {R : q_HR} {I : q_HI} {a0 : Nat} {rz : Int} {Iz : q_HI} (hf : f_X9_nearestClass S R I a0 = some (rz, Iz)) : ∀ (l : Launch) (D : va_G) (cy : Nat → ClassId) (B : Nat), Met l yX9_nearestClass [Cond.code yX9_nearestClass cX9_nearestClass 1 (some .int)] rmX9_nearestClass (q_Pc B D cy [.ref a0] S R I) (q_Qc B D cy (some (.int (q_i rz))) S R Iz) 0 0 (fun q => B ≤ q) := by
  refine q_met (lv := [(0, .ref a0)]) (own := RX9) (nm := "nearestClass") (by decide) rfl rfl (Nat.le_of_ble_eq_true rfl) rfl (fun X hX hE => ?_)
  unfold f_X9_nearestClass at hf
  refine v_aload_n 0 0 hX dX9_nearestClass_0 rfl rfl ?_
  obtain ⟨g1, hf⟩ := q_gd_some hf
  refine v_getI hX fa_RX9_91 (fun _ _ => rfl) g1 dX9_nearestClass_1 ?_
  obtain ⟨g2, hf⟩ := q_gd_some hf
  refine v_if_ne (tgt := 10) hX g2 dX9_nearestClass_4 (by decide) (fun c3 => ?_) (fun c3 => ?_)
  · replace hf := q_ifp c3 hf
    refine v_bipush (-5) hX dX9_nearestClass_7 (by decide) ?_
    cases hf
    exact v_iret hX hE (Nat.le_of_ble_eq_true rfl) (Nat.le_of_ble_eq_true rfl) dX9_nearestClass_9
  · replace hf := q_ifn c3 hf
    refine v_aload_n 0 0 hX dX9_nearestClass_10 rfl rfl ?_
    obtain ⟨I4, h5, hf⟩ := q_bd_some hf
    refine v_callV (As := []) (rest := []) (st1 := []) none hX mv_RX9_200 (c_X9_prepare h5) ⟨rfl, rfl⟩ ⟨Nat.le_of_ble_eq_true rfl, Nat.le_of_ble_eq_true rfl⟩ g1 rfl rfl (Nat.le_of_ble_eq_true rfl) ⟨Nat.le_of_ble_eq_true rfl, Nat.le_of_ble_eq_true rfl⟩ dX9_nearestClass_11 rfl ?_
    refine v_aload_n 0 0 hX dX9_nearestClass_14 rfl rfl ?_
    refine v_aload_n 0 0 hX dX9_nearestClass_15 rfl rfl ?_
    obtain ⟨g6, hf⟩ := q_gd_some hf
    refine v_getA hX fa_RX9_59 (fun _ _ => rfl) g1 g6 (by decide) dX9_nearestClass_16 ?_
    refine v_iconst hX dX9_nearestClass_19 ?_
    obtain ⟨r7, h8, hf⟩ := q_bd_some hf
    refine v_callV (As := [.ref (R a0 7), .int (q_i (-1))]) (rest := []) (st1 := [.int (q_i r7)]) (some (.int (q_i r7))) hX mv_RX9_207 (c_X9_nearestTo h8) ⟨rfl, rfl⟩ ⟨Nat.le_of_ble_eq_true rfl, Nat.le_of_ble_eq_true rfl⟩ g1 rfl rfl (Nat.le_of_ble_eq_true rfl) ⟨Nat.le_of_ble_eq_true rfl, Nat.le_of_ble_eq_true rfl⟩ dX9_nearestClass_20 rfl ?_
    cases hf
    exact v_iret hX hE (Nat.le_of_ble_eq_true rfl) (Nat.le_of_ble_eq_true rfl) dX9_nearestClass_23
noncomputable def f_X9_runnerUp (S : q_S) (R : q_HR) (I : q_HI) (a0 : Nat) : Option (Int × q_HI) := q_gd (S.1 a0 = 10) (q_gd (r_i (I a0 9)) (if I a0 9 = 0 then some ((-5), I) else q_bd (f_X9_prepare S R I a0) fun I4 => q_gd (S.1 (R a0 7) = 12) (q_bd (f_X9_nearestTo S R I4 a0 (R a0 7) (-1)) fun r7 => q_bd (f_X9_nearestTo S R I4 a0 (R a0 7) r7) fun r9 => some (r9, I4))))
abbrev rmX9_runnerUp : Room := { frames := 6, cells := 0, slots := 0, locals := 141 }
set_option maxRecDepth 20000 in
theorem c_X9_runnerUp {S : q_S} {R : q_HR} {I : q_HI} {a0 : Nat} {rz : Int} {Iz : q_HI} (hf : f_X9_runnerUp S R I a0 = some (rz, Iz)) : ∀ (l : Launch) (D : va_G) (cy : Nat → ClassId) (B : Nat), Met l yX9_runnerUp [Cond.code yX9_runnerUp cX9_runnerUp 1 (some .int)] rmX9_runnerUp (q_Pc B D cy [.ref a0] S R I) (q_Qc B D cy (some (.int (q_i rz))) S R Iz) 0 0 (fun q => B ≤ q) := by
  refine q_met (lv := [(0, .ref a0)]) (own := RX9) (nm := "runnerUp") (by decide) rfl rfl (Nat.le_of_ble_eq_true rfl) rfl (fun X hX hE => ?_)
  unfold f_X9_runnerUp at hf
  refine v_aload_n 0 0 hX dX9_runnerUp_0 rfl rfl ?_
  obtain ⟨g1, hf⟩ := q_gd_some hf
  refine v_getI hX fa_RX9_91 (fun _ _ => rfl) g1 dX9_runnerUp_1 ?_
  obtain ⟨g2, hf⟩ := q_gd_some hf
  refine v_if_ne (tgt := 10) hX g2 dX9_runnerUp_4 (by decide) (fun c3 => ?_) (fun c3 => ?_)
  · replace hf := q_ifp c3 hf
    refine v_bipush (-5) hX dX9_runnerUp_7 (by decide) ?_
    cases hf
    exact v_iret hX hE (Nat.le_of_ble_eq_true rfl) (Nat.le_of_ble_eq_true rfl) dX9_runnerUp_9
  · replace hf := q_ifn c3 hf
    refine v_aload_n 0 0 hX dX9_runnerUp_10 rfl rfl ?_
    obtain ⟨I4, h5, hf⟩ := q_bd_some hf
    refine v_callV (As := []) (rest := []) (st1 := []) none hX mv_RX9_200 (c_X9_prepare h5) ⟨rfl, rfl⟩ ⟨Nat.le_of_ble_eq_true rfl, Nat.le_of_ble_eq_true rfl⟩ g1 rfl rfl (Nat.le_of_ble_eq_true rfl) ⟨Nat.le_of_ble_eq_true rfl, Nat.le_of_ble_eq_true rfl⟩ dX9_runnerUp_11 rfl ?_
    refine v_aload_n 0 0 hX dX9_runnerUp_14 rfl rfl ?_
    refine v_aload_n 0 0 hX dX9_runnerUp_15 rfl rfl ?_
    obtain ⟨g6, hf⟩ := q_gd_some hf
    refine v_getA hX fa_RX9_59 (fun _ _ => rfl) g1 g6 (by decide) dX9_runnerUp_16 ?_
    refine v_aload_n 0 0 hX dX9_runnerUp_19 rfl rfl ?_
    refine v_aload_n 0 0 hX dX9_runnerUp_20 rfl rfl ?_
    refine v_getA hX fa_RX9_59 (fun _ _ => rfl) g1 g6 (by decide) dX9_runnerUp_21 ?_
    refine v_iconst hX dX9_runnerUp_24 ?_
    obtain ⟨r7, h8, hf⟩ := q_bd_some hf
    refine v_callV (As := [.ref (R a0 7), .int (q_i (-1))]) (rest := [.ref (R a0 7), .ref a0]) (st1 := [.int (q_i r7), .ref (R a0 7), .ref a0]) (some (.int (q_i r7))) hX mv_RX9_207 (c_X9_nearestTo h8) ⟨rfl, rfl⟩ ⟨Nat.le_of_ble_eq_true rfl, Nat.le_of_ble_eq_true rfl⟩ g1 rfl rfl (Nat.le_of_ble_eq_true rfl) ⟨Nat.le_of_ble_eq_true rfl, Nat.le_of_ble_eq_true rfl⟩ dX9_runnerUp_25 rfl ?_
    obtain ⟨r9, h10, hf⟩ := q_bd_some hf
    refine v_callV (As := [.ref (R a0 7), .int (q_i r7)]) (rest := []) (st1 := [.int (q_i r9)]) (some (.int (q_i r9))) hX mv_RX9_207 (c_X9_nearestTo h10) ⟨rfl, rfl⟩ ⟨Nat.le_of_ble_eq_true rfl, Nat.le_of_ble_eq_true rfl⟩ g1 rfl rfl (Nat.le_of_ble_eq_true rfl) ⟨Nat.le_of_ble_eq_true rfl, Nat.le_of_ble_eq_true rfl⟩ dX9_runnerUp_28 rfl ?_
    cases hf
    exact v_iret hX hE (Nat.le_of_ble_eq_true rfl) (Nat.le_of_ble_eq_true rfl) dX9_runnerUp_31
noncomputable def f_X9_farthestSample_L15 (S : q_S) (R : q_HR) (I : q_HI) (p0 : Nat) (p1 : Int) (p2 : Nat) (k : Int → Int → Int → Option (Int)) : Nat → Int → Int → Int → Option (Int)
  | 0, _, _, _ => none
  | n + 1, v3, v4, v5 => q_gd (S.1 p2 = 3) (q_gd (S.1 (R p2 0) = 9) (q_gd (r_i v5) (q_gd (r_i (I (R p2 0) 2)) (if I (R p2 0) 2 ≤ v5 then k v3 v4 v5 else q_gd (S.1 (R p2 1) = 17) (q_gd ((0 : Int) ≤ v5 ∧ v5 < (S.2.1 (R p2 1) : Int)) (q_gd (S.1 (R (R p2 1) (Int.toNat v5)) = 12) (q_gd (S.1 p0 = 10) (q_bd (f_X9_gapToClass S R I p0 (R (R p2 1) (Int.toNat v5)) p1) fun r17 => q_gd (r_i r17) (q_gd (r_i v4) (if r17 ≤ v4 then f_X9_farthestSample_L15 S R I p0 p1 p2 k n v3 v4 (v5 + 1) else f_X9_farthestSample_L15 S R I p0 p1 p2 k n v5 r17 (v5 + 1)))))))))))
noncomputable def f_X9_farthestSample (S : q_S) (R : q_HR) (I : q_HI) (a0 : Nat) (a1 : Int) : Option (Int) := q_gd (S.1 a0 = 10) (q_gd (S.1 (R a0 3) = 15) (q_gd ((0 : Int) ≤ a1 ∧ a1 < (S.2.1 (R a0 3) : Int)) (q_gd (S.1 (R (R a0 3) (Int.toNat a1)) = 3) (q_lt (R (R a0 3) (Int.toNat a1)) fun x5 => f_X9_farthestSample_L15 S R I a0 a1 x5 (fun w22 w23 w24 => some w22) 100 (-1) (-1) 0))))
abbrev rmX9_farthestSample : Room := { frames := 2, cells := 0, slots := 0, locals := 53 }
set_option maxRecDepth 20000 in
theorem l_X9_farthestSample_15 {X : q_X} {S : q_S} {R : q_HR} {I : q_HI} {p0 : Nat} {p1 : Int} {p2 : Nat} {rz : Int} (hX : q_C X cX9_farthestSample 7 RX9 (some .int) "farthestSample") (hE : q_E X 0 0 (some (.int (q_i rz))) S R I) {k : Int → Int → Int → Option (Int)} (hk : ∀ (v3 : Int) (v4 : Int) (v5 : Int), k v3 v4 v5 = some rz → q_V X rmX9_farthestSample cX9_farthestSample 7 0 0 61 [(3, .int (q_i v3))] [] S R I) :
    ∀ (n : Nat), ∀ (v3 : Int) (v4 : Int) (v5 : Int), f_X9_farthestSample_L15 S R I p0 p1 p2 k n v3 v4 v5 = some rz → q_V X rmX9_farthestSample cX9_farthestSample 7 0 0 15 [(0, .ref p0), (1, .int (q_i p1)), (2, .ref p2), (3, .int (q_i v3)), (4, .int (q_i v4)), (5, .int (q_i v5))] [] S R I := by
  intro n
  induction n with
  | zero =>
    intro v3 v4 v5 hf
    cases (show (none : Option (Int)) = some _ from hf)
  | succ n ih =>
    intro v3 v4 v5 hf
    rw [f_X9_farthestSample_L15] at hf
    refine v_iload 5 hX dX9_farthestSample_15 rfl ?_
    refine v_aload_n 2 2 hX dX9_farthestSample_17 rfl rfl ?_
    obtain ⟨g8, hf⟩ := q_gd_some hf
    obtain ⟨g9, hf⟩ := q_gd_some hf
    refine v_getA hX fa_RX9_184 (fun _ _ => rfl) g8 g9 (by decide) dX9_farthestSample_18 ?_
    refine v_getI hX fa_RX9_116 (fun _ _ => rfl) g9 dX9_farthestSample_21 ?_
    obtain ⟨g10, hf⟩ := q_gd_some hf
    obtain ⟨g11, hf⟩ := q_gd_some hf
    refine v_icmp_ge (tgt := 61) hX g10 g11 dX9_farthestSample_24 (by decide) (fun c12 => ?_) (fun c12 => ?_)
    · replace hf := q_ifp c12 hf
      refine v_sub (lv' := [(3, .int (q_i v3))]) [3] rfl ?_
      exact hk _ _ _ hf
    · replace hf := q_ifn c12 hf
      refine v_aload_n 0 0 hX dX9_farthestSample_27 rfl rfl ?_
      refine v_aload_n 2 2 hX dX9_farthestSample_28 rfl rfl ?_
      obtain ⟨g13, hf⟩ := q_gd_some hf
      refine v_getA hX fa_RX9_287 (fun _ _ => rfl) g8 g13 (by decide) dX9_farthestSample_29 ?_
      refine v_iload 5 hX dX9_farthestSample_32 rfl ?_
      obtain ⟨g14, hf⟩ := q_gd_some hf
      obtain ⟨g15, hf⟩ := q_gd_some hf
      refine v_aaload (t0 := 5) hX g13 (by decide) (fun _ => rfl) rfl (fun _ _ _ => rfl) g14 g15 (by decide) dX9_farthestSample_34 ?_
      refine v_iload_n 1 1 hX dX9_farthestSample_35 rfl rfl ?_
      obtain ⟨g16, hf⟩ := q_gd_some hf
      obtain ⟨r17, h18, hf⟩ := q_bd_some hf
      refine v_callV (As := [.ref (R (R p2 1) (Int.toNat v5)), .int (q_i p1)]) (rest := []) (st1 := [.int (q_i r17)]) (some (.int (q_i r17))) hX mv_RX9_203 (c_X9_gapToClass h18) ⟨rfl, rfl⟩ ⟨Nat.le_of_ble_eq_true rfl, Nat.le_of_ble_eq_true rfl⟩ g16 rfl rfl (Nat.le_of_ble_eq_true rfl) ⟨Nat.le_of_ble_eq_true rfl, Nat.le_of_ble_eq_true rfl⟩ dX9_farthestSample_36 rfl ?_
      refine v_istore (lw := [(6, .int (q_i r17)), (0, .ref p0), (1, .int (q_i p1)), (2, .ref p2), (3, .int (q_i v3)), (4, .int (q_i v4)), (5, .int (q_i v5))]) hX dX9_farthestSample_39 (by decide) rfl ?_
      refine v_iload 0 hX dX9_farthestSample_41 rfl ?_
      refine v_iload 5 hX dX9_farthestSample_43 rfl ?_
      obtain ⟨g19, hf⟩ := q_gd_some hf
      obtain ⟨g20, hf⟩ := q_gd_some hf
      refine v_icmp_le (tgt := 55) hX g19 g20 dX9_farthestSample_45 (by decide) (fun c21 => ?_) (fun c21 => ?_)
      · replace hf := q_ifp c21 hf
        refine v_iinc 6 (lw := [(5, .int (q_i (v5 + 1))), (6, .int (q_i r17)), (0, .ref p0), (1, .int (q_i p1)), (2, .ref p2), (3, .int (q_i v3)), (4, .int (q_i v4))]) hX dX9_farthestSample_55 rfl (by decide) rfl ?_
        refine v_goto (tgt := 15) hX dX9_farthestSample_58 (by decide) ?_
        refine v_sub (lv' := [(0, .ref p0), (1, .int (q_i p1)), (2, .ref p2), (3, .int (q_i v3)), (4, .int (q_i v4)), (5, .int (q_i (v5 + 1)))]) [2, 3, 4, 5, 6, 0] rfl ?_
        exact ih _ _ _ hf
      · replace hf := q_ifn c21 hf
        refine v_iload 6 hX dX9_farthestSample_48 rfl ?_
        refine v_istore_n 3 (lw := [(3, .int (q_i v5)), (6, .int (q_i r17)), (0, .ref p0), (1, .int (q_i p1)), (2, .ref p2), (4, .int (q_i v4)), (5, .int (q_i v5))]) hX dX9_farthestSample_50 rfl (by decide) rfl ?_
        refine v_iload 1 hX dX9_farthestSample_51 rfl ?_
        refine v_istore (lw := [(4, .int (q_i r17)), (3, .int (q_i v5)), (6, .int (q_i r17)), (0, .ref p0), (1, .int (q_i p1)), (2, .ref p2), (5, .int (q_i v5))]) hX dX9_farthestSample_53 (by decide) rfl ?_
        refine v_iinc 6 (lw := [(5, .int (q_i (v5 + 1))), (4, .int (q_i r17)), (3, .int (q_i v5)), (6, .int (q_i r17)), (0, .ref p0), (1, .int (q_i p1)), (2, .ref p2)]) hX dX9_farthestSample_55 rfl (by decide) rfl ?_
        refine v_goto (tgt := 15) hX dX9_farthestSample_58 (by decide) ?_
        refine v_sub (lv' := [(0, .ref p0), (1, .int (q_i p1)), (2, .ref p2), (3, .int (q_i v5)), (4, .int (q_i r17)), (5, .int (q_i (v5 + 1)))]) [4, 5, 6, 2, 1, 0] rfl ?_
        exact ih _ _ _ hf
set_option maxRecDepth 20000 in
theorem c_X9_farthestSample {S : q_S} {R : q_HR} {I : q_HI} {a0 : Nat} {a1 : Int} {rz : Int} (hf : f_X9_farthestSample S R I a0 a1 = some rz) : ∀ (l : Launch) (D : va_G) (cy : Nat → ClassId) (B : Nat), Met l yX9_farthestSample [Cond.code yX9_farthestSample cX9_farthestSample 7 (some .int)] rmX9_farthestSample (q_Pc B D cy [.ref a0, .int (q_i a1)] S R I) (q_Qc B D cy (some (.int (q_i rz))) S R I) 0 0 (fun q => B ≤ q) := by
  refine q_met (lv := [(0, .ref a0), (1, .int (q_i a1))]) (own := RX9) (nm := "farthestSample") (by decide) rfl rfl (Nat.le_of_ble_eq_true rfl) rfl (fun X hX hE => ?_)
  unfold f_X9_farthestSample at hf
  refine v_aload_n 0 0 hX dX9_farthestSample_0 rfl rfl ?_
  obtain ⟨g1, hf⟩ := q_gd_some hf
  obtain ⟨g2, hf⟩ := q_gd_some hf
  refine v_getA hX fa_RX9_32 (fun _ _ => rfl) g1 g2 (by decide) dX9_farthestSample_1 ?_
  refine v_iload_n 1 1 hX dX9_farthestSample_4 rfl rfl ?_
  obtain ⟨g3, hf⟩ := q_gd_some hf
  obtain ⟨g4, hf⟩ := q_gd_some hf
  refine v_aaload (t0 := 3) hX g2 (by decide) (fun _ => rfl) rfl (fun _ _ _ => rfl) g3 g4 (by decide) dX9_farthestSample_5 ?_
  obtain ⟨x5, e6, hf⟩ := q_lt_nm hf
  rw [e6]
  have g7 := g4
  rw [e6] at g7
  refine v_astore_n 2 (lw := [(2, .ref x5), (0, .ref a0), (1, .int (q_i a1))]) hX dX9_farthestSample_6 rfl (by decide) rfl ?_
  refine v_iconst hX dX9_farthestSample_7 ?_
  refine v_istore_n 3 (lw := [(3, .int (q_i (-1))), (2, .ref x5), (0, .ref a0), (1, .int (q_i a1))]) hX dX9_farthestSample_8 rfl (by decide) rfl ?_
  refine v_iconst hX dX9_farthestSample_9 ?_
  refine v_istore (lw := [(4, .int (q_i (-1))), (3, .int (q_i (-1))), (2, .ref x5), (0, .ref a0), (1, .int (q_i a1))]) hX dX9_farthestSample_10 (by decide) rfl ?_
  refine v_iconst hX dX9_farthestSample_12 ?_
  refine v_istore (lw := [(5, .int (q_i 0)), (4, .int (q_i (-1))), (3, .int (q_i (-1))), (2, .ref x5), (0, .ref a0), (1, .int (q_i a1))]) hX dX9_farthestSample_13 (by decide) rfl ?_
  refine v_sub (lv' := [(0, .ref a0), (1, .int (q_i a1)), (2, .ref x5), (3, .int (q_i (-1))), (4, .int (q_i (-1))), (5, .int (q_i 0))]) [4, 5, 3, 2, 1, 0] rfl ?_
  refine l_X9_farthestSample_15 hX hE (fun w22 w23 w24 hk => ?_) 100 _ _ _ hf
  clear hf
  have hf := hk
  clear hk
  refine v_iload_n 3 0 hX dX9_farthestSample_61 rfl rfl ?_
  cases hf
  exact v_iret hX hE (Nat.le_of_ble_eq_true rfl) (Nat.le_of_ble_eq_true rfl) dX9_farthestSample_62
noncomputable def f_X9_reachOf (S : q_S) (R : q_HR) (I : q_HI) (a0 : Nat) (a1 : Int) : Option (Int) := q_gd (S.1 a0 = 10) (q_bd (f_X9_farthestSample S R I a0 a1) fun r2 => q_gd (r_i r2) (if r2 = (-1) then some (-1) else q_gd (S.1 (R a0 3) = 15) (q_gd ((0 : Int) ≤ a1 ∧ a1 < (S.2.1 (R a0 3) : Int)) (q_gd (S.1 (R (R a0 3) (Int.toNat a1)) = 3) (q_gd (S.1 (R (R (R a0 3) (Int.toNat a1)) 1) = 17) (q_gd ((0 : Int) ≤ r2 ∧ r2 < (S.2.1 (R (R (R a0 3) (Int.toNat a1)) 1) : Int)) (q_gd (S.1 (R (R (R (R a0 3) (Int.toNat a1)) 1) (Int.toNat r2)) = 12) (q_bd (f_X9_gapToClass S R I a0 (R (R (R (R a0 3) (Int.toNat a1)) 1) (Int.toNat r2)) a1) fun r12 => q_gd (r_i r12) (q_gd (r_i (100 + (I a0 11))) (q_bd (f_X9_quotient ((100 + (I a0 11)) * r12) 100) fun r16 => q_gd (r_i (I a0 12)) (some (r16 + (I a0 12)))))))))))))
abbrev rmX9_reachOf : Room := { frames := 3, cells := 0, slots := 0, locals := 79 }
set_option maxRecDepth 20000 in
theorem c_X9_reachOf {S : q_S} {R : q_HR} {I : q_HI} {a0 : Nat} {a1 : Int} {rz : Int} (hf : f_X9_reachOf S R I a0 a1 = some rz) : ∀ (l : Launch) (D : va_G) (cy : Nat → ClassId) (B : Nat), Met l yX9_reachOf [Cond.code yX9_reachOf cX9_reachOf 5 (some .int)] rmX9_reachOf (q_Pc B D cy [.ref a0, .int (q_i a1)] S R I) (q_Qc B D cy (some (.int (q_i rz))) S R I) 0 0 (fun q => B ≤ q) := by
  refine q_met (lv := [(0, .ref a0), (1, .int (q_i a1))]) (own := RX9) (nm := "reachOf") (by decide) rfl rfl (Nat.le_of_ble_eq_true rfl) rfl (fun X hX hE => ?_)
  unfold f_X9_reachOf at hf
  refine v_aload_n 0 0 hX dX9_reachOf_0 rfl rfl ?_
  refine v_iload_n 1 1 hX dX9_reachOf_1 rfl rfl ?_
  obtain ⟨g1, hf⟩ := q_gd_some hf
  obtain ⟨r2, h3, hf⟩ := q_bd_some hf
  refine v_callV (As := [.int (q_i a1)]) (rest := []) (st1 := [.int (q_i r2)]) (some (.int (q_i r2))) hX mv_RX9_268 (c_X9_farthestSample h3) ⟨rfl, rfl⟩ ⟨Nat.le_of_ble_eq_true rfl, Nat.le_of_ble_eq_true rfl⟩ g1 rfl rfl (Nat.le_of_ble_eq_true rfl) ⟨Nat.le_of_ble_eq_true rfl, Nat.le_of_ble_eq_true rfl⟩ dX9_reachOf_2 rfl ?_
  refine v_istore_n 2 (lw := [(2, .int (q_i r2)), (0, .ref a0), (1, .int (q_i a1))]) hX dX9_reachOf_5 rfl (by decide) rfl ?_
  refine v_iload_n 2 0 hX dX9_reachOf_6 rfl rfl ?_
  refine v_iconst hX dX9_reachOf_7 ?_
  obtain ⟨g4, hf⟩ := q_gd_some hf
  refine v_icmp_ne (tgt := 13) hX g4 (by unfold r_i; omega) dX9_reachOf_8 (by decide) (fun c5 => ?_) (fun c5 => ?_)
  · replace hf := q_ifp c5 hf
    refine v_iconst hX dX9_reachOf_11 ?_
    cases hf
    exact v_iret hX hE (Nat.le_of_ble_eq_true rfl) (Nat.le_of_ble_eq_true rfl) dX9_reachOf_12
  · replace hf := q_ifn c5 hf
    refine v_aload_n 0 1 hX dX9_reachOf_13 rfl rfl ?_
    refine v_aload_n 0 1 hX dX9_reachOf_14 rfl rfl ?_
    obtain ⟨g6, hf⟩ := q_gd_some hf
    refine v_getA hX fa_RX9_32 (fun _ _ => rfl) g1 g6 (by decide) dX9_reachOf_15 ?_
    refine v_iload_n 1 2 hX dX9_reachOf_18 rfl rfl ?_
    obtain ⟨g7, hf⟩ := q_gd_some hf
    obtain ⟨g8, hf⟩ := q_gd_some hf
    refine v_aaload (t0 := 3) hX g6 (by decide) (fun _ => rfl) rfl (fun _ _ _ => rfl) g7 g8 (by decide) dX9_reachOf_19 ?_
    obtain ⟨g9, hf⟩ := q_gd_some hf
    refine v_getA hX fa_RX9_287 (fun _ _ => rfl) g8 g9 (by decide) dX9_reachOf_20 ?_
    refine v_iload_n 2 0 hX dX9_reachOf_23 rfl rfl ?_
    obtain ⟨g10, hf⟩ := q_gd_some hf
    obtain ⟨g11, hf⟩ := q_gd_some hf
    refine v_aaload (t0 := 5) hX g9 (by decide) (fun _ => rfl) rfl (fun _ _ _ => rfl) g10 g11 (by decide) dX9_reachOf_24 ?_
    refine v_iload_n 1 2 hX dX9_reachOf_25 rfl rfl ?_
    obtain ⟨r12, h13, hf⟩ := q_bd_some hf
    refine v_callV (As := [.ref (R (R (R (R a0 3) (Int.toNat a1)) 1) (Int.toNat r2)), .int (q_i a1)]) (rest := []) (st1 := [.int (q_i r12)]) (some (.int (q_i r12))) hX mv_RX9_203 (c_X9_gapToClass h13) ⟨rfl, rfl⟩ ⟨Nat.le_of_ble_eq_true rfl, Nat.le_of_ble_eq_true rfl⟩ g1 rfl rfl (Nat.le_of_ble_eq_true rfl) ⟨Nat.le_of_ble_eq_true rfl, Nat.le_of_ble_eq_true rfl⟩ dX9_reachOf_26 rfl ?_
    obtain ⟨g14, hf⟩ := q_gd_some hf
    refine v_i2l hX g14 dX9_reachOf_29 ?_
    refine v_lstore_n 3 (lw := [(3, .long (q_l r12)), (2, .int (q_i r2)), (0, .ref a0), (1, .int (q_i a1))]) hX dX9_reachOf_30 rfl (by decide) rfl ?_
    refine v_bipush 100 hX dX9_reachOf_31 (by decide) ?_
    refine v_aload_n 0 2 hX dX9_reachOf_33 rfl rfl ?_
    refine v_getI hX fa_RX9_214 (fun _ _ => rfl) g1 dX9_reachOf_34 ?_
    refine v_iadd hX dX9_reachOf_37 ?_
    obtain ⟨g15, hf⟩ := q_gd_some hf
    refine v_i2l hX g15 dX9_reachOf_38 ?_
    refine v_lload_n 3 0 hX dX9_reachOf_39 rfl rfl ?_
    refine v_lmul hX dX9_reachOf_40 ?_
    refine v_ldc2 100 hX kl_RX9_291 (by decide) dX9_reachOf_41 ?_
    obtain ⟨r16, h17, hf⟩ := q_bd_some hf
    refine v_callS (As := [.long (q_l ((100 + (I a0 11)) * r12)), .long (q_l 100)]) (rest := []) (st1 := [.long (q_l r16)]) (some (.long (q_l r16))) hX ms_RX9_133 (c_X9_quotient h17) ⟨rfl, rfl⟩ ⟨Nat.le_of_ble_eq_true rfl, Nat.le_of_ble_eq_true rfl⟩ rfl rfl (Nat.le_of_ble_eq_true rfl) ⟨Nat.le_of_ble_eq_true rfl, Nat.le_of_ble_eq_true rfl⟩ dX9_reachOf_44 rfl ?_
    refine v_aload_n 0 2 hX dX9_reachOf_47 rfl rfl ?_
    refine v_getI hX fa_RX9_217 (fun _ _ => rfl) g1 dX9_reachOf_48 ?_
    obtain ⟨g18, hf⟩ := q_gd_some hf
    refine v_i2l hX g18 dX9_reachOf_51 ?_
    refine v_ladd hX dX9_reachOf_52 ?_
    refine v_l2i hX dX9_reachOf_53 ?_
    cases hf
    exact v_iret hX hE (Nat.le_of_ble_eq_true rfl) (Nat.le_of_ble_eq_true rfl) dX9_reachOf_54
