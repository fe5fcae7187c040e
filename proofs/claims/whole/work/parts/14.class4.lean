noncomputable def f_X9_outlier (S : q_S) (R : q_HR) (I : q_HI) (a0 : Nat) (a1 : Int) : Option (Int × q_HI) := q_gd (S.1 a0 = 10) (q_bd (f_X9_hasClass S R I a0 a1) fun r2 => q_gd (r_i r2) (if r2 = 0 then some ((-2), I) else q_bd (f_X9_prepare S R I a0) fun I6 => q_bd (f_X9_farthestSample S R I6 a0 a1) fun r8 => some (r8, I6)))
abbrev rmX9_outlier : Room := { frames := 6, cells := 0, slots := 0, locals := 141 }
set_option maxRecDepth 20000 in
theorem c_X9_outlier {S : q_S} {R : q_HR} {I : q_HI} {a0 : Nat} {a1 : Int} {rz : Int} {Iz : q_HI} (hf : f_X9_outlier S R I a0 a1 = some (rz, Iz)) : ∀ (l : Launch) (D : va_G) (cy : Nat → ClassId) (B : Nat), Met l yX9_outlier [Cond.code yX9_outlier cX9_outlier 2 (some .int)] rmX9_outlier (q_Pc B D cy [.ref a0, .int (q_i a1)] S R I) (q_Qc B D cy (some (.int (q_i rz))) S R Iz) 0 0 (fun q => B ≤ q) := by
  refine q_met (lv := [(0, .ref a0), (1, .int (q_i a1))]) (own := RX9) (nm := "outlier") (by decide) rfl rfl (Nat.le_of_ble_eq_true rfl) rfl (fun X hX hE => ?_)
  unfold f_X9_outlier at hf
  refine v_aload_n 0 0 hX dX9_outlier_0 rfl rfl ?_
  refine v_iload_n 1 1 hX dX9_outlier_1 rfl rfl ?_
  obtain ⟨g1, hf⟩ := q_gd_some hf
  obtain ⟨r2, h3, hf⟩ := q_bd_some hf
  refine v_callV (As := [.int (q_i a1)]) (rest := []) (st1 := [.int (q_i r2)]) (some (.int (q_i r2))) hX mv_RX9_181 (c_X9_hasClass h3) ⟨rfl, rfl⟩ ⟨Nat.le_of_ble_eq_true rfl, Nat.le_of_ble_eq_true rfl⟩ g1 rfl rfl (Nat.le_of_ble_eq_true rfl) ⟨Nat.le_of_ble_eq_true rfl, Nat.le_of_ble_eq_true rfl⟩ dX9_outlier_2 rfl ?_
  obtain ⟨g4, hf⟩ := q_gd_some hf
  refine v_if_ne (tgt := 11) hX g4 dX9_outlier_5 (by decide) (fun c5 => ?_) (fun c5 => ?_)
  · replace hf := q_ifp c5 hf
    refine v_bipush (-2) hX dX9_outlier_8 (by decide) ?_
    cases hf
    exact v_iret hX hE (Nat.le_of_ble_eq_true rfl) (Nat.le_of_ble_eq_true rfl) dX9_outlier_10
  · replace hf := q_ifn c5 hf
    refine v_aload_n 0 0 hX dX9_outlier_11 rfl rfl ?_
    obtain ⟨I6, h7, hf⟩ := q_bd_some hf
    refine v_callV (As := []) (rest := []) (st1 := []) none hX mv_RX9_200 (c_X9_prepare h7) ⟨rfl, rfl⟩ ⟨Nat.le_of_ble_eq_true rfl, Nat.le_of_ble_eq_true rfl⟩ g1 rfl rfl (Nat.le_of_ble_eq_true rfl) ⟨Nat.le_of_ble_eq_true rfl, Nat.le_of_ble_eq_true rfl⟩ dX9_outlier_12 rfl ?_
    refine v_aload_n 0 0 hX dX9_outlier_15 rfl rfl ?_
    refine v_iload_n 1 1 hX dX9_outlier_16 rfl rfl ?_
    obtain ⟨r8, h9, hf⟩ := q_bd_some hf
    refine v_callV (As := [.int (q_i a1)]) (rest := []) (st1 := [.int (q_i r8)]) (some (.int (q_i r8))) hX mv_RX9_268 (c_X9_farthestSample h9) ⟨rfl, rfl⟩ ⟨Nat.le_of_ble_eq_true rfl, Nat.le_of_ble_eq_true rfl⟩ g1 rfl rfl (Nat.le_of_ble_eq_true rfl) ⟨Nat.le_of_ble_eq_true rfl, Nat.le_of_ble_eq_true rfl⟩ dX9_outlier_17 rfl ?_
    cases hf
    exact v_iret hX hE (Nat.le_of_ble_eq_true rfl) (Nat.le_of_ble_eq_true rfl) dX9_outlier_20
