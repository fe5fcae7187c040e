def q_bd2 {α β γ : Type} (o : Option (α × β)) (k : α → β → Option γ) : Option γ := match o with | none => none | some (a, b) => k a b
theorem q_bd2_some {α β γ : Type} {o : Option (α × β)} {k : α → β → Option γ} {r : γ} (h : q_bd2 o k = some r) : ∃ a b, o = some (a, b) ∧ k a b = some r := by
  cases o with
  | none => cases h
  | some a => exact ⟨a.1, a.2, rfl, h⟩
theorem q_bd2E {α β γ : Type} {o : Option (α × β)} {a : α} {b : β} {k : α → β → Option γ} (h : o = some (a, b)) : q_bd2 o k = k a b := by rw [h]; rfl
def q_bd3 {α β γ δ : Type} (o : Option (α × β × γ)) (k : α → β → γ → Option δ) : Option δ := match o with | none => none | some (a, b, c) => k a b c
theorem q_bd3_some {α β γ δ : Type} {o : Option (α × β × γ)} {k : α → β → γ → Option δ} {r : δ} (h : q_bd3 o k = some r) : ∃ a b c, o = some (a, b, c) ∧ k a b c = some r := by
  cases o with
  | none => cases h
  | some a => exact ⟨a.1, a.2.1, a.2.2, rfl, h⟩
theorem q_bd3E {α β γ δ : Type} {o : Option (α × β × γ)} {a : α} {b : β} {c : γ} {k : α → β → γ → Option δ} (h : o = some (a, b, c)) : q_bd3 o k = k a b c := by rw [h]; rfl
def q_bd4 {α β γ δ ε : Type} (o : Option (α × β × γ × δ)) (k : α → β → γ → δ → Option ε) : Option ε := match o with | none => none | some (a, b, c, d) => k a b c d
theorem q_bd4_some {α β γ δ ε : Type} {o : Option (α × β × γ × δ)} {k : α → β → γ → δ → Option ε} {r : ε} (h : q_bd4 o k = some r) : ∃ a b c d, o = some (a, b, c, d) ∧ k a b c d = some r := by
  cases o with
  | none => cases h
  | some a => exact ⟨a.1, a.2.1, a.2.2.1, a.2.2.2, rfl, h⟩
theorem q_bd4E {α β γ δ ε : Type} {o : Option (α × β × γ × δ)} {a : α} {b : β} {c : γ} {d : δ} {k : α → β → γ → δ → Option ε} (h : o = some (a, b, c, d)) : q_bd4 o k = k a b c d := by rw [h]; rfl
noncomputable def f_X5_init (S : q_S) (R : q_HR) (I : q_HI) (a0 : Nat) (a1 : Int) (a2 : Int) (a3 : Int) (a4 : Int) (a5 : Int) (a6 : Int) : Option (q_S × q_HR × q_HI) := q_gd (S.1 a0 = 6) (q_lt (q_up I a0 0 a1) fun I2 => q_lt (q_nw S 12 (Int.toNat 5)) fun S4 => q_lt (q_zr R S.2.2 0) fun R6 => q_lt (q_zr I2 S.2.2 0) fun I8 => q_gd (S4.1 (S.2.2) = 12) (q_gd ((0 : Int) ≤ 0 ∧ 0 < (S4.2.1 (S.2.2) : Int)) (q_lt (q_up I8 (S.2.2) (Int.toNat 0) a2) fun I12 => q_gd ((0 : Int) ≤ 1 ∧ 1 < (S4.2.1 (S.2.2) : Int)) (q_lt (q_up I12 (S.2.2) (Int.toNat 1) a3) fun I15 => q_gd ((0 : Int) ≤ 2 ∧ 2 < (S4.2.1 (S.2.2) : Int)) (q_lt (q_up I15 (S.2.2) (Int.toNat 2) a4) fun I18 => q_gd ((0 : Int) ≤ 3 ∧ 3 < (S4.2.1 (S.2.2) : Int)) (q_lt (q_up I18 (S.2.2) (Int.toNat 3) a5) fun I21 => q_gd ((0 : Int) ≤ 4 ∧ 4 < (S4.2.1 (S.2.2) : Int)) (q_lt (q_up I21 (S.2.2) (Int.toNat 4) a6) fun I24 => q_gd (S4.1 a0 = 6) (q_lt (q_up R6 a0 1 (S.2.2)) fun R27 => some (S4, R27, I24)))))))))
abbrev rmX5_init : Room := { frames := 1, cells := 1, slots := 5, locals := 12 }
set_option maxRecDepth 20000 in
theorem c_X5_init {S : q_S} {R : q_HR} {I : q_HI} {a0 : Nat} {a1 : Int} {a2 : Int} {a3 : Int} {a4 : Int} {a5 : Int} {a6 : Int} {Sz : q_S} {Rz : q_HR} {Iz : q_HI} (hf : f_X5_init S R I a0 a1 a2 a3 a4 a5 a6 = some (Sz, Rz, Iz)) : ∀ (l : Launch) (D : va_G) (cy : Nat → ClassId) (B : Nat), Met l yX5_init [Cond.code yX5_init cX5_init 7 none] rmX5_init (q_Pc B D cy [.ref a0, .int (q_i a1), .int (q_i a2), .int (q_i a3), .int (q_i a4), .int (q_i a5), .int (q_i a6)] S R I) (q_Qc B D cy none Sz Rz Iz) 1 5 (fun q => B ≤ q) := by
  refine q_met (lv := [(0, .ref a0), (1, .int (q_i a1)), (2, .int (q_i a2)), (3, .int (q_i a3)), (4, .int (q_i a4)), (5, .int (q_i a5)), (6, .int (q_i a6))]) (own := RX5) (nm := "<init>") (by decide) rfl rfl (Nat.le_of_ble_eq_true rfl) rfl (fun X hX hE => ?_)
  unfold f_X5_init at hf
  refine v_aload_n 0 0 hX dX5_init_0 rfl rfl ?_
  refine v_objInit hX wo_RX5_1 wo_inst wo_code (Nat.le_of_ble_eq_true rfl) (Nat.le_of_ble_eq_true rfl) dX5_init_1 ?_
  refine v_aload_n 0 0 hX dX5_init_4 rfl rfl ?_
  refine v_iload_n 1 1 hX dX5_init_5 rfl rfl ?_
  obtain ⟨g1, hf⟩ := q_gd_some hf
  refine v_putFI hX fa_RX5_7 rfl g1 dX5_init_6 ?_
  obtain ⟨I2, e3, hf⟩ := q_lt_nm hf
  rw [e3]
  refine v_aload_n 0 0 hX dX5_init_9 rfl rfl ?_
  refine v_iconst hX dX5_init_10 ?_
  refine v_newarr (k := 12) (N := 5) (t0 := 0) (ty := .int) hX (by decide) wa_int rfl (fun _ => rfl) (fun _ => rfl) (fun _ _ h => h) (by omega) (by decide) (fun M hM => by show M * _ ≤ _; simp only [componentBytes]; omega) (Nat.le_of_ble_eq_true rfl) (Nat.le_of_ble_eq_true rfl) dX5_init_11 ?_
  refine v_cs (k := 1) (n := 5) rfl rfl ?_
  obtain ⟨S4, e5, hf⟩ := q_lt_nm hf
  rw [e5]
  obtain ⟨R6, e7, hf⟩ := q_lt_nm hf
  rw [e7]
  obtain ⟨I8, e9, hf⟩ := q_lt_nm hf
  rw [e9]
  refine v_dup hX dX5_init_13 rfl ?_
  refine v_iconst hX dX5_init_14 ?_
  refine v_iload_n 2 2 hX dX5_init_15 rfl rfl ?_
  obtain ⟨g10, hf⟩ := q_gd_some hf
  obtain ⟨g11, hf⟩ := q_gd_some hf
  refine v_iastore hX g10 g11 dX5_init_16 ?_
  obtain ⟨I12, e13, hf⟩ := q_lt_nm hf
  rw [e13]
  refine v_dup hX dX5_init_17 rfl ?_
  refine v_iconst hX dX5_init_18 ?_
  refine v_iload_n 3 3 hX dX5_init_19 rfl rfl ?_
  obtain ⟨g14, hf⟩ := q_gd_some hf
  refine v_iastore hX g10 g14 dX5_init_20 ?_
  obtain ⟨I15, e16, hf⟩ := q_lt_nm hf
  rw [e16]
  refine v_dup hX dX5_init_21 rfl ?_
  refine v_iconst hX dX5_init_22 ?_
  refine v_iload 4 hX dX5_init_23 rfl ?_
  obtain ⟨g17, hf⟩ := q_gd_some hf
  refine v_iastore hX g10 g17 dX5_init_25 ?_
  obtain ⟨I18, e19, hf⟩ := q_lt_nm hf
  rw [e19]
  refine v_dup hX dX5_init_26 rfl ?_
  refine v_iconst hX dX5_init_27 ?_
  refine v_iload 5 hX dX5_init_28 rfl ?_
  obtain ⟨g20, hf⟩ := q_gd_some hf
  refine v_iastore hX g10 g20 dX5_init_30 ?_
  obtain ⟨I21, e22, hf⟩ := q_lt_nm hf
  rw [e22]
  refine v_dup hX dX5_init_31 rfl ?_
  refine v_iconst hX dX5_init_32 ?_
  refine v_iload 6 hX dX5_init_33 rfl ?_
  obtain ⟨g23, hf⟩ := q_gd_some hf
  refine v_iastore hX g10 g23 dX5_init_35 ?_
  obtain ⟨I24, e25, hf⟩ := q_lt_nm hf
  rw [e25]
  obtain ⟨g26, hf⟩ := q_gd_some hf
  refine v_putFA hX fa_RX5_13 (fun _ _ => rfl) rfl rfl g26 g10 (by decide) dX5_init_36 ?_
  obtain ⟨R27, e28, hf⟩ := q_lt_nm hf
  rw [e28]
  cases hf
  exact v_vret hX hE (Nat.le_of_ble_eq_true rfl) (Nat.le_of_ble_eq_true rfl) dX5_init_39
noncomputable def f_X8_init_L35 (S : q_S) (I : q_HI) (p0 : Nat) (k : Int → q_HR → Option (q_S × q_HR × q_HI)) : Nat → Int → q_HR → Option (q_S × q_HR × q_HI)
  | 0, _, _ => none
  | n + 1, v2, R => q_gd (S.1 p0 = 9) (q_gd (S.1 (R p0 0) = 16) (q_gd (r_i v2) (q_gd (r_i (S.2.1 (R p0 0) : Int)) (if (S.2.1 (R p0 0) : Int) ≤ v2 then k v2 R else q_gd (S.1 (R p0 1) = 6) (q_gd ((0 : Int) ≤ v2 ∧ v2 < (S.2.1 (R p0 0) : Int)) (q_lt (q_up R (R p0 0) (Int.toNat v2) (R p0 1)) fun R34 => f_X8_init_L35 S I p0 k n (v2 + 1) R34))))))
noncomputable def f_X8_init (S : q_S) (R : q_HR) (I : q_HI) (a0 : Nat) (a1 : Int) : Option (q_S × q_HR × q_HI) := q_gd (r_i a1) (q_gd ((0 : Int) ≤ q_mx a1 0 ∧ q_mx a1 0 ≤ ((12 : Nat) : Int)) (q_lt (q_nw S 16 (Int.toNat (q_mx a1 0))) fun S3 => q_lt (q_zr R S.2.2 0) fun R5 => q_lt (q_zr I S.2.2 0) fun I7 => q_gd (S3.1 a0 = 9) (q_gd (S3.1 (S.2.2) = 16) (q_lt (q_up R5 a0 0 (S.2.2)) fun R11 => q_lt (q_nw S3 6 0) fun S13 => q_lt (q_zr R11 S3.2.2 0) fun R15 => q_lt (q_zr I7 S3.2.2 0) fun I17 => q_bd3 (f_X5_init S13 R15 I17 (S3.2.2) 0 0 0 0 0 0) fun S19 R20 I21 => q_gd (S19.1 a0 = 9) (q_gd (S19.1 (S3.2.2) = 6) (q_lt (q_up R20 a0 1 (S3.2.2)) fun R25 => f_X8_init_L35 S19 I21 a0 (fun w36 R37 => some (S19, R37, I21)) 100 0 R25))))))
abbrev rmX8_init : Room := { frames := 2, cells := 3, slots := 19, locals := 38 }
set_option maxRecDepth 20000 in
theorem l_X8_init_35 {X : q_X} {S : q_S} {I : q_HI} {p0 : Nat} {Sz : q_S} {Rz : q_HR} {Iz : q_HI} (hX : q_C X cX8_init 3 RX8 none "<init>") (hE : q_E X 3 19 none Sz Rz Iz) {k : Int → q_HR → Option (q_S × q_HR × q_HI)} (hk : ∀ (v2 : Int) (R : q_HR), k v2 R = some (Sz, Rz, Iz) → q_V X rmX8_init cX8_init 3 3 19 60 [] [] S R I) :
    ∀ (n : Nat), ∀ (v2 : Int) (R : q_HR), f_X8_init_L35 S I p0 k n v2 R = some (Sz, Rz, Iz) → q_V X rmX8_init cX8_init 3 3 19 35 [(0, .ref p0), (2, .int (q_i v2))] [] S R I := by
  intro n
  induction n with
  | zero =>
    intro v2 R hf
    cases (show (none : Option (q_S × q_HR × q_HI)) = some _ from hf)
  | succ n ih =>
    intro v2 R hf
    rw [f_X8_init_L35] at hf
    refine v_iload_n 2 1 hX dX8_init_35 rfl rfl ?_
    refine v_aload_n 0 0 hX dX8_init_36 rfl rfl ?_
    obtain ⟨g27, hf⟩ := q_gd_some hf
    obtain ⟨g28, hf⟩ := q_gd_some hf
    refine v_getA hX fa_RX8_15 (fun _ _ => rfl) g27 g28 (by decide) dX8_init_37 ?_
    refine v_alen (t0 := 4) hX g28 (by decide) (fun _ => rfl) dX8_init_40 ?_
    obtain ⟨g29, hf⟩ := q_gd_some hf
    obtain ⟨g30, hf⟩ := q_gd_some hf
    refine v_icmp_ge (tgt := 60) hX g29 g30 dX8_init_41 (by decide) (fun c31 => ?_) (fun c31 => ?_)
    · replace hf := q_ifp c31 hf
      refine v_sub (lv' := []) [] rfl ?_
      exact hk _ _ hf
    · replace hf := q_ifn c31 hf
      refine v_aload_n 0 0 hX dX8_init_44 rfl rfl ?_
      refine v_getA hX fa_RX8_15 (fun _ _ => rfl) g27 g28 (by decide) dX8_init_45 ?_
      refine v_iload_n 2 1 hX dX8_init_48 rfl rfl ?_
      refine v_aload_n 0 0 hX dX8_init_49 rfl rfl ?_
      obtain ⟨g32, hf⟩ := q_gd_some hf
      refine v_getA hX fa_RX8_24 (fun _ _ => rfl) g27 g32 (by decide) dX8_init_50 ?_
      obtain ⟨g33, hf⟩ := q_gd_some hf
      refine v_aastore (t0 := 4) (C := "SensorArray$Measurement") (T := TX5) hX g28 (by decide) (fun _ => rfl) (fun _ _ _ => rfl) g33 g32 (by decide) (by decide) rfl dX8_init_53 ?_
      obtain ⟨R34, e35, hf⟩ := q_lt_nm hf
      rw [e35]
      refine v_iinc 1 (lw := [(2, .int (q_i (v2 + 1))), (0, .ref p0)]) hX dX8_init_54 rfl (by decide) rfl ?_
      refine v_goto (tgt := 35) hX dX8_init_57 (by decide) ?_
      refine v_sub (lv' := [(0, .ref p0), (2, .int (q_i (v2 + 1)))]) [1, 0] rfl ?_
      exact ih _ _ hf
set_option maxRecDepth 20000 in
theorem c_X8_init {S : q_S} {R : q_HR} {I : q_HI} {a0 : Nat} {a1 : Int} {Sz : q_S} {Rz : q_HR} {Iz : q_HI} (hf : f_X8_init S R I a0 a1 = some (Sz, Rz, Iz)) : ∀ (l : Launch) (D : va_G) (cy : Nat → ClassId) (B : Nat), Met l yX8_init [Cond.code yX8_init cX8_init 3 none] rmX8_init (q_Pc B D cy [.ref a0, .int (q_i a1)] S R I) (q_Qc B D cy none Sz Rz Iz) 3 19 (fun q => B ≤ q) := by
  refine q_met (lv := [(0, .ref a0), (1, .int (q_i a1))]) (own := RX8) (nm := "<init>") (by decide) rfl rfl (Nat.le_of_ble_eq_true rfl) rfl (fun X hX hE => ?_)
  unfold f_X8_init at hf
  refine v_aload_n 0 0 hX dX8_init_0 rfl rfl ?_
  refine v_objInit hX wo_RX8_1 wo_inst wo_code (Nat.le_of_ble_eq_true rfl) (Nat.le_of_ble_eq_true rfl) dX8_init_1 ?_
  refine v_aload_n 0 0 hX dX8_init_4 rfl rfl ?_
  refine v_iload_n 1 1 hX dX8_init_5 rfl rfl ?_
  refine v_iconst hX dX8_init_6 ?_
  obtain ⟨g1, hf⟩ := q_gd_some hf
  refine v_mmaxI hX g1 (by unfold r_i; omega) wml_RX8_7 (Nat.le_of_ble_eq_true rfl) (Nat.le_of_ble_eq_true rfl) (Nat.le_of_ble_eq_true rfl) (Nat.le_of_ble_eq_true rfl) dX8_init_7 ?_
  obtain ⟨g2, hf⟩ := q_gd_some hf
  refine v_anewarr (k := 16) (N := 12) (t0 := 4) (C := "SensorArray$Measurement") hX (by decide) wc_RX8_13 (fun _ h => h.2) (fun _ => rfl) (fun _ => rfl) g2 (by decide) (Nat.le_of_ble_eq_true rfl) (Nat.le_of_ble_eq_true rfl) dX8_init_10 ?_
  refine v_cs (k := 1) (n := 12) rfl rfl ?_
  obtain ⟨S3, e4, hf⟩ := q_lt_nm hf
  rw [e4]
  obtain ⟨R5, e6, hf⟩ := q_lt_nm hf
  rw [e6]
  obtain ⟨I7, e8, hf⟩ := q_lt_nm hf
  rw [e8]
  obtain ⟨g9, hf⟩ := q_gd_some hf
  obtain ⟨g10, hf⟩ := q_gd_some hf
  refine v_putFA hX fa_RX8_15 (fun _ _ => rfl) rfl rfl g9 g10 (by decide) dX8_init_13 ?_
  obtain ⟨R11, e12, hf⟩ := q_lt_nm hf
  rw [e12]
  refine v_aload_n 0 0 hX dX8_init_16 rfl rfl ?_
  refine v_new hX na_RX8_13 (Nat.le_of_ble_eq_true rfl) (Nat.le_of_ble_eq_true rfl) dX8_init_17 ?_
  refine v_cs (k := 2) (n := 14) rfl rfl ?_
  obtain ⟨S13, e14, hf⟩ := q_lt_nm hf
  rw [e14]
  obtain ⟨R15, e16, hf⟩ := q_lt_nm hf
  rw [e16]
  obtain ⟨I17, e18, hf⟩ := q_lt_nm hf
  rw [e18]
  refine v_dup hX dX8_init_20 rfl ?_
  refine v_iconst hX dX8_init_21 ?_
  refine v_iconst hX dX8_init_22 ?_
  refine v_iconst hX dX8_init_23 ?_
  refine v_iconst hX dX8_init_24 ?_
  refine v_iconst hX dX8_init_25 ?_
  refine v_iconst hX dX8_init_26 ?_
  obtain ⟨S19, R20, I21, h22, hf⟩ := q_bd3_some hf
  refine v_callI (As := [.int (q_i 0), .int (q_i 0), .int (q_i 0), .int (q_i 0), .int (q_i 0), .int (q_i 0)]) (rest := [.ref (S3.2.2), .ref a0]) hX mi_RX8_21 (c_X5_init h22) ⟨rfl, rfl⟩ ⟨Nat.le_of_ble_eq_true rfl, Nat.le_of_ble_eq_true rfl⟩ rfl rfl (Nat.le_of_ble_eq_true rfl) ⟨Nat.le_of_ble_eq_true rfl, Nat.le_of_ble_eq_true rfl⟩ dX8_init_27 ?_
  refine v_cs (k := 3) (n := 19) rfl rfl ?_
  obtain ⟨g23, hf⟩ := q_gd_some hf
  obtain ⟨g24, hf⟩ := q_gd_some hf
  refine v_putFA hX fa_RX8_24 (fun _ _ => rfl) rfl rfl g23 g24 (by decide) dX8_init_30 ?_
  obtain ⟨R25, e26, hf⟩ := q_lt_nm hf
  rw [e26]
  refine v_iconst hX dX8_init_33 ?_
  refine v_istore_n 2 (lw := [(2, .int (q_i 0)), (0, .ref a0), (1, .int (q_i a1))]) hX dX8_init_34 rfl (by decide) rfl ?_
  refine v_sub (lv' := [(0, .ref a0), (2, .int (q_i 0))]) [1, 0] rfl ?_
  refine l_X8_init_35 hX hE (fun w36 R37 hk => ?_) 100 _ _ hf
  clear hf
  have hf := hk
  clear hk
  cases hf
  exact v_vret hX hE (Nat.le_of_ble_eq_true rfl) (Nat.le_of_ble_eq_true rfl) dX8_init_60
noncomputable def f_X3_init (a0 : Nat) : Option (Unit) := some ()
abbrev rmX3_init : Room := { frames := 1, cells := 0, slots := 0, locals := 12 }
set_option maxRecDepth 20000 in
theorem c_X3_init {S : q_S} {R : q_HR} {I : q_HI} {a0 : Nat} (hf : f_X3_init a0 = some ()) : ∀ (l : Launch) (D : va_G) (cy : Nat → ClassId) (B : Nat), Met l yX3_init [Cond.code yX3_init cX3_init 1 none] rmX3_init (q_Pc B D cy [.ref a0] S R I) (q_Qc B D cy none S R I) 0 0 (fun q => B ≤ q) := by
  refine q_met (lv := [(0, .ref a0)]) (own := RX3) (nm := "<init>") (by decide) rfl rfl (Nat.le_of_ble_eq_true rfl) rfl (fun X hX hE => ?_)
  unfold f_X3_init at hf
  refine v_aload_n 0 0 hX dX3_init_0 rfl rfl ?_
  refine v_objInit hX wo_RX3_1 wo_inst wo_code (Nat.le_of_ble_eq_true rfl) (Nat.le_of_ble_eq_true rfl) dX3_init_1 ?_
  exact v_vret hX hE (Nat.le_of_ble_eq_true rfl) (Nat.le_of_ble_eq_true rfl) dX3_init_4
noncomputable def f_X0_init (S : q_S) (R : q_HR) (I : q_HI) (a0 : Nat) : Option (q_S × q_HR × q_HI) := q_lt (q_nw S 12 (Int.toNat 5)) fun S1 => q_lt (q_zr R S.2.2 0) fun R3 => q_lt (q_zr I S.2.2 0) fun I5 => q_gd (S1.1 a0 = 1) (q_gd (S1.1 (S.2.2) = 12) (q_lt (q_up R3 a0 0 (S.2.2)) fun R9 => q_lt (q_nw S1 9 0) fun S11 => q_lt (q_zr R9 S1.2.2 0) fun R13 => q_lt (q_zr I5 S1.2.2 0) fun I15 => q_bd3 (f_X8_init S11 R13 I15 (S1.2.2) 12) fun S17 R18 I19 => q_gd (S17.1 a0 = 1) (q_gd (S17.1 (S1.2.2) = 9) (q_lt (q_up R18 a0 1 (S1.2.2)) fun R23 => q_lt (q_nw S17 4 0) fun S25 => q_lt (q_zr R23 S17.2.2 0) fun R27 => q_lt (q_zr I19 S17.2.2 0) fun I29 => q_bd (f_X3_init (S17.2.2)) fun _ => q_gd (S25.1 a0 = 1) (q_gd (S25.1 (S17.2.2) = 4) (q_lt (q_up R27 a0 2 (S17.2.2)) fun R34 => q_lt (q_nw S25 13 (Int.toNat 5)) fun S36 => q_lt (q_zr R34 S25.2.2 0) fun R38 => q_lt (q_zr I29 S25.2.2 0) fun I40 => q_gd (S36.1 a0 = 1) (q_gd (S36.1 (S25.2.2) = 13) (q_lt (q_up R38 a0 3 (S25.2.2)) fun R44 => some (S36, R44, I40)))))))))
abbrev rmX0_init : Room := { frames := 3, cells := 7, slots := 37, locals := 60 }
set_option maxRecDepth 20000 in
theorem c_X0_init {S : q_S} {R : q_HR} {I : q_HI} {a0 : Nat} {Sz : q_S} {Rz : q_HR} {Iz : q_HI} (hf : f_X0_init S R I a0 = some (Sz, Rz, Iz)) : ∀ (l : Launch) (D : va_G) (cy : Nat → ClassId) (B : Nat), Met l yX0_init [Cond.code yX0_init cX0_init 1 none] rmX0_init (q_Pc B D cy [.ref a0] S R I) (q_Qc B D cy none Sz Rz Iz) 7 37 (fun q => B ≤ q) := by
  refine q_met (lv := [(0, .ref a0)]) (own := RX0) (nm := "<init>") (by decide) rfl rfl (Nat.le_of_ble_eq_true rfl) rfl (fun X hX hE => ?_)
  unfold f_X0_init at hf
  refine v_aload_n 0 0 hX dX0_init_0 rfl rfl ?_
  refine v_objInit hX wo_RX0_3 wo_inst wo_code (Nat.le_of_ble_eq_true rfl) (Nat.le_of_ble_eq_true rfl) dX0_init_1 ?_
  refine v_aload_n 0 0 hX dX0_init_4 rfl rfl ?_
  refine v_iconst hX dX0_init_5 ?_
  refine v_newarr (k := 12) (N := 5) (t0 := 0) (ty := .int) hX (by decide) wa_int rfl (fun _ => rfl) (fun _ => rfl) (fun _ _ h => h) (by omega) (by decide) (fun M hM => by show M * _ ≤ _; simp only [componentBytes]; omega) (Nat.le_of_ble_eq_true rfl) (Nat.le_of_ble_eq_true rfl) dX0_init_6 ?_
  refine v_cs (k := 1) (n := 5) rfl rfl ?_
  obtain ⟨S1, e2, hf⟩ := q_lt_nm hf
  rw [e2]
  obtain ⟨R3, e4, hf⟩ := q_lt_nm hf
  rw [e4]
  obtain ⟨I5, e6, hf⟩ := q_lt_nm hf
  rw [e6]
  obtain ⟨g7, hf⟩ := q_gd_some hf
  obtain ⟨g8, hf⟩ := q_gd_some hf
  refine v_putFA hX fa_RX0_9 (fun _ _ => rfl) rfl rfl g7 g8 (by decide) dX0_init_8 ?_
  obtain ⟨R9, e10, hf⟩ := q_lt_nm hf
  rw [e10]
  refine v_aload_n 0 0 hX dX0_init_11 rfl rfl ?_
  refine v_new hX na_RX0_15 (Nat.le_of_ble_eq_true rfl) (Nat.le_of_ble_eq_true rfl) dX0_init_12 ?_
  refine v_cs (k := 2) (n := 8) rfl rfl ?_
  obtain ⟨S11, e12, hf⟩ := q_lt_nm hf
  rw [e12]
  obtain ⟨R13, e14, hf⟩ := q_lt_nm hf
  rw [e14]
  obtain ⟨I15, e16, hf⟩ := q_lt_nm hf
  rw [e16]
  refine v_dup hX dX0_init_15 rfl ?_
  refine v_bipush 12 hX dX0_init_16 (by decide) ?_
  obtain ⟨S17, R18, I19, h20, hf⟩ := q_bd3_some hf
  refine v_callI (As := [.int (q_i 12)]) (rest := [.ref (S1.2.2), .ref a0]) hX mi_RX0_17 (c_X8_init h20) ⟨rfl, rfl⟩ ⟨Nat.le_of_ble_eq_true rfl, Nat.le_of_ble_eq_true rfl⟩ rfl rfl (Nat.le_of_ble_eq_true rfl) ⟨Nat.le_of_ble_eq_true rfl, Nat.le_of_ble_eq_true rfl⟩ dX0_init_18 ?_
  refine v_cs (k := 5) (n := 27) rfl rfl ?_
  obtain ⟨g21, hf⟩ := q_gd_some hf
  obtain ⟨g22, hf⟩ := q_gd_some hf
  refine v_putFA hX fa_RX0_20 (fun _ _ => rfl) rfl rfl g21 g22 (by decide) dX0_init_21 ?_
  obtain ⟨R23, e24, hf⟩ := q_lt_nm hf
  rw [e24]
  refine v_aload_n 0 0 hX dX0_init_24 rfl rfl ?_
  refine v_new hX na_RX0_24 (Nat.le_of_ble_eq_true rfl) (Nat.le_of_ble_eq_true rfl) dX0_init_25 ?_
  refine v_cs (k := 6) (n := 32) rfl rfl ?_
  obtain ⟨S25, e26, hf⟩ := q_lt_nm hf
  rw [e26]
  obtain ⟨R27, e28, hf⟩ := q_lt_nm hf
  rw [e28]
  obtain ⟨I29, e30, hf⟩ := q_lt_nm hf
  rw [e30]
  refine v_dup hX dX0_init_28 rfl ?_
  obtain ⟨_, h31, hf⟩ := q_bd_some hf
  refine v_callI (As := []) (rest := [.ref (S17.2.2), .ref a0]) hX mi_RX0_26 (c_X3_init h31) ⟨rfl, rfl⟩ ⟨Nat.le_of_ble_eq_true rfl, Nat.le_of_ble_eq_true rfl⟩ rfl rfl (Nat.le_of_ble_eq_true rfl) ⟨Nat.le_of_ble_eq_true rfl, Nat.le_of_ble_eq_true rfl⟩ dX0_init_29 ?_
  obtain ⟨g32, hf⟩ := q_gd_some hf
  obtain ⟨g33, hf⟩ := q_gd_some hf
  refine v_putFA hX fa_RX0_27 (fun _ _ => rfl) rfl rfl g32 g33 (by decide) dX0_init_32 ?_
  obtain ⟨R34, e35, hf⟩ := q_lt_nm hf
  rw [e35]
  refine v_aload_n 0 0 hX dX0_init_35 rfl rfl ?_
  refine v_iconst hX dX0_init_36 ?_
  refine v_newarr (k := 13) (N := 5) (t0 := 1) (ty := .long) hX (by decide) wa_long rfl (fun _ => rfl) (fun _ => rfl) (fun _ _ h => h) (by omega) (by decide) (fun M hM => by show M * _ ≤ _; simp only [componentBytes]; omega) (Nat.le_of_ble_eq_true rfl) (Nat.le_of_ble_eq_true rfl) dX0_init_37 ?_
  refine v_cs (k := 7) (n := 37) rfl rfl ?_
  obtain ⟨S36, e37, hf⟩ := q_lt_nm hf
  rw [e37]
  obtain ⟨R38, e39, hf⟩ := q_lt_nm hf
  rw [e39]
  obtain ⟨I40, e41, hf⟩ := q_lt_nm hf
  rw [e41]
  obtain ⟨g42, hf⟩ := q_gd_some hf
  obtain ⟨g43, hf⟩ := q_gd_some hf
  refine v_putFA hX fa_RX0_31 (fun _ _ => rfl) rfl rfl g42 g43 (by decide) dX0_init_39 ?_
  obtain ⟨R44, e45, hf⟩ := q_lt_nm hf
  rw [e45]
  cases hf
  exact v_vret hX hE (Nat.le_of_ble_eq_true rfl) (Nat.le_of_ble_eq_true rfl) dX0_init_42
noncomputable def f_X8_clear (S : q_S) (R : q_HR) (I : q_HI) (a0 : Nat) : Option (q_HI) := q_gd (S.1 a0 = 9) (q_lt (q_up I a0 2 0) fun I2 => some I2)
abbrev rmX8_clear : Room := { frames := 0, cells := 0, slots := 0, locals := 0 }
set_option maxRecDepth 20000 in
theorem c_X8_clear {S : q_S} {R : q_HR} {I : q_HI} {a0 : Nat} {Iz : q_HI} (hf : f_X8_clear S R I a0 = some Iz) : ∀ (l : Launch) (D : va_G) (cy : Nat → ClassId) (B : Nat), Met l yX8_clear [Cond.code yX8_clear cX8_clear 1 none] rmX8_clear (q_Pc B D cy [.ref a0] S R I) (q_Qc B D cy none S R Iz) 0 0 (fun q => B ≤ q) := by
  refine q_met (lv := [(0, .ref a0)]) (own := RX8) (nm := "clear") (by decide) rfl rfl (Nat.le_of_ble_eq_true rfl) rfl (fun X hX hE => ?_)
  unfold f_X8_clear at hf
  refine v_aload_n 0 0 hX dX8_clear_0 rfl rfl ?_
  refine v_iconst hX dX8_clear_1 ?_
  obtain ⟨g1, hf⟩ := q_gd_some hf
  refine v_putI hX fa_RX8_28 rfl g1 dX8_clear_2 ?_
  obtain ⟨I2, e3, hf⟩ := q_lt_nm hf
  rw [e3]
  cases hf
  exact v_vret hX hE (Nat.le_of_ble_eq_true rfl) (Nat.le_of_ble_eq_true rfl) dX8_clear_5
noncomputable def f_X3_clear (S : q_S) (R : q_HR) (I : q_HI) (a0 : Nat) : Option (q_HI) := q_gd (S.1 a0 = 4) (q_lt (q_up I a0 0 0) fun I2 => q_lt (q_up I2 a0 1 0) fun I4 => q_lt (q_up I4 a0 2 0) fun I6 => q_lt (q_up I6 a0 3 0) fun I8 => q_lt (q_up I8 a0 4 0) fun I10 => some I10)
abbrev rmX3_clear : Room := { frames := 0, cells := 0, slots := 0, locals := 0 }
set_option maxRecDepth 20000 in
theorem c_X3_clear {S : q_S} {R : q_HR} {I : q_HI} {a0 : Nat} {Iz : q_HI} (hf : f_X3_clear S R I a0 = some Iz) : ∀ (l : Launch) (D : va_G) (cy : Nat → ClassId) (B : Nat), Met l yX3_clear [Cond.code yX3_clear cX3_clear 1 none] rmX3_clear (q_Pc B D cy [.ref a0] S R I) (q_Qc B D cy none S R Iz) 0 0 (fun q => B ≤ q) := by
  refine q_met (lv := [(0, .ref a0)]) (own := RX3) (nm := "clear") (by decide) rfl rfl (Nat.le_of_ble_eq_true rfl) rfl (fun X hX hE => ?_)
  unfold f_X3_clear at hf
  refine v_aload_n 0 0 hX dX3_clear_0 rfl rfl ?_
  refine v_lconst 0 hX dX3_clear_1 (by decide) ?_
  obtain ⟨g1, hf⟩ := q_gd_some hf
  refine v_putJ hX fa_RX3_7 rfl g1 dX3_clear_2 ?_
  obtain ⟨I2, e3, hf⟩ := q_lt_nm hf
  rw [e3]
  refine v_aload_n 0 0 hX dX3_clear_5 rfl rfl ?_
  refine v_lconst 0 hX dX3_clear_6 (by decide) ?_
  refine v_putJ hX fa_RX3_13 rfl g1 dX3_clear_7 ?_
  obtain ⟨I4, e5, hf⟩ := q_lt_nm hf
  rw [e5]
  refine v_aload_n 0 0 hX dX3_clear_10 rfl rfl ?_
  refine v_lconst 0 hX dX3_clear_11 (by decide) ?_
  refine v_putJ hX fa_RX3_16 rfl g1 dX3_clear_12 ?_
  obtain ⟨I6, e7, hf⟩ := q_lt_nm hf
  rw [e7]
  refine v_aload_n 0 0 hX dX3_clear_15 rfl rfl ?_
  refine v_lconst 0 hX dX3_clear_16 (by decide) ?_
  refine v_putJ hX fa_RX3_19 rfl g1 dX3_clear_17 ?_
  obtain ⟨I8, e9, hf⟩ := q_lt_nm hf
  rw [e9]
  refine v_aload_n 0 0 hX dX3_clear_20 rfl rfl ?_
  refine v_lconst 0 hX dX3_clear_21 (by decide) ?_
  refine v_putJ hX fa_RX3_22 rfl g1 dX3_clear_22 ?_
  obtain ⟨I10, e11, hf⟩ := q_lt_nm hf
  rw [e11]
  cases hf
  exact v_vret hX hE (Nat.le_of_ble_eq_true rfl) (Nat.le_of_ble_eq_true rfl) dX3_clear_25
noncomputable def f_X8_at (S : q_S) (R : q_HR) (I : q_HI) (a0 : Nat) (a1 : Int) : Option (Nat) := q_gd (r_i a1) (if a1 < 0 then q_gd (S.1 a0 = 9) (q_gd (S.1 (R a0 1) = 6) (some (R a0 1))) else q_gd (S.1 a0 = 9) (q_gd (r_i (I a0 2)) (if I a0 2 ≤ a1 then q_gd (S.1 (R a0 1) = 6) (some (R a0 1)) else q_gd (S.1 (R a0 0) = 16) (q_gd ((0 : Int) ≤ a1 ∧ a1 < (S.2.1 (R a0 0) : Int)) (q_gd (S.1 (R (R a0 0) (Int.toNat a1)) = 6) (some (R (R a0 0) (Int.toNat a1))))))))
abbrev rmX8_at : Room := { frames := 0, cells := 0, slots := 0, locals := 0 }
set_option maxRecDepth 20000 in
theorem c_X8_at {S : q_S} {R : q_HR} {I : q_HI} {a0 : Nat} {a1 : Int} {rz : Nat} (hf : f_X8_at S R I a0 a1 = some rz) : ∀ (l : Launch) (D : va_G) (cy : Nat → ClassId) (B : Nat), Met l yX8_at [Cond.code yX8_at cX8_at 2 (some (.object "SensorArray$Measurement"))] rmX8_at (q_Pc B D cy [.ref a0, .int (q_i a1)] S R I) (q_Qc B D cy (some (.ref rz)) S R I) 0 0 (fun q => B ≤ q) := by
  refine q_met (lv := [(0, .ref a0), (1, .int (q_i a1))]) (own := RX8) (nm := "at") (by decide) rfl rfl (Nat.le_of_ble_eq_true rfl) rfl (fun X hX hE => ?_)
  unfold f_X8_at at hf
  refine v_iload_n 1 1 hX dX8_at_0 rfl rfl ?_
  obtain ⟨g1, hf⟩ := q_gd_some hf
  refine v_if_lt (tgt := 21) hX g1 dX8_at_1 (by decide) (fun c2 => ?_) (fun c2 => ?_)
  · replace hf := q_ifp c2 hf
    refine v_aload_n 0 0 hX dX8_at_21 rfl rfl ?_
    obtain ⟨g3, hf⟩ := q_gd_some hf
    obtain ⟨g4, hf⟩ := q_gd_some hf
    refine v_getA hX fa_RX8_24 (fun _ _ => rfl) g3 g4 (by decide) dX8_at_22 ?_
    cases hf
    exact v_aret hX hE (Nat.le_of_ble_eq_true rfl) (Nat.le_of_ble_eq_true rfl) dX8_at_25
  · replace hf := q_ifn c2 hf
    refine v_iload_n 1 1 hX dX8_at_4 rfl rfl ?_
    refine v_aload_n 0 0 hX dX8_at_5 rfl rfl ?_
    obtain ⟨g5, hf⟩ := q_gd_some hf
    refine v_getI hX fa_RX8_28 (fun _ _ => rfl) g5 dX8_at_6 ?_
    obtain ⟨g6, hf⟩ := q_gd_some hf
    refine v_icmp_ge (tgt := 21) hX g1 g6 dX8_at_9 (by decide) (fun c7 => ?_) (fun c7 => ?_)
    · replace hf := q_ifp c7 hf
      refine v_aload_n 0 0 hX dX8_at_21 rfl rfl ?_
      obtain ⟨g8, hf⟩ := q_gd_some hf
      refine v_getA hX fa_RX8_24 (fun _ _ => rfl) g5 g8 (by decide) dX8_at_22 ?_
      cases hf
      exact v_aret hX hE (Nat.le_of_ble_eq_true rfl) (Nat.le_of_ble_eq_true rfl) dX8_at_25
    · replace hf := q_ifn c7 hf
      refine v_aload_n 0 0 hX dX8_at_12 rfl rfl ?_
      obtain ⟨g9, hf⟩ := q_gd_some hf
      refine v_getA hX fa_RX8_15 (fun _ _ => rfl) g5 g9 (by decide) dX8_at_13 ?_
      refine v_iload_n 1 1 hX dX8_at_16 rfl rfl ?_
      obtain ⟨g10, hf⟩ := q_gd_some hf
      obtain ⟨g11, hf⟩ := q_gd_some hf
      refine v_aaload (t0 := 4) hX g9 (by decide) (fun _ => rfl) rfl (fun _ _ _ => rfl) g10 g11 (by decide) dX8_at_17 ?_
      refine v_goto (tgt := 25) hX dX8_at_18 (by decide) ?_
      cases hf
      exact v_aret hX hE (Nat.le_of_ble_eq_true rfl) (Nat.le_of_ble_eq_true rfl) dX8_at_25
noncomputable def f_X9_quotient (a0 : Int) (a2 : Int) : Option (Int) := q_gd (r_l a2) (if 0 < a2 then q_gd (r_l a0) (q_gd (a2 ≠ 0) (q_lt (Int.tdiv a0 a2) fun x5 => q_gd (a2 ≠ 0) (q_gd (r_l (Int.tmod a0 a2)) (if 0 ≤ Int.tmod a0 a2 then some x5 else some (x5 - 1))))) else some 0)
abbrev rmX9_quotient : Room := { frames := 0, cells := 0, slots := 0, locals := 0 }
set_option maxRecDepth 20000 in
theorem c_X9_quotient {S : q_S} {R : q_HR} {I : q_HI} {a0 : Int} {a2 : Int} {rz : Int} (hf : f_X9_quotient a0 a2 = some rz) : ∀ (l : Launch) (D : va_G) (cy : Nat → ClassId) (B : Nat), Met l yX9_quotient [Cond.code yX9_quotient cX9_quotient 6 (some .long)] rmX9_quotient (q_Pc B D cy [.long (q_l a0), .long (q_l a2)] S R I) (q_Qc B D cy (some (.long (q_l rz))) S R I) 0 0 (fun q => B ≤ q) := by
  refine q_met (lv := [(0, .long (q_l a0)), (2, .long (q_l a2))]) (own := RX9) (nm := "quotient") (by decide) rfl rfl (Nat.le_of_ble_eq_true rfl) rfl (fun X hX hE => ?_)
  unfold f_X9_quotient at hf
  refine v_lload_n 2 1 hX dX9_quotient_0 rfl rfl ?_
  refine v_lconst 0 hX dX9_quotient_1 (by decide) ?_
  obtain ⟨g1, hf⟩ := q_gd_some hf
  refine v_lcmp hX g1 (by unfold r_l; omega) dX9_quotient_2 ?_
  refine v_ifc_gt (tgt := 8) hX dX9_quotient_3 (by decide) (fun c2 => ?_) (fun c2 => ?_)
  · replace hf := q_ifp c2 hf
    refine v_lload_n 0 0 hX dX9_quotient_8 rfl rfl ?_
    refine v_lload_n 2 1 hX dX9_quotient_9 rfl rfl ?_
    obtain ⟨g3, hf⟩ := q_gd_some hf
    obtain ⟨g4, hf⟩ := q_gd_some hf
    refine v_ldiv hX g3 g1 g4 dX9_quotient_10 ?_
    obtain ⟨x5, e6, hf⟩ := q_lt_nm hf
    rw [e6]
    refine v_lstore (lw := [(4, .long (q_l x5)), (0, .long (q_l a0)), (2, .long (q_l a2))]) hX dX9_quotient_11 (by decide) rfl ?_
    refine v_lload_n 0 1 hX dX9_quotient_13 rfl rfl ?_
    refine v_lload_n 2 2 hX dX9_quotient_14 rfl rfl ?_
    obtain ⟨g7, hf⟩ := q_gd_some hf
    refine v_lrem hX g3 g1 g7 dX9_quotient_15 ?_
    refine v_lconst 0 hX dX9_quotient_16 (by decide) ?_
    obtain ⟨g8, hf⟩ := q_gd_some hf
    refine v_lcmp hX g8 (by unfold r_l; omega) dX9_quotient_17 ?_
    refine v_ifc_ge (tgt := 28) hX dX9_quotient_18 (by decide) (fun c9 => ?_) (fun c9 => ?_)
    · replace hf := q_ifp c9 hf
      refine v_lload 0 hX dX9_quotient_28 rfl ?_
      cases hf
      exact v_lret hX hE (Nat.le_of_ble_eq_true rfl) (Nat.le_of_ble_eq_true rfl) dX9_quotient_30
    · replace hf := q_ifn c9 hf
      refine v_lload 0 hX dX9_quotient_21 rfl ?_
      refine v_lconst 1 hX dX9_quotient_23 (by decide) ?_
      refine v_lsub hX dX9_quotient_24 ?_
      refine v_goto (tgt := 30) hX dX9_quotient_25 (by decide) ?_
      cases hf
      exact v_lret hX hE (Nat.le_of_ble_eq_true rfl) (Nat.le_of_ble_eq_true rfl) dX9_quotient_30
  · replace hf := q_ifn c2 hf
    refine v_lconst 0 hX dX9_quotient_6 (by decide) ?_
    cases hf
    exact v_lret hX hE (Nat.le_of_ble_eq_true rfl) (Nat.le_of_ble_eq_true rfl) dX9_quotient_7
noncomputable def f_X0_ratioIn (S : q_S) (R : q_HR) (I : q_HI) (a0 : Nat) (a1 : Nat) (a2 : Int) : Option (Int) := q_gd (S.1 a1 = 6) (q_gd (S.1 (R a1 1) = 12) (q_gd ((0 : Int) ≤ a2 ∧ a2 < (S.2.1 (R a1 1) : Int)) (q_gd (r_i (I (R a1 1) (Int.toNat a2))) (q_gd (S.1 a0 = 1) (q_gd (S.1 (R a0 0) = 12) (q_gd ((0 : Int) ≤ a2 ∧ a2 < (S.2.1 (R a0 0) : Int)) (q_gd (r_i (I (R a0 0) (Int.toNat a2))) (q_bd (f_X9_quotient (1000 * (I (R a1 1) (Int.toNat a2))) (I (R a0 0) (Int.toNat a2))) fun r9 => q_gd (r_l r9) (some (q_mn r9 2000))))))))))
abbrev rmX0_ratioIn : Room := { frames := 1, cells := 0, slots := 0, locals := 25 }
set_option maxRecDepth 20000 in
theorem c_X0_ratioIn {S : q_S} {R : q_HR} {I : q_HI} {a0 : Nat} {a1 : Nat} {a2 : Int} {rz : Int} (hf : f_X0_ratioIn S R I a0 a1 a2 = some rz) : ∀ (l : Launch) (D : va_G) (cy : Nat → ClassId) (B : Nat), Met l yX0_ratioIn [Cond.code yX0_ratioIn cX0_ratioIn 5 (some .int)] rmX0_ratioIn (q_Pc B D cy [.ref a0, .ref a1, .int (q_i a2)] S R I) (q_Qc B D cy (some (.int (q_i rz))) S R I) 0 0 (fun q => B ≤ q) := by
  refine q_met (lv := [(0, .ref a0), (1, .ref a1), (2, .int (q_i a2))]) (own := RX0) (nm := "ratioIn") (by decide) rfl rfl (Nat.le_of_ble_eq_true rfl) rfl (fun X hX hE => ?_)
  unfold f_X0_ratioIn at hf
  refine v_ldc2 1000 hX kl_RX0_88 (by decide) dX0_ratioIn_0 ?_
  refine v_aload_n 1 1 hX dX0_ratioIn_3 rfl rfl ?_
  obtain ⟨g1, hf⟩ := q_gd_some hf
  obtain ⟨g2, hf⟩ := q_gd_some hf
  refine v_getA hX fa_RX0_90 (fun _ _ => rfl) g1 g2 (by decide) dX0_ratioIn_4 ?_
  refine v_iload_n 2 2 hX dX0_ratioIn_7 rfl rfl ?_
  obtain ⟨g3, hf⟩ := q_gd_some hf
  refine v_iaload hX g2 g3 dX0_ratioIn_8 ?_
  obtain ⟨g4, hf⟩ := q_gd_some hf
  refine v_i2l hX g4 dX0_ratioIn_9 ?_
  refine v_lmul hX dX0_ratioIn_10 ?_
  refine v_aload_n 0 0 hX dX0_ratioIn_11 rfl rfl ?_
  obtain ⟨g5, hf⟩ := q_gd_some hf
  obtain ⟨g6, hf⟩ := q_gd_some hf
  refine v_getA hX fa_RX0_9 (fun _ _ => rfl) g5 g6 (by decide) dX0_ratioIn_12 ?_
  refine v_iload_n 2 2 hX dX0_ratioIn_15 rfl rfl ?_
  obtain ⟨g7, hf⟩ := q_gd_some hf
  refine v_iaload hX g6 g7 dX0_ratioIn_16 ?_
  obtain ⟨g8, hf⟩ := q_gd_some hf
  refine v_i2l hX g8 dX0_ratioIn_17 ?_
  obtain ⟨r9, h10, hf⟩ := q_bd_some hf
  refine v_callS (As := [.long (q_l (1000 * (I (R a1 1) (Int.toNat a2)))), .long (q_l (I (R a0 0) (Int.toNat a2)))]) (rest := []) (st1 := [.long (q_l r9)]) (some (.long (q_l r9))) hX ms_RX0_93 (c_X9_quotient h10) ⟨rfl, rfl⟩ ⟨Nat.le_of_ble_eq_true rfl, Nat.le_of_ble_eq_true rfl⟩ rfl rfl (Nat.le_of_ble_eq_true rfl) ⟨Nat.le_of_ble_eq_true rfl, Nat.le_of_ble_eq_true rfl⟩ dX0_ratioIn_18 rfl ?_
  refine v_lstore_n 3 (lw := [(3, .long (q_l r9)), (0, .ref a0), (1, .ref a1), (2, .int (q_i a2))]) hX dX0_ratioIn_21 rfl (by decide) rfl ?_
  refine v_lload_n 3 0 hX dX0_ratioIn_22 rfl rfl ?_
  refine v_ldc2 2000 hX kl_RX0_97 (by decide) dX0_ratioIn_23 ?_
  obtain ⟨g11, hf⟩ := q_gd_some hf
  refine v_mminJ hX g11 (by unfold r_l; omega) wml_RX0_99 (Nat.le_of_ble_eq_true rfl) (Nat.le_of_ble_eq_true rfl) (Nat.le_of_ble_eq_true rfl) (Nat.le_of_ble_eq_true rfl) dX0_ratioIn_26 ?_
  refine v_l2i hX dX0_ratioIn_29 ?_
  cases hf
  exact v_iret hX hE (Nat.le_of_ble_eq_true rfl) (Nat.le_of_ble_eq_true rfl) dX0_ratioIn_30
noncomputable def f_X3_add (S : q_S) (R : q_HR) (I : q_HI) (a0 : Nat) (a1 : Int) (a3 : Int) : Option (q_HI) := q_gd (S.1 a0 = 4) (q_lt (q_up I a0 0 ((I a0 0) + 1)) fun I2 => q_lt (q_up I2 a0 1 ((I2 a0 1) + a1)) fun I4 => q_lt (q_up I4 a0 2 ((I4 a0 2) + a3)) fun I6 => q_lt (q_up I6 a0 3 ((I6 a0 3) + (a1 * a1))) fun I8 => q_lt (q_up I8 a0 4 ((I8 a0 4) + (a1 * a3))) fun I10 => some I10)
abbrev rmX3_add : Room := { frames := 0, cells := 0, slots := 0, locals := 0 }
set_option maxRecDepth 20000 in
theorem c_X3_add {S : q_S} {R : q_HR} {I : q_HI} {a0 : Nat} {a1 : Int} {a3 : Int} {Iz : q_HI} (hf : f_X3_add S R I a0 a1 a3 = some Iz) : ∀ (l : Launch) (D : va_G) (cy : Nat → ClassId) (B : Nat), Met l yX3_add [Cond.code yX3_add cX3_add 5 none] rmX3_add (q_Pc B D cy [.ref a0, .long (q_l a1), .long (q_l a3)] S R I) (q_Qc B D cy none S R Iz) 0 0 (fun q => B ≤ q) := by
  refine q_met (lv := [(0, .ref a0), (1, .long (q_l a1)), (3, .long (q_l a3))]) (own := RX3) (nm := "add") (by decide) rfl rfl (Nat.le_of_ble_eq_true rfl) rfl (fun X hX hE => ?_)
  unfold f_X3_add at hf
  refine v_aload_n 0 0 hX dX3_add_0 rfl rfl ?_
  refine v_dup hX dX3_add_1 rfl ?_
  obtain ⟨g1, hf⟩ := q_gd_some hf
  refine v_getJ hX fa_RX3_7 (fun _ _ => rfl) g1 dX3_add_2 ?_
  refine v_lconst 1 hX dX3_add_5 (by decide) ?_
  refine v_ladd hX dX3_add_6 ?_
  refine v_putJ hX fa_RX3_7 rfl g1 dX3_add_7 ?_
  obtain ⟨I2, e3, hf⟩ := q_lt_nm hf
  rw [e3]
  refine v_aload_n 0 0 hX dX3_add_10 rfl rfl ?_
  refine v_dup hX dX3_add_11 rfl ?_
  refine v_getJ hX fa_RX3_13 (fun _ _ => rfl) g1 dX3_add_12 ?_
  refine v_lload_n 1 1 hX dX3_add_15 rfl rfl ?_
  refine v_ladd hX dX3_add_16 ?_
  refine v_putJ hX fa_RX3_13 rfl g1 dX3_add_17 ?_
  obtain ⟨I4, e5, hf⟩ := q_lt_nm hf
  rw [e5]
  refine v_aload_n 0 0 hX dX3_add_20 rfl rfl ?_
  refine v_dup hX dX3_add_21 rfl ?_
  refine v_getJ hX fa_RX3_16 (fun _ _ => rfl) g1 dX3_add_22 ?_
  refine v_lload_n 3 2 hX dX3_add_25 rfl rfl ?_
  refine v_ladd hX dX3_add_26 ?_
  refine v_putJ hX fa_RX3_16 rfl g1 dX3_add_27 ?_
  obtain ⟨I6, e7, hf⟩ := q_lt_nm hf
  rw [e7]
  refine v_aload_n 0 0 hX dX3_add_30 rfl rfl ?_
  refine v_dup hX dX3_add_31 rfl ?_
  refine v_getJ hX fa_RX3_19 (fun _ _ => rfl) g1 dX3_add_32 ?_
  refine v_lload_n 1 1 hX dX3_add_35 rfl rfl ?_
  refine v_lload_n 1 1 hX dX3_add_36 rfl rfl ?_
  refine v_lmul hX dX3_add_37 ?_
  refine v_ladd hX dX3_add_38 ?_
  refine v_putJ hX fa_RX3_19 rfl g1 dX3_add_39 ?_
  obtain ⟨I8, e9, hf⟩ := q_lt_nm hf
  rw [e9]
  refine v_aload_n 0 0 hX dX3_add_42 rfl rfl ?_
  refine v_dup hX dX3_add_43 rfl ?_
  refine v_getJ hX fa_RX3_22 (fun _ _ => rfl) g1 dX3_add_44 ?_
  refine v_lload_n 1 1 hX dX3_add_47 rfl rfl ?_
  refine v_lload_n 3 2 hX dX3_add_48 rfl rfl ?_
  refine v_lmul hX dX3_add_49 ?_
  refine v_ladd hX dX3_add_50 ?_
  refine v_putJ hX fa_RX3_22 rfl g1 dX3_add_51 ?_
  obtain ⟨I10, e11, hf⟩ := q_lt_nm hf
  rw [e11]
  cases hf
  exact v_vret hX hE (Nat.le_of_ble_eq_true rfl) (Nat.le_of_ble_eq_true rfl) dX3_add_54
noncomputable def f_X3_cross (S : q_S) (R : q_HR) (I : q_HI) (a0 : Nat) : Option (Int) := q_gd (S.1 a0 = 4) (some (((I a0 0) * (I a0 4)) - ((I a0 1) * (I a0 2))))
abbrev rmX3_cross : Room := { frames := 0, cells := 0, slots := 0, locals := 0 }
set_option maxRecDepth 20000 in
theorem c_X3_cross {S : q_S} {R : q_HR} {I : q_HI} {a0 : Nat} {rz : Int} (hf : f_X3_cross S R I a0 = some rz) : ∀ (l : Launch) (D : va_G) (cy : Nat → ClassId) (B : Nat), Met l yX3_cross [Cond.code yX3_cross cX3_cross 1 (some .long)] rmX3_cross (q_Pc B D cy [.ref a0] S R I) (q_Qc B D cy (some (.long (q_l rz))) S R I) 0 0 (fun q => B ≤ q) := by
  refine q_met (lv := [(0, .ref a0)]) (own := RX3) (nm := "cross") (by decide) rfl rfl (Nat.le_of_ble_eq_true rfl) rfl (fun X hX hE => ?_)
  unfold f_X3_cross at hf
  refine v_aload_n 0 0 hX dX3_cross_0 rfl rfl ?_
  obtain ⟨g1, hf⟩ := q_gd_some hf
  refine v_getJ hX fa_RX3_7 (fun _ _ => rfl) g1 dX3_cross_1 ?_
  refine v_aload_n 0 0 hX dX3_cross_4 rfl rfl ?_
  refine v_getJ hX fa_RX3_22 (fun _ _ => rfl) g1 dX3_cross_5 ?_
  refine v_lmul hX dX3_cross_8 ?_
  refine v_aload_n 0 0 hX dX3_cross_9 rfl rfl ?_
  refine v_getJ hX fa_RX3_13 (fun _ _ => rfl) g1 dX3_cross_10 ?_
  refine v_aload_n 0 0 hX dX3_cross_13 rfl rfl ?_
  refine v_getJ hX fa_RX3_16 (fun _ _ => rfl) g1 dX3_cross_14 ?_
  refine v_lmul hX dX3_cross_17 ?_
  refine v_lsub hX dX3_cross_18 ?_
  cases hf
  exact v_lret hX hE (Nat.le_of_ble_eq_true rfl) (Nat.le_of_ble_eq_true rfl) dX3_cross_19
noncomputable def f_X3_square (S : q_S) (R : q_HR) (I : q_HI) (a0 : Nat) : Option (Int) := q_gd (S.1 a0 = 4) (some (((I a0 0) * (I a0 3)) - ((I a0 1) * (I a0 1))))
abbrev rmX3_square : Room := { frames := 0, cells := 0, slots := 0, locals := 0 }
set_option maxRecDepth 20000 in
theorem c_X3_square {S : q_S} {R : q_HR} {I : q_HI} {a0 : Nat} {rz : Int} (hf : f_X3_square S R I a0 = some rz) : ∀ (l : Launch) (D : va_G) (cy : Nat → ClassId) (B : Nat), Met l yX3_square [Cond.code yX3_square cX3_square 1 (some .long)] rmX3_square (q_Pc B D cy [.ref a0] S R I) (q_Qc B D cy (some (.long (q_l rz))) S R I) 0 0 (fun q => B ≤ q) := by
  refine q_met (lv := [(0, .ref a0)]) (own := RX3) (nm := "square") (by decide) rfl rfl (Nat.le_of_ble_eq_true rfl) rfl (fun X hX hE => ?_)
  unfold f_X3_square at hf
  refine v_aload_n 0 0 hX dX3_square_0 rfl rfl ?_
  obtain ⟨g1, hf⟩ := q_gd_some hf
  refine v_getJ hX fa_RX3_7 (fun _ _ => rfl) g1 dX3_square_1 ?_
  refine v_aload_n 0 0 hX dX3_square_4 rfl rfl ?_
  refine v_getJ hX fa_RX3_19 (fun _ _ => rfl) g1 dX3_square_5 ?_
  refine v_lmul hX dX3_square_8 ?_
  refine v_aload_n 0 0 hX dX3_square_9 rfl rfl ?_
  refine v_getJ hX fa_RX3_13 (fun _ _ => rfl) g1 dX3_square_10 ?_
  refine v_aload_n 0 0 hX dX3_square_13 rfl rfl ?_
  refine v_getJ hX fa_RX3_13 (fun _ _ => rfl) g1 dX3_square_14 ?_
  refine v_lmul hX dX3_square_17 ?_
  refine v_lsub hX dX3_square_18 ?_
  cases hf
  exact v_lret hX hE (Nat.le_of_ble_eq_true rfl) (Nat.le_of_ble_eq_true rfl) dX3_square_19
noncomputable def f_X0_fit_L16 (S : q_S) (R : q_HR) (p0 : Nat) (p1 : Int) (k : Int → q_HI → Option (q_HI)) : Nat → Int → q_HI → Option (q_HI)
  | 0, _, _ => none
  | n + 1, v2, I => q_gd (S.1 p0 = 1) (q_gd (S.1 (R p0 1) = 9) (q_gd (r_i v2) (q_gd (r_i (I (R p0 1) 2)) (if I (R p0 1) 2 ≤ v2 then k v2 I else q_bd (f_X8_at S R I (R p0 1) v2) fun r12 => q_gd (S.1 (R p0 2) = 4) (q_gd (S.1 r12 = 6) (q_gd (r_i (I r12 0)) (q_bd (f_X0_ratioIn S R I p0 r12 p1) fun r17 => q_gd (r_i r17) (q_bd (f_X3_add S R I (R p0 2) (I r12 0) r17) fun I20 => f_X0_fit_L16 S R p0 p1 k n (v2 + 1) I20))))))))
noncomputable def f_X0_fit_L2 (S : q_S) (R : q_HR) (p0 : Nat) (k : Int → q_HI → Option (q_HI)) : Nat → Int → q_HI → Option (q_HI)
  | 0, _, _ => none
  | n + 1, v1, I => q_gd (r_i v1) (if 5 ≤ v1 then k v1 I else q_gd (S.1 p0 = 1) (q_gd (S.1 (R p0 2) = 4) (q_bd (f_X3_clear S R I (R p0 2)) fun I5 => f_X0_fit_L16 S R p0 v1 (fun w22 I23 => q_gd (S.1 (R p0 3) = 13) (q_bd (f_X3_cross S R I23 (R p0 2)) fun r25 => q_gd ((0 : Int) ≤ v1 ∧ v1 < (S.2.1 (R p0 3) : Int)) (q_lt (q_up I23 (R p0 3) (Int.toNat v1) r25) fun I28 => q_bd (f_X3_square S R I28 (R p0 2)) fun r30 => q_lt (q_up I28 p0 4 r30) fun I32 => f_X0_fit_L2 S R p0 k n (v1 + 1) I32))) 100 0 I5)))
noncomputable def f_X0_fit (S : q_S) (R : q_HR) (I : q_HI) (a0 : Nat) : Option (q_HI) := f_X0_fit_L2 S R a0 (fun w34 I35 => some I35) 100 0 I
abbrev rmX0_fit : Room := { frames := 2, cells := 0, slots := 0, locals := 49 }
set_option maxRecDepth 20000 in
theorem l_X0_fit_16 {X : q_X} {S : q_S} {R : q_HR} {p0 : Nat} {p1 : Int} {Iz : q_HI} (hX : q_C X cX0_fit 4 RX0 none "fit") (hE : q_E X 0 0 none S R Iz) {k : Int → q_HI → Option (q_HI)} (hk : ∀ (v2 : Int) (I : q_HI), k v2 I = some Iz → q_V X rmX0_fit cX0_fit 4 0 0 61 [(0, .ref p0), (1, .int (q_i p1))] [] S R I) :
    ∀ (n : Nat), ∀ (v2 : Int) (I : q_HI), f_X0_fit_L16 S R p0 p1 k n v2 I = some Iz → q_V X rmX0_fit cX0_fit 4 0 0 16 [(0, .ref p0), (1, .int (q_i p1)), (2, .int (q_i v2))] [] S R I := by
  intro n
  induction n with
  | zero =>
    intro v2 I hf
    cases (show (none : Option (q_HI)) = some _ from hf)
  | succ n ih =>
    intro v2 I hf
    rw [f_X0_fit_L16] at hf
    refine v_iload_n 2 2 hX dX0_fit_16 rfl rfl ?_
    refine v_aload_n 0 0 hX dX0_fit_17 rfl rfl ?_
    obtain ⟨g7, hf⟩ := q_gd_some hf
    obtain ⟨g8, hf⟩ := q_gd_some hf
    refine v_getA hX fa_RX0_20 (fun _ _ => rfl) g7 g8 (by decide) dX0_fit_18 ?_
    refine v_getI hX fa_RX0_53 (fun _ _ => rfl) g8 dX0_fit_21 ?_
    obtain ⟨g9, hf⟩ := q_gd_some hf
    obtain ⟨g10, hf⟩ := q_gd_some hf
    refine v_icmp_ge (tgt := 61) hX g9 g10 dX0_fit_24 (by decide) (fun c11 => ?_) (fun c11 => ?_)
    · replace hf := q_ifp c11 hf
      refine v_sub (lv' := [(0, .ref p0), (1, .int (q_i p1))]) [0, 1] rfl ?_
      exact hk _ _ hf
    · replace hf := q_ifn c11 hf
      refine v_aload_n 0 0 hX dX0_fit_27 rfl rfl ?_
      refine v_getA hX fa_RX0_20 (fun _ _ => rfl) g7 g8 (by decide) dX0_fit_28 ?_
      refine v_iload_n 2 2 hX dX0_fit_31 rfl rfl ?_
      obtain ⟨r12, h13, hf⟩ := q_bd_some hf
      refine v_callV (As := [.int (q_i v2)]) (rest := []) (st1 := [.ref r12]) (some (.ref r12)) hX mv_RX0_60 (c_X8_at h13) ⟨rfl, rfl⟩ ⟨Nat.le_of_ble_eq_true rfl, Nat.le_of_ble_eq_true rfl⟩ g8 rfl rfl (Nat.le_of_ble_eq_true rfl) ⟨Nat.le_of_ble_eq_true rfl, Nat.le_of_ble_eq_true rfl⟩ dX0_fit_32 rfl ?_
      refine v_astore_n 3 (lw := [(3, .ref r12), (0, .ref p0), (1, .int (q_i p1)), (2, .int (q_i v2))]) hX dX0_fit_35 rfl (by decide) rfl ?_
      refine v_aload_n 0 1 hX dX0_fit_36 rfl rfl ?_
      obtain ⟨g14, hf⟩ := q_gd_some hf
      refine v_getA hX fa_RX0_27 (fun _ _ => rfl) g7 g14 (by decide) dX0_fit_37 ?_
      refine v_aload_n 3 0 hX dX0_fit_40 rfl rfl ?_
      obtain ⟨g15, hf⟩ := q_gd_some hf
      refine v_getI hX fa_RX0_64 (fun _ _ => rfl) g15 dX0_fit_41 ?_
      obtain ⟨g16, hf⟩ := q_gd_some hf
      refine v_i2l hX g16 dX0_fit_44 ?_
      refine v_aload_n 0 1 hX dX0_fit_45 rfl rfl ?_
      refine v_aload_n 3 0 hX dX0_fit_46 rfl rfl ?_
      refine v_iload_n 1 2 hX dX0_fit_47 rfl rfl ?_
      obtain ⟨r17, h18, hf⟩ := q_bd_some hf
      refine v_callV (As := [.ref r12, .int (q_i p1)]) (rest := [.long (q_l (I r12 0)), .ref (R p0 2)]) (st1 := [.int (q_i r17), .long (q_l (I r12 0)), .ref (R p0 2)]) (some (.int (q_i r17))) hX mv_RX0_69 (c_X0_ratioIn h18) ⟨rfl, rfl⟩ ⟨Nat.le_of_ble_eq_true rfl, Nat.le_of_ble_eq_true rfl⟩ g7 rfl rfl (Nat.le_of_ble_eq_true rfl) ⟨Nat.le_of_ble_eq_true rfl, Nat.le_of_ble_eq_true rfl⟩ dX0_fit_48 rfl ?_
      obtain ⟨g19, hf⟩ := q_gd_some hf
      refine v_i2l hX g19 dX0_fit_51 ?_
      obtain ⟨I20, h21, hf⟩ := q_bd_some hf
      refine v_callV (As := [.long (q_l (I r12 0)), .long (q_l r17)]) (rest := []) (st1 := []) none hX mv_RX0_73 (c_X3_add h21) ⟨rfl, rfl⟩ ⟨Nat.le_of_ble_eq_true rfl, Nat.le_of_ble_eq_true rfl⟩ g14 rfl rfl (Nat.le_of_ble_eq_true rfl) ⟨Nat.le_of_ble_eq_true rfl, Nat.le_of_ble_eq_true rfl⟩ dX0_fit_52 rfl ?_
      refine v_iinc 3 (lw := [(2, .int (q_i (v2 + 1))), (3, .ref r12), (0, .ref p0), (1, .int (q_i p1))]) hX dX0_fit_55 rfl (by decide) rfl ?_
      refine v_goto (tgt := 16) hX dX0_fit_58 (by decide) ?_
      refine v_sub (lv' := [(0, .ref p0), (1, .int (q_i p1)), (2, .int (q_i (v2 + 1)))]) [2, 3, 0] rfl ?_
      exact ih _ _ hf
set_option maxRecDepth 20000 in
theorem l_X0_fit_2 {X : q_X} {S : q_S} {R : q_HR} {p0 : Nat} {Iz : q_HI} (hX : q_C X cX0_fit 4 RX0 none "fit") (hE : q_E X 0 0 none S R Iz) {k : Int → q_HI → Option (q_HI)} (hk : ∀ (v1 : Int) (I : q_HI), k v1 I = some Iz → q_V X rmX0_fit cX0_fit 4 0 0 91 [] [] S R I) :
    ∀ (n : Nat), ∀ (v1 : Int) (I : q_HI), f_X0_fit_L2 S R p0 k n v1 I = some Iz → q_V X rmX0_fit cX0_fit 4 0 0 2 [(0, .ref p0), (1, .int (q_i v1))] [] S R I := by
  intro n
  induction n with
  | zero =>
    intro v1 I hf
    cases (show (none : Option (q_HI)) = some _ from hf)
  | succ n ih =>
    intro v1 I hf
    rw [f_X0_fit_L2] at hf
    refine v_iload_n 1 1 hX dX0_fit_2 rfl rfl ?_
    refine v_iconst hX dX0_fit_3 ?_
    obtain ⟨g1, hf⟩ := q_gd_some hf
    refine v_icmp_ge (tgt := 91) hX g1 (by unfold r_i; omega) dX0_fit_4 (by decide) (fun c2 => ?_) (fun c2 => ?_)
    · replace hf := q_ifp c2 hf
      refine v_sub (lv' := []) [] rfl ?_
      exact hk _ _ hf
    · replace hf := q_ifn c2 hf
      refine v_aload_n 0 0 hX dX0_fit_7 rfl rfl ?_
      obtain ⟨g3, hf⟩ := q_gd_some hf
      obtain ⟨g4, hf⟩ := q_gd_some hf
      refine v_getA hX fa_RX0_27 (fun _ _ => rfl) g3 g4 (by decide) dX0_fit_8 ?_
      obtain ⟨I5, h6, hf⟩ := q_bd_some hf
      refine v_callV (As := []) (rest := []) (st1 := []) none hX mv_RX0_59 (c_X3_clear h6) ⟨rfl, rfl⟩ ⟨Nat.le_of_ble_eq_true rfl, Nat.le_of_ble_eq_true rfl⟩ g4 rfl rfl (Nat.le_of_ble_eq_true rfl) ⟨Nat.le_of_ble_eq_true rfl, Nat.le_of_ble_eq_true rfl⟩ dX0_fit_11 rfl ?_
      refine v_iconst hX dX0_fit_14 ?_
      refine v_istore_n 2 (lw := [(2, .int (q_i 0)), (0, .ref p0), (1, .int (q_i v1))]) hX dX0_fit_15 rfl (by decide) rfl ?_
      refine v_sub (lv' := [(0, .ref p0), (1, .int (q_i v1)), (2, .int (q_i 0))]) [1, 2, 0] rfl ?_
      refine l_X0_fit_16 hX hE (fun w22 I23 hk => ?_) 100 _ _ hf
      clear hf
      have hf := hk
      clear hk
      refine v_aload_n 0 0 hX dX0_fit_61 rfl rfl ?_
      obtain ⟨g24, hf⟩ := q_gd_some hf
      refine v_getA hX fa_RX0_31 (fun _ _ => rfl) g3 g24 (by decide) dX0_fit_62 ?_
      refine v_iload_n 1 1 hX dX0_fit_65 rfl rfl ?_
      refine v_aload_n 0 0 hX dX0_fit_66 rfl rfl ?_
      refine v_getA hX fa_RX0_27 (fun _ _ => rfl) g3 g4 (by decide) dX0_fit_67 ?_
      obtain ⟨r25, h26, hf⟩ := q_bd_some hf
      refine v_callV (As := []) (rest := [.int (q_i v1), .ref (R p0 3)]) (st1 := [.long (q_l r25), .int (q_i v1), .ref (R p0 3)]) (some (.long (q_l r25))) hX mv_RX0_77 (c_X3_cross h26) ⟨rfl, rfl⟩ ⟨Nat.le_of_ble_eq_true rfl, Nat.le_of_ble_eq_true rfl⟩ g4 rfl rfl (Nat.le_of_ble_eq_true rfl) ⟨Nat.le_of_ble_eq_true rfl, Nat.le_of_ble_eq_true rfl⟩ dX0_fit_70 rfl ?_
      obtain ⟨g27, hf⟩ := q_gd_some hf
      refine v_lastore hX g24 g27 dX0_fit_73 ?_
      obtain ⟨I28, e29, hf⟩ := q_lt_nm hf
      rw [e29]
      refine v_aload_n 0 0 hX dX0_fit_74 rfl rfl ?_
      refine v_aload_n 0 0 hX dX0_fit_75 rfl rfl ?_
      refine v_getA hX fa_RX0_27 (fun _ _ => rfl) g3 g4 (by decide) dX0_fit_76 ?_
      obtain ⟨r30, h31, hf⟩ := q_bd_some hf
      refine v_callV (As := []) (rest := [.ref p0]) (st1 := [.long (q_l r30), .ref p0]) (some (.long (q_l r30))) hX mv_RX0_81 (c_X3_square h31) ⟨rfl, rfl⟩ ⟨Nat.le_of_ble_eq_true rfl, Nat.le_of_ble_eq_true rfl⟩ g4 rfl rfl (Nat.le_of_ble_eq_true rfl) ⟨Nat.le_of_ble_eq_true rfl, Nat.le_of_ble_eq_true rfl⟩ dX0_fit_79 rfl ?_
      refine v_putJ hX fa_RX0_84 rfl g3 dX0_fit_82 ?_
      obtain ⟨I32, e33, hf⟩ := q_lt_nm hf
      rw [e33]
      refine v_iinc 1 (lw := [(1, .int (q_i (v1 + 1))), (0, .ref p0)]) hX dX0_fit_85 rfl (by decide) rfl ?_
      refine v_goto (tgt := 2) hX dX0_fit_88 (by decide) ?_
      refine v_sub (lv' := [(0, .ref p0), (1, .int (q_i (v1 + 1)))]) [1, 0] rfl ?_
      exact ih _ _ hf
set_option maxRecDepth 20000 in
theorem c_X0_fit {S : q_S} {R : q_HR} {I : q_HI} {a0 : Nat} {Iz : q_HI} (hf : f_X0_fit S R I a0 = some Iz) : ∀ (l : Launch) (D : va_G) (cy : Nat → ClassId) (B : Nat), Met l yX0_fit [Cond.code yX0_fit cX0_fit 4 none] rmX0_fit (q_Pc B D cy [.ref a0] S R I) (q_Qc B D cy none S R Iz) 0 0 (fun q => B ≤ q) := by
  refine q_met (lv := [(0, .ref a0)]) (own := RX0) (nm := "fit") (by decide) rfl rfl (Nat.le_of_ble_eq_true rfl) rfl (fun X hX hE => ?_)
  unfold f_X0_fit at hf
  refine v_iconst hX dX0_fit_0 ?_
  refine v_istore_n 1 (lw := [(1, .int (q_i 0)), (0, .ref a0)]) hX dX0_fit_1 rfl (by decide) rfl ?_
  refine v_sub (lv' := [(0, .ref a0), (1, .int (q_i 0))]) [1, 0] rfl ?_
  refine l_X0_fit_2 hX hE (fun w34 I35 hk => ?_) 100 _ _ hf
  clear hf
  have hf := hk
  clear hk
  cases hf
  exact v_vret hX hE (Nat.le_of_ble_eq_true rfl) (Nat.le_of_ble_eq_true rfl) dX0_fit_91
noncomputable def f_X0_restart_L7 (S : q_S) (R : q_HR) (p0 : Nat) (k : Int → q_HI → Option (q_HI)) : Nat → Int → q_HI → Option (q_HI)
  | 0, _, _ => none
  | n + 1, v2, I => q_gd (r_i v2) (if 5 ≤ v2 then k v2 I else q_gd (S.1 p0 = 1) (q_gd (S.1 (R p0 0) = 12) (q_gd ((0 : Int) ≤ v2 ∧ v2 < (S.2.1 (R p0 0) : Int)) (q_lt (q_up I (R p0 0) (Int.toNat v2) 1000) fun I9 => f_X0_restart_L7 S R p0 k n (v2 + 1) I9))))
noncomputable def f_X0_restart (S : q_S) (R : q_HR) (I : q_HI) (a0 : Nat) (a1 : Int) : Option (q_HI) := q_gd (S.1 a0 = 1) (q_lt (q_up I a0 6 a1) fun I2 => f_X0_restart_L7 S R a0 (fun w11 I12 => q_gd (S.1 (R a0 1) = 9) (q_bd (f_X8_clear S R I12 (R a0 1)) fun I14 => q_lt (q_up I14 a0 5 1) fun I16 => q_bd (f_X0_fit S R I16 a0) fun I18 => some I18)) 100 0 I2)
abbrev rmX0_restart : Room := { frames := 3, cells := 0, slots := 0, locals := 72 }
set_option maxRecDepth 20000 in
theorem l_X0_restart_7 {X : q_X} {S : q_S} {R : q_HR} {p0 : Nat} {Iz : q_HI} (hX : q_C X cX0_restart 3 RX0 none "restart") (hE : q_E X 0 0 none S R Iz) {k : Int → q_HI → Option (q_HI)} (hk : ∀ (v2 : Int) (I : q_HI), k v2 I = some Iz → q_V X rmX0_restart cX0_restart 3 0 0 27 [(0, .ref p0)] [] S R I) :
    ∀ (n : Nat), ∀ (v2 : Int) (I : q_HI), f_X0_restart_L7 S R p0 k n v2 I = some Iz → q_V X rmX0_restart cX0_restart 3 0 0 7 [(0, .ref p0), (2, .int (q_i v2))] [] S R I := by
  intro n
  induction n with
  | zero =>
    intro v2 I hf
    cases (show (none : Option (q_HI)) = some _ from hf)
  | succ n ih =>
    intro v2 I hf
    rw [f_X0_restart_L7] at hf
    refine v_iload_n 2 1 hX dX0_restart_7 rfl rfl ?_
    refine v_iconst hX dX0_restart_8 ?_
    obtain ⟨g4, hf⟩ := q_gd_some hf
    refine v_icmp_ge (tgt := 27) hX g4 (by unfold r_i; omega) dX0_restart_9 (by decide) (fun c5 => ?_) (fun c5 => ?_)
    · replace hf := q_ifp c5 hf
      refine v_sub (lv' := [(0, .ref p0)]) [0] rfl ?_
      exact hk _ _ hf
    · replace hf := q_ifn c5 hf
      refine v_aload_n 0 0 hX dX0_restart_12 rfl rfl ?_
      obtain ⟨g6, hf⟩ := q_gd_some hf
      obtain ⟨g7, hf⟩ := q_gd_some hf
      refine v_getA hX fa_RX0_9 (fun _ _ => rfl) g6 g7 (by decide) dX0_restart_13 ?_
      refine v_iload_n 2 1 hX dX0_restart_16 rfl rfl ?_
      refine v_sipush 1000 hX dX0_restart_17 (by decide) ?_
      obtain ⟨g8, hf⟩ := q_gd_some hf
      refine v_iastore hX g7 g8 dX0_restart_20 ?_
      obtain ⟨I9, e10, hf⟩ := q_lt_nm hf
      rw [e10]
      refine v_iinc 1 (lw := [(2, .int (q_i (v2 + 1))), (0, .ref p0)]) hX dX0_restart_21 rfl (by decide) rfl ?_
      refine v_goto (tgt := 7) hX dX0_restart_24 (by decide) ?_
      refine v_sub (lv' := [(0, .ref p0), (2, .int (q_i (v2 + 1)))]) [1, 0] rfl ?_
      exact ih _ _ hf
set_option maxRecDepth 20000 in
theorem c_X0_restart {S : q_S} {R : q_HR} {I : q_HI} {a0 : Nat} {a1 : Int} {Iz : q_HI} (hf : f_X0_restart S R I a0 a1 = some Iz) : ∀ (l : Launch) (D : va_G) (cy : Nat → ClassId) (B : Nat), Met l yX0_restart [Cond.code yX0_restart cX0_restart 3 none] rmX0_restart (q_Pc B D cy [.ref a0, .int (q_i a1)] S R I) (q_Qc B D cy none S R Iz) 0 0 (fun q => B ≤ q) := by
  refine q_met (lv := [(0, .ref a0), (1, .int (q_i a1))]) (own := RX0) (nm := "restart") (by decide) rfl rfl (Nat.le_of_ble_eq_true rfl) rfl (fun X hX hE => ?_)
  unfold f_X0_restart at hf
  refine v_aload_n 0 0 hX dX0_restart_0 rfl rfl ?_
  refine v_iload_n 1 1 hX dX0_restart_1 rfl rfl ?_
  obtain ⟨g1, hf⟩ := q_gd_some hf
  refine v_putI hX fa_RX0_35 rfl g1 dX0_restart_2 ?_
  obtain ⟨I2, e3, hf⟩ := q_lt_nm hf
  rw [e3]
  refine v_iconst hX dX0_restart_5 ?_
  refine v_istore_n 2 (lw := [(2, .int (q_i 0)), (0, .ref a0), (1, .int (q_i a1))]) hX dX0_restart_6 rfl (by decide) rfl ?_
  refine v_sub (lv' := [(0, .ref a0), (2, .int (q_i 0))]) [1, 0] rfl ?_
  refine l_X0_restart_7 hX hE (fun w11 I12 hk => ?_) 100 _ _ hf
  clear hf
  have hf := hk
  clear hk
  refine v_aload_n 0 0 hX dX0_restart_27 rfl rfl ?_
  obtain ⟨g13, hf⟩ := q_gd_some hf
  refine v_getA hX fa_RX0_20 (fun _ _ => rfl) g1 g13 (by decide) dX0_restart_28 ?_
  obtain ⟨I14, h15, hf⟩ := q_bd_some hf
  refine v_callV (As := []) (rest := []) (st1 := []) none hX mv_RX0_39 (c_X8_clear h15) ⟨rfl, rfl⟩ ⟨Nat.le_of_ble_eq_true rfl, Nat.le_of_ble_eq_true rfl⟩ g13 rfl rfl (Nat.le_of_ble_eq_true rfl) ⟨Nat.le_of_ble_eq_true rfl, Nat.le_of_ble_eq_true rfl⟩ dX0_restart_31 rfl ?_
  refine v_aload_n 0 0 hX dX0_restart_34 rfl rfl ?_
  refine v_iconst hX dX0_restart_35 ?_
  refine v_putZ hX fa_RX0_42 rfl (Or.inr rfl) g1 dX0_restart_36 ?_
  obtain ⟨I16, e17, hf⟩ := q_lt_nm hf
  rw [e17]
  refine v_aload_n 0 0 hX dX0_restart_39 rfl rfl ?_
  obtain ⟨I18, h19, hf⟩ := q_bd_some hf
  refine v_callV (As := []) (rest := []) (st1 := []) none hX mv_RX0_46 (c_X0_fit h19) ⟨rfl, rfl⟩ ⟨Nat.le_of_ble_eq_true rfl, Nat.le_of_ble_eq_true rfl⟩ g1 rfl rfl (Nat.le_of_ble_eq_true rfl) ⟨Nat.le_of_ble_eq_true rfl, Nat.le_of_ble_eq_true rfl⟩ dX0_restart_40 rfl ?_
  cases hf
  exact v_vret hX hE (Nat.le_of_ble_eq_true rfl) (Nat.le_of_ble_eq_true rfl) dX0_restart_43
noncomputable def f_X0_changeBaseline (S : q_S) (R : q_HR) (I : q_HI) (a0 : Nat) (a1 : Int) (a2 : Int) : Option (Int × q_HI) := q_gd (S.1 a0 = 1) (q_gd (S.1 (R a0 0) = 12) (q_gd ((0 : Int) ≤ a1 ∧ a1 < (S.2.1 (R a0 0) : Int)) (q_lt (I (R a0 0) (Int.toNat a1)) fun x4 => q_lt (q_up I (R a0 0) (Int.toNat a1) a2) fun I6 => q_bd (f_X0_fit S R I6 a0) fun I8 => some (x4, I8))))
abbrev rmX0_changeBaseline : Room := { frames := 3, cells := 0, slots := 0, locals := 72 }
set_option maxRecDepth 20000 in
theorem c_X0_changeBaseline {S : q_S} {R : q_HR} {I : q_HI} {a0 : Nat} {a1 : Int} {a2 : Int} {rz : Int} {Iz : q_HI} (hf : f_X0_changeBaseline S R I a0 a1 a2 = some (rz, Iz)) : ∀ (l : Launch) (D : va_G) (cy : Nat → ClassId) (B : Nat), Met l yX0_changeBaseline [Cond.code yX0_changeBaseline cX0_changeBaseline 4 (some .int)] rmX0_changeBaseline (q_Pc B D cy [.ref a0, .int (q_i a1), .int (q_i a2)] S R I) (q_Qc B D cy (some (.int (q_i rz))) S R Iz) 0 0 (fun q => B ≤ q) := by
  refine q_met (lv := [(0, .ref a0), (1, .int (q_i a1)), (2, .int (q_i a2))]) (own := RX0) (nm := "changeBaseline") (by decide) rfl rfl (Nat.le_of_ble_eq_true rfl) rfl (fun X hX hE => ?_)
  unfold f_X0_changeBaseline at hf
  refine v_aload_n 0 0 hX dX0_changeBaseline_0 rfl rfl ?_
  obtain ⟨g1, hf⟩ := q_gd_some hf
  obtain ⟨g2, hf⟩ := q_gd_some hf
  refine v_getA hX fa_RX0_9 (fun _ _ => rfl) g1 g2 (by decide) dX0_changeBaseline_1 ?_
  refine v_iload_n 1 1 hX dX0_changeBaseline_4 rfl rfl ?_
  obtain ⟨g3, hf⟩ := q_gd_some hf
  refine v_iaload hX g2 g3 dX0_changeBaseline_5 ?_
  obtain ⟨x4, e5, hf⟩ := q_lt_nm hf
  rw [e5]
  refine v_istore_n 3 (lw := [(3, .int (q_i x4)), (0, .ref a0), (1, .int (q_i a1)), (2, .int (q_i a2))]) hX dX0_changeBaseline_6 rfl (by decide) rfl ?_
  refine v_aload_n 0 1 hX dX0_changeBaseline_7 rfl rfl ?_
  refine v_getA hX fa_RX0_9 (fun _ _ => rfl) g1 g2 (by decide) dX0_changeBaseline_8 ?_
  refine v_iload_n 1 2 hX dX0_changeBaseline_11 rfl rfl ?_
  refine v_iload_n 2 3 hX dX0_changeBaseline_12 rfl rfl ?_
  refine v_iastore hX g2 g3 dX0_changeBaseline_13 ?_
  obtain ⟨I6, e7, hf⟩ := q_lt_nm hf
  rw [e7]
  refine v_aload_n 0 1 hX dX0_changeBaseline_14 rfl rfl ?_
  obtain ⟨I8, h9, hf⟩ := q_bd_some hf
  refine v_callV (As := []) (rest := []) (st1 := []) none hX mv_RX0_46 (c_X0_fit h9) ⟨rfl, rfl⟩ ⟨Nat.le_of_ble_eq_true rfl, Nat.le_of_ble_eq_true rfl⟩ g1 rfl rfl (Nat.le_of_ble_eq_true rfl) ⟨Nat.le_of_ble_eq_true rfl, Nat.le_of_ble_eq_true rfl⟩ dX0_changeBaseline_15 rfl ?_
  refine v_iload_n 3 0 hX dX0_changeBaseline_18 rfl rfl ?_
  cases hf
  exact v_iret hX hE (Nat.le_of_ble_eq_true rfl) (Nat.le_of_ble_eq_true rfl) dX0_changeBaseline_19
noncomputable def f_X8_append (S : q_S) (R : q_HR) (I : q_HI) (a0 : Nat) (a1 : Nat) : Option (q_HR × q_HI) := q_gd (S.1 a0 = 9) (q_gd (S.1 (R a0 0) = 16) (q_gd (r_i (I a0 2)) (q_gd (r_i (S.2.1 (R a0 0) : Int)) (if (S.2.1 (R a0 0) : Int) ≤ I a0 2 then some (R, I) else q_gd ((0 : Int) ≤ I a0 2 ∧ I a0 2 < (S.2.1 (R a0 0) : Int)) (q_gd (S.1 a1 = 6) (q_lt (q_up R (R a0 0) (Int.toNat (I a0 2)) a1) fun R8 => q_lt (q_up I a0 2 ((I a0 2) + 1)) fun I10 => some (R8, I10)))))))
abbrev rmX8_append : Room := { frames := 0, cells := 0, slots := 0, locals := 0 }
set_option maxRecDepth 20000 in
theorem c_X8_append {S : q_S} {R : q_HR} {I : q_HI} {a0 : Nat} {a1 : Nat} {Rz : q_HR} {Iz : q_HI} (hf : f_X8_append S R I a0 a1 = some (Rz, Iz)) : ∀ (l : Launch) (D : va_G) (cy : Nat → ClassId) (B : Nat), Met l yX8_append [Cond.code yX8_append cX8_append 2 none] rmX8_append (q_Pc B D cy [.ref a0, .ref a1] S R I) (q_Qc B D cy none S Rz Iz) 0 0 (fun q => B ≤ q) := by
  refine q_met (lv := [(0, .ref a0), (1, .ref a1)]) (own := RX8) (nm := "append") (by decide) rfl rfl (Nat.le_of_ble_eq_true rfl) rfl (fun X hX hE => ?_)
  unfold f_X8_append at hf
  refine v_aload_n 0 0 hX dX8_append_0 rfl rfl ?_
  obtain ⟨g1, hf⟩ := q_gd_some hf
  refine v_getI hX fa_RX8_28 (fun _ _ => rfl) g1 dX8_append_1 ?_
  refine v_aload_n 0 0 hX dX8_append_4 rfl rfl ?_
  obtain ⟨g2, hf⟩ := q_gd_some hf
  refine v_getA hX fa_RX8_15 (fun _ _ => rfl) g1 g2 (by decide) dX8_append_5 ?_
  refine v_alen (t0 := 4) hX g2 (by decide) (fun _ => rfl) dX8_append_8 ?_
  obtain ⟨g3, hf⟩ := q_gd_some hf
  obtain ⟨g4, hf⟩ := q_gd_some hf
  refine v_icmp_ge (tgt := 32) hX g3 g4 dX8_append_9 (by decide) (fun c5 => ?_) (fun c5 => ?_)
  · replace hf := q_ifp c5 hf
    cases hf
    exact v_vret hX hE (Nat.le_of_ble_eq_true rfl) (Nat.le_of_ble_eq_true rfl) dX8_append_32
  · replace hf := q_ifn c5 hf
    refine v_aload_n 0 0 hX dX8_append_12 rfl rfl ?_
    refine v_getA hX fa_RX8_15 (fun _ _ => rfl) g1 g2 (by decide) dX8_append_13 ?_
    refine v_aload_n 0 0 hX dX8_append_16 rfl rfl ?_
    refine v_getI hX fa_RX8_28 (fun _ _ => rfl) g1 dX8_append_17 ?_
    refine v_aload_n 1 1 hX dX8_append_20 rfl rfl ?_
    obtain ⟨g6, hf⟩ := q_gd_some hf
    obtain ⟨g7, hf⟩ := q_gd_some hf
    refine v_aastore (t0 := 4) (C := "SensorArray$Measurement") (T := TX5) hX g2 (by decide) (fun _ => rfl) (fun _ _ _ => rfl) g6 g7 (by decide) (by decide) rfl dX8_append_21 ?_
    obtain ⟨R8, e9, hf⟩ := q_lt_nm hf
    rw [e9]
    refine v_aload_n 0 0 hX dX8_append_22 rfl rfl ?_
    refine v_dup hX dX8_append_23 rfl ?_
    refine v_getI hX fa_RX8_28 (fun _ _ => rfl) g1 dX8_append_24 ?_
    refine v_iconst hX dX8_append_27 ?_
    refine v_iadd hX dX8_append_28 ?_
    refine v_putI hX fa_RX8_28 rfl g1 dX8_append_29 ?_
    obtain ⟨I10, e11, hf⟩ := q_lt_nm hf
    rw [e11]
    cases hf
    exact v_vret hX hE (Nat.le_of_ble_eq_true rfl) (Nat.le_of_ble_eq_true rfl) dX8_append_32
noncomputable def f_X0_addToFit (S : q_S) (R : q_HR) (I : q_HI) (a0 : Nat) (a1 : Nat) : Option (Int × q_HR × q_HI) := q_gd (S.1 a0 = 1) (q_gd (S.1 (R a0 1) = 9) (q_bd2 (f_X8_append S R I (R a0 1) a1) fun R3 I4 => q_bd (f_X0_fit S R3 I4 a0) fun I6 => q_gd (S.1 (R3 a0 1) = 9) (some (I6 (R3 a0 1) 2, R3, I6))))
abbrev rmX0_addToFit : Room := { frames := 3, cells := 0, slots := 0, locals := 72 }
set_option maxRecDepth 20000 in
theorem c_X0_addToFit {S : q_S} {R : q_HR} {I : q_HI} {a0 : Nat} {a1 : Nat} {rz : Int} {Rz : q_HR} {Iz : q_HI} (hf : f_X0_addToFit S R I a0 a1 = some (rz, Rz, Iz)) : ∀ (l : Launch) (D : va_G) (cy : Nat → ClassId) (B : Nat), Met l yX0_addToFit [Cond.code yX0_addToFit cX0_addToFit 2 (some .int)] rmX0_addToFit (q_Pc B D cy [.ref a0, .ref a1] S R I) (q_Qc B D cy (some (.int (q_i rz))) S Rz Iz) 0 0 (fun q => B ≤ q) := by
  refine q_met (lv := [(0, .ref a0), (1, .ref a1)]) (own := RX0) (nm := "addToFit") (by decide) rfl rfl (Nat.le_of_ble_eq_true rfl) rfl (fun X hX hE => ?_)
  unfold f_X0_addToFit at hf
  refine v_aload_n 0 0 hX dX0_addToFit_0 rfl rfl ?_
  obtain ⟨g1, hf⟩ := q_gd_some hf
  obtain ⟨g2, hf⟩ := q_gd_some hf
  refine v_getA hX fa_RX0_20 (fun _ _ => rfl) g1 g2 (by decide) dX0_addToFit_1 ?_
  refine v_aload_n 1 1 hX dX0_addToFit_4 rfl rfl ?_
  obtain ⟨R3, I4, h5, hf⟩ := q_bd2_some hf
  refine v_callV (As := [.ref a1]) (rest := []) (st1 := []) none hX mv_RX0_49 (c_X8_append h5) ⟨rfl, rfl⟩ ⟨Nat.le_of_ble_eq_true rfl, Nat.le_of_ble_eq_true rfl⟩ g2 rfl rfl (Nat.le_of_ble_eq_true rfl) ⟨Nat.le_of_ble_eq_true rfl, Nat.le_of_ble_eq_true rfl⟩ dX0_addToFit_5 rfl ?_
  refine v_aload_n 0 0 hX dX0_addToFit_8 rfl rfl ?_
  obtain ⟨I6, h7, hf⟩ := q_bd_some hf
  refine v_callV (As := []) (rest := []) (st1 := []) none hX mv_RX0_46 (c_X0_fit h7) ⟨rfl, rfl⟩ ⟨Nat.le_of_ble_eq_true rfl, Nat.le_of_ble_eq_true rfl⟩ g1 rfl rfl (Nat.le_of_ble_eq_true rfl) ⟨Nat.le_of_ble_eq_true rfl, Nat.le_of_ble_eq_true rfl⟩ dX0_addToFit_9 rfl ?_
  refine v_aload_n 0 0 hX dX0_addToFit_12 rfl rfl ?_
  obtain ⟨g8, hf⟩ := q_gd_some hf
  refine v_getA hX fa_RX0_20 (fun _ _ => rfl) g1 g8 (by decide) dX0_addToFit_13 ?_
  refine v_getI hX fa_RX0_53 (fun _ _ => rfl) g8 dX0_addToFit_16 ?_
  cases hf
  exact v_iret hX hE (Nat.le_of_ble_eq_true rfl) (Nat.le_of_ble_eq_true rfl) dX0_addToFit_19
noncomputable def f_X8_removeAt_L17 (S : q_S) (I : q_HI) (p0 : Nat) (k : Int → q_HR → Option (q_HR × q_HI)) : Nat → Int → q_HR → Option (q_HR × q_HI)
  | 0, _, _ => none
  | n + 1, v2, R => q_gd (S.1 p0 = 9) (q_gd (r_i v2) (q_gd (r_i (I p0 2)) (if I p0 2 ≤ v2 then k v2 R else q_gd (S.1 (R p0 0) = 16) (q_gd ((0 : Int) ≤ v2 ∧ v2 < (S.2.1 (R p0 0) : Int)) (q_gd (S.1 (R (R p0 0) (Int.toNat v2)) = 6) (q_gd ((0 : Int) ≤ v2 - 1 ∧ v2 - 1 < (S.2.1 (R p0 0) : Int)) (q_lt (q_up R (R p0 0) (Int.toNat (v2 - 1)) (R (R p0 0) (Int.toNat v2))) fun R16 => f_X8_removeAt_L17 S I p0 k n (v2 + 1) R16)))))))
noncomputable def f_X8_removeAt (S : q_S) (R : q_HR) (I : q_HI) (a0 : Nat) (a1 : Int) : Option (q_HR × q_HI) := q_gd (r_i a1) (if a1 < 0 then some (R, I) else q_gd (S.1 a0 = 9) (q_gd (r_i (I a0 2)) (if a1 < I a0 2 then q_lt (a1 + 1) fun x6 => f_X8_removeAt_L17 S I a0 (fun w18 R19 => q_lt (q_up I a0 2 ((I a0 2) - 1)) fun I20 => some (R19, I20)) 100 x6 R else some (R, I))))
abbrev rmX8_removeAt : Room := { frames := 0, cells := 0, slots := 0, locals := 0 }
set_option maxRecDepth 20000 in
theorem l_X8_removeAt_17 {X : q_X} {S : q_S} {I : q_HI} {p0 : Nat} {Rz : q_HR} {Iz : q_HI} (hX : q_C X cX8_removeAt 3 RX8 none "removeAt") (hE : q_E X 0 0 none S Rz Iz) {k : Int → q_HR → Option (q_HR × q_HI)} (hk : ∀ (v2 : Int) (R : q_HR), k v2 R = some (Rz, Iz) → q_V X rmX8_removeAt cX8_removeAt 3 0 0 45 [(0, .ref p0)] [] S R I) :
    ∀ (n : Nat), ∀ (v2 : Int) (R : q_HR), f_X8_removeAt_L17 S I p0 k n v2 R = some (Rz, Iz) → q_V X rmX8_removeAt cX8_removeAt 3 0 0 17 [(0, .ref p0), (2, .int (q_i v2))] [] S R I := by
  intro n
  induction n with
  | zero =>
    intro v2 R hf
    cases (show (none : Option (q_HR × q_HI)) = some _ from hf)
  | succ n ih =>
    intro v2 R hf
    rw [f_X8_removeAt_L17] at hf
    refine v_iload_n 2 1 hX dX8_removeAt_17 rfl rfl ?_
    refine v_aload_n 0 0 hX dX8_removeAt_18 rfl rfl ?_
    obtain ⟨g8, hf⟩ := q_gd_some hf
    refine v_getI hX fa_RX8_28 (fun _ _ => rfl) g8 dX8_removeAt_19 ?_
    obtain ⟨g9, hf⟩ := q_gd_some hf
    obtain ⟨g10, hf⟩ := q_gd_some hf
    refine v_icmp_ge (tgt := 45) hX g9 g10 dX8_removeAt_22 (by decide) (fun c11 => ?_) (fun c11 => ?_)
    · replace hf := q_ifp c11 hf
      refine v_sub (lv' := [(0, .ref p0)]) [0] rfl ?_
      exact hk _ _ hf
    · replace hf := q_ifn c11 hf
      refine v_aload_n 0 0 hX dX8_removeAt_25 rfl rfl ?_
      obtain ⟨g12, hf⟩ := q_gd_some hf
      refine v_getA hX fa_RX8_15 (fun _ _ => rfl) g8 g12 (by decide) dX8_removeAt_26 ?_
      refine v_iload_n 2 1 hX dX8_removeAt_29 rfl rfl ?_
      refine v_iconst hX dX8_removeAt_30 ?_
      refine v_isub hX dX8_removeAt_31 ?_
      refine v_aload_n 0 0 hX dX8_removeAt_32 rfl rfl ?_
      refine v_getA hX fa_RX8_15 (fun _ _ => rfl) g8 g12 (by decide) dX8_removeAt_33 ?_
      refine v_iload_n 2 1 hX dX8_removeAt_36 rfl rfl ?_
      obtain ⟨g13, hf⟩ := q_gd_some hf
      obtain ⟨g14, hf⟩ := q_gd_some hf
      refine v_aaload (t0 := 4) hX g12 (by decide) (fun _ => rfl) rfl (fun _ _ _ => rfl) g13 g14 (by decide) dX8_removeAt_37 ?_
      obtain ⟨g15, hf⟩ := q_gd_some hf
      refine v_aastore (t0 := 4) (C := "SensorArray$Measurement") (T := TX5) hX g12 (by decide) (fun _ => rfl) (fun _ _ _ => rfl) g15 g14 (by decide) (by decide) rfl dX8_removeAt_38 ?_
      obtain ⟨R16, e17, hf⟩ := q_lt_nm hf
      rw [e17]
      refine v_iinc 1 (lw := [(2, .int (q_i (v2 + 1))), (0, .ref p0)]) hX dX8_removeAt_39 rfl (by decide) rfl ?_
      refine v_goto (tgt := 17) hX dX8_removeAt_42 (by decide) ?_
      refine v_sub (lv' := [(0, .ref p0), (2, .int (q_i (v2 + 1)))]) [1, 0] rfl ?_
      exact ih _ _ hf
set_option maxRecDepth 20000 in
theorem c_X8_removeAt {S : q_S} {R : q_HR} {I : q_HI} {a0 : Nat} {a1 : Int} {Rz : q_HR} {Iz : q_HI} (hf : f_X8_removeAt S R I a0 a1 = some (Rz, Iz)) : ∀ (l : Launch) (D : va_G) (cy : Nat → ClassId) (B : Nat), Met l yX8_removeAt [Cond.code yX8_removeAt cX8_removeAt 3 none] rmX8_removeAt (q_Pc B D cy [.ref a0, .int (q_i a1)] S R I) (q_Qc B D cy none S Rz Iz) 0 0 (fun q => B ≤ q) := by
  refine q_met (lv := [(0, .ref a0), (1, .int (q_i a1))]) (own := RX8) (nm := "removeAt") (by decide) rfl rfl (Nat.le_of_ble_eq_true rfl) rfl (fun X hX hE => ?_)
  unfold f_X8_removeAt at hf
  refine v_iload_n 1 1 hX dX8_removeAt_0 rfl rfl ?_
  obtain ⟨g1, hf⟩ := q_gd_some hf
  refine v_if_lt (tgt := 12) hX g1 dX8_removeAt_1 (by decide) (fun c2 => ?_) (fun c2 => ?_)
  · replace hf := q_ifp c2 hf
    cases hf
    exact v_vret hX hE (Nat.le_of_ble_eq_true rfl) (Nat.le_of_ble_eq_true rfl) dX8_removeAt_12
  · replace hf := q_ifn c2 hf
    refine v_iload_n 1 1 hX dX8_removeAt_4 rfl rfl ?_
    refine v_aload_n 0 0 hX dX8_removeAt_5 rfl rfl ?_
    obtain ⟨g3, hf⟩ := q_gd_some hf
    refine v_getI hX fa_RX8_28 (fun _ _ => rfl) g3 dX8_removeAt_6 ?_
    obtain ⟨g4, hf⟩ := q_gd_some hf
    refine v_icmp_lt (tgt := 13) hX g1 g4 dX8_removeAt_9 (by decide) (fun c5 => ?_) (fun c5 => ?_)
    · replace hf := q_ifp c5 hf
      refine v_iload_n 1 1 hX dX8_removeAt_13 rfl rfl ?_
      refine v_iconst hX dX8_removeAt_14 ?_
      refine v_iadd hX dX8_removeAt_15 ?_
      obtain ⟨x6, e7, hf⟩ := q_lt_nm hf
      rw [e7]
      refine v_istore_n 2 (lw := [(2, .int (q_i x6)), (0, .ref a0), (1, .int (q_i a1))]) hX dX8_removeAt_16 rfl (by decide) rfl ?_
      refine v_sub (lv' := [(0, .ref a0), (2, .int (q_i x6))]) [1, 0] rfl ?_
      refine l_X8_removeAt_17 hX hE (fun w18 R19 hk => ?_) 100 _ _ hf
      clear hf
      have hf := hk
      clear hk
      refine v_aload_n 0 0 hX dX8_removeAt_45 rfl rfl ?_
      refine v_dup hX dX8_removeAt_46 rfl ?_
      refine v_getI hX fa_RX8_28 (fun _ _ => rfl) g3 dX8_removeAt_47 ?_
      refine v_iconst hX dX8_removeAt_50 ?_
      refine v_isub hX dX8_removeAt_51 ?_
      refine v_putI hX fa_RX8_28 rfl g3 dX8_removeAt_52 ?_
      obtain ⟨I20, e21, hf⟩ := q_lt_nm hf
      rw [e21]
      cases hf
      exact v_vret hX hE (Nat.le_of_ble_eq_true rfl) (Nat.le_of_ble_eq_true rfl) dX8_removeAt_55
    · replace hf := q_ifn c5 hf
      cases hf
      exact v_vret hX hE (Nat.le_of_ble_eq_true rfl) (Nat.le_of_ble_eq_true rfl) dX8_removeAt_12
noncomputable def f_X0_removeFromFit (S : q_S) (R : q_HR) (I : q_HI) (a0 : Nat) : Option (Int × q_HR × q_HI) := q_gd (S.1 a0 = 1) (q_gd (S.1 (R a0 1) = 9) (q_bd2 (f_X8_removeAt S R I (R a0 1) ((I (R a0 1) 2) - 1)) fun R3 I4 => q_bd (f_X0_fit S R3 I4 a0) fun I6 => q_gd (S.1 (R3 a0 1) = 9) (some (I6 (R3 a0 1) 2, R3, I6))))
abbrev rmX0_removeFromFit : Room := { frames := 3, cells := 0, slots := 0, locals := 72 }
set_option maxRecDepth 20000 in
theorem c_X0_removeFromFit {S : q_S} {R : q_HR} {I : q_HI} {a0 : Nat} {rz : Int} {Rz : q_HR} {Iz : q_HI} (hf : f_X0_removeFromFit S R I a0 = some (rz, Rz, Iz)) : ∀ (l : Launch) (D : va_G) (cy : Nat → ClassId) (B : Nat), Met l yX0_removeFromFit [Cond.code yX0_removeFromFit cX0_removeFromFit 1 (some .int)] rmX0_removeFromFit (q_Pc B D cy [.ref a0] S R I) (q_Qc B D cy (some (.int (q_i rz))) S Rz Iz) 0 0 (fun q => B ≤ q) := by
  refine q_met (lv := [(0, .ref a0)]) (own := RX0) (nm := "removeFromFit") (by decide) rfl rfl (Nat.le_of_ble_eq_true rfl) rfl (fun X hX hE => ?_)
  unfold f_X0_removeFromFit at hf
  refine v_aload_n 0 0 hX dX0_removeFromFit_0 rfl rfl ?_
  obtain ⟨g1, hf⟩ := q_gd_some hf
  obtain ⟨g2, hf⟩ := q_gd_some hf
  refine v_getA hX fa_RX0_20 (fun _ _ => rfl) g1 g2 (by decide) dX0_removeFromFit_1 ?_
  refine v_aload_n 0 0 hX dX0_removeFromFit_4 rfl rfl ?_
  refine v_getA hX fa_RX0_20 (fun _ _ => rfl) g1 g2 (by decide) dX0_removeFromFit_5 ?_
  refine v_getI hX fa_RX0_53 (fun _ _ => rfl) g2 dX0_removeFromFit_8 ?_
  refine v_iconst hX dX0_removeFromFit_11 ?_
  refine v_isub hX dX0_removeFromFit_12 ?_
  obtain ⟨R3, I4, h5, hf⟩ := q_bd2_some hf
  refine v_callV (As := [.int (q_i ((I (R a0 1) 2) - 1))]) (rest := []) (st1 := []) none hX mv_RX0_56 (c_X8_removeAt h5) ⟨rfl, rfl⟩ ⟨Nat.le_of_ble_eq_true rfl, Nat.le_of_ble_eq_true rfl⟩ g2 rfl rfl (Nat.le_of_ble_eq_true rfl) ⟨Nat.le_of_ble_eq_true rfl, Nat.le_of_ble_eq_true rfl⟩ dX0_removeFromFit_13 rfl ?_
  refine v_aload_n 0 0 hX dX0_removeFromFit_16 rfl rfl ?_
  obtain ⟨I6, h7, hf⟩ := q_bd_some hf
  refine v_callV (As := []) (rest := []) (st1 := []) none hX mv_RX0_46 (c_X0_fit h7) ⟨rfl, rfl⟩ ⟨Nat.le_of_ble_eq_true rfl, Nat.le_of_ble_eq_true rfl⟩ g1 rfl rfl (Nat.le_of_ble_eq_true rfl) ⟨Nat.le_of_ble_eq_true rfl, Nat.le_of_ble_eq_true rfl⟩ dX0_removeFromFit_17 rfl ?_
  refine v_aload_n 0 0 hX dX0_removeFromFit_20 rfl rfl ?_
  obtain ⟨g8, hf⟩ := q_gd_some hf
  refine v_getA hX fa_RX0_20 (fun _ _ => rfl) g1 g8 (by decide) dX0_removeFromFit_21 ?_
  refine v_getI hX fa_RX0_53 (fun _ _ => rfl) g8 dX0_removeFromFit_24 ?_
  cases hf
  exact v_iret hX hE (Nat.le_of_ble_eq_true rfl) (Nat.le_of_ble_eq_true rfl) dX0_removeFromFit_27
noncomputable def f_X0_correction (S : q_S) (R : q_HR) (I : q_HI) (a0 : Nat) (a1 : Int) (a2 : Int) : Option (Int) := q_gd (S.1 a0 = 1) (q_gd (r_i (I a0 5)) (if I a0 5 = 0 then some 0 else q_gd (r_l (I a0 4)) (if I a0 4 = 0 then some 0 else q_gd (S.1 (R a0 3) = 13) (q_gd ((0 : Int) ≤ a1 ∧ a1 < (S.2.1 (R a0 3) : Int)) (q_gd (r_i (a2 - 50)) (q_bd (f_X9_quotient ((I (R a0 3) (Int.toNat a1)) * (a2 - 50)) (I a0 4)) fun r9 => some r9))))))
abbrev rmX0_correction : Room := { frames := 1, cells := 0, slots := 0, locals := 25 }
set_option maxRecDepth 20000 in
theorem c_X0_correction {S : q_S} {R : q_HR} {I : q_HI} {a0 : Nat} {a1 : Int} {a2 : Int} {rz : Int} (hf : f_X0_correction S R I a0 a1 a2 = some rz) : ∀ (l : Launch) (D : va_G) (cy : Nat → ClassId) (B : Nat), Met l yX0_correction [Cond.code yX0_correction cX0_correction 3 (some .long)] rmX0_correction (q_Pc B D cy [.ref a0, .int (q_i a1), .int (q_i a2)] S R I) (q_Qc B D cy (some (.long (q_l rz))) S R I) 0 0 (fun q => B ≤ q) := by
  refine q_met (lv := [(0, .ref a0), (1, .int (q_i a1)), (2, .int (q_i a2))]) (own := RX0) (nm := "correction") (by decide) rfl rfl (Nat.le_of_ble_eq_true rfl) rfl (fun X hX hE => ?_)
  unfold f_X0_correction at hf
  refine v_aload_n 0 0 hX dX0_correction_0 rfl rfl ?_
  obtain ⟨g1, hf⟩ := q_gd_some hf
  refine v_getI hX fa_RX0_42 (fun _ _ => rfl) g1 dX0_correction_1 ?_
  obtain ⟨g2, hf⟩ := q_gd_some hf
  refine v_if_eq (tgt := 16) hX g2 dX0_correction_4 (by decide) (fun c3 => ?_) (fun c3 => ?_)
  · replace hf := q_ifp c3 hf
    refine v_lconst 0 hX dX0_correction_16 (by decide) ?_
    cases hf
    exact v_lret hX hE (Nat.le_of_ble_eq_true rfl) (Nat.le_of_ble_eq_true rfl) dX0_correction_17
  · replace hf := q_ifn c3 hf
    refine v_aload_n 0 0 hX dX0_correction_7 rfl rfl ?_
    refine v_getJ hX fa_RX0_84 (fun _ _ => rfl) g1 dX0_correction_8 ?_
    refine v_lconst 0 hX dX0_correction_11 (by decide) ?_
    obtain ⟨g4, hf⟩ := q_gd_some hf
    refine v_lcmp hX g4 (by unfold r_l; omega) dX0_correction_12 ?_
    refine v_ifc_ne (tgt := 18) hX dX0_correction_13 (by decide) (fun c5 => ?_) (fun c5 => ?_)
    · replace hf := q_ifp c5 hf
      refine v_lconst 0 hX dX0_correction_16 (by decide) ?_
      cases hf
      exact v_lret hX hE (Nat.le_of_ble_eq_true rfl) (Nat.le_of_ble_eq_true rfl) dX0_correction_17
    · replace hf := q_ifn c5 hf
      refine v_aload_n 0 0 hX dX0_correction_18 rfl rfl ?_
      obtain ⟨g6, hf⟩ := q_gd_some hf
      refine v_getA hX fa_RX0_31 (fun _ _ => rfl) g1 g6 (by decide) dX0_correction_19 ?_
      refine v_iload_n 1 1 hX dX0_correction_22 rfl rfl ?_
      obtain ⟨g7, hf⟩ := q_gd_some hf
      refine v_laload hX g6 g7 dX0_correction_23 ?_
      refine v_iload_n 2 2 hX dX0_correction_24 rfl rfl ?_
      refine v_bipush 50 hX dX0_correction_25 (by decide) ?_
      refine v_isub hX dX0_correction_27 ?_
      obtain ⟨g8, hf⟩ := q_gd_some hf
      refine v_i2l hX g8 dX0_correction_28 ?_
      refine v_lmul hX dX0_correction_29 ?_
      refine v_aload_n 0 0 hX dX0_correction_30 rfl rfl ?_
      refine v_getJ hX fa_RX0_84 (fun _ _ => rfl) g1 dX0_correction_31 ?_
      obtain ⟨r9, h10, hf⟩ := q_bd_some hf
      refine v_callS (As := [.long (q_l ((I (R a0 3) (Int.toNat a1)) * (a2 - 50))), .long (q_l (I a0 4))]) (rest := []) (st1 := [.long (q_l r9)]) (some (.long (q_l r9))) hX ms_RX0_93 (c_X9_quotient h10) ⟨rfl, rfl⟩ ⟨Nat.le_of_ble_eq_true rfl, Nat.le_of_ble_eq_true rfl⟩ rfl rfl (Nat.le_of_ble_eq_true rfl) ⟨Nat.le_of_ble_eq_true rfl, Nat.le_of_ble_eq_true rfl⟩ dX0_correction_34 rfl ?_
      cases hf
      exact v_lret hX hE (Nat.le_of_ble_eq_true rfl) (Nat.le_of_ble_eq_true rfl) dX0_correction_37
noncomputable def f_X0_featureIn (S : q_S) (R : q_HR) (I : q_HI) (a0 : Nat) (a1 : Nat) (a2 : Int) : Option (Int) := q_gd (S.1 a0 = 1) (q_bd (f_X0_ratioIn S R I a0 a1 a2) fun r2 => q_gd (r_i r2) (q_gd (S.1 a1 = 6) (q_bd (f_X0_correction S R I a0 a2 (I a1 0)) fun r6 => q_lt (r2 - r6) fun x8 => q_gd (r_l x8) (q_gd (r_l (q_mn x8 4000)) (some (q_mx (-4000) (q_mn x8 4000)))))))
abbrev rmX0_featureIn : Room := { frames := 2, cells := 0, slots := 0, locals := 49 }
set_option maxRecDepth 20000 in
theorem c_X0_featureIn {S : q_S} {R : q_HR} {I : q_HI} {a0 : Nat} {a1 : Nat} {a2 : Int} {rz : Int} (hf : f_X0_featureIn S R I a0 a1 a2 = some rz) : ∀ (l : Launch) (D : va_G) (cy : Nat → ClassId) (B : Nat), Met l yX0_featureIn [Cond.code yX0_featureIn cX0_featureIn 5 (some .int)] rmX0_featureIn (q_Pc B D cy [.ref a0, .ref a1, .int (q_i a2)] S R I) (q_Qc B D cy (some (.int (q_i rz))) S R I) 0 0 (fun q => B ≤ q) := by
  refine q_met (lv := [(0, .ref a0), (1, .ref a1), (2, .int (q_i a2))]) (own := RX0) (nm := "featureIn") (by decide) rfl rfl (Nat.le_of_ble_eq_true rfl) rfl (fun X hX hE => ?_)
  unfold f_X0_featureIn at hf
  refine v_aload_n 0 0 hX dX0_featureIn_0 rfl rfl ?_
  refine v_aload_n 1 1 hX dX0_featureIn_1 rfl rfl ?_
  refine v_iload_n 2 2 hX dX0_featureIn_2 rfl rfl ?_
  obtain ⟨g1, hf⟩ := q_gd_some hf
  obtain ⟨r2, h3, hf⟩ := q_bd_some hf
  refine v_callV (As := [.ref a1, .int (q_i a2)]) (rest := []) (st1 := [.int (q_i r2)]) (some (.int (q_i r2))) hX mv_RX0_69 (c_X0_ratioIn h3) ⟨rfl, rfl⟩ ⟨Nat.le_of_ble_eq_true rfl, Nat.le_of_ble_eq_true rfl⟩ g1 rfl rfl (Nat.le_of_ble_eq_true rfl) ⟨Nat.le_of_ble_eq_true rfl, Nat.le_of_ble_eq_true rfl⟩ dX0_featureIn_3 rfl ?_
  obtain ⟨g4, hf⟩ := q_gd_some hf
  refine v_i2l hX g4 dX0_featureIn_6 ?_
  refine v_aload_n 0 0 hX dX0_featureIn_7 rfl rfl ?_
  refine v_iload_n 2 2 hX dX0_featureIn_8 rfl rfl ?_
  refine v_aload_n 1 1 hX dX0_featureIn_9 rfl rfl ?_
  obtain ⟨g5, hf⟩ := q_gd_some hf
  refine v_getI hX fa_RX0_64 (fun _ _ => rfl) g5 dX0_featureIn_10 ?_
  obtain ⟨r6, h7, hf⟩ := q_bd_some hf
  refine v_callV (As := [.int (q_i a2), .int (q_i (I a1 0))]) (rest := [.long (q_l r2)]) (st1 := [.long (q_l r6), .long (q_l r2)]) (some (.long (q_l r6))) hX mv_RX0_104 (c_X0_correction h7) ⟨rfl, rfl⟩ ⟨Nat.le_of_ble_eq_true rfl, Nat.le_of_ble_eq_true rfl⟩ g1 rfl rfl (Nat.le_of_ble_eq_true rfl) ⟨Nat.le_of_ble_eq_true rfl, Nat.le_of_ble_eq_true rfl⟩ dX0_featureIn_13 rfl ?_
  refine v_lsub hX dX0_featureIn_16 ?_
  obtain ⟨x8, e9, hf⟩ := q_lt_nm hf
  rw [e9]
  refine v_lstore_n 3 (lw := [(3, .long (q_l x8)), (0, .ref a0), (1, .ref a1), (2, .int (q_i a2))]) hX dX0_featureIn_17 rfl (by decide) rfl ?_
  refine v_ldc2 (-4000) hX kl_RX0_108 (by decide) dX0_featureIn_18 ?_
  refine v_lload_n 3 0 hX dX0_featureIn_21 rfl rfl ?_
  refine v_ldc2 4000 hX kl_RX0_110 (by decide) dX0_featureIn_22 ?_
  obtain ⟨g10, hf⟩ := q_gd_some hf
  refine v_mminJ hX g10 (by unfold r_l; omega) wml_RX0_99 (Nat.le_of_ble_eq_true rfl) (Nat.le_of_ble_eq_true rfl) (Nat.le_of_ble_eq_true rfl) (Nat.le_of_ble_eq_true rfl) dX0_featureIn_25 ?_
  obtain ⟨g11, hf⟩ := q_gd_some hf
  refine v_mmaxJ hX (by unfold r_l; omega) g11 wml_RX0_112 (Nat.le_of_ble_eq_true rfl) (Nat.le_of_ble_eq_true rfl) (Nat.le_of_ble_eq_true rfl) (Nat.le_of_ble_eq_true rfl) dX0_featureIn_28 ?_
  refine v_l2i hX dX0_featureIn_31 ?_
  cases hf
  exact v_iret hX hE (Nat.le_of_ble_eq_true rfl) (Nat.le_of_ble_eq_true rfl) dX0_featureIn_32
noncomputable def f_X0_fillFeatures_L2 (S : q_S) (R : q_HR) (p0 : Nat) (p1 : Nat) (p2 : Nat) (k : Int → q_HI → Option (q_HI)) : Nat → Int → q_HI → Option (q_HI)
  | 0, _, _ => none
  | n + 1, v3, I => q_gd (S.1 p2 = 12) (q_gd (r_i v3) (q_gd (r_i (S.2.1 p2 : Int)) (if (S.2.1 p2 : Int) ≤ v3 then k v3 I else if 5 ≤ v3 then k v3 I else q_gd (S.1 p0 = 1) (q_bd (f_X0_featureIn S R I p0 p1 v3) fun r7 => q_gd ((0 : Int) ≤ v3 ∧ v3 < (S.2.1 p2 : Int)) (q_lt (q_up I p2 (Int.toNat v3) r7) fun I10 => f_X0_fillFeatures_L2 S R p0 p1 p2 k n (v3 + 1) I10)))))
noncomputable def f_X0_fillFeatures (S : q_S) (R : q_HR) (I : q_HI) (a0 : Nat) (a1 : Nat) (a2 : Nat) : Option (q_HI) := f_X0_fillFeatures_L2 S R a0 a1 a2 (fun w12 I13 => some I13) 100 0 I
abbrev rmX0_fillFeatures : Room := { frames := 3, cells := 0, slots := 0, locals := 73 }
set_option maxRecDepth 20000 in
theorem l_X0_fillFeatures_2 {X : q_X} {S : q_S} {R : q_HR} {p0 : Nat} {p1 : Nat} {p2 : Nat} {Iz : q_HI} (hX : q_C X cX0_fillFeatures 4 RX0 none "fillFeatures") (hE : q_E X 0 0 none S R Iz) {k : Int → q_HI → Option (q_HI)} (hk : ∀ (v3 : Int) (I : q_HI), k v3 I = some Iz → q_V X rmX0_fillFeatures cX0_fillFeatures 4 0 0 28 [] [] S R I) :
    ∀ (n : Nat), ∀ (v3 : Int) (I : q_HI), f_X0_fillFeatures_L2 S R p0 p1 p2 k n v3 I = some Iz → q_V X rmX0_fillFeatures cX0_fillFeatures 4 0 0 2 [(0, .ref p0), (1, .ref p1), (2, .ref p2), (3, .int (q_i v3))] [] S R I := by
  intro n
  induction n with
  | zero =>
    intro v3 I hf
    cases (show (none : Option (q_HI)) = some _ from hf)
  | succ n ih =>
    intro v3 I hf
    rw [f_X0_fillFeatures_L2] at hf
    refine v_iload_n 3 3 hX dX0_fillFeatures_2 rfl rfl ?_
    refine v_aload_n 2 2 hX dX0_fillFeatures_3 rfl rfl ?_
    obtain ⟨g1, hf⟩ := q_gd_some hf
    refine v_alen (t0 := 0) hX g1 (by decide) (fun _ => rfl) dX0_fillFeatures_4 ?_
    obtain ⟨g2, hf⟩ := q_gd_some hf
    obtain ⟨g3, hf⟩ := q_gd_some hf
    refine v_icmp_ge (tgt := 28) hX g2 g3 dX0_fillFeatures_5 (by decide) (fun c4 => ?_) (fun c4 => ?_)
    · replace hf := q_ifp c4 hf
      refine v_sub (lv' := []) [] rfl ?_
      exact hk _ _ hf
    · replace hf := q_ifn c4 hf
      refine v_iload_n 3 3 hX dX0_fillFeatures_8 rfl rfl ?_
      refine v_iconst hX dX0_fillFeatures_9 ?_
      refine v_icmp_ge (tgt := 28) hX g2 (by unfold r_i; omega) dX0_fillFeatures_10 (by decide) (fun c5 => ?_) (fun c5 => ?_)
      · replace hf := q_ifp c5 hf
        refine v_sub (lv' := []) [] rfl ?_
        exact hk _ _ hf
      · replace hf := q_ifn c5 hf
        refine v_aload_n 2 2 hX dX0_fillFeatures_13 rfl rfl ?_
        refine v_iload_n 3 3 hX dX0_fillFeatures_14 rfl rfl ?_
        refine v_aload_n 0 0 hX dX0_fillFeatures_15 rfl rfl ?_
        refine v_aload_n 1 1 hX dX0_fillFeatures_16 rfl rfl ?_
        refine v_iload_n 3 3 hX dX0_fillFeatures_17 rfl rfl ?_
        obtain ⟨g6, hf⟩ := q_gd_some hf
        obtain ⟨r7, h8, hf⟩ := q_bd_some hf
        refine v_callV (As := [.ref p1, .int (q_i v3)]) (rest := [.int (q_i v3), .ref p2]) (st1 := [.int (q_i r7), .int (q_i v3), .ref p2]) (some (.int (q_i r7))) hX mv_RX0_115 (c_X0_featureIn h8) ⟨rfl, rfl⟩ ⟨Nat.le_of_ble_eq_true rfl, Nat.le_of_ble_eq_true rfl⟩ g6 rfl rfl (Nat.le_of_ble_eq_true rfl) ⟨Nat.le_of_ble_eq_true rfl, Nat.le_of_ble_eq_true rfl⟩ dX0_fillFeatures_18 rfl ?_
        obtain ⟨g9, hf⟩ := q_gd_some hf
        refine v_iastore hX g1 g9 dX0_fillFeatures_21 ?_
        obtain ⟨I10, e11, hf⟩ := q_lt_nm hf
        rw [e11]
        refine v_iinc 3 (lw := [(3, .int (q_i (v3 + 1))), (0, .ref p0), (1, .ref p1), (2, .ref p2)]) hX dX0_fillFeatures_22 rfl (by decide) rfl ?_
        refine v_goto (tgt := 2) hX dX0_fillFeatures_25 (by decide) ?_
        refine v_sub (lv' := [(0, .ref p0), (1, .ref p1), (2, .ref p2), (3, .int (q_i (v3 + 1)))]) [1, 2, 3, 0] rfl ?_
        exact ih _ _ hf
set_option maxRecDepth 20000 in
theorem c_X0_fillFeatures {S : q_S} {R : q_HR} {I : q_HI} {a0 : Nat} {a1 : Nat} {a2 : Nat} {Iz : q_HI} (hf : f_X0_fillFeatures S R I a0 a1 a2 = some Iz) : ∀ (l : Launch) (D : va_G) (cy : Nat → ClassId) (B : Nat), Met l yX0_fillFeatures [Cond.code yX0_fillFeatures cX0_fillFeatures 4 none] rmX0_fillFeatures (q_Pc B D cy [.ref a0, .ref a1, .ref a2] S R I) (q_Qc B D cy none S R Iz) 0 0 (fun q => B ≤ q) := by
  refine q_met (lv := [(0, .ref a0), (1, .ref a1), (2, .ref a2)]) (own := RX0) (nm := "fillFeatures") (by decide) rfl rfl (Nat.le_of_ble_eq_true rfl) rfl (fun X hX hE => ?_)
  unfold f_X0_fillFeatures at hf
  refine v_iconst hX dX0_fillFeatures_0 ?_
  refine v_istore_n 3 (lw := [(3, .int (q_i 0)), (0, .ref a0), (1, .ref a1), (2, .ref a2)]) hX dX0_fillFeatures_1 rfl (by decide) rfl ?_
  refine v_sub (lv' := [(0, .ref a0), (1, .ref a1), (2, .ref a2), (3, .int (q_i 0))]) [1, 2, 3, 0] rfl ?_
  refine l_X0_fillFeatures_2 hX hE (fun w12 I13 hk => ?_) 100 _ _ hf
  clear hf
  have hf := hk
  clear hk
  cases hf
  exact v_vret hX hE (Nat.le_of_ble_eq_true rfl) (Nat.le_of_ble_eq_true rfl) dX0_fillFeatures_28
noncomputable def f_X1_init (S : q_S) (R : q_HR) (I : q_HI) (a0 : Nat) : Option (q_S × q_HR × q_HI) := q_lt (q_nw S 9 0) fun S1 => q_lt (q_zr R S.2.2 0) fun R3 => q_lt (q_zr I S.2.2 0) fun I5 => q_bd3 (f_X8_init S1 R3 I5 (S.2.2) 10) fun S7 R8 I9 => q_gd (S7.1 a0 = 2) (q_gd (S7.1 (S.2.2) = 9) (q_lt (q_up R8 a0 0 (S.2.2)) fun R13 => q_lt (q_nw S7 12 (Int.toNat 10)) fun S15 => q_lt (q_zr R13 S7.2.2 0) fun R17 => q_lt (q_zr I9 S7.2.2 0) fun I19 => q_gd (S15.1 a0 = 2) (q_gd (S15.1 (S7.2.2) = 12) (q_lt (q_up R17 a0 1 (S7.2.2)) fun R23 => q_lt (q_nw S15 4 0) fun S25 => q_lt (q_zr R23 S15.2.2 0) fun R27 => q_lt (q_zr I19 S15.2.2 0) fun I29 => q_bd (f_X3_init (S15.2.2)) fun _ => q_gd (S25.1 a0 = 2) (q_gd (S25.1 (S15.2.2) = 4) (q_lt (q_up R27 a0 2 (S15.2.2)) fun R34 => q_lt (q_nm S25 10 5) fun S36 => q_lt (q_zm R34 S25.2.2 10) fun R38 => q_lt (q_zi I29 S25.2.2 10) fun I40 => q_gd (S36.1 a0 = 2) (q_gd (S36.1 (S25.2.2) = 17) (q_lt (q_up R38 a0 3 (S25.2.2)) fun R44 => q_lt (q_nw S36 13 (Int.toNat 5)) fun S46 => q_lt (q_zr R44 S36.2.2 0) fun R48 => q_lt (q_zr I40 S36.2.2 0) fun I50 => q_gd (S46.1 a0 = 2) (q_gd (S46.1 (S36.2.2) = 13) (q_lt (q_up R48 a0 4 (S36.2.2)) fun R54 => q_lt (q_nw S46 12 (Int.toNat 5)) fun S56 => q_lt (q_zr R54 S46.2.2 0) fun R58 => q_lt (q_zr I50 S46.2.2 0) fun I60 => q_gd (S56.1 a0 = 2) (q_gd (S56.1 (S46.2.2) = 12) (q_lt (q_up R58 a0 5 (S46.2.2)) fun R64 => some (S56, R64, I60)))))))))))))
abbrev rmX1_init : Room := { frames := 3, cells := 19, slots := 107, locals := 60 }
set_option maxRecDepth 20000 in
theorem c_X1_init {S : q_S} {R : q_HR} {I : q_HI} {a0 : Nat} {Sz : q_S} {Rz : q_HR} {Iz : q_HI} (hf : f_X1_init S R I a0 = some (Sz, Rz, Iz)) : ∀ (l : Launch) (D : va_G) (cy : Nat → ClassId) (B : Nat), Met l yX1_init [Cond.code yX1_init cX1_init 1 none] rmX1_init (q_Pc B D cy [.ref a0] S R I) (q_Qc B D cy none Sz Rz Iz) 19 107 (fun q => B ≤ q) := by
  refine q_met (lv := [(0, .ref a0)]) (own := RX1) (nm := "<init>") (by decide) rfl rfl (Nat.le_of_ble_eq_true rfl) rfl (fun X hX hE => ?_)
  unfold f_X1_init at hf
  refine v_aload_n 0 0 hX dX1_init_0 rfl rfl ?_
  refine v_objInit hX wo_RX1_3 wo_inst wo_code (Nat.le_of_ble_eq_true rfl) (Nat.le_of_ble_eq_true rfl) dX1_init_1 ?_
  refine v_aload_n 0 0 hX dX1_init_4 rfl rfl ?_
  refine v_new hX na_RX1_9 (Nat.le_of_ble_eq_true rfl) (Nat.le_of_ble_eq_true rfl) dX1_init_5 ?_
  refine v_cs (k := 1) (n := 3) rfl rfl ?_
  obtain ⟨S1, e2, hf⟩ := q_lt_nm hf
  rw [e2]
  obtain ⟨R3, e4, hf⟩ := q_lt_nm hf
  rw [e4]
  obtain ⟨I5, e6, hf⟩ := q_lt_nm hf
  rw [e6]
  refine v_dup hX dX1_init_8 rfl ?_
  refine v_bipush 10 hX dX1_init_9 (by decide) ?_
  obtain ⟨S7, R8, I9, h10, hf⟩ := q_bd3_some hf
  refine v_callI (As := [.int (q_i 10)]) (rest := [.ref (S.2.2), .ref a0]) hX mi_RX1_11 (c_X8_init h10) ⟨rfl, rfl⟩ ⟨Nat.le_of_ble_eq_true rfl, Nat.le_of_ble_eq_true rfl⟩ rfl rfl (Nat.le_of_ble_eq_true rfl) ⟨Nat.le_of_ble_eq_true rfl, Nat.le_of_ble_eq_true rfl⟩ dX1_init_11 ?_
  refine v_cs (k := 4) (n := 22) rfl rfl ?_
  obtain ⟨g11, hf⟩ := q_gd_some hf
  obtain ⟨g12, hf⟩ := q_gd_some hf
  refine v_putFA hX fa_RX1_14 (fun _ _ => rfl) rfl rfl g11 g12 (by decide) dX1_init_14 ?_
  obtain ⟨R13, e14, hf⟩ := q_lt_nm hf
  rw [e14]
  refine v_aload_n 0 0 hX dX1_init_17 rfl rfl ?_
  refine v_bipush 10 hX dX1_init_18 (by decide) ?_
  refine v_newarr (k := 12) (N := 10) (t0 := 0) (ty := .int) hX (by decide) wa_int rfl (fun _ => rfl) (fun _ => rfl) (fun _ _ h => h) (by omega) (by decide) (fun M hM => by show M * _ ≤ _; simp only [componentBytes]; omega) (Nat.le_of_ble_eq_true rfl) (Nat.le_of_ble_eq_true rfl) dX1_init_20 ?_
  refine v_cs (k := 5) (n := 32) rfl rfl ?_
  obtain ⟨S15, e16, hf⟩ := q_lt_nm hf
  rw [e16]
  obtain ⟨R17, e18, hf⟩ := q_lt_nm hf
  rw [e18]
  obtain ⟨I19, e20, hf⟩ := q_lt_nm hf
  rw [e20]
  obtain ⟨g21, hf⟩ := q_gd_some hf
  obtain ⟨g22, hf⟩ := q_gd_some hf
  refine v_putFA hX fa_RX1_20 (fun _ _ => rfl) rfl rfl g21 g22 (by decide) dX1_init_22 ?_
  obtain ⟨R23, e24, hf⟩ := q_lt_nm hf
  rw [e24]
  refine v_aload_n 0 0 hX dX1_init_25 rfl rfl ?_
  refine v_new hX na_RX1_24 (Nat.le_of_ble_eq_true rfl) (Nat.le_of_ble_eq_true rfl) dX1_init_26 ?_
  refine v_cs (k := 6) (n := 37) rfl rfl ?_
  obtain ⟨S25, e26, hf⟩ := q_lt_nm hf
  rw [e26]
  obtain ⟨R27, e28, hf⟩ := q_lt_nm hf
  rw [e28]
  obtain ⟨I29, e30, hf⟩ := q_lt_nm hf
  rw [e30]
  refine v_dup hX dX1_init_29 rfl ?_
  obtain ⟨_, h31, hf⟩ := q_bd_some hf
  refine v_callI (As := []) (rest := [.ref (S15.2.2), .ref a0]) hX mi_RX1_26 (c_X3_init h31) ⟨rfl, rfl⟩ ⟨Nat.le_of_ble_eq_true rfl, Nat.le_of_ble_eq_true rfl⟩ rfl rfl (Nat.le_of_ble_eq_true rfl) ⟨Nat.le_of_ble_eq_true rfl, Nat.le_of_ble_eq_true rfl⟩ dX1_init_30 ?_
  obtain ⟨g32, hf⟩ := q_gd_some hf
  obtain ⟨g33, hf⟩ := q_gd_some hf
  refine v_putFA hX fa_RX1_27 (fun _ _ => rfl) rfl rfl g32 g33 (by decide) dX1_init_33 ?_
  obtain ⟨R34, e35, hf⟩ := q_lt_nm hf
  rw [e35]
  refine v_aload_n 0 0 hX dX1_init_36 rfl rfl ?_
  refine v_bipush 10 hX dX1_init_37 (by decide) ?_
  refine v_iconst hX dX1_init_39 ?_
  refine v_mna (N := 10) (K := 5) hX wc_RX1_31 rfl rfl (by decide) (by decide) (Nat.le_of_ble_eq_true rfl) (Nat.le_of_ble_eq_true rfl) dX1_init_40 ?_
  refine v_cs (k := 17) (n := 97) rfl rfl ?_
  obtain ⟨S36, e37, hf⟩ := q_lt_nm hf
  rw [e37]
  obtain ⟨R38, e39, hf⟩ := q_lt_nm hf
  rw [e39]
  obtain ⟨I40, e41, hf⟩ := q_lt_nm hf
  rw [e41]
  obtain ⟨g42, hf⟩ := q_gd_some hf
  obtain ⟨g43, hf⟩ := q_gd_some hf
  refine v_putFA hX fa_RX1_33 (fun _ _ => rfl) rfl rfl g42 g43 (by decide) dX1_init_44 ?_
  obtain ⟨R44, e45, hf⟩ := q_lt_nm hf
  rw [e45]
  refine v_aload_n 0 0 hX dX1_init_47 rfl rfl ?_
  refine v_iconst hX dX1_init_48 ?_
  refine v_newarr (k := 13) (N := 5) (t0 := 1) (ty := .long) hX (by decide) wa_long rfl (fun _ => rfl) (fun _ => rfl) (fun _ _ h => h) (by omega) (by decide) (fun M hM => by show M * _ ≤ _; simp only [componentBytes]; omega) (Nat.le_of_ble_eq_true rfl) (Nat.le_of_ble_eq_true rfl) dX1_init_49 ?_
  refine v_cs (k := 18) (n := 102) rfl rfl ?_
  obtain ⟨S46, e47, hf⟩ := q_lt_nm hf
  rw [e47]
  obtain ⟨R48, e49, hf⟩ := q_lt_nm hf
  rw [e49]
  obtain ⟨I50, e51, hf⟩ := q_lt_nm hf
  rw [e51]
  obtain ⟨g52, hf⟩ := q_gd_some hf
  obtain ⟨g53, hf⟩ := q_gd_some hf
  refine v_putFA hX fa_RX1_36 (fun _ _ => rfl) rfl rfl g52 g53 (by decide) dX1_init_51 ?_
  obtain ⟨R54, e55, hf⟩ := q_lt_nm hf
  rw [e55]
  refine v_aload_n 0 0 hX dX1_init_54 rfl rfl ?_
  refine v_iconst hX dX1_init_55 ?_
  refine v_newarr (k := 12) (N := 5) (t0 := 0) (ty := .int) hX (by decide) wa_int rfl (fun _ => rfl) (fun _ => rfl) (fun _ _ h => h) (by omega) (by decide) (fun M hM => by show M * _ ≤ _; simp only [componentBytes]; omega) (Nat.le_of_ble_eq_true rfl) (Nat.le_of_ble_eq_true rfl) dX1_init_56 ?_
  refine v_cs (k := 19) (n := 107) rfl rfl ?_
  obtain ⟨S56, e57, hf⟩ := q_lt_nm hf
  rw [e57]
  obtain ⟨R58, e59, hf⟩ := q_lt_nm hf
  rw [e59]
  obtain ⟨I60, e61, hf⟩ := q_lt_nm hf
  rw [e61]
  obtain ⟨g62, hf⟩ := q_gd_some hf
  obtain ⟨g63, hf⟩ := q_gd_some hf
  refine v_putFA hX fa_RX1_40 (fun _ _ => rfl) rfl rfl g62 g63 (by decide) dX1_init_58 ?_
  obtain ⟨R64, e65, hf⟩ := q_lt_nm hf
  rw [e65]
  cases hf
  exact v_vret hX hE (Nat.le_of_ble_eq_true rfl) (Nat.le_of_ble_eq_true rfl) dX1_init_61
noncomputable def f_X1_restart (S : q_S) (R : q_HR) (I : q_HI) (a0 : Nat) : Option (q_HI) := q_gd (S.1 a0 = 2) (q_gd (S.1 (R a0 0) = 9) (q_bd (f_X8_clear S R I (R a0 0)) fun I3 => q_lt (q_up I3 a0 7 1) fun I5 => some I5))
abbrev rmX1_restart : Room := { frames := 1, cells := 0, slots := 0, locals := 20 }
set_option maxRecDepth 20000 in
theorem c_X1_restart {S : q_S} {R : q_HR} {I : q_HI} {a0 : Nat} {Iz : q_HI} (hf : f_X1_restart S R I a0 = some Iz) : ∀ (l : Launch) (D : va_G) (cy : Nat → ClassId) (B : Nat), Met l yX1_restart [Cond.code yX1_restart cX1_restart 1 none] rmX1_restart (q_Pc B D cy [.ref a0] S R I) (q_Qc B D cy none S R Iz) 0 0 (fun q => B ≤ q) := by
  refine q_met (lv := [(0, .ref a0)]) (own := RX1) (nm := "restart") (by decide) rfl rfl (Nat.le_of_ble_eq_true rfl) rfl (fun X hX hE => ?_)
  unfold f_X1_restart at hf
  refine v_aload_n 0 0 hX dX1_restart_0 rfl rfl ?_
  obtain ⟨g1, hf⟩ := q_gd_some hf
  obtain ⟨g2, hf⟩ := q_gd_some hf
  refine v_getA hX fa_RX1_14 (fun _ _ => rfl) g1 g2 (by decide) dX1_restart_1 ?_
  obtain ⟨I3, h4, hf⟩ := q_bd_some hf
  refine v_callV (As := []) (rest := []) (st1 := []) none hX mv_RX1_43 (c_X8_clear h4) ⟨rfl, rfl⟩ ⟨Nat.le_of_ble_eq_true rfl, Nat.le_of_ble_eq_true rfl⟩ g2 rfl rfl (Nat.le_of_ble_eq_true rfl) ⟨Nat.le_of_ble_eq_true rfl, Nat.le_of_ble_eq_true rfl⟩ dX1_restart_4 rfl ?_
  refine v_aload_n 0 0 hX dX1_restart_7 rfl rfl ?_
  refine v_iconst hX dX1_restart_8 ?_
  refine v_putZ hX fa_RX1_46 rfl (Or.inr rfl) g1 dX1_restart_9 ?_
  obtain ⟨I5, e6, hf⟩ := q_lt_nm hf
  rw [e6]
  cases hf
  exact v_vret hX hE (Nat.le_of_ble_eq_true rfl) (Nat.le_of_ble_eq_true rfl) dX1_restart_12
noncomputable def f_X1_latestTime (S : q_S) (R : q_HR) (I : q_HI) (a0 : Nat) : Option (Int) := q_gd (S.1 a0 = 2) (q_gd (S.1 (R a0 0) = 9) (q_lt ((I (R a0 0) 2) - 1) fun x3 => q_gd (r_i x3) (if x3 < 0 then some (-1) else q_gd (S.1 (R a0 1) = 12) (q_gd (r_i (S.2.1 (R a0 1) : Int)) (if (S.2.1 (R a0 1) : Int) ≤ x3 then some (-1) else q_gd ((0 : Int) ≤ x3 ∧ x3 < (S.2.1 (R a0 1) : Int)) (some (I (R a0 1) (Int.toNat x3))))))))
abbrev rmX1_latestTime : Room := { frames := 0, cells := 0, slots := 0, locals := 0 }
set_option maxRecDepth 20000 in
theorem c_X1_latestTime {S : q_S} {R : q_HR} {I : q_HI} {a0 : Nat} {rz : Int} (hf : f_X1_latestTime S R I a0 = some rz) : ∀ (l : Launch) (D : va_G) (cy : Nat → ClassId) (B : Nat), Met l yX1_latestTime [Cond.code yX1_latestTime cX1_latestTime 2 (some .int)] rmX1_latestTime (q_Pc B D cy [.ref a0] S R I) (q_Qc B D cy (some (.int (q_i rz))) S R I) 0 0 (fun q => B ≤ q) := by
  refine q_met (lv := [(0, .ref a0)]) (own := RX1) (nm := "latestTime") (by decide) rfl rfl (Nat.le_of_ble_eq_true rfl) rfl (fun X hX hE => ?_)
  unfold f_X1_latestTime at hf
  refine v_aload_n 0 0 hX dX1_latestTime_0 rfl rfl ?_
  obtain ⟨g1, hf⟩ := q_gd_some hf
  obtain ⟨g2, hf⟩ := q_gd_some hf
  refine v_getA hX fa_RX1_14 (fun _ _ => rfl) g1 g2 (by decide) dX1_latestTime_1 ?_
  refine v_getI hX fa_RX1_50 (fun _ _ => rfl) g2 dX1_latestTime_4 ?_
  refine v_iconst hX dX1_latestTime_7 ?_
  refine v_isub hX dX1_latestTime_8 ?_
  obtain ⟨x3, e4, hf⟩ := q_lt_nm hf
  rw [e4]
  refine v_istore_n 1 (lw := [(1, .int (q_i x3)), (0, .ref a0)]) hX dX1_latestTime_9 rfl (by decide) rfl ?_
  refine v_iload_n 1 0 hX dX1_latestTime_10 rfl rfl ?_
  obtain ⟨g5, hf⟩ := q_gd_some hf
  refine v_if_lt (tgt := 32) hX g5 dX1_latestTime_11 (by decide) (fun c6 => ?_) (fun c6 => ?_)
  · replace hf := q_ifp c6 hf
    refine v_iconst hX dX1_latestTime_32 ?_
    cases hf
    exact v_iret hX hE (Nat.le_of_ble_eq_true rfl) (Nat.le_of_ble_eq_true rfl) dX1_latestTime_33
  · replace hf := q_ifn c6 hf
    refine v_iload_n 1 0 hX dX1_latestTime_14 rfl rfl ?_
    refine v_aload_n 0 1 hX dX1_latestTime_15 rfl rfl ?_
    obtain ⟨g7, hf⟩ := q_gd_some hf
    refine v_getA hX fa_RX1_20 (fun _ _ => rfl) g1 g7 (by decide) dX1_latestTime_16 ?_
    refine v_alen (t0 := 0) hX g7 (by decide) (fun _ => rfl) dX1_latestTime_19 ?_
    obtain ⟨g8, hf⟩ := q_gd_some hf
    refine v_icmp_ge (tgt := 32) hX g5 g8 dX1_latestTime_20 (by decide) (fun c9 => ?_) (fun c9 => ?_)
    · replace hf := q_ifp c9 hf
      refine v_iconst hX dX1_latestTime_32 ?_
      cases hf
      exact v_iret hX hE (Nat.le_of_ble_eq_true rfl) (Nat.le_of_ble_eq_true rfl) dX1_latestTime_33
    · replace hf := q_ifn c9 hf
      refine v_aload_n 0 1 hX dX1_latestTime_23 rfl rfl ?_
      refine v_getA hX fa_RX1_20 (fun _ _ => rfl) g1 g7 (by decide) dX1_latestTime_24 ?_
      refine v_iload_n 1 0 hX dX1_latestTime_27 rfl rfl ?_
      obtain ⟨g10, hf⟩ := q_gd_some hf
      refine v_iaload hX g7 g10 dX1_latestTime_28 ?_
      refine v_goto (tgt := 33) hX dX1_latestTime_29 (by decide) ?_
      cases hf
      exact v_iret hX hE (Nat.le_of_ble_eq_true rfl) (Nat.le_of_ble_eq_true rfl) dX1_latestTime_33
noncomputable def f_X1_append (S : q_S) (R : q_HR) (I : q_HI) (a0 : Nat) (a1 : Nat) (a2 : Int) : Option (Int × q_HR × q_HI) := q_gd (S.1 a0 = 2) (q_gd (S.1 (R a0 0) = 9) (q_gd (S.1 (R a0 1) = 12) (q_gd (r_i (I (R a0 0) 2)) (q_gd (r_i (S.2.1 (R a0 1) : Int)) (if (S.2.1 (R a0 1) : Int) ≤ I (R a0 0) 2 then some (I (R a0 0) 2, R, I) else q_gd ((0 : Int) ≤ I (R a0 0) 2 ∧ I (R a0 0) 2 < (S.2.1 (R a0 1) : Int)) (q_lt (q_up I (R a0 1) (Int.toNat (I (R a0 0) 2)) a2) fun I8 => q_bd2 (f_X8_append S R I8 (R a0 0) a1) fun R10 I11 => q_gd (S.1 (R10 a0 0) = 9) (some (I11 (R10 a0 0) 2, R10, I11))))))))
abbrev rmX1_append : Room := { frames := 1, cells := 0, slots := 0, locals := 21 }
set_option maxRecDepth 20000 in
theorem c_X1_append {S : q_S} {R : q_HR} {I : q_HI} {a0 : Nat} {a1 : Nat} {a2 : Int} {rz : Int} {Rz : q_HR} {Iz : q_HI} (hf : f_X1_append S R I a0 a1 a2 = some (rz, Rz, Iz)) : ∀ (l : Launch) (D : va_G) (cy : Nat → ClassId) (B : Nat), Met l yX1_append [Cond.code yX1_append cX1_append 3 (some .int)] rmX1_append (q_Pc B D cy [.ref a0, .ref a1, .int (q_i a2)] S R I) (q_Qc B D cy (some (.int (q_i rz))) S Rz Iz) 0 0 (fun q => B ≤ q) := by
  refine q_met (lv := [(0, .ref a0), (1, .ref a1), (2, .int (q_i a2))]) (own := RX1) (nm := "append") (by decide) rfl rfl (Nat.le_of_ble_eq_true rfl) rfl (fun X hX hE => ?_)
  unfold f_X1_append at hf
  refine v_aload_n 0 0 hX dX1_append_0 rfl rfl ?_
  obtain ⟨g1, hf⟩ := q_gd_some hf
  obtain ⟨g2, hf⟩ := q_gd_some hf
  refine v_getA hX fa_RX1_14 (fun _ _ => rfl) g1 g2 (by decide) dX1_append_1 ?_
  refine v_getI hX fa_RX1_50 (fun _ _ => rfl) g2 dX1_append_4 ?_
  refine v_aload_n 0 0 hX dX1_append_7 rfl rfl ?_
  obtain ⟨g3, hf⟩ := q_gd_some hf
  refine v_getA hX fa_RX1_20 (fun _ _ => rfl) g1 g3 (by decide) dX1_append_8 ?_
  refine v_alen (t0 := 0) hX g3 (by decide) (fun _ => rfl) dX1_append_11 ?_
  obtain ⟨g4, hf⟩ := q_gd_some hf
  obtain ⟨g5, hf⟩ := q_gd_some hf
  refine v_icmp_ge (tgt := 36) hX g4 g5 dX1_append_12 (by decide) (fun c6 => ?_) (fun c6 => ?_)
  · replace hf := q_ifp c6 hf
    refine v_aload_n 0 0 hX dX1_append_36 rfl rfl ?_
    refine v_getA hX fa_RX1_14 (fun _ _ => rfl) g1 g2 (by decide) dX1_append_37 ?_
    refine v_getI hX fa_RX1_50 (fun _ _ => rfl) g2 dX1_append_40 ?_
    cases hf
    exact v_iret hX hE (Nat.le_of_ble_eq_true rfl) (Nat.le_of_ble_eq_true rfl) dX1_append_43
  · replace hf := q_ifn c6 hf
    refine v_aload_n 0 0 hX dX1_append_15 rfl rfl ?_
    refine v_getA hX fa_RX1_20 (fun _ _ => rfl) g1 g3 (by decide) dX1_append_16 ?_
    refine v_aload_n 0 0 hX dX1_append_19 rfl rfl ?_
    refine v_getA hX fa_RX1_14 (fun _ _ => rfl) g1 g2 (by decide) dX1_append_20 ?_
    refine v_getI hX fa_RX1_50 (fun _ _ => rfl) g2 dX1_append_23 ?_
    refine v_iload_n 2 2 hX dX1_append_26 rfl rfl ?_
    obtain ⟨g7, hf⟩ := q_gd_some hf
    refine v_iastore hX g3 g7 dX1_append_27 ?_
    obtain ⟨I8, e9, hf⟩ := q_lt_nm hf
    rw [e9]
    refine v_aload_n 0 0 hX dX1_append_28 rfl rfl ?_
    refine v_getA hX fa_RX1_14 (fun _ _ => rfl) g1 g2 (by decide) dX1_append_29 ?_
    refine v_aload_n 1 1 hX dX1_append_32 rfl rfl ?_
    obtain ⟨R10, I11, h12, hf⟩ := q_bd2_some hf
    refine v_callV (As := [.ref a1]) (rest := []) (st1 := []) none hX mv_RX1_54 (c_X8_append h12) ⟨rfl, rfl⟩ ⟨Nat.le_of_ble_eq_true rfl, Nat.le_of_ble_eq_true rfl⟩ g2 rfl rfl (Nat.le_of_ble_eq_true rfl) ⟨Nat.le_of_ble_eq_true rfl, Nat.le_of_ble_eq_true rfl⟩ dX1_append_33 rfl ?_
    refine v_aload_n 0 0 hX dX1_append_36 rfl rfl ?_
    obtain ⟨g13, hf⟩ := q_gd_some hf
    refine v_getA hX fa_RX1_14 (fun _ _ => rfl) g1 g13 (by decide) dX1_append_37 ?_
    refine v_getI hX fa_RX1_50 (fun _ _ => rfl) g13 dX1_append_40 ?_
    cases hf
    exact v_iret hX hE (Nat.le_of_ble_eq_true rfl) (Nat.le_of_ble_eq_true rfl) dX1_append_43
noncomputable def f_X1_sumUp_L9 (S : q_S) (R : q_HR) (p0 : Nat) (p1 : Int) (k : Int → q_HI → Option (q_HI)) : Nat → Int → q_HI → Option (q_HI)
  | 0, _, _ => none
  | n + 1, v2, I => q_gd (S.1 p0 = 2) (q_gd (S.1 (R p0 0) = 9) (q_gd (r_i v2) (q_gd (r_i (I (R p0 0) 2)) (if I (R p0 0) 2 ≤ v2 then k v2 I else q_gd (S.1 (R p0 2) = 4) (q_gd (S.1 (R p0 1) = 12) (q_gd ((0 : Int) ≤ v2 ∧ v2 < (S.2.1 (R p0 1) : Int)) (q_gd (r_i (I (R p0 1) (Int.toNat v2))) (q_gd (S.1 (R p0 3) = 17) (q_gd ((0 : Int) ≤ v2 ∧ v2 < (S.2.1 (R p0 3) : Int)) (q_gd (S.1 (R (R p0 3) (Int.toNat v2)) = 12) (q_gd ((0 : Int) ≤ p1 ∧ p1 < (S.2.1 (R (R p0 3) (Int.toNat v2)) : Int)) (q_gd (r_i (I (R (R p0 3) (Int.toNat v2)) (Int.toNat p1))) (q_bd (f_X3_add S R I (R p0 2) (I (R p0 1) (Int.toNat v2)) (I (R (R p0 3) (Int.toNat v2)) (Int.toNat p1))) fun I19 => f_X1_sumUp_L9 S R p0 p1 k n (v2 + 1) I19)))))))))))))
noncomputable def f_X1_sumUp (S : q_S) (R : q_HR) (I : q_HI) (a0 : Nat) (a1 : Int) : Option (q_HI) := q_gd (S.1 a0 = 2) (q_gd (S.1 (R a0 2) = 4) (q_bd (f_X3_clear S R I (R a0 2)) fun I3 => f_X1_sumUp_L9 S R a0 a1 (fun w21 I22 => some I22) 100 0 I3))
abbrev rmX1_sumUp : Room := { frames := 1, cells := 0, slots := 0, locals := 24 }
set_option maxRecDepth 20000 in
theorem l_X1_sumUp_9 {X : q_X} {S : q_S} {R : q_HR} {p0 : Nat} {p1 : Int} {Iz : q_HI} (hX : q_C X cX1_sumUp 3 RX1 none "sumUp") (hE : q_E X 0 0 none S R Iz) {k : Int → q_HI → Option (q_HI)} (hk : ∀ (v2 : Int) (I : q_HI), k v2 I = some Iz → q_V X rmX1_sumUp cX1_sumUp 3 0 0 49 [] [] S R I) :
    ∀ (n : Nat), ∀ (v2 : Int) (I : q_HI), f_X1_sumUp_L9 S R p0 p1 k n v2 I = some Iz → q_V X rmX1_sumUp cX1_sumUp 3 0 0 9 [(0, .ref p0), (1, .int (q_i p1)), (2, .int (q_i v2))] [] S R I := by
  intro n
  induction n with
  | zero =>
    intro v2 I hf
    cases (show (none : Option (q_HI)) = some _ from hf)
  | succ n ih =>
    intro v2 I hf
    rw [f_X1_sumUp_L9] at hf
    refine v_iload_n 2 2 hX dX1_sumUp_9 rfl rfl ?_
    refine v_aload_n 0 0 hX dX1_sumUp_10 rfl rfl ?_
    obtain ⟨g5, hf⟩ := q_gd_some hf
    obtain ⟨g6, hf⟩ := q_gd_some hf
    refine v_getA hX fa_RX1_14 (fun _ _ => rfl) g5 g6 (by decide) dX1_sumUp_11 ?_
    refine v_getI hX fa_RX1_50 (fun _ _ => rfl) g6 dX1_sumUp_14 ?_
    obtain ⟨g7, hf⟩ := q_gd_some hf
    obtain ⟨g8, hf⟩ := q_gd_some hf
    refine v_icmp_ge (tgt := 49) hX g7 g8 dX1_sumUp_17 (by decide) (fun c9 => ?_) (fun c9 => ?_)
    · replace hf := q_ifp c9 hf
      refine v_sub (lv' := []) [] rfl ?_
      exact hk _ _ hf
    · replace hf := q_ifn c9 hf
      refine v_aload_n 0 0 hX dX1_sumUp_20 rfl rfl ?_
      obtain ⟨g10, hf⟩ := q_gd_some hf
      refine v_getA hX fa_RX1_27 (fun _ _ => rfl) g5 g10 (by decide) dX1_sumUp_21 ?_
      refine v_aload_n 0 0 hX dX1_sumUp_24 rfl rfl ?_
      obtain ⟨g11, hf⟩ := q_gd_some hf
      refine v_getA hX fa_RX1_20 (fun _ _ => rfl) g5 g11 (by decide) dX1_sumUp_25 ?_
      refine v_iload_n 2 2 hX dX1_sumUp_28 rfl rfl ?_
      obtain ⟨g12, hf⟩ := q_gd_some hf
      refine v_iaload hX g11 g12 dX1_sumUp_29 ?_
      obtain ⟨g13, hf⟩ := q_gd_some hf
      refine v_i2l hX g13 dX1_sumUp_30 ?_
      refine v_aload_n 0 0 hX dX1_sumUp_31 rfl rfl ?_
      obtain ⟨g14, hf⟩ := q_gd_some hf
      refine v_getA hX fa_RX1_33 (fun _ _ => rfl) g5 g14 (by decide) dX1_sumUp_32 ?_
      refine v_iload_n 2 2 hX dX1_sumUp_35 rfl rfl ?_
      obtain ⟨g15, hf⟩ := q_gd_some hf
      obtain ⟨g16, hf⟩ := q_gd_some hf
      refine v_aaload (t0 := 5) hX g14 (by decide) (fun _ => rfl) rfl (fun _ _ _ => rfl) g15 g16 (by decide) dX1_sumUp_36 ?_
      refine v_iload_n 1 1 hX dX1_sumUp_37 rfl rfl ?_
      obtain ⟨g17, hf⟩ := q_gd_some hf
      refine v_iaload hX g16 g17 dX1_sumUp_38 ?_
      obtain ⟨g18, hf⟩ := q_gd_some hf
      refine v_i2l hX g18 dX1_sumUp_39 ?_
      obtain ⟨I19, h20, hf⟩ := q_bd_some hf
      refine v_callV (As := [.long (q_l (I (R p0 1) (Int.toNat v2))), .long (q_l (I (R (R p0 3) (Int.toNat v2)) (Int.toNat p1)))]) (rest := []) (st1 := []) none hX mv_RX1_91 (c_X3_add h20) ⟨rfl, rfl⟩ ⟨Nat.le_of_ble_eq_true rfl, Nat.le_of_ble_eq_true rfl⟩ g10 rfl rfl (Nat.le_of_ble_eq_true rfl) ⟨Nat.le_of_ble_eq_true rfl, Nat.le_of_ble_eq_true rfl⟩ dX1_sumUp_40 rfl ?_
      refine v_iinc 2 (lw := [(2, .int (q_i (v2 + 1))), (0, .ref p0), (1, .int (q_i p1))]) hX dX1_sumUp_43 rfl (by decide) rfl ?_
      refine v_goto (tgt := 9) hX dX1_sumUp_46 (by decide) ?_
      refine v_sub (lv' := [(0, .ref p0), (1, .int (q_i p1)), (2, .int (q_i (v2 + 1)))]) [1, 2, 0] rfl ?_
      exact ih _ _ hf
set_option maxRecDepth 20000 in
theorem c_X1_sumUp {S : q_S} {R : q_HR} {I : q_HI} {a0 : Nat} {a1 : Int} {Iz : q_HI} (hf : f_X1_sumUp S R I a0 a1 = some Iz) : ∀ (l : Launch) (D : va_G) (cy : Nat → ClassId) (B : Nat), Met l yX1_sumUp [Cond.code yX1_sumUp cX1_sumUp 3 none] rmX1_sumUp (q_Pc B D cy [.ref a0, .int (q_i a1)] S R I) (q_Qc B D cy none S R Iz) 0 0 (fun q => B ≤ q) := by
  refine q_met (lv := [(0, .ref a0), (1, .int (q_i a1))]) (own := RX1) (nm := "sumUp") (by decide) rfl rfl (Nat.le_of_ble_eq_true rfl) rfl (fun X hX hE => ?_)
  unfold f_X1_sumUp at hf
  refine v_aload_n 0 0 hX dX1_sumUp_0 rfl rfl ?_
  obtain ⟨g1, hf⟩ := q_gd_some hf
  obtain ⟨g2, hf⟩ := q_gd_some hf
  refine v_getA hX fa_RX1_27 (fun _ _ => rfl) g1 g2 (by decide) dX1_sumUp_1 ?_
  obtain ⟨I3, h4, hf⟩ := q_bd_some hf
  refine v_callV (As := []) (rest := []) (st1 := []) none hX mv_RX1_90 (c_X3_clear h4) ⟨rfl, rfl⟩ ⟨Nat.le_of_ble_eq_true rfl, Nat.le_of_ble_eq_true rfl⟩ g2 rfl rfl (Nat.le_of_ble_eq_true rfl) ⟨Nat.le_of_ble_eq_true rfl, Nat.le_of_ble_eq_true rfl⟩ dX1_sumUp_4 rfl ?_
  refine v_iconst hX dX1_sumUp_7 ?_
  refine v_istore_n 2 (lw := [(2, .int (q_i 0)), (0, .ref a0), (1, .int (q_i a1))]) hX dX1_sumUp_8 rfl (by decide) rfl ?_
  refine v_sub (lv' := [(0, .ref a0), (1, .int (q_i a1)), (2, .int (q_i 0))]) [1, 2, 0] rfl ?_
  refine l_X1_sumUp_9 hX hE (fun w21 I22 hk => ?_) 100 _ _ hf
  clear hf
  have hf := hk
  clear hk
  cases hf
  exact v_vret hX hE (Nat.le_of_ble_eq_true rfl) (Nat.le_of_ble_eq_true rfl) dX1_sumUp_49
noncomputable def f_X1_refresh_L2 (S : q_S) (R : q_HR) (p0 : Nat) (p1 : Nat) (k : Int → q_HI → Option (q_HI)) : Nat → Int → q_HI → Option (q_HI)
  | 0, _, _ => none
  | n + 1, v2, I => q_gd (S.1 p0 = 2) (q_gd (S.1 (R p0 0) = 9) (q_gd (r_i v2) (q_gd (r_i (I (R p0 0) 2)) (if I (R p0 0) 2 ≤ v2 then k v2 I else q_bd (f_X8_at S R I (R p0 0) v2) fun r6 => q_gd (S.1 (R p0 3) = 17) (q_gd ((0 : Int) ≤ v2 ∧ v2 < (S.2.1 (R p0 3) : Int)) (q_gd (S.1 (R (R p0 3) (Int.toNat v2)) = 12) (q_gd (S.1 p1 = 1) (q_bd (f_X0_fillFeatures S R I p1 r6 (R (R p0 3) (Int.toNat v2))) fun I12 => f_X1_refresh_L2 S R p0 p1 k n (v2 + 1) I12))))))))
noncomputable def f_X1_refresh_L42 (S : q_S) (R : q_HR) (p0 : Nat) (k : Int → Int → q_HI → Option (q_HI)) : Nat → Int → Int → q_HI → Option (q_HI)
  | 0, _, _, _ => none
  | n + 1, v2, v4, I => q_gd (r_i v4) (if 5 ≤ v4 then k v2 v4 I else q_gd (S.1 p0 = 2) (q_bd (f_X1_sumUp S R I p0 v4) fun I19 => q_gd (S.1 (R p0 4) = 13) (q_gd (S.1 (R p0 2) = 4) (q_bd (f_X3_cross S R I19 (R p0 2)) fun r23 => q_gd ((0 : Int) ≤ v4 ∧ v4 < (S.2.1 (R p0 4) : Int)) (q_lt (q_up I19 (R p0 4) (Int.toNat v4) r23) fun I26 => q_gd (r_l (I26 (R p0 4) (Int.toNat v4))) (q_gd (r_l v2) (q_gd (r_l (q_ab (I26 (R p0 4) (Int.toNat v4)))) (q_lt (q_mx v2 (q_ab (I26 (R p0 4) (Int.toNat v4)))) fun x31 => f_X1_refresh_L42 S R p0 k n x31 (v4 + 1) I26))))))))
noncomputable def f_X1_refresh_L107 (S : q_S) (R : q_HR) (p0 : Nat) (p2 : Int) (k : Int → q_HI → Option (q_HI)) : Nat → Int → q_HI → Option (q_HI)
  | 0, _, _ => none
  | n + 1, v4, I => q_gd (r_i v4) (if 5 ≤ v4 then k v4 I else q_gd (S.1 p0 = 2) (q_gd (S.1 (R p0 5) = 12) (q_gd (r_i (I p0 6)) (if I p0 6 = 0 then q_gd ((0 : Int) ≤ v4 ∧ v4 < (S.2.1 (R p0 5) : Int)) (q_lt (q_up I (R p0 5) (Int.toNat v4) 0) fun I48 => f_X1_refresh_L107 S R p0 p2 k n (v4 + 1) I48) else q_gd (S.1 (R p0 4) = 13) (q_gd ((0 : Int) ≤ v4 ∧ v4 < (S.2.1 (R p0 4) : Int)) (q_gd (r_l ((I (R p0 4) (Int.toNat v4)) * 1000)) (q_gd (r_l p2) (q_gd (p2 ≠ 0) (q_gd ((0 : Int) ≤ v4 ∧ v4 < (S.2.1 (R p0 5) : Int)) (q_lt (q_up I (R p0 5) (Int.toNat v4) (Int.tdiv ((I (R p0 4) (Int.toNat v4)) * 1000) p2)) fun I56 => f_X1_refresh_L107 S R p0 p2 k n (v4 + 1) I56))))))))))
noncomputable def f_X1_refresh (S : q_S) (R : q_HR) (I : q_HI) (a0 : Nat) (a1 : Nat) : Option (q_HI) := f_X1_refresh_L2 S R a0 a1 (fun w14 I15 => f_X1_refresh_L42 S R a0 (fun w33 w34 I35 => q_gd (r_l w33) (if w33 = 0 then q_gd (S.1 a0 = 2) (q_lt (q_up I35 a0 6 0) fun I39 => f_X1_refresh_L107 S R a0 w33 (fun w58 I59 => some I59) 100 0 I39) else q_gd (S.1 a0 = 2) (q_lt (q_up I35 a0 6 1) fun I61 => f_X1_refresh_L107 S R a0 w33 (fun w63 I64 => some I64) 100 0 I61))) 100 0 0 I15) 100 0 I
abbrev rmX1_refresh : Room := { frames := 4, cells := 0, slots := 0, locals := 96 }
set_option maxRecDepth 20000 in
theorem l_X1_refresh_2 {X : q_X} {S : q_S} {R : q_HR} {p0 : Nat} {p1 : Nat} {Iz : q_HI} (hX : q_C X cX1_refresh 5 RX1 none "refresh") (hE : q_E X 0 0 none S R Iz) {k : Int → q_HI → Option (q_HI)} (hk : ∀ (v2 : Int) (I : q_HI), k v2 I = some Iz → q_V X rmX1_refresh cX1_refresh 5 0 0 37 [(0, .ref p0)] [] S R I) :
    ∀ (n : Nat), ∀ (v2 : Int) (I : q_HI), f_X1_refresh_L2 S R p0 p1 k n v2 I = some Iz → q_V X rmX1_refresh cX1_refresh 5 0 0 2 [(0, .ref p0), (1, .ref p1), (2, .int (q_i v2))] [] S R I := by
  intro n
  induction n with
  | zero =>
    intro v2 I hf
    cases (show (none : Option (q_HI)) = some _ from hf)
  | succ n ih =>
    intro v2 I hf
    rw [f_X1_refresh_L2] at hf
    refine v_iload_n 2 2 hX dX1_refresh_2 rfl rfl ?_
    refine v_aload_n 0 0 hX dX1_refresh_3 rfl rfl ?_
    obtain ⟨g1, hf⟩ := q_gd_some hf
    obtain ⟨g2, hf⟩ := q_gd_some hf
    refine v_getA hX fa_RX1_14 (fun _ _ => rfl) g1 g2 (by decide) dX1_refresh_4 ?_
    refine v_getI hX fa_RX1_50 (fun _ _ => rfl) g2 dX1_refresh_7 ?_
    obtain ⟨g3, hf⟩ := q_gd_some hf
    obtain ⟨g4, hf⟩ := q_gd_some hf
    refine v_icmp_ge (tgt := 37) hX g3 g4 dX1_refresh_10 (by decide) (fun c5 => ?_) (fun c5 => ?_)
    · replace hf := q_ifp c5 hf
      refine v_sub (lv' := [(0, .ref p0)]) [0] rfl ?_
      exact hk _ _ hf
    · replace hf := q_ifn c5 hf
      refine v_aload_n 1 1 hX dX1_refresh_13 rfl rfl ?_
      refine v_aload_n 0 0 hX dX1_refresh_14 rfl rfl ?_
      refine v_getA hX fa_RX1_14 (fun _ _ => rfl) g1 g2 (by decide) dX1_refresh_15 ?_
      refine v_iload_n 2 2 hX dX1_refresh_18 rfl rfl ?_
      obtain ⟨r6, h7, hf⟩ := q_bd_some hf
      refine v_callV (As := [.int (q_i v2)]) (rest := [.ref p1]) (st1 := [.ref r6, .ref p1]) (some (.ref r6)) hX mv_RX1_58 (c_X8_at h7) ⟨rfl, rfl⟩ ⟨Nat.le_of_ble_eq_true rfl, Nat.le_of_ble_eq_true rfl⟩ g2 rfl rfl (Nat.le_of_ble_eq_true rfl) ⟨Nat.le_of_ble_eq_true rfl, Nat.le_of_ble_eq_true rfl⟩ dX1_refresh_19 rfl ?_
      refine v_aload_n 0 0 hX dX1_refresh_22 rfl rfl ?_
      obtain ⟨g8, hf⟩ := q_gd_some hf
      refine v_getA hX fa_RX1_33 (fun _ _ => rfl) g1 g8 (by decide) dX1_refresh_23 ?_
      refine v_iload_n 2 2 hX dX1_refresh_26 rfl rfl ?_
      obtain ⟨g9, hf⟩ := q_gd_some hf
      obtain ⟨g10, hf⟩ := q_gd_some hf
      refine v_aaload (t0 := 5) hX g8 (by decide) (fun _ => rfl) rfl (fun _ _ _ => rfl) g9 g10 (by decide) dX1_refresh_27 ?_
      obtain ⟨g11, hf⟩ := q_gd_some hf
      obtain ⟨I12, h13, hf⟩ := q_bd_some hf
      refine v_callV (As := [.ref r6, .ref (R (R p0 3) (Int.toNat v2))]) (rest := []) (st1 := []) none hX mv_RX1_62 (c_X0_fillFeatures h13) ⟨rfl, rfl⟩ ⟨Nat.le_of_ble_eq_true rfl, Nat.le_of_ble_eq_true rfl⟩ g11 rfl rfl (Nat.le_of_ble_eq_true rfl) ⟨Nat.le_of_ble_eq_true rfl, Nat.le_of_ble_eq_true rfl⟩ dX1_refresh_28 rfl ?_
      refine v_iinc 2 (lw := [(2, .int (q_i (v2 + 1))), (0, .ref p0), (1, .ref p1)]) hX dX1_refresh_31 rfl (by decide) rfl ?_
      refine v_goto (tgt := 2) hX dX1_refresh_34 (by decide) ?_
      refine v_sub (lv' := [(0, .ref p0), (1, .ref p1), (2, .int (q_i (v2 + 1)))]) [1, 2, 0] rfl ?_
      exact ih _ _ hf
set_option maxRecDepth 20000 in
theorem l_X1_refresh_42 {X : q_X} {S : q_S} {R : q_HR} {p0 : Nat} {Iz : q_HI} (hX : q_C X cX1_refresh 5 RX1 none "refresh") (hE : q_E X 0 0 none S R Iz) {k : Int → Int → q_HI → Option (q_HI)} (hk : ∀ (v2 : Int) (v4 : Int) (I : q_HI), k v2 v4 I = some Iz → q_V X rmX1_refresh cX1_refresh 5 0 0 89 [(0, .ref p0), (2, .long (q_l v2))] [] S R I) :
    ∀ (n : Nat), ∀ (v2 : Int) (v4 : Int) (I : q_HI), f_X1_refresh_L42 S R p0 k n v2 v4 I = some Iz → q_V X rmX1_refresh cX1_refresh 5 0 0 42 [(0, .ref p0), (2, .long (q_l v2)), (4, .int (q_i v4))] [] S R I := by
  intro n
  induction n with
  | zero =>
    intro v2 v4 I hf
    cases (show (none : Option (q_HI)) = some _ from hf)
  | succ n ih =>
    intro v2 v4 I hf
    rw [f_X1_refresh_L42] at hf
    refine v_iload 2 hX dX1_refresh_42 rfl ?_
    refine v_iconst hX dX1_refresh_44 ?_
    obtain ⟨g16, hf⟩ := q_gd_some hf
    refine v_icmp_ge (tgt := 89) hX g16 (by unfold r_i; omega) dX1_refresh_45 (by decide) (fun c17 => ?_) (fun c17 => ?_)
    · replace hf := q_ifp c17 hf
      refine v_sub (lv' := [(0, .ref p0), (2, .long (q_l v2))]) [0, 1] rfl ?_
      exact hk _ _ _ hf
    · replace hf := q_ifn c17 hf
      refine v_aload_n 0 0 hX dX1_refresh_48 rfl rfl ?_
      refine v_iload 2 hX dX1_refresh_49 rfl ?_
      obtain ⟨g18, hf⟩ := q_gd_some hf
      obtain ⟨I19, h20, hf⟩ := q_bd_some hf
      refine v_callV (As := [.int (q_i v4)]) (rest := []) (st1 := []) none hX mv_RX1_68 (c_X1_sumUp h20) ⟨rfl, rfl⟩ ⟨Nat.le_of_ble_eq_true rfl, Nat.le_of_ble_eq_true rfl⟩ g18 rfl rfl (Nat.le_of_ble_eq_true rfl) ⟨Nat.le_of_ble_eq_true rfl, Nat.le_of_ble_eq_true rfl⟩ dX1_refresh_51 rfl ?_
      refine v_aload_n 0 0 hX dX1_refresh_54 rfl rfl ?_
      obtain ⟨g21, hf⟩ := q_gd_some hf
      refine v_getA hX fa_RX1_36 (fun _ _ => rfl) g18 g21 (by decide) dX1_refresh_55 ?_
      refine v_iload 2 hX dX1_refresh_58 rfl ?_
      refine v_aload_n 0 0 hX dX1_refresh_60 rfl rfl ?_
      obtain ⟨g22, hf⟩ := q_gd_some hf
      refine v_getA hX fa_RX1_27 (fun _ _ => rfl) g18 g22 (by decide) dX1_refresh_61 ?_
      obtain ⟨r23, h24, hf⟩ := q_bd_some hf
      refine v_callV (As := []) (rest := [.int (q_i v4), .ref (R p0 4)]) (st1 := [.long (q_l r23), .int (q_i v4), .ref (R p0 4)]) (some (.long (q_l r23))) hX mv_RX1_71 (c_X3_cross h24) ⟨rfl, rfl⟩ ⟨Nat.le_of_ble_eq_true rfl, Nat.le_of_ble_eq_true rfl⟩ g22 rfl rfl (Nat.le_of_ble_eq_true rfl) ⟨Nat.le_of_ble_eq_true rfl, Nat.le_of_ble_eq_true rfl⟩ dX1_refresh_64 rfl ?_
      obtain ⟨g25, hf⟩ := q_gd_some hf
      refine v_lastore hX g21 g25 dX1_refresh_67 ?_
      obtain ⟨I26, e27, hf⟩ := q_lt_nm hf
      rw [e27]
      refine v_lload_n 2 1 hX dX1_refresh_68 rfl rfl ?_
      refine v_aload_n 0 0 hX dX1_refresh_69 rfl rfl ?_
      refine v_getA hX fa_RX1_36 (fun _ _ => rfl) g18 g21 (by decide) dX1_refresh_70 ?_
      refine v_iload 2 hX dX1_refresh_73 rfl ?_
      refine v_laload hX g21 g25 dX1_refresh_75 ?_
      obtain ⟨g28, hf⟩ := q_gd_some hf
      refine v_mabsJ hX g28 wml_RX1_75 (Nat.le_of_ble_eq_true rfl) (Nat.le_of_ble_eq_true rfl) (Nat.le_of_ble_eq_true rfl) (Nat.le_of_ble_eq_true rfl) dX1_refresh_76 ?_
      obtain ⟨g29, hf⟩ := q_gd_some hf
      obtain ⟨g30, hf⟩ := q_gd_some hf
      refine v_mmaxJ hX g29 g30 wml_RX1_81 (Nat.le_of_ble_eq_true rfl) (Nat.le_of_ble_eq_true rfl) (Nat.le_of_ble_eq_true rfl) (Nat.le_of_ble_eq_true rfl) dX1_refresh_79 ?_
      obtain ⟨x31, e32, hf⟩ := q_lt_nm hf
      rw [e32]
      refine v_lstore_n 2 (lw := [(2, .long (q_l x31)), (0, .ref p0), (4, .int (q_i v4))]) hX dX1_refresh_82 rfl (by decide) rfl ?_
      refine v_iinc 2 (lw := [(4, .int (q_i (v4 + 1))), (2, .long (q_l x31)), (0, .ref p0)]) hX dX1_refresh_83 rfl (by decide) rfl ?_
      refine v_goto (tgt := 42) hX dX1_refresh_86 (by decide) ?_
      refine v_sub (lv' := [(0, .ref p0), (2, .long (q_l x31)), (4, .int (q_i (v4 + 1)))]) [2, 1, 0] rfl ?_
      exact ih _ _ _ hf
set_option maxRecDepth 20000 in
theorem l_X1_refresh_107 {X : q_X} {S : q_S} {R : q_HR} {p0 : Nat} {p2 : Int} {Iz : q_HI} (hX : q_C X cX1_refresh 5 RX1 none "refresh") (hE : q_E X 0 0 none S R Iz) {k : Int → q_HI → Option (q_HI)} (hk : ∀ (v4 : Int) (I : q_HI), k v4 I = some Iz → q_V X rmX1_refresh cX1_refresh 5 0 0 151 [] [] S R I) :
    ∀ (n : Nat), ∀ (v4 : Int) (I : q_HI), f_X1_refresh_L107 S R p0 p2 k n v4 I = some Iz → q_V X rmX1_refresh cX1_refresh 5 0 0 107 [(0, .ref p0), (2, .long (q_l p2)), (4, .int (q_i v4))] [] S R I := by
  intro n
  induction n with
  | zero =>
    intro v4 I hf
    cases (show (none : Option (q_HI)) = some _ from hf)
  | succ n ih =>
    intro v4 I hf
    rw [f_X1_refresh_L107] at hf
    refine v_iload 2 hX dX1_refresh_107 rfl ?_
    refine v_iconst hX dX1_refresh_109 ?_
    obtain ⟨g41, hf⟩ := q_gd_some hf
    refine v_icmp_ge (tgt := 151) hX g41 (by unfold r_i; omega) dX1_refresh_110 (by decide) (fun c42 => ?_) (fun c42 => ?_)
    · replace hf := q_ifp c42 hf
      refine v_sub (lv' := []) [] rfl ?_
      exact hk _ _ hf
    · replace hf := q_ifn c42 hf
      refine v_aload_n 0 0 hX dX1_refresh_113 rfl rfl ?_
      obtain ⟨g43, hf⟩ := q_gd_some hf
      obtain ⟨g44, hf⟩ := q_gd_some hf
      refine v_getA hX fa_RX1_40 (fun _ _ => rfl) g43 g44 (by decide) dX1_refresh_114 ?_
      refine v_iload 2 hX dX1_refresh_117 rfl ?_
      refine v_aload_n 0 0 hX dX1_refresh_119 rfl rfl ?_
      refine v_getI hX fa_RX1_85 (fun _ _ => rfl) g43 dX1_refresh_120 ?_
      obtain ⟨g45, hf⟩ := q_gd_some hf
      refine v_if_eq (tgt := 143) hX g45 dX1_refresh_123 (by decide) (fun c46 => ?_) (fun c46 => ?_)
      · replace hf := q_ifp c46 hf
        refine v_iconst hX dX1_refresh_143 ?_
        obtain ⟨g47, hf⟩ := q_gd_some hf
        refine v_iastore hX g44 g47 dX1_refresh_144 ?_
        obtain ⟨I48, e49, hf⟩ := q_lt_nm hf
        rw [e49]
        refine v_iinc 2 (lw := [(4, .int (q_i (v4 + 1))), (0, .ref p0), (2, .long (q_l p2))]) hX dX1_refresh_145 rfl (by decide) rfl ?_
        refine v_goto (tgt := 107) hX dX1_refresh_148 (by decide) ?_
        refine v_sub (lv' := [(0, .ref p0), (2, .long (q_l p2)), (4, .int (q_i (v4 + 1)))]) [1, 2, 0] rfl ?_
        exact ih _ _ hf
      · replace hf := q_ifn c46 hf
        refine v_aload_n 0 0 hX dX1_refresh_126 rfl rfl ?_
        obtain ⟨g50, hf⟩ := q_gd_some hf
        refine v_getA hX fa_RX1_36 (fun _ _ => rfl) g43 g50 (by decide) dX1_refresh_127 ?_
        refine v_iload 2 hX dX1_refresh_130 rfl ?_
        obtain ⟨g51, hf⟩ := q_gd_some hf
        refine v_laload hX g50 g51 dX1_refresh_132 ?_
        refine v_ldc2 1000 hX kl_RX1_88 (by decide) dX1_refresh_133 ?_
        refine v_lmul hX dX1_refresh_136 ?_
        refine v_lload_n 2 1 hX dX1_refresh_137 rfl rfl ?_
        obtain ⟨g52, hf⟩ := q_gd_some hf
        obtain ⟨g53, hf⟩ := q_gd_some hf
        obtain ⟨g54, hf⟩ := q_gd_some hf
        refine v_ldiv hX g52 g53 g54 dX1_refresh_138 ?_
        refine v_l2i hX dX1_refresh_139 ?_
        refine v_goto (tgt := 144) hX dX1_refresh_140 (by decide) ?_
        obtain ⟨g55, hf⟩ := q_gd_some hf
        refine v_iastore hX g44 g55 dX1_refresh_144 ?_
        obtain ⟨I56, e57, hf⟩ := q_lt_nm hf
        rw [e57]
        refine v_iinc 2 (lw := [(4, .int (q_i (v4 + 1))), (0, .ref p0), (2, .long (q_l p2))]) hX dX1_refresh_145 rfl (by decide) rfl ?_
        refine v_goto (tgt := 107) hX dX1_refresh_148 (by decide) ?_
        refine v_sub (lv' := [(0, .ref p0), (2, .long (q_l p2)), (4, .int (q_i (v4 + 1)))]) [1, 2, 0] rfl ?_
        exact ih _ _ hf
set_option maxRecDepth 20000 in
theorem c_X1_refresh {S : q_S} {R : q_HR} {I : q_HI} {a0 : Nat} {a1 : Nat} {Iz : q_HI} (hf : f_X1_refresh S R I a0 a1 = some Iz) : ∀ (l : Launch) (D : va_G) (cy : Nat → ClassId) (B : Nat), Met l yX1_refresh [Cond.code yX1_refresh cX1_refresh 5 none] rmX1_refresh (q_Pc B D cy [.ref a0, .ref a1] S R I) (q_Qc B D cy none S R Iz) 0 0 (fun q => B ≤ q) := by
  refine q_met (lv := [(0, .ref a0), (1, .ref a1)]) (own := RX1) (nm := "refresh") (by decide) rfl rfl (Nat.le_of_ble_eq_true rfl) rfl (fun X hX hE => ?_)
  unfold f_X1_refresh at hf
  refine v_iconst hX dX1_refresh_0 ?_
  refine v_istore_n 2 (lw := [(2, .int (q_i 0)), (0, .ref a0), (1, .ref a1)]) hX dX1_refresh_1 rfl (by decide) rfl ?_
  refine v_sub (lv' := [(0, .ref a0), (1, .ref a1), (2, .int (q_i 0))]) [1, 2, 0] rfl ?_
  refine l_X1_refresh_2 hX hE (fun w14 I15 hk => ?_) 100 _ _ hf
  clear hf
  have hf := hk
  clear hk
  refine v_lconst 0 hX dX1_refresh_37 (by decide) ?_
  refine v_lstore_n 2 (lw := [(2, .long (q_l 0)), (0, .ref a0)]) hX dX1_refresh_38 rfl (by decide) rfl ?_
  refine v_iconst hX dX1_refresh_39 ?_
  refine v_istore (lw := [(4, .int (q_i 0)), (2, .long (q_l 0)), (0, .ref a0)]) hX dX1_refresh_40 (by decide) rfl ?_
  refine v_sub (lv' := [(0, .ref a0), (2, .long (q_l 0)), (4, .int (q_i 0))]) [2, 1, 0] rfl ?_
  refine l_X1_refresh_42 hX hE (fun w33 w34 I35 hk => ?_) 100 _ _ _ hf
  clear hf
  have hf := hk
  clear hk
  refine v_aload_n 0 0 hX dX1_refresh_89 rfl rfl ?_
  refine v_lload_n 2 1 hX dX1_refresh_90 rfl rfl ?_
  refine v_lconst 0 hX dX1_refresh_91 (by decide) ?_
  obtain ⟨g36, hf⟩ := q_gd_some hf
  refine v_lcmp hX g36 (by unfold r_l; omega) dX1_refresh_92 ?_
  refine v_ifc_eq (tgt := 100) hX dX1_refresh_93 (by decide) (fun c37 => ?_) (fun c37 => ?_)
  · replace hf := q_ifp c37 hf
    refine v_iconst hX dX1_refresh_100 ?_
    obtain ⟨g38, hf⟩ := q_gd_some hf
    refine v_putZ hX fa_RX1_85 rfl (Or.inl rfl) g38 dX1_refresh_101 ?_
    obtain ⟨I39, e40, hf⟩ := q_lt_nm hf
    rw [e40]
    refine v_iconst hX dX1_refresh_104 ?_
    refine v_istore (lw := [(4, .int (q_i 0)), (0, .ref a0), (2, .long (q_l w33))]) hX dX1_refresh_105 (by decide) rfl ?_
    refine v_sub (lv' := [(0, .ref a0), (2, .long (q_l w33)), (4, .int (q_i 0))]) [1, 2, 0] rfl ?_
    refine l_X1_refresh_107 hX hE (fun w58 I59 hk => ?_) 100 _ _ hf
    clear hf
    have hf := hk
    clear hk
    cases hf
    exact v_vret hX hE (Nat.le_of_ble_eq_true rfl) (Nat.le_of_ble_eq_true rfl) dX1_refresh_151
  · replace hf := q_ifn c37 hf
    refine v_iconst hX dX1_refresh_96 ?_
    refine v_goto (tgt := 101) hX dX1_refresh_97 (by decide) ?_
    obtain ⟨g60, hf⟩ := q_gd_some hf
    refine v_putZ hX fa_RX1_85 rfl (Or.inr rfl) g60 dX1_refresh_101 ?_
    obtain ⟨I61, e62, hf⟩ := q_lt_nm hf
    rw [e62]
    refine v_iconst hX dX1_refresh_104 ?_
    refine v_istore (lw := [(4, .int (q_i 0)), (0, .ref a0), (2, .long (q_l w33))]) hX dX1_refresh_105 (by decide) rfl ?_
    refine v_sub (lv' := [(0, .ref a0), (2, .long (q_l w33)), (4, .int (q_i 0))]) [1, 2, 0] rfl ?_
    refine l_X1_refresh_107 hX hE (fun w63 I64 hk => ?_) 100 _ _ hf
    clear hf
    have hf := hk
    clear hk
    cases hf
    exact v_vret hX hE (Nat.le_of_ble_eq_true rfl) (Nat.le_of_ble_eq_true rfl) dX1_refresh_151
noncomputable def f_X1_positionOf_L8 (S : q_S) (R : q_HR) (I : q_HI) (p0 : Nat) (p1 : Nat) (k : Int → Int → Int → Option (Int)) : Nat → Int → Int → Int → Option (Int)
  | 0, _, _, _ => none
  | n + 1, v2, v4, v6 => q_gd (r_i v6) (if 5 ≤ v6 then k v2 v4 v6 else q_gd (S.1 p0 = 2) (q_gd (S.1 (R p0 5) = 12) (q_gd ((0 : Int) ≤ v6 ∧ v6 < (S.2.1 (R p0 5) : Int)) (q_gd (r_i (I (R p0 5) (Int.toNat v6))) (q_lt (I (R p0 5) (Int.toNat v6)) fun x7 => q_gd (S.1 p1 = 12) (q_gd ((0 : Int) ≤ v6 ∧ v6 < (S.2.1 p1 : Int)) (q_gd (S.1 (R p0 3) = 17) (q_gd ((0 : Int) ≤ 0 ∧ 0 < (S.2.1 (R p0 3) : Int)) (q_gd (S.1 (R (R p0 3) (Int.toNat 0)) = 12) (q_gd ((0 : Int) ≤ v6 ∧ v6 < (S.2.1 (R (R p0 3) (Int.toNat 0)) : Int)) (q_gd (r_i ((I p1 (Int.toNat v6)) - (I (R (R p0 3) (Int.toNat 0)) (Int.toNat v6)))) (q_lt (v2 + (((I p1 (Int.toNat v6)) - (I (R (R p0 3) (Int.toNat 0)) (Int.toNat v6))) * x7)) fun x17 => q_lt (v4 + (x7 * x7)) fun x19 => f_X1_positionOf_L8 S R I p0 p1 k n x17 x19 (v6 + 1)))))))))))))
noncomputable def f_X1_positionOf (S : q_S) (R : q_HR) (I : q_HI) (a0 : Nat) (a1 : Nat) : Option (Int) := f_X1_positionOf_L8 S R I a0 a1 (fun w21 w22 w23 => q_bd (f_X9_quotient (1000 * w21) w22) fun r24 => some r24) 100 0 0 0
abbrev rmX1_positionOf : Room := { frames := 1, cells := 0, slots := 0, locals := 25 }
set_option maxRecDepth 20000 in
theorem l_X1_positionOf_8 {X : q_X} {S : q_S} {R : q_HR} {I : q_HI} {p0 : Nat} {p1 : Nat} {rz : Int} (hX : q_C X cX1_positionOf 9 RX1 (some .int) "positionOf") (hE : q_E X 0 0 (some (.int (q_i rz))) S R I) {k : Int → Int → Int → Option (Int)} (hk : ∀ (v2 : Int) (v4 : Int) (v6 : Int), k v2 v4 v6 = some rz → q_V X rmX1_positionOf cX1_positionOf 9 0 0 61 [(2, .long (q_l v2)), (4, .long (q_l v4))] [] S R I) :
    ∀ (n : Nat), ∀ (v2 : Int) (v4 : Int) (v6 : Int), f_X1_positionOf_L8 S R I p0 p1 k n v2 v4 v6 = some rz → q_V X rmX1_positionOf cX1_positionOf 9 0 0 8 [(0, .ref p0), (1, .ref p1), (2, .long (q_l v2)), (4, .long (q_l v4)), (6, .int (q_i v6))] [] S R I := by
  intro n
  induction n with
  | zero =>
    intro v2 v4 v6 hf
    cases (show (none : Option (Int)) = some _ from hf)
  | succ n ih =>
    intro v2 v4 v6 hf
    rw [f_X1_positionOf_L8] at hf
    refine v_iload 4 hX dX1_positionOf_8 rfl ?_
    refine v_iconst hX dX1_positionOf_10 ?_
    obtain ⟨g1, hf⟩ := q_gd_some hf
    refine v_icmp_ge (tgt := 61) hX g1 (by unfold r_i; omega) dX1_positionOf_11 (by decide) (fun c2 => ?_) (fun c2 => ?_)
    · replace hf := q_ifp c2 hf
      refine v_sub (lv' := [(2, .long (q_l v2)), (4, .long (q_l v4))]) [2, 3] rfl ?_
      exact hk _ _ _ hf
    · replace hf := q_ifn c2 hf
      refine v_aload_n 0 0 hX dX1_positionOf_14 rfl rfl ?_
      obtain ⟨g3, hf⟩ := q_gd_some hf
      obtain ⟨g4, hf⟩ := q_gd_some hf
      refine v_getA hX fa_RX1_40 (fun _ _ => rfl) g3 g4 (by decide) dX1_positionOf_15 ?_
      refine v_iload 4 hX dX1_positionOf_18 rfl ?_
      obtain ⟨g5, hf⟩ := q_gd_some hf
      refine v_iaload hX g4 g5 dX1_positionOf_20 ?_
      obtain ⟨g6, hf⟩ := q_gd_some hf
      refine v_i2l hX g6 dX1_positionOf_21 ?_
      obtain ⟨x7, e8, hf⟩ := q_lt_nm hf
      rw [e8]
      have g9 := g6
      rw [e8] at g9
      refine v_lstore (lw := [(7, .long (q_l x7)), (0, .ref p0), (1, .ref p1), (2, .long (q_l v2)), (4, .long (q_l v4)), (6, .int (q_i v6))]) hX dX1_positionOf_22 (by decide) rfl ?_
      refine v_lload_n 2 3 hX dX1_positionOf_24 rfl rfl ?_
      refine v_aload_n 1 2 hX dX1_positionOf_25 rfl rfl ?_
      refine v_iload 5 hX dX1_positionOf_26 rfl ?_
      obtain ⟨g10, hf⟩ := q_gd_some hf
      obtain ⟨g11, hf⟩ := q_gd_some hf
      refine v_iaload hX g10 g11 dX1_positionOf_28 ?_
      refine v_aload_n 0 1 hX dX1_positionOf_29 rfl rfl ?_
      obtain ⟨g12, hf⟩ := q_gd_some hf
      refine v_getA hX fa_RX1_33 (fun _ _ => rfl) g3 g12 (by decide) dX1_positionOf_30 ?_
      refine v_iconst hX dX1_positionOf_33 ?_
      obtain ⟨g13, hf⟩ := q_gd_some hf
      obtain ⟨g14, hf⟩ := q_gd_some hf
      refine v_aaload (t0 := 5) hX g12 (by decide) (fun _ => rfl) rfl (fun _ _ _ => rfl) g13 g14 (by decide) dX1_positionOf_34 ?_
      refine v_iload 5 hX dX1_positionOf_35 rfl ?_
      obtain ⟨g15, hf⟩ := q_gd_some hf
      refine v_iaload hX g14 g15 dX1_positionOf_37 ?_
      refine v_isub hX dX1_positionOf_38 ?_
      obtain ⟨g16, hf⟩ := q_gd_some hf
      refine v_i2l hX g16 dX1_positionOf_39 ?_
      refine v_lload 0 hX dX1_positionOf_40 rfl ?_
      refine v_lmul hX dX1_positionOf_42 ?_
      refine v_ladd hX dX1_positionOf_43 ?_
      obtain ⟨x17, e18, hf⟩ := q_lt_nm hf
      rw [e18]
      refine v_lstore_n 2 (lw := [(2, .long (q_l x17)), (7, .long (q_l x7)), (0, .ref p0), (1, .ref p1), (4, .long (q_l v4)), (6, .int (q_i v6))]) hX dX1_positionOf_44 rfl (by decide) rfl ?_
      refine v_lload 4 hX dX1_positionOf_45 rfl ?_
      refine v_lload 1 hX dX1_positionOf_47 rfl ?_
      refine v_lload 1 hX dX1_positionOf_49 rfl ?_
      refine v_lmul hX dX1_positionOf_51 ?_
      refine v_ladd hX dX1_positionOf_52 ?_
      obtain ⟨x19, e20, hf⟩ := q_lt_nm hf
      rw [e20]
      refine v_lstore (lw := [(4, .long (q_l x19)), (2, .long (q_l x17)), (7, .long (q_l x7)), (0, .ref p0), (1, .ref p1), (6, .int (q_i v6))]) hX dX1_positionOf_53 (by decide) rfl ?_
      refine v_iinc 5 (lw := [(6, .int (q_i (v6 + 1))), (4, .long (q_l x19)), (2, .long (q_l x17)), (7, .long (q_l x7)), (0, .ref p0), (1, .ref p1)]) hX dX1_positionOf_55 rfl (by decide) rfl ?_
      refine v_goto (tgt := 8) hX dX1_positionOf_58 (by decide) ?_
      refine v_sub (lv' := [(0, .ref p0), (1, .ref p1), (2, .long (q_l x17)), (4, .long (q_l x19)), (6, .int (q_i (v6 + 1)))]) [4, 5, 2, 1, 0] rfl ?_
      exact ih _ _ _ hf
set_option maxRecDepth 20000 in
theorem c_X1_positionOf {S : q_S} {R : q_HR} {I : q_HI} {a0 : Nat} {a1 : Nat} {rz : Int} (hf : f_X1_positionOf S R I a0 a1 = some rz) : ∀ (l : Launch) (D : va_G) (cy : Nat → ClassId) (B : Nat), Met l yX1_positionOf [Cond.code yX1_positionOf cX1_positionOf 9 (some .int)] rmX1_positionOf (q_Pc B D cy [.ref a0, .ref a1] S R I) (q_Qc B D cy (some (.int (q_i rz))) S R I) 0 0 (fun q => B ≤ q) := by
  refine q_met (lv := [(0, .ref a0), (1, .ref a1)]) (own := RX1) (nm := "positionOf") (by decide) rfl rfl (Nat.le_of_ble_eq_true rfl) rfl (fun X hX hE => ?_)
  unfold f_X1_positionOf at hf
  refine v_lconst 0 hX dX1_positionOf_0 (by decide) ?_
  refine v_lstore_n 2 (lw := [(2, .long (q_l 0)), (0, .ref a0), (1, .ref a1)]) hX dX1_positionOf_1 rfl (by decide) rfl ?_
  refine v_lconst 0 hX dX1_positionOf_2 (by decide) ?_
  refine v_lstore (lw := [(4, .long (q_l 0)), (2, .long (q_l 0)), (0, .ref a0), (1, .ref a1)]) hX dX1_positionOf_3 (by decide) rfl ?_
  refine v_iconst hX dX1_positionOf_5 ?_
  refine v_istore (lw := [(6, .int (q_i 0)), (4, .long (q_l 0)), (2, .long (q_l 0)), (0, .ref a0), (1, .ref a1)]) hX dX1_positionOf_6 (by decide) rfl ?_
  refine v_sub (lv' := [(0, .ref a0), (1, .ref a1), (2, .long (q_l 0)), (4, .long (q_l 0)), (6, .int (q_i 0))]) [3, 4, 2, 1, 0] rfl ?_
  refine l_X1_positionOf_8 hX hE (fun w21 w22 w23 hk => ?_) 100 _ _ _ hf
  clear hf
  have hf := hk
  clear hk
  refine v_ldc2 1000 hX kl_RX1_88 (by decide) dX1_positionOf_61 ?_
  refine v_lload_n 2 0 hX dX1_positionOf_64 rfl rfl ?_
  refine v_lmul hX dX1_positionOf_65 ?_
  refine v_lload 1 hX dX1_positionOf_66 rfl ?_
  obtain ⟨r24, h25, hf⟩ := q_bd_some hf
  refine v_callS (As := [.long (q_l (1000 * w21)), .long (q_l w22)]) (rest := []) (st1 := [.long (q_l r24)]) (some (.long (q_l r24))) hX ms_RX1_95 (c_X9_quotient h25) ⟨rfl, rfl⟩ ⟨Nat.le_of_ble_eq_true rfl, Nat.le_of_ble_eq_true rfl⟩ rfl rfl (Nat.le_of_ble_eq_true rfl) ⟨Nat.le_of_ble_eq_true rfl, Nat.le_of_ble_eq_true rfl⟩ dX1_positionOf_68 rfl ?_
  refine v_l2i hX dX1_positionOf_71 ?_
  cases hf
  exact v_iret hX hE (Nat.le_of_ble_eq_true rfl) (Nat.le_of_ble_eq_true rfl) dX1_positionOf_72
noncomputable def f_X1_predict (S : q_S) (R : q_HR) (I : q_HI) (a0 : Nat) (a1 : Int) (a2 : Int) : Option (Int × q_HI) := q_gd (S.1 a0 = 2) (q_bd (f_X1_sumUp S R I a0 a1) fun I2 => q_gd (S.1 (R a0 2) = 4) (q_bd (f_X3_square S R I2 (R a0 2)) fun r5 => q_bd (f_X3_cross S R I2 (R a0 2)) fun r7 => q_gd (r_i a2) (q_lt (r7 * (((I2 (R a0 2) 0) * a2) - (I2 (R a0 2) 1))) fun x10 => q_bd (f_X9_quotient ((r5 * (I2 (R a0 2) 2)) + x10) ((I2 (R a0 2) 0) * r5)) fun r12 => some (r12, I2))))
abbrev rmX1_predict : Room := { frames := 2, cells := 0, slots := 0, locals := 46 }
set_option maxRecDepth 20000 in
theorem c_X1_predict {S : q_S} {R : q_HR} {I : q_HI} {a0 : Nat} {a1 : Int} {a2 : Int} {rz : Int} {Iz : q_HI} (hf : f_X1_predict S R I a0 a1 a2 = some (rz, Iz)) : ∀ (l : Launch) (D : va_G) (cy : Nat → ClassId) (B : Nat), Met l yX1_predict [Cond.code yX1_predict cX1_predict 7 (some .int)] rmX1_predict (q_Pc B D cy [.ref a0, .int (q_i a1), .int (q_i a2)] S R I) (q_Qc B D cy (some (.int (q_i rz))) S R Iz) 0 0 (fun q => B ≤ q) := by
  refine q_met (lv := [(0, .ref a0), (1, .int (q_i a1)), (2, .int (q_i a2))]) (own := RX1) (nm := "predict") (by decide) rfl rfl (Nat.le_of_ble_eq_true rfl) rfl (fun X hX hE => ?_)
  unfold f_X1_predict at hf
  refine v_aload_n 0 0 hX dX1_predict_0 rfl rfl ?_
  refine v_iload_n 1 1 hX dX1_predict_1 rfl rfl ?_
  obtain ⟨g1, hf⟩ := q_gd_some hf
  obtain ⟨I2, h3, hf⟩ := q_bd_some hf
  refine v_callV (As := [.int (q_i a1)]) (rest := []) (st1 := []) none hX mv_RX1_68 (c_X1_sumUp h3) ⟨rfl, rfl⟩ ⟨Nat.le_of_ble_eq_true rfl, Nat.le_of_ble_eq_true rfl⟩ g1 rfl rfl (Nat.le_of_ble_eq_true rfl) ⟨Nat.le_of_ble_eq_true rfl, Nat.le_of_ble_eq_true rfl⟩ dX1_predict_2 rfl ?_
  refine v_aload_n 0 0 hX dX1_predict_5 rfl rfl ?_
  obtain ⟨g4, hf⟩ := q_gd_some hf
  refine v_getA hX fa_RX1_27 (fun _ _ => rfl) g1 g4 (by decide) dX1_predict_6 ?_
  obtain ⟨r5, h6, hf⟩ := q_bd_some hf
  refine v_callV (As := []) (rest := []) (st1 := [.long (q_l r5)]) (some (.long (q_l r5))) hX mv_RX1_98 (c_X3_square h6) ⟨rfl, rfl⟩ ⟨Nat.le_of_ble_eq_true rfl, Nat.le_of_ble_eq_true rfl⟩ g4 rfl rfl (Nat.le_of_ble_eq_true rfl) ⟨Nat.le_of_ble_eq_true rfl, Nat.le_of_ble_eq_true rfl⟩ dX1_predict_9 rfl ?_
  refine v_lstore_n 3 (lw := [(3, .long (q_l r5)), (0, .ref a0), (1, .int (q_i a1)), (2, .int (q_i a2))]) hX dX1_predict_12 rfl (by decide) rfl ?_
  refine v_aload_n 0 1 hX dX1_predict_13 rfl rfl ?_
  refine v_getA hX fa_RX1_27 (fun _ _ => rfl) g1 g4 (by decide) dX1_predict_14 ?_
  obtain ⟨r7, h8, hf⟩ := q_bd_some hf
  refine v_callV (As := []) (rest := []) (st1 := [.long (q_l r7)]) (some (.long (q_l r7))) hX mv_RX1_71 (c_X3_cross h8) ⟨rfl, rfl⟩ ⟨Nat.le_of_ble_eq_true rfl, Nat.le_of_ble_eq_true rfl⟩ g4 rfl rfl (Nat.le_of_ble_eq_true rfl) ⟨Nat.le_of_ble_eq_true rfl, Nat.le_of_ble_eq_true rfl⟩ dX1_predict_17 rfl ?_
  refine v_aload_n 0 1 hX dX1_predict_20 rfl rfl ?_
  refine v_getA hX fa_RX1_27 (fun _ _ => rfl) g1 g4 (by decide) dX1_predict_21 ?_
  refine v_getJ hX fa_RX1_101 (fun _ _ => rfl) g4 dX1_predict_24 ?_
  refine v_iload_n 2 3 hX dX1_predict_27 rfl rfl ?_
  obtain ⟨g9, hf⟩ := q_gd_some hf
  refine v_i2l hX g9 dX1_predict_28 ?_
  refine v_lmul hX dX1_predict_29 ?_
  refine v_aload_n 0 1 hX dX1_predict_30 rfl rfl ?_
  refine v_getA hX fa_RX1_27 (fun _ _ => rfl) g1 g4 (by decide) dX1_predict_31 ?_
  refine v_getJ hX fa_RX1_105 (fun _ _ => rfl) g4 dX1_predict_34 ?_
  refine v_lsub hX dX1_predict_37 ?_
  refine v_lmul hX dX1_predict_38 ?_
  obtain ⟨x10, e11, hf⟩ := q_lt_nm hf
  rw [e11]
  refine v_lstore (lw := [(5, .long (q_l x10)), (3, .long (q_l r5)), (0, .ref a0), (1, .int (q_i a1)), (2, .int (q_i a2))]) hX dX1_predict_39 (by decide) rfl ?_
  refine v_lload_n 3 1 hX dX1_predict_41 rfl rfl ?_
  refine v_aload_n 0 2 hX dX1_predict_42 rfl rfl ?_
  refine v_getA hX fa_RX1_27 (fun _ _ => rfl) g1 g4 (by decide) dX1_predict_43 ?_
  refine v_getJ hX fa_RX1_108 (fun _ _ => rfl) g4 dX1_predict_46 ?_
  refine v_lmul hX dX1_predict_49 ?_
  refine v_lload 0 hX dX1_predict_50 rfl ?_
  refine v_ladd hX dX1_predict_52 ?_
  refine v_aload_n 0 2 hX dX1_predict_53 rfl rfl ?_
  refine v_getA hX fa_RX1_27 (fun _ _ => rfl) g1 g4 (by decide) dX1_predict_54 ?_
  refine v_getJ hX fa_RX1_101 (fun _ _ => rfl) g4 dX1_predict_57 ?_
  refine v_lload_n 3 1 hX dX1_predict_60 rfl rfl ?_
  refine v_lmul hX dX1_predict_61 ?_
  obtain ⟨r12, h13, hf⟩ := q_bd_some hf
  refine v_callS (As := [.long (q_l ((r5 * (I2 (R a0 2) 2)) + x10)), .long (q_l ((I2 (R a0 2) 0) * r5))]) (rest := []) (st1 := [.long (q_l r12)]) (some (.long (q_l r12))) hX ms_RX1_95 (c_X9_quotient h13) ⟨rfl, rfl⟩ ⟨Nat.le_of_ble_eq_true rfl, Nat.le_of_ble_eq_true rfl⟩ rfl rfl (Nat.le_of_ble_eq_true rfl) ⟨Nat.le_of_ble_eq_true rfl, Nat.le_of_ble_eq_true rfl⟩ dX1_predict_62 rfl ?_
  refine v_l2i hX dX1_predict_65 ?_
  cases hf
  exact v_iret hX hE (Nat.le_of_ble_eq_true rfl) (Nat.le_of_ble_eq_true rfl) dX1_predict_66
