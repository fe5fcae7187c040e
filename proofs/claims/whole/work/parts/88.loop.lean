/-! THE LAW: its loop -/
theorem law_loop {X : q_X} {nm : String} {b L x : Nat} {xs : Nat → Int32} (hX : q_C X cL_law 4 RL ret nm) (hs : l_sc X b L xs) (hL : L ≤ 3584) (hend : ∀ (lv : List (Nat × Value)) (S : q_S) (R : q_HR) (I : q_HI) (cells slots : Nat), cells ≤ 719123 → slots ≤ 6944879 → q_V X room_1 cL_law 4 cells slots 1284 lv [.int (q_i 1)] S R I) : ∀ (d k : Nat) (S : q_S) (R : q_HR) (I : q_HI) (A : q_A), L ≤ 7 * k + d → k ≤ 512 → w_J x S R I A → q_V X room_1 cL_law 4 (198 + 2 * k) (2300 + 7 * k) 18 (l_lv k x b) [] S R I := by
  intro d
  induction d with
  | zero =>
    intro k S R I A hd hk h
    refine v_iload_n 3 0 hX dL_law_18 rfl rfl ?_
    refine v_aload_n 0 3 hX dL_law_19 rfl rfl ?_
    refine v_slen hX hs dL_law_20 ?_
    refine v_bipush 7 hX dL_law_21 (by decide) ?_
    refine v_isub hX dL_law_23 ?_
    refine v_icmp_gt (tgt := 1283) hX (r_iE (by omega) (by omega)) (r_iE (by omega) (by omega)) dL_law_24 (by decide) (fun _ => ?_) (fun e => absurd (show (L : Int) - 7 < 7 * (k : Int) by omega) e)
    refine v_iconst hX dL_law_1283 ?_
    exact hend _ _ _ _ _ _ (by omega) (by omega)
  | succ d ih =>
    intro k S R I A hd hk h
    refine v_iload_n 3 0 hX dL_law_18 rfl rfl ?_
    refine v_aload_n 0 3 hX dL_law_19 rfl rfl ?_
    refine v_slen hX hs dL_law_20 ?_
    refine v_bipush 7 hX dL_law_21 (by decide) ?_
    refine v_isub hX dL_law_23 ?_
    refine v_icmp_gt (tgt := 1283) hX (r_iE (by omega) (by omega)) (r_iE (by omega) (by omega)) dL_law_24 (by decide) (fun _ => ?_) (fun e => ?_)
    · refine v_iconst hX dL_law_1283 ?_
      exact hend _ _ _ _ _ _ (by omega) (by omega)
    · have hk7 : 7 * k + 7 ≤ L := by omega
      have kk : ∀ S2 R2 J A2, w_J x S2 R2 J A2 → q_V X room_1 cL_law 4 (198 + 2 * (k + 1)) (2300 + 7 * (k + 1)) 1277 (l_lv k x b) [] S2 R2 J := fun S2 R2 J A2 h2 => by
        have e7 : 7 * ((k + 1 : Nat) : Int) = 7 * (k : Int) + 7 := by omega
        refine v_iinc 0 (lw := l_lv (k + 1) x b) hX dL_law_1277 rfl (by decide) ?_ ?_
        · show _ = [(3, Value.int (q_i (7 * ((k + 1 : Nat) : Int)))), (2, .ref (x + 171)), (1, .ref x), (0, .ref b)]
          rw [e7]
          rfl
        · refine v_goto (tgt := 18) hX dL_law_1280 (by decide) ?_
          exact ih (k + 1) S2 R2 J A2 (by omega) (by omega) h2
      refine v_aload_n 0 3 hX dL_law_27 rfl rfl ?_
      refine v_iload_n 3 0 hX dL_law_28 rfl rfl ?_
      refine v_sld (i := 7 * k) hX hs (by omega) hL (by omega) dL_law_29 ?_
      refine v_bipush 63 hX dL_law_30 (by decide) ?_
      refine v_iand hX dL_law_32 ?_
      have hz := z_and63 (xs (7 * k)).toInt
      generalize q_and (xs (7 * k)).toInt 63 = z at hz ⊢
      by_cases hb : 44 < z
      · refine v_tabOut (tgt := 1277) hX (r_iE (by omega) (by omega)) dL_law_33 (Or.inr hb) (by decide) ?_
        exact v_widen (k := 198 + 2 * (k + 1)) (n := 2300 + 7 * (k + 1)) (by omega) (by omega) (kk S R I A h)
      obtain ⟨n, rfl, hn⟩ : ∃ n : Nat, z = (n : Int) ∧ n < 45 := ⟨z.toNat, by omega, by omega⟩
      match n, hn with
      | 0, _ => exact v_tabIn (tgt := 228) hX (r_iE (by decide) (by decide)) dL_law_33 (by decide) (by decide) rfl (by decide) (law_0 hX hs hL hk7 h kk)
      | 1, _ => exact v_tabIn (tgt := 251) hX (r_iE (by decide) (by decide)) dL_law_33 (by decide) (by decide) rfl (by decide) (law_1 hX hs hL hk7 h kk)
      | 2, _ => exact v_tabIn (tgt := 264) hX (r_iE (by decide) (by decide)) dL_law_33 (by decide) (by decide) rfl (by decide) (law_2 hX hs hL hk7 h kk)
      | 3, _ => exact v_tabIn (tgt := 297) hX (r_iE (by decide) (by decide)) dL_law_33 (by decide) (by decide) rfl (by decide) (law_3 hX hs hL hk7 h kk)
      | 4, _ => exact v_tabIn (tgt := 372) hX (r_iE (by decide) (by decide)) dL_law_33 (by decide) (by decide) rfl (by decide) (law_4 hX hs hL hk7 h kk)
      | 5, _ => exact v_tabIn (tgt := 395) hX (r_iE (by decide) (by decide)) dL_law_33 (by decide) (by decide) rfl (by decide) (law_5 hX hs hL hk7 h kk)
      | 6, _ => exact v_tabIn (tgt := 418) hX (r_iE (by decide) (by decide)) dL_law_33 (by decide) (by decide) rfl (by decide) (law_6 hX hs hL hk7 h kk)
      | 7, _ => exact v_tabIn (tgt := 431) hX (r_iE (by decide) (by decide)) dL_law_33 (by decide) (by decide) rfl (by decide) (law_7 hX hs hL hk7 h kk)
      | 8, _ => exact v_tabIn (tgt := 444) hX (r_iE (by decide) (by decide)) dL_law_33 (by decide) (by decide) rfl (by decide) (law_8 hX hs hL hk7 h kk)
      | 9, _ => exact v_tabIn (tgt := 467) hX (r_iE (by decide) (by decide)) dL_law_33 (by decide) (by decide) rfl (by decide) (law_9 hX hs hL hk7 h kk)
      | 10, _ => exact v_tabIn (tgt := 506) hX (r_iE (by decide) (by decide)) dL_law_33 (by decide) (by decide) rfl (by decide) (law_10 hX hs hL hk7 h kk)
      | 11, _ => exact v_tabIn (tgt := 529) hX (r_iE (by decide) (by decide)) dL_law_33 (by decide) (by decide) rfl (by decide) (law_11 hX hs hL hk7 h kk)
      | 12, _ => exact v_tabIn (tgt := 542) hX (r_iE (by decide) (by decide)) dL_law_33 (by decide) (by decide) rfl (by decide) (law_12 hX hs hL hk7 h kk)
      | 13, _ => exact v_tabIn (tgt := 565) hX (r_iE (by decide) (by decide)) dL_law_33 (by decide) (by decide) rfl (by decide) (law_13 hX hs hL hk7 h kk)
      | 14, _ => exact v_tabIn (tgt := 578) hX (r_iE (by decide) (by decide)) dL_law_33 (by decide) (by decide) rfl (by decide) (law_14 hX hs hL hk7 h kk)
      | 15, _ => exact v_tabIn (tgt := 617) hX (r_iE (by decide) (by decide)) dL_law_33 (by decide) (by decide) rfl (by decide) (law_15 hX hs hL hk7 h kk)
      | 16, _ => exact v_tabIn (tgt := 650) hX (r_iE (by decide) (by decide)) dL_law_33 (by decide) (by decide) rfl (by decide) (law_16 hX hs hL hk7 h kk)
      | 17, _ => exact v_tabIn (tgt := 663) hX (r_iE (by decide) (by decide)) dL_law_33 (by decide) (by decide) rfl (by decide) (law_17 hX hs hL hk7 h kk)
      | 18, _ => exact v_tabIn (tgt := 676) hX (r_iE (by decide) (by decide)) dL_law_33 (by decide) (by decide) rfl (by decide) (law_18 hX hs hL hk7 h kk)
      | 19, _ => exact v_tabIn (tgt := 699) hX (r_iE (by decide) (by decide)) dL_law_33 (by decide) (by decide) rfl (by decide) (law_19 hX hs hL hk7 h kk)
      | 20, _ => exact v_tabIn (tgt := 732) hX (r_iE (by decide) (by decide)) dL_law_33 (by decide) (by decide) rfl (by decide) (law_20 hX hs hL hk7 h kk)
      | 21, _ => exact v_tabIn (tgt := 765) hX (r_iE (by decide) (by decide)) dL_law_33 (by decide) (by decide) rfl (by decide) (law_21 hX hs hL hk7 h kk)
      | 22, _ => exact v_tabIn (tgt := 788) hX (r_iE (by decide) (by decide)) dL_law_33 (by decide) (by decide) rfl (by decide) (law_22 hX hs hL hk7 h kk)
      | 23, _ => exact v_tabIn (tgt := 811) hX (r_iE (by decide) (by decide)) dL_law_33 (by decide) (by decide) rfl (by decide) (law_23 hX hs hL hk7 h kk)
      | 24, _ => exact v_tabIn (tgt := 824) hX (r_iE (by decide) (by decide)) dL_law_33 (by decide) (by decide) rfl (by decide) (law_24 hX hs hL hk7 h kk)
      | 25, _ => exact v_tabIn (tgt := 837) hX (r_iE (by decide) (by decide)) dL_law_33 (by decide) (by decide) rfl (by decide) (law_25 hX hs hL hk7 h kk)
      | 26, _ => exact v_tabIn (tgt := 860) hX (r_iE (by decide) (by decide)) dL_law_33 (by decide) (by decide) rfl (by decide) (law_26 hX hs hL hk7 h kk)
      | 27, _ => exact v_tabIn (tgt := 883) hX (r_iE (by decide) (by decide)) dL_law_33 (by decide) (by decide) rfl (by decide) (law_27 hX hs hL hk7 h kk)
      | 28, _ => exact v_tabIn (tgt := 906) hX (r_iE (by decide) (by decide)) dL_law_33 (by decide) (by decide) rfl (by decide) (law_28 hX hs hL hk7 h kk)
      | 29, _ => exact v_tabIn (tgt := 919) hX (r_iE (by decide) (by decide)) dL_law_33 (by decide) (by decide) rfl (by decide) (law_29 hX hs hL hk7 h kk)
      | 30, _ => exact v_tabIn (tgt := 952) hX (r_iE (by decide) (by decide)) dL_law_33 (by decide) (by decide) rfl (by decide) (law_30 hX hs hL hk7 h kk)
      | 31, _ => exact v_tabIn (tgt := 965) hX (r_iE (by decide) (by decide)) dL_law_33 (by decide) (by decide) rfl (by decide) (law_31 hX hs hL hk7 h kk)
      | 32, _ => exact v_tabIn (tgt := 978) hX (r_iE (by decide) (by decide)) dL_law_33 (by decide) (by decide) rfl (by decide) (law_32 hX hs hL hk7 h kk)
      | 33, _ => exact v_tabIn (tgt := 1001) hX (r_iE (by decide) (by decide)) dL_law_33 (by decide) (by decide) rfl (by decide) (law_33 hX hs hL hk7 h kk)
      | 34, _ => exact v_tabIn (tgt := 1024) hX (r_iE (by decide) (by decide)) dL_law_33 (by decide) (by decide) rfl (by decide) (law_34 hX hs hL hk7 h kk)
      | 35, _ => exact v_tabIn (tgt := 1047) hX (r_iE (by decide) (by decide)) dL_law_33 (by decide) (by decide) rfl (by decide) (law_35 hX hs hL hk7 h kk)
      | 36, _ => exact v_tabIn (tgt := 1070) hX (r_iE (by decide) (by decide)) dL_law_33 (by decide) (by decide) rfl (by decide) (law_36 hX hs hL hk7 h kk)
      | 37, _ => exact v_tabIn (tgt := 1103) hX (r_iE (by decide) (by decide)) dL_law_33 (by decide) (by decide) rfl (by decide) (law_37 hX hs hL hk7 h kk)
      | 38, _ => exact v_tabIn (tgt := 1136) hX (r_iE (by decide) (by decide)) dL_law_33 (by decide) (by decide) rfl (by decide) (law_38 hX hs hL hk7 h kk)
      | 39, _ => exact v_tabIn (tgt := 1149) hX (r_iE (by decide) (by decide)) dL_law_33 (by decide) (by decide) rfl (by decide) (law_39 hX hs hL hk7 h kk)
      | 40, _ => exact v_tabIn (tgt := 1172) hX (r_iE (by decide) (by decide)) dL_law_33 (by decide) (by decide) rfl (by decide) (law_40 hX hs hL hk7 h kk)
      | 41, _ => exact v_tabIn (tgt := 1195) hX (r_iE (by decide) (by decide)) dL_law_33 (by decide) (by decide) rfl (by decide) (law_41 hX hs hL hk7 h kk)
      | 42, _ => exact v_tabIn (tgt := 1218) hX (r_iE (by decide) (by decide)) dL_law_33 (by decide) (by decide) rfl (by decide) (law_42 hX hs hL hk7 h kk)
      | 43, _ => exact v_tabIn (tgt := 1231) hX (r_iE (by decide) (by decide)) dL_law_33 (by decide) (by decide) rfl (by decide) (law_43 hX hs hL hk7 h kk)
      | 44, _ => exact v_tabIn (tgt := 1254) hX (r_iE (by decide) (by decide)) dL_law_33 (by decide) (by decide) rfl (by decide) (law_44 hX hs hL hk7 h kk)
      | n + 45, hn => omega
