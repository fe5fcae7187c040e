/-! THE LAW: its cases 15 to 29 -/
theorem law_15 {X : q_X} {nm : String} {b L k x : Nat} {xs : Nat → Int32} {S : q_S} {R : q_HR} {I : q_HI} {A : q_A} (hX : q_C X cL_law 4 RL ret nm) (hs : l_sc X b L xs) (hL : L ≤ 3584) (hk : 7 * k + 7 ≤ L) (h : w_J x S R I A) (kk : ∀ S2 R2 J A2, w_J x S2 R2 J A2 → q_V X room_1 cL_law 4 (198 + 2 * (k + 1)) (2300 + 7 * (k + 1)) 1277 (l_lv k x b) [] S2 R2 J) : q_V X room_1 cL_law 4 (198 + 2 * k) (2300 + 7 * k) 617 (l_lv k x b) [] S R I := by
  obtain ⟨r, I', J, A', q1, q2, h'⟩ := st_predictedReference h (r_iI (xs (7 * k + 1))) (r_iI (xs (7 * k + 2)))
  refine v_aload_n 1 2 hX dL_law_617 rfl rfl ?_
  refine v_aload_n 0 3 hX dL_law_618 rfl rfl ?_
  refine v_iload_n 3 0 hX dL_law_619 rfl rfl ?_
  refine v_iconst hX dL_law_620 ?_
  refine v_iadd hX dL_law_621 ?_
  refine v_sld (i := 7 * k + 1) hX hs (by omega) hL (by omega) dL_law_622 ?_
  refine v_aload_n 0 3 hX dL_law_623 rfl rfl ?_
  refine v_iload_n 3 0 hX dL_law_624 rfl rfl ?_
  refine v_iconst hX dL_law_625 ?_
  refine v_iadd hX dL_law_626 ?_
  refine v_sld (i := 7 * k + 2) hX hs (by omega) hL (by omega) dL_law_627 ?_
  refine v_callV (As := [.int (q_i ((xs (7 * k + 1)).toInt)), .int (q_i ((xs (7 * k + 2)).toInt))]) (rest := []) (st1 := [.int (q_i r)]) (some (.int (q_i r))) hX mv_RL_78 (c_X9_predictedReference q1) ⟨rfl, rfl⟩ ⟨Nat.le_of_ble_eq_true rfl, Nat.le_of_ble_eq_true rfl⟩ (k_0 h.1) rfl rfl (Nat.le_of_ble_eq_true rfl) ⟨by show _ ≤ 719123; omega, by show _ ≤ 6944879; omega⟩ dL_law_628 rfl ?_
  refine v_aload_n 2 1 hX dL_law_631 rfl rfl ?_
  refine v_aload_n 0 3 hX dL_law_632 rfl rfl ?_
  refine v_iload_n 3 0 hX dL_law_633 rfl rfl ?_
  refine v_iconst hX dL_law_634 ?_
  refine v_iadd hX dL_law_635 ?_
  refine v_sld (i := 7 * k + 1) hX hs (by omega) hL (by omega) dL_law_636 ?_
  refine v_aload_n 0 3 hX dL_law_637 rfl rfl ?_
  refine v_iload_n 3 0 hX dL_law_638 rfl rfl ?_
  refine v_iconst hX dL_law_639 ?_
  refine v_iadd hX dL_law_640 ?_
  refine v_sld (i := 7 * k + 2) hX hs (by omega) hL (by omega) dL_law_641 ?_
  refine v_callV (As := [.int (q_i ((xs (7 * k + 1)).toInt)), .int (q_i ((xs (7 * k + 2)).toInt))]) (rest := [.int (q_i r)]) (st1 := [.int (q_i r), .int (q_i r)]) (some (.int (q_i r))) hX mv_RL_81 (c_X10_predictedReference q2) ⟨rfl, rfl⟩ ⟨Nat.le_of_ble_eq_true rfl, Nat.le_of_ble_eq_true rfl⟩ (k_171 h'.1) rfl rfl (Nat.le_of_ble_eq_true rfl) ⟨by show _ ≤ 719123; omega, by show _ ≤ 6944879; omega⟩ dL_law_642 rfl ?_
  refine v_same (tgt := 1277) hX dL_law_645 (by decide) ?_
  exact v_widen (k := 198 + 2 * (k + 1)) (n := 2300 + 7 * (k + 1)) (by omega) (by omega) (kk _ _ _ _ h')
theorem law_16 {X : q_X} {nm : String} {b L k x : Nat} {xs : Nat → Int32} {S : q_S} {R : q_HR} {I : q_HI} {A : q_A} (hX : q_C X cL_law 4 RL ret nm) (hs : l_sc X b L xs) (hL : L ≤ 3584) (hk : 7 * k + 7 ≤ L) (h : w_J x S R I A) (kk : ∀ S2 R2 J A2, w_J x S2 R2 J A2 → q_V X room_1 cL_law 4 (198 + 2 * (k + 1)) (2300 + 7 * (k + 1)) 1277 (l_lv k x b) [] S2 R2 J) : q_V X room_1 cL_law 4 (198 + 2 * k) (2300 + 7 * k) 650 (l_lv k x b) [] S R I := by
  obtain ⟨r, I', J, A', q1, q2, h'⟩ := st_addClass h
  refine v_aload_n 1 2 hX dL_law_650 rfl rfl ?_
  refine v_callV (As := []) (rest := []) (st1 := [.int (q_i r)]) (some (.int (q_i r))) hX mv_RL_82 (c_X9_addClass q1) ⟨rfl, rfl⟩ ⟨Nat.le_of_ble_eq_true rfl, Nat.le_of_ble_eq_true rfl⟩ (k_0 h.1) rfl rfl (Nat.le_of_ble_eq_true rfl) ⟨by show _ ≤ 719123; omega, by show _ ≤ 6944879; omega⟩ dL_law_651 rfl ?_
  refine v_aload_n 2 1 hX dL_law_654 rfl rfl ?_
  refine v_callV (As := []) (rest := [.int (q_i r)]) (st1 := [.int (q_i r), .int (q_i r)]) (some (.int (q_i r))) hX mv_RL_85 (c_X10_addClass q2) ⟨rfl, rfl⟩ ⟨Nat.le_of_ble_eq_true rfl, Nat.le_of_ble_eq_true rfl⟩ (k_171 h'.1) rfl rfl (Nat.le_of_ble_eq_true rfl) ⟨by show _ ≤ 719123; omega, by show _ ≤ 6944879; omega⟩ dL_law_655 rfl ?_
  refine v_same (tgt := 1277) hX dL_law_658 (by decide) ?_
  exact v_widen (k := 198 + 2 * (k + 1)) (n := 2300 + 7 * (k + 1)) (by omega) (by omega) (kk _ _ _ _ h')
theorem law_17 {X : q_X} {nm : String} {b L k x : Nat} {xs : Nat → Int32} {S : q_S} {R : q_HR} {I : q_HI} {A : q_A} (hX : q_C X cL_law 4 RL ret nm) (hs : l_sc X b L xs) (hL : L ≤ 3584) (hk : 7 * k + 7 ≤ L) (h : w_J x S R I A) (kk : ∀ S2 R2 J A2, w_J x S2 R2 J A2 → q_V X room_1 cL_law 4 (198 + 2 * (k + 1)) (2300 + 7 * (k + 1)) 1277 (l_lv k x b) [] S2 R2 J) : q_V X room_1 cL_law 4 (198 + 2 * k) (2300 + 7 * k) 663 (l_lv k x b) [] S R I := by
  obtain ⟨r, J, A', q1, q2, h'⟩ := st_classCount h
  refine v_aload_n 1 2 hX dL_law_663 rfl rfl ?_
  refine v_callV (As := []) (rest := []) (st1 := [.int (q_i r)]) (some (.int (q_i r))) hX mv_RL_86 (c_X9_classCount q1) ⟨rfl, rfl⟩ ⟨Nat.le_of_ble_eq_true rfl, Nat.le_of_ble_eq_true rfl⟩ (k_0 h.1) rfl rfl (Nat.le_of_ble_eq_true rfl) ⟨by show _ ≤ 719123; omega, by show _ ≤ 6944879; omega⟩ dL_law_664 rfl ?_
  refine v_aload_n 2 1 hX dL_law_667 rfl rfl ?_
  refine v_callV (As := []) (rest := [.int (q_i r)]) (st1 := [.int (q_i r), .int (q_i r)]) (some (.int (q_i r))) hX mv_RL_89 (c_X10_classCount q2) ⟨rfl, rfl⟩ ⟨Nat.le_of_ble_eq_true rfl, Nat.le_of_ble_eq_true rfl⟩ (k_171 h'.1) rfl rfl (Nat.le_of_ble_eq_true rfl) ⟨by show _ ≤ 719123; omega, by show _ ≤ 6944879; omega⟩ dL_law_668 rfl ?_
  refine v_same (tgt := 1277) hX dL_law_671 (by decide) ?_
  exact v_widen (k := 198 + 2 * (k + 1)) (n := 2300 + 7 * (k + 1)) (by omega) (by omega) (kk _ _ _ _ h')
theorem law_18 {X : q_X} {nm : String} {b L k x : Nat} {xs : Nat → Int32} {S : q_S} {R : q_HR} {I : q_HI} {A : q_A} (hX : q_C X cL_law 4 RL ret nm) (hs : l_sc X b L xs) (hL : L ≤ 3584) (hk : 7 * k + 7 ≤ L) (h : w_J x S R I A) (kk : ∀ S2 R2 J A2, w_J x S2 R2 J A2 → q_V X room_1 cL_law 4 (198 + 2 * (k + 1)) (2300 + 7 * (k + 1)) 1277 (l_lv k x b) [] S2 R2 J) : q_V X room_1 cL_law 4 (198 + 2 * k) (2300 + 7 * k) 676 (l_lv k x b) [] S R I := by
  obtain ⟨r, R', I', J, A', q1, q2, h'⟩ := st_addSample h (r_iI (xs (7 * k + 1)))
  refine v_aload_n 1 2 hX dL_law_676 rfl rfl ?_
  refine v_aload_n 0 3 hX dL_law_677 rfl rfl ?_
  refine v_iload_n 3 0 hX dL_law_678 rfl rfl ?_
  refine v_iconst hX dL_law_679 ?_
  refine v_iadd hX dL_law_680 ?_
  refine v_sld (i := 7 * k + 1) hX hs (by omega) hL (by omega) dL_law_681 ?_
  refine v_callV (As := [.int (q_i ((xs (7 * k + 1)).toInt))]) (rest := []) (st1 := [.int (q_i r)]) (some (.int (q_i r))) hX mv_RL_90 (c_X9_addSample q1) ⟨rfl, rfl⟩ ⟨Nat.le_of_ble_eq_true rfl, Nat.le_of_ble_eq_true rfl⟩ (k_0 h.1) rfl rfl (Nat.le_of_ble_eq_true rfl) ⟨by show _ ≤ 719123; omega, by show _ ≤ 6944879; omega⟩ dL_law_682 rfl ?_
  refine v_aload_n 2 1 hX dL_law_685 rfl rfl ?_
  refine v_aload_n 0 3 hX dL_law_686 rfl rfl ?_
  refine v_iload_n 3 0 hX dL_law_687 rfl rfl ?_
  refine v_iconst hX dL_law_688 ?_
  refine v_iadd hX dL_law_689 ?_
  refine v_sld (i := 7 * k + 1) hX hs (by omega) hL (by omega) dL_law_690 ?_
  refine v_callV (As := [.int (q_i ((xs (7 * k + 1)).toInt))]) (rest := [.int (q_i r)]) (st1 := [.int (q_i r), .int (q_i r)]) (some (.int (q_i r))) hX mv_RL_93 (c_X10_addSample q2) ⟨rfl, rfl⟩ ⟨Nat.le_of_ble_eq_true rfl, Nat.le_of_ble_eq_true rfl⟩ (k_171 h'.1) rfl rfl (Nat.le_of_ble_eq_true rfl) ⟨by show _ ≤ 719123; omega, by show _ ≤ 6944879; omega⟩ dL_law_691 rfl ?_
  refine v_same (tgt := 1277) hX dL_law_694 (by decide) ?_
  exact v_widen (k := 198 + 2 * (k + 1)) (n := 2300 + 7 * (k + 1)) (by omega) (by omega) (kk _ _ _ _ h')
theorem law_19 {X : q_X} {nm : String} {b L k x : Nat} {xs : Nat → Int32} {S : q_S} {R : q_HR} {I : q_HI} {A : q_A} (hX : q_C X cL_law 4 RL ret nm) (hs : l_sc X b L xs) (hL : L ≤ 3584) (hk : 7 * k + 7 ≤ L) (h : w_J x S R I A) (kk : ∀ S2 R2 J A2, w_J x S2 R2 J A2 → q_V X room_1 cL_law 4 (198 + 2 * (k + 1)) (2300 + 7 * (k + 1)) 1277 (l_lv k x b) [] S2 R2 J) : q_V X room_1 cL_law 4 (198 + 2 * k) (2300 + 7 * k) 699 (l_lv k x b) [] S R I := by
  obtain ⟨r, R', I', J, A', q1, q2, h'⟩ := st_removeSample h (r_iI (xs (7 * k + 1))) (r_iI (xs (7 * k + 2)))
  refine v_aload_n 1 2 hX dL_law_699 rfl rfl ?_
  refine v_aload_n 0 3 hX dL_law_700 rfl rfl ?_
  refine v_iload_n 3 0 hX dL_law_701 rfl rfl ?_
  refine v_iconst hX dL_law_702 ?_
  refine v_iadd hX dL_law_703 ?_
  refine v_sld (i := 7 * k + 1) hX hs (by omega) hL (by omega) dL_law_704 ?_
  refine v_aload_n 0 3 hX dL_law_705 rfl rfl ?_
  refine v_iload_n 3 0 hX dL_law_706 rfl rfl ?_
  refine v_iconst hX dL_law_707 ?_
  refine v_iadd hX dL_law_708 ?_
  refine v_sld (i := 7 * k + 2) hX hs (by omega) hL (by omega) dL_law_709 ?_
  refine v_callV (As := [.int (q_i ((xs (7 * k + 1)).toInt)), .int (q_i ((xs (7 * k + 2)).toInt))]) (rest := []) (st1 := [.int (q_i r)]) (some (.int (q_i r))) hX mv_RL_94 (c_X9_removeSample q1) ⟨rfl, rfl⟩ ⟨Nat.le_of_ble_eq_true rfl, Nat.le_of_ble_eq_true rfl⟩ (k_0 h.1) rfl rfl (Nat.le_of_ble_eq_true rfl) ⟨by show _ ≤ 719123; omega, by show _ ≤ 6944879; omega⟩ dL_law_710 rfl ?_
  refine v_aload_n 2 1 hX dL_law_713 rfl rfl ?_
  refine v_aload_n 0 3 hX dL_law_714 rfl rfl ?_
  refine v_iload_n 3 0 hX dL_law_715 rfl rfl ?_
  refine v_iconst hX dL_law_716 ?_
  refine v_iadd hX dL_law_717 ?_
  refine v_sld (i := 7 * k + 1) hX hs (by omega) hL (by omega) dL_law_718 ?_
  refine v_aload_n 0 3 hX dL_law_719 rfl rfl ?_
  refine v_iload_n 3 0 hX dL_law_720 rfl rfl ?_
  refine v_iconst hX dL_law_721 ?_
  refine v_iadd hX dL_law_722 ?_
  refine v_sld (i := 7 * k + 2) hX hs (by omega) hL (by omega) dL_law_723 ?_
  refine v_callV (As := [.int (q_i ((xs (7 * k + 1)).toInt)), .int (q_i ((xs (7 * k + 2)).toInt))]) (rest := [.int (q_i r)]) (st1 := [.int (q_i r), .int (q_i r)]) (some (.int (q_i r))) hX mv_RL_97 (c_X10_removeSample q2) ⟨rfl, rfl⟩ ⟨Nat.le_of_ble_eq_true rfl, Nat.le_of_ble_eq_true rfl⟩ (k_171 h'.1) rfl rfl (Nat.le_of_ble_eq_true rfl) ⟨by show _ ≤ 719123; omega, by show _ ≤ 6944879; omega⟩ dL_law_724 rfl ?_
  refine v_same (tgt := 1277) hX dL_law_727 (by decide) ?_
  exact v_widen (k := 198 + 2 * (k + 1)) (n := 2300 + 7 * (k + 1)) (by omega) (by omega) (kk _ _ _ _ h')
theorem law_20 {X : q_X} {nm : String} {b L k x : Nat} {xs : Nat → Int32} {S : q_S} {R : q_HR} {I : q_HI} {A : q_A} (hX : q_C X cL_law 4 RL ret nm) (hs : l_sc X b L xs) (hL : L ≤ 3584) (hk : 7 * k + 7 ≤ L) (h : w_J x S R I A) (kk : ∀ S2 R2 J A2, w_J x S2 R2 J A2 → q_V X room_1 cL_law 4 (198 + 2 * (k + 1)) (2300 + 7 * (k + 1)) 1277 (l_lv k x b) [] S2 R2 J) : q_V X room_1 cL_law 4 (198 + 2 * k) (2300 + 7 * k) 732 (l_lv k x b) [] S R I := by
  obtain ⟨r, R', I', J, A', q1, q2, h'⟩ := st_recall h (r_iI (xs (7 * k + 1))) (r_iI (xs (7 * k + 2)))
  refine v_aload_n 1 2 hX dL_law_732 rfl rfl ?_
  refine v_aload_n 0 3 hX dL_law_733 rfl rfl ?_
  refine v_iload_n 3 0 hX dL_law_734 rfl rfl ?_
  refine v_iconst hX dL_law_735 ?_
  refine v_iadd hX dL_law_736 ?_
  refine v_sld (i := 7 * k + 1) hX hs (by omega) hL (by omega) dL_law_737 ?_
  refine v_aload_n 0 3 hX dL_law_738 rfl rfl ?_
  refine v_iload_n 3 0 hX dL_law_739 rfl rfl ?_
  refine v_iconst hX dL_law_740 ?_
  refine v_iadd hX dL_law_741 ?_
  refine v_sld (i := 7 * k + 2) hX hs (by omega) hL (by omega) dL_law_742 ?_
  refine v_callV (As := [.int (q_i ((xs (7 * k + 1)).toInt)), .int (q_i ((xs (7 * k + 2)).toInt))]) (rest := []) (st1 := [.int (q_i r)]) (some (.int (q_i r))) hX mv_RL_98 (c_X9_recall q1) ⟨rfl, rfl⟩ ⟨Nat.le_of_ble_eq_true rfl, Nat.le_of_ble_eq_true rfl⟩ (k_0 h.1) rfl rfl (Nat.le_of_ble_eq_true rfl) ⟨by show _ ≤ 719123; omega, by show _ ≤ 6944879; omega⟩ dL_law_743 rfl ?_
  refine v_aload_n 2 1 hX dL_law_746 rfl rfl ?_
  refine v_aload_n 0 3 hX dL_law_747 rfl rfl ?_
  refine v_iload_n 3 0 hX dL_law_748 rfl rfl ?_
  refine v_iconst hX dL_law_749 ?_
  refine v_iadd hX dL_law_750 ?_
  refine v_sld (i := 7 * k + 1) hX hs (by omega) hL (by omega) dL_law_751 ?_
  refine v_aload_n 0 3 hX dL_law_752 rfl rfl ?_
  refine v_iload_n 3 0 hX dL_law_753 rfl rfl ?_
  refine v_iconst hX dL_law_754 ?_
  refine v_iadd hX dL_law_755 ?_
  refine v_sld (i := 7 * k + 2) hX hs (by omega) hL (by omega) dL_law_756 ?_
  refine v_callV (As := [.int (q_i ((xs (7 * k + 1)).toInt)), .int (q_i ((xs (7 * k + 2)).toInt))]) (rest := [.int (q_i r)]) (st1 := [.int (q_i r), .int (q_i r)]) (some (.int (q_i r))) hX mv_RL_101 (c_X10_recall q2) ⟨rfl, rfl⟩ ⟨Nat.le_of_ble_eq_true rfl, Nat.le_of_ble_eq_true rfl⟩ (k_171 h'.1) rfl rfl (Nat.le_of_ble_eq_true rfl) ⟨by show _ ≤ 719123; omega, by show _ ≤ 6944879; omega⟩ dL_law_757 rfl ?_
  refine v_same (tgt := 1277) hX dL_law_760 (by decide) ?_
  exact v_widen (k := 198 + 2 * (k + 1)) (n := 2300 + 7 * (k + 1)) (by omega) (by omega) (kk _ _ _ _ h')
theorem law_21 {X : q_X} {nm : String} {b L k x : Nat} {xs : Nat → Int32} {S : q_S} {R : q_HR} {I : q_HI} {A : q_A} (hX : q_C X cL_law 4 RL ret nm) (hs : l_sc X b L xs) (hL : L ≤ 3584) (hk : 7 * k + 7 ≤ L) (h : w_J x S R I A) (kk : ∀ S2 R2 J A2, w_J x S2 R2 J A2 → q_V X room_1 cL_law 4 (198 + 2 * (k + 1)) (2300 + 7 * (k + 1)) 1277 (l_lv k x b) [] S2 R2 J) : q_V X room_1 cL_law 4 (198 + 2 * k) (2300 + 7 * k) 765 (l_lv k x b) [] S R I := by
  obtain ⟨r, J, A', q1, q2, h'⟩ := st_sampleCount h (r_iI (xs (7 * k + 1)))
  refine v_aload_n 1 2 hX dL_law_765 rfl rfl ?_
  refine v_aload_n 0 3 hX dL_law_766 rfl rfl ?_
  refine v_iload_n 3 0 hX dL_law_767 rfl rfl ?_
  refine v_iconst hX dL_law_768 ?_
  refine v_iadd hX dL_law_769 ?_
  refine v_sld (i := 7 * k + 1) hX hs (by omega) hL (by omega) dL_law_770 ?_
  refine v_callV (As := [.int (q_i ((xs (7 * k + 1)).toInt))]) (rest := []) (st1 := [.int (q_i r)]) (some (.int (q_i r))) hX mv_RL_102 (c_X9_sampleCount q1) ⟨rfl, rfl⟩ ⟨Nat.le_of_ble_eq_true rfl, Nat.le_of_ble_eq_true rfl⟩ (k_0 h.1) rfl rfl (Nat.le_of_ble_eq_true rfl) ⟨by show _ ≤ 719123; omega, by show _ ≤ 6944879; omega⟩ dL_law_771 rfl ?_
  refine v_aload_n 2 1 hX dL_law_774 rfl rfl ?_
  refine v_aload_n 0 3 hX dL_law_775 rfl rfl ?_
  refine v_iload_n 3 0 hX dL_law_776 rfl rfl ?_
  refine v_iconst hX dL_law_777 ?_
  refine v_iadd hX dL_law_778 ?_
  refine v_sld (i := 7 * k + 1) hX hs (by omega) hL (by omega) dL_law_779 ?_
  refine v_callV (As := [.int (q_i ((xs (7 * k + 1)).toInt))]) (rest := [.int (q_i r)]) (st1 := [.int (q_i r), .int (q_i r)]) (some (.int (q_i r))) hX mv_RL_105 (c_X10_sampleCount q2) ⟨rfl, rfl⟩ ⟨Nat.le_of_ble_eq_true rfl, Nat.le_of_ble_eq_true rfl⟩ (k_171 h'.1) rfl rfl (Nat.le_of_ble_eq_true rfl) ⟨by show _ ≤ 719123; omega, by show _ ≤ 6944879; omega⟩ dL_law_780 rfl ?_
  refine v_same (tgt := 1277) hX dL_law_783 (by decide) ?_
  exact v_widen (k := 198 + 2 * (k + 1)) (n := 2300 + 7 * (k + 1)) (by omega) (by omega) (kk _ _ _ _ h')
theorem law_22 {X : q_X} {nm : String} {b L k x : Nat} {xs : Nat → Int32} {S : q_S} {R : q_HR} {I : q_HI} {A : q_A} (hX : q_C X cL_law 4 RL ret nm) (hs : l_sc X b L xs) (hL : L ≤ 3584) (hk : 7 * k + 7 ≤ L) (h : w_J x S R I A) (kk : ∀ S2 R2 J A2, w_J x S2 R2 J A2 → q_V X room_1 cL_law 4 (198 + 2 * (k + 1)) (2300 + 7 * (k + 1)) 1277 (l_lv k x b) [] S2 R2 J) : q_V X room_1 cL_law 4 (198 + 2 * k) (2300 + 7 * k) 788 (l_lv k x b) [] S R I := by
  obtain ⟨r, I', J, A', q1, q2, h'⟩ := st_distance h (r_iI (xs (7 * k + 1)))
  refine v_aload_n 1 2 hX dL_law_788 rfl rfl ?_
  refine v_aload_n 0 3 hX dL_law_789 rfl rfl ?_
  refine v_iload_n 3 0 hX dL_law_790 rfl rfl ?_
  refine v_iconst hX dL_law_791 ?_
  refine v_iadd hX dL_law_792 ?_
  refine v_sld (i := 7 * k + 1) hX hs (by omega) hL (by omega) dL_law_793 ?_
  refine v_callV (As := [.int (q_i ((xs (7 * k + 1)).toInt))]) (rest := []) (st1 := [.int (q_i r)]) (some (.int (q_i r))) hX mv_RL_106 (c_X9_distance q1) ⟨rfl, rfl⟩ ⟨Nat.le_of_ble_eq_true rfl, Nat.le_of_ble_eq_true rfl⟩ (k_0 h.1) rfl rfl (Nat.le_of_ble_eq_true rfl) ⟨by show _ ≤ 719123; omega, by show _ ≤ 6944879; omega⟩ dL_law_794 rfl ?_
  refine v_aload_n 2 1 hX dL_law_797 rfl rfl ?_
  refine v_aload_n 0 3 hX dL_law_798 rfl rfl ?_
  refine v_iload_n 3 0 hX dL_law_799 rfl rfl ?_
  refine v_iconst hX dL_law_800 ?_
  refine v_iadd hX dL_law_801 ?_
  refine v_sld (i := 7 * k + 1) hX hs (by omega) hL (by omega) dL_law_802 ?_
  refine v_callV (As := [.int (q_i ((xs (7 * k + 1)).toInt))]) (rest := [.int (q_i r)]) (st1 := [.int (q_i r), .int (q_i r)]) (some (.int (q_i r))) hX mv_RL_109 (c_X10_distance q2) ⟨rfl, rfl⟩ ⟨Nat.le_of_ble_eq_true rfl, Nat.le_of_ble_eq_true rfl⟩ (k_171 h'.1) rfl rfl (Nat.le_of_ble_eq_true rfl) ⟨by show _ ≤ 719123; omega, by show _ ≤ 6944879; omega⟩ dL_law_803 rfl ?_
  refine v_same (tgt := 1277) hX dL_law_806 (by decide) ?_
  exact v_widen (k := 198 + 2 * (k + 1)) (n := 2300 + 7 * (k + 1)) (by omega) (by omega) (kk _ _ _ _ h')
theorem law_23 {X : q_X} {nm : String} {b L k x : Nat} {xs : Nat → Int32} {S : q_S} {R : q_HR} {I : q_HI} {A : q_A} (hX : q_C X cL_law 4 RL ret nm) (hs : l_sc X b L xs) (hL : L ≤ 3584) (hk : 7 * k + 7 ≤ L) (h : w_J x S R I A) (kk : ∀ S2 R2 J A2, w_J x S2 R2 J A2 → q_V X room_1 cL_law 4 (198 + 2 * (k + 1)) (2300 + 7 * (k + 1)) 1277 (l_lv k x b) [] S2 R2 J) : q_V X room_1 cL_law 4 (198 + 2 * k) (2300 + 7 * k) 811 (l_lv k x b) [] S R I := by
  obtain ⟨r, I', J, A', q1, q2, h'⟩ := st_nearestClass h
  refine v_aload_n 1 2 hX dL_law_811 rfl rfl ?_
  refine v_callV (As := []) (rest := []) (st1 := [.int (q_i r)]) (some (.int (q_i r))) hX mv_RL_110 (c_X9_nearestClass q1) ⟨rfl, rfl⟩ ⟨Nat.le_of_ble_eq_true rfl, Nat.le_of_ble_eq_true rfl⟩ (k_0 h.1) rfl rfl (Nat.le_of_ble_eq_true rfl) ⟨by show _ ≤ 719123; omega, by show _ ≤ 6944879; omega⟩ dL_law_812 rfl ?_
  refine v_aload_n 2 1 hX dL_law_815 rfl rfl ?_
  refine v_callV (As := []) (rest := [.int (q_i r)]) (st1 := [.int (q_i r), .int (q_i r)]) (some (.int (q_i r))) hX mv_RL_113 (c_X10_nearestClass q2) ⟨rfl, rfl⟩ ⟨Nat.le_of_ble_eq_true rfl, Nat.le_of_ble_eq_true rfl⟩ (k_171 h'.1) rfl rfl (Nat.le_of_ble_eq_true rfl) ⟨by show _ ≤ 719123; omega, by show _ ≤ 6944879; omega⟩ dL_law_816 rfl ?_
  refine v_same (tgt := 1277) hX dL_law_819 (by decide) ?_
  exact v_widen (k := 198 + 2 * (k + 1)) (n := 2300 + 7 * (k + 1)) (by omega) (by omega) (kk _ _ _ _ h')
theorem law_24 {X : q_X} {nm : String} {b L k x : Nat} {xs : Nat → Int32} {S : q_S} {R : q_HR} {I : q_HI} {A : q_A} (hX : q_C X cL_law 4 RL ret nm) (hs : l_sc X b L xs) (hL : L ≤ 3584) (hk : 7 * k + 7 ≤ L) (h : w_J x S R I A) (kk : ∀ S2 R2 J A2, w_J x S2 R2 J A2 → q_V X room_1 cL_law 4 (198 + 2 * (k + 1)) (2300 + 7 * (k + 1)) 1277 (l_lv k x b) [] S2 R2 J) : q_V X room_1 cL_law 4 (198 + 2 * k) (2300 + 7 * k) 824 (l_lv k x b) [] S R I := by
  obtain ⟨r, I', J, A', q1, q2, h'⟩ := st_runnerUp h
  refine v_aload_n 1 2 hX dL_law_824 rfl rfl ?_
  refine v_callV (As := []) (rest := []) (st1 := [.int (q_i r)]) (some (.int (q_i r))) hX mv_RL_114 (c_X9_runnerUp q1) ⟨rfl, rfl⟩ ⟨Nat.le_of_ble_eq_true rfl, Nat.le_of_ble_eq_true rfl⟩ (k_0 h.1) rfl rfl (Nat.le_of_ble_eq_true rfl) ⟨by show _ ≤ 719123; omega, by show _ ≤ 6944879; omega⟩ dL_law_825 rfl ?_
  refine v_aload_n 2 1 hX dL_law_828 rfl rfl ?_
  refine v_callV (As := []) (rest := [.int (q_i r)]) (st1 := [.int (q_i r), .int (q_i r)]) (some (.int (q_i r))) hX mv_RL_117 (c_X10_runnerUp q2) ⟨rfl, rfl⟩ ⟨Nat.le_of_ble_eq_true rfl, Nat.le_of_ble_eq_true rfl⟩ (k_171 h'.1) rfl rfl (Nat.le_of_ble_eq_true rfl) ⟨by show _ ≤ 719123; omega, by show _ ≤ 6944879; omega⟩ dL_law_829 rfl ?_
  refine v_same (tgt := 1277) hX dL_law_832 (by decide) ?_
  exact v_widen (k := 198 + 2 * (k + 1)) (n := 2300 + 7 * (k + 1)) (by omega) (by omega) (kk _ _ _ _ h')
theorem law_25 {X : q_X} {nm : String} {b L k x : Nat} {xs : Nat → Int32} {S : q_S} {R : q_HR} {I : q_HI} {A : q_A} (hX : q_C X cL_law 4 RL ret nm) (hs : l_sc X b L xs) (hL : L ≤ 3584) (hk : 7 * k + 7 ≤ L) (h : w_J x S R I A) (kk : ∀ S2 R2 J A2, w_J x S2 R2 J A2 → q_V X room_1 cL_law 4 (198 + 2 * (k + 1)) (2300 + 7 * (k + 1)) 1277 (l_lv k x b) [] S2 R2 J) : q_V X room_1 cL_law 4 (198 + 2 * k) (2300 + 7 * k) 837 (l_lv k x b) [] S R I := by
  obtain ⟨r, I', J, A', q1, q2, h'⟩ := st_radius h (r_iI (xs (7 * k + 1)))
  refine v_aload_n 1 2 hX dL_law_837 rfl rfl ?_
  refine v_aload_n 0 3 hX dL_law_838 rfl rfl ?_
  refine v_iload_n 3 0 hX dL_law_839 rfl rfl ?_
  refine v_iconst hX dL_law_840 ?_
  refine v_iadd hX dL_law_841 ?_
  refine v_sld (i := 7 * k + 1) hX hs (by omega) hL (by omega) dL_law_842 ?_
  refine v_callV (As := [.int (q_i ((xs (7 * k + 1)).toInt))]) (rest := []) (st1 := [.int (q_i r)]) (some (.int (q_i r))) hX mv_RL_118 (c_X9_radius q1) ⟨rfl, rfl⟩ ⟨Nat.le_of_ble_eq_true rfl, Nat.le_of_ble_eq_true rfl⟩ (k_0 h.1) rfl rfl (Nat.le_of_ble_eq_true rfl) ⟨by show _ ≤ 719123; omega, by show _ ≤ 6944879; omega⟩ dL_law_843 rfl ?_
  refine v_aload_n 2 1 hX dL_law_846 rfl rfl ?_
  refine v_aload_n 0 3 hX dL_law_847 rfl rfl ?_
  refine v_iload_n 3 0 hX dL_law_848 rfl rfl ?_
  refine v_iconst hX dL_law_849 ?_
  refine v_iadd hX dL_law_850 ?_
  refine v_sld (i := 7 * k + 1) hX hs (by omega) hL (by omega) dL_law_851 ?_
  refine v_callV (As := [.int (q_i ((xs (7 * k + 1)).toInt))]) (rest := [.int (q_i r)]) (st1 := [.int (q_i r), .int (q_i r)]) (some (.int (q_i r))) hX mv_RL_121 (c_X10_radius q2) ⟨rfl, rfl⟩ ⟨Nat.le_of_ble_eq_true rfl, Nat.le_of_ble_eq_true rfl⟩ (k_171 h'.1) rfl rfl (Nat.le_of_ble_eq_true rfl) ⟨by show _ ≤ 719123; omega, by show _ ≤ 6944879; omega⟩ dL_law_852 rfl ?_
  refine v_same (tgt := 1277) hX dL_law_855 (by decide) ?_
  exact v_widen (k := 198 + 2 * (k + 1)) (n := 2300 + 7 * (k + 1)) (by omega) (by omega) (kk _ _ _ _ h')
theorem law_26 {X : q_X} {nm : String} {b L k x : Nat} {xs : Nat → Int32} {S : q_S} {R : q_HR} {I : q_HI} {A : q_A} (hX : q_C X cL_law 4 RL ret nm) (hs : l_sc X b L xs) (hL : L ≤ 3584) (hk : 7 * k + 7 ≤ L) (h : w_J x S R I A) (kk : ∀ S2 R2 J A2, w_J x S2 R2 J A2 → q_V X room_1 cL_law 4 (198 + 2 * (k + 1)) (2300 + 7 * (k + 1)) 1277 (l_lv k x b) [] S2 R2 J) : q_V X room_1 cL_law 4 (198 + 2 * k) (2300 + 7 * k) 860 (l_lv k x b) [] S R I := by
  obtain ⟨r, I', J, A', q1, q2, h'⟩ := st_setMargin h (r_iI (xs (7 * k + 1)))
  refine v_aload_n 1 2 hX dL_law_860 rfl rfl ?_
  refine v_aload_n 0 3 hX dL_law_861 rfl rfl ?_
  refine v_iload_n 3 0 hX dL_law_862 rfl rfl ?_
  refine v_iconst hX dL_law_863 ?_
  refine v_iadd hX dL_law_864 ?_
  refine v_sld (i := 7 * k + 1) hX hs (by omega) hL (by omega) dL_law_865 ?_
  refine v_callV (As := [.int (q_i ((xs (7 * k + 1)).toInt))]) (rest := []) (st1 := [.int (q_i r)]) (some (.int (q_i r))) hX mv_RL_122 (c_X9_setMargin q1) ⟨rfl, rfl⟩ ⟨Nat.le_of_ble_eq_true rfl, Nat.le_of_ble_eq_true rfl⟩ (k_0 h.1) rfl rfl (Nat.le_of_ble_eq_true rfl) ⟨by show _ ≤ 719123; omega, by show _ ≤ 6944879; omega⟩ dL_law_866 rfl ?_
  refine v_aload_n 2 1 hX dL_law_869 rfl rfl ?_
  refine v_aload_n 0 3 hX dL_law_870 rfl rfl ?_
  refine v_iload_n 3 0 hX dL_law_871 rfl rfl ?_
  refine v_iconst hX dL_law_872 ?_
  refine v_iadd hX dL_law_873 ?_
  refine v_sld (i := 7 * k + 1) hX hs (by omega) hL (by omega) dL_law_874 ?_
  refine v_callV (As := [.int (q_i ((xs (7 * k + 1)).toInt))]) (rest := [.int (q_i r)]) (st1 := [.int (q_i r), .int (q_i r)]) (some (.int (q_i r))) hX mv_RL_125 (c_X10_setMargin q2) ⟨rfl, rfl⟩ ⟨Nat.le_of_ble_eq_true rfl, Nat.le_of_ble_eq_true rfl⟩ (k_171 h'.1) rfl rfl (Nat.le_of_ble_eq_true rfl) ⟨by show _ ≤ 719123; omega, by show _ ≤ 6944879; omega⟩ dL_law_875 rfl ?_
  refine v_same (tgt := 1277) hX dL_law_878 (by decide) ?_
  exact v_widen (k := 198 + 2 * (k + 1)) (n := 2300 + 7 * (k + 1)) (by omega) (by omega) (kk _ _ _ _ h')
theorem law_27 {X : q_X} {nm : String} {b L k x : Nat} {xs : Nat → Int32} {S : q_S} {R : q_HR} {I : q_HI} {A : q_A} (hX : q_C X cL_law 4 RL ret nm) (hs : l_sc X b L xs) (hL : L ≤ 3584) (hk : 7 * k + 7 ≤ L) (h : w_J x S R I A) (kk : ∀ S2 R2 J A2, w_J x S2 R2 J A2 → q_V X room_1 cL_law 4 (198 + 2 * (k + 1)) (2300 + 7 * (k + 1)) 1277 (l_lv k x b) [] S2 R2 J) : q_V X room_1 cL_law 4 (198 + 2 * k) (2300 + 7 * k) 883 (l_lv k x b) [] S R I := by
  obtain ⟨r, I', J, A', q1, q2, h'⟩ := st_setSlack h (r_iI (xs (7 * k + 1)))
  refine v_aload_n 1 2 hX dL_law_883 rfl rfl ?_
  refine v_aload_n 0 3 hX dL_law_884 rfl rfl ?_
  refine v_iload_n 3 0 hX dL_law_885 rfl rfl ?_
  refine v_iconst hX dL_law_886 ?_
  refine v_iadd hX dL_law_887 ?_
  refine v_sld (i := 7 * k + 1) hX hs (by omega) hL (by omega) dL_law_888 ?_
  refine v_callV (As := [.int (q_i ((xs (7 * k + 1)).toInt))]) (rest := []) (st1 := [.int (q_i r)]) (some (.int (q_i r))) hX mv_RL_126 (c_X9_setSlack q1) ⟨rfl, rfl⟩ ⟨Nat.le_of_ble_eq_true rfl, Nat.le_of_ble_eq_true rfl⟩ (k_0 h.1) rfl rfl (Nat.le_of_ble_eq_true rfl) ⟨by show _ ≤ 719123; omega, by show _ ≤ 6944879; omega⟩ dL_law_889 rfl ?_
  refine v_aload_n 2 1 hX dL_law_892 rfl rfl ?_
  refine v_aload_n 0 3 hX dL_law_893 rfl rfl ?_
  refine v_iload_n 3 0 hX dL_law_894 rfl rfl ?_
  refine v_iconst hX dL_law_895 ?_
  refine v_iadd hX dL_law_896 ?_
  refine v_sld (i := 7 * k + 1) hX hs (by omega) hL (by omega) dL_law_897 ?_
  refine v_callV (As := [.int (q_i ((xs (7 * k + 1)).toInt))]) (rest := [.int (q_i r)]) (st1 := [.int (q_i r), .int (q_i r)]) (some (.int (q_i r))) hX mv_RL_129 (c_X10_setSlack q2) ⟨rfl, rfl⟩ ⟨Nat.le_of_ble_eq_true rfl, Nat.le_of_ble_eq_true rfl⟩ (k_171 h'.1) rfl rfl (Nat.le_of_ble_eq_true rfl) ⟨by show _ ≤ 719123; omega, by show _ ≤ 6944879; omega⟩ dL_law_898 rfl ?_
  refine v_same (tgt := 1277) hX dL_law_901 (by decide) ?_
  exact v_widen (k := 198 + 2 * (k + 1)) (n := 2300 + 7 * (k + 1)) (by omega) (by omega) (kk _ _ _ _ h')
theorem law_28 {X : q_X} {nm : String} {b L k x : Nat} {xs : Nat → Int32} {S : q_S} {R : q_HR} {I : q_HI} {A : q_A} (hX : q_C X cL_law 4 RL ret nm) (hs : l_sc X b L xs) (hL : L ≤ 3584) (hk : 7 * k + 7 ≤ L) (h : w_J x S R I A) (kk : ∀ S2 R2 J A2, w_J x S2 R2 J A2 → q_V X room_1 cL_law 4 (198 + 2 * (k + 1)) (2300 + 7 * (k + 1)) 1277 (l_lv k x b) [] S2 R2 J) : q_V X room_1 cL_law 4 (198 + 2 * k) (2300 + 7 * k) 906 (l_lv k x b) [] S R I := by
  obtain ⟨r, I', J, A', q1, q2, h'⟩ := st_classify h
  refine v_aload_n 1 2 hX dL_law_906 rfl rfl ?_
  refine v_callV (As := []) (rest := []) (st1 := [.int (q_i r)]) (some (.int (q_i r))) hX mv_RL_130 (c_X9_classify q1) ⟨rfl, rfl⟩ ⟨Nat.le_of_ble_eq_true rfl, Nat.le_of_ble_eq_true rfl⟩ (k_0 h.1) rfl rfl (Nat.le_of_ble_eq_true rfl) ⟨by show _ ≤ 719123; omega, by show _ ≤ 6944879; omega⟩ dL_law_907 rfl ?_
  refine v_aload_n 2 1 hX dL_law_910 rfl rfl ?_
  refine v_callV (As := []) (rest := [.int (q_i r)]) (st1 := [.int (q_i r), .int (q_i r)]) (some (.int (q_i r))) hX mv_RL_133 (c_X10_classify q2) ⟨rfl, rfl⟩ ⟨Nat.le_of_ble_eq_true rfl, Nat.le_of_ble_eq_true rfl⟩ (k_171 h'.1) rfl rfl (Nat.le_of_ble_eq_true rfl) ⟨by show _ ≤ 719123; omega, by show _ ≤ 6944879; omega⟩ dL_law_911 rfl ?_
  refine v_same (tgt := 1277) hX dL_law_914 (by decide) ?_
  exact v_widen (k := 198 + 2 * (k + 1)) (n := 2300 + 7 * (k + 1)) (by omega) (by omega) (kk _ _ _ _ h')
theorem law_29 {X : q_X} {nm : String} {b L k x : Nat} {xs : Nat → Int32} {S : q_S} {R : q_HR} {I : q_HI} {A : q_A} (hX : q_C X cL_law 4 RL ret nm) (hs : l_sc X b L xs) (hL : L ≤ 3584) (hk : 7 * k + 7 ≤ L) (h : w_J x S R I A) (kk : ∀ S2 R2 J A2, w_J x S2 R2 J A2 → q_V X room_1 cL_law 4 (198 + 2 * (k + 1)) (2300 + 7 * (k + 1)) 1277 (l_lv k x b) [] S2 R2 J) : q_V X room_1 cL_law 4 (198 + 2 * k) (2300 + 7 * k) 919 (l_lv k x b) [] S R I := by
  obtain ⟨r, I', J, A', q1, q2, h'⟩ := st_classDistance h (r_iI (xs (7 * k + 1))) (r_iI (xs (7 * k + 2)))
  refine v_aload_n 1 2 hX dL_law_919 rfl rfl ?_
  refine v_aload_n 0 3 hX dL_law_920 rfl rfl ?_
  refine v_iload_n 3 0 hX dL_law_921 rfl rfl ?_
  refine v_iconst hX dL_law_922 ?_
  refine v_iadd hX dL_law_923 ?_
  refine v_sld (i := 7 * k + 1) hX hs (by omega) hL (by omega) dL_law_924 ?_
  refine v_aload_n 0 3 hX dL_law_925 rfl rfl ?_
  refine v_iload_n 3 0 hX dL_law_926 rfl rfl ?_
  refine v_iconst hX dL_law_927 ?_
  refine v_iadd hX dL_law_928 ?_
  refine v_sld (i := 7 * k + 2) hX hs (by omega) hL (by omega) dL_law_929 ?_
  refine v_callV (As := [.int (q_i ((xs (7 * k + 1)).toInt)), .int (q_i ((xs (7 * k + 2)).toInt))]) (rest := []) (st1 := [.int (q_i r)]) (some (.int (q_i r))) hX mv_RL_134 (c_X9_classDistance q1) ⟨rfl, rfl⟩ ⟨Nat.le_of_ble_eq_true rfl, Nat.le_of_ble_eq_true rfl⟩ (k_0 h.1) rfl rfl (Nat.le_of_ble_eq_true rfl) ⟨by show _ ≤ 719123; omega, by show _ ≤ 6944879; omega⟩ dL_law_930 rfl ?_
  refine v_aload_n 2 1 hX dL_law_933 rfl rfl ?_
  refine v_aload_n 0 3 hX dL_law_934 rfl rfl ?_
  refine v_iload_n 3 0 hX dL_law_935 rfl rfl ?_
  refine v_iconst hX dL_law_936 ?_
  refine v_iadd hX dL_law_937 ?_
  refine v_sld (i := 7 * k + 1) hX hs (by omega) hL (by omega) dL_law_938 ?_
  refine v_aload_n 0 3 hX dL_law_939 rfl rfl ?_
  refine v_iload_n 3 0 hX dL_law_940 rfl rfl ?_
  refine v_iconst hX dL_law_941 ?_
  refine v_iadd hX dL_law_942 ?_
  refine v_sld (i := 7 * k + 2) hX hs (by omega) hL (by omega) dL_law_943 ?_
  refine v_callV (As := [.int (q_i ((xs (7 * k + 1)).toInt)), .int (q_i ((xs (7 * k + 2)).toInt))]) (rest := [.int (q_i r)]) (st1 := [.int (q_i r), .int (q_i r)]) (some (.int (q_i r))) hX mv_RL_137 (c_X10_classDistance q2) ⟨rfl, rfl⟩ ⟨Nat.le_of_ble_eq_true rfl, Nat.le_of_ble_eq_true rfl⟩ (k_171 h'.1) rfl rfl (Nat.le_of_ble_eq_true rfl) ⟨by show _ ≤ 719123; omega, by show _ ≤ 6944879; omega⟩ dL_law_944 rfl ?_
  refine v_same (tgt := 1277) hX dL_law_947 (by decide) ?_
  exact v_widen (k := 198 + 2 * (k + 1)) (n := 2300 + 7 * (k + 1)) (by omega) (by omega) (kk _ _ _ _ h')
