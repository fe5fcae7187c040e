/-! THE LAW: its cases 30 to 44 -/
theorem law_30 {X : q_X} {nm : String} {b L k x : Nat} {xs : Nat → Int32} {S : q_S} {R : q_HR} {I : q_HI} {A : q_A} (hX : q_C X cL_law 4 RL ret nm) (hs : l_sc X b L xs) (hL : L ≤ 3584) (hk : 7 * k + 7 ≤ L) (h : w_J x S R I A) (kk : ∀ S2 R2 J A2, w_J x S2 R2 J A2 → q_V X room_1 cL_law 4 (198 + 2 * (k + 1)) (2300 + 7 * (k + 1)) 1277 (l_lv k x b) [] S2 R2 J) : q_V X room_1 cL_law 4 (198 + 2 * k) (2300 + 7 * k) 952 (l_lv k x b) [] S R I := by
  obtain ⟨r, I', J, A', q1, q2, h'⟩ := st_closestClasses h
  refine v_aload_n 1 2 hX dL_law_952 rfl rfl ?_
  refine v_callV (As := []) (rest := []) (st1 := [.int (q_i r)]) (some (.int (q_i r))) hX mv_RL_138 (c_X9_closestClasses q1) ⟨rfl, rfl⟩ ⟨Nat.le_of_ble_eq_true rfl, Nat.le_of_ble_eq_true rfl⟩ (k_0 h.1) rfl rfl (Nat.le_of_ble_eq_true rfl) ⟨by show _ ≤ 719123; omega, by show _ ≤ 6944879; omega⟩ dL_law_953 rfl ?_
  refine v_aload_n 2 1 hX dL_law_956 rfl rfl ?_
  refine v_callV (As := []) (rest := [.int (q_i r)]) (st1 := [.int (q_i r), .int (q_i r)]) (some (.int (q_i r))) hX mv_RL_141 (c_X10_closestClasses q2) ⟨rfl, rfl⟩ ⟨Nat.le_of_ble_eq_true rfl, Nat.le_of_ble_eq_true rfl⟩ (k_171 h'.1) rfl rfl (Nat.le_of_ble_eq_true rfl) ⟨by show _ ≤ 719123; omega, by show _ ≤ 6944879; omega⟩ dL_law_957 rfl ?_
  refine v_same (tgt := 1277) hX dL_law_960 (by decide) ?_
  exact v_widen (k := 198 + 2 * (k + 1)) (n := 2300 + 7 * (k + 1)) (by omega) (by omega) (kk _ _ _ _ h')
theorem law_31 {X : q_X} {nm : String} {b L k x : Nat} {xs : Nat → Int32} {S : q_S} {R : q_HR} {I : q_HI} {A : q_A} (hX : q_C X cL_law 4 RL ret nm) (hs : l_sc X b L xs) (hL : L ≤ 3584) (hk : 7 * k + 7 ≤ L) (h : w_J x S R I A) (kk : ∀ S2 R2 J A2, w_J x S2 R2 J A2 → q_V X room_1 cL_law 4 (198 + 2 * (k + 1)) (2300 + 7 * (k + 1)) 1277 (l_lv k x b) [] S2 R2 J) : q_V X room_1 cL_law 4 (198 + 2 * k) (2300 + 7 * k) 965 (l_lv k x b) [] S R I := by
  obtain ⟨r, I', J, A', q1, q2, h'⟩ := st_suspectSensor h
  refine v_aload_n 1 2 hX dL_law_965 rfl rfl ?_
  refine v_callV (As := []) (rest := []) (st1 := [.int (q_i r)]) (some (.int (q_i r))) hX mv_RL_142 (c_X9_suspectSensor q1) ⟨rfl, rfl⟩ ⟨Nat.le_of_ble_eq_true rfl, Nat.le_of_ble_eq_true rfl⟩ (k_0 h.1) rfl rfl (Nat.le_of_ble_eq_true rfl) ⟨by show _ ≤ 719123; omega, by show _ ≤ 6944879; omega⟩ dL_law_966 rfl ?_
  refine v_aload_n 2 1 hX dL_law_969 rfl rfl ?_
  refine v_callV (As := []) (rest := [.int (q_i r)]) (st1 := [.int (q_i r), .int (q_i r)]) (some (.int (q_i r))) hX mv_RL_145 (c_X10_suspectSensor q2) ⟨rfl, rfl⟩ ⟨Nat.le_of_ble_eq_true rfl, Nat.le_of_ble_eq_true rfl⟩ (k_171 h'.1) rfl rfl (Nat.le_of_ble_eq_true rfl) ⟨by show _ ≤ 719123; omega, by show _ ≤ 6944879; omega⟩ dL_law_970 rfl ?_
  refine v_same (tgt := 1277) hX dL_law_973 (by decide) ?_
  exact v_widen (k := 198 + 2 * (k + 1)) (n := 2300 + 7 * (k + 1)) (by omega) (by omega) (kk _ _ _ _ h')
theorem law_32 {X : q_X} {nm : String} {b L k x : Nat} {xs : Nat → Int32} {S : q_S} {R : q_HR} {I : q_HI} {A : q_A} (hX : q_C X cL_law 4 RL ret nm) (hs : l_sc X b L xs) (hL : L ≤ 3584) (hk : 7 * k + 7 ≤ L) (h : w_J x S R I A) (kk : ∀ S2 R2 J A2, w_J x S2 R2 J A2 → q_V X room_1 cL_law 4 (198 + 2 * (k + 1)) (2300 + 7 * (k + 1)) 1277 (l_lv k x b) [] S2 R2 J) : q_V X room_1 cL_law 4 (198 + 2 * k) (2300 + 7 * k) 978 (l_lv k x b) [] S R I := by
  obtain ⟨r, I', J, A', q1, q2, h'⟩ := st_joinedGroups h (r_iI (xs (7 * k + 1)))
  refine v_aload_n 1 2 hX dL_law_978 rfl rfl ?_
  refine v_aload_n 0 3 hX dL_law_979 rfl rfl ?_
  refine v_iload_n 3 0 hX dL_law_980 rfl rfl ?_
  refine v_iconst hX dL_law_981 ?_
  refine v_iadd hX dL_law_982 ?_
  refine v_sld (i := 7 * k + 1) hX hs (by omega) hL (by omega) dL_law_983 ?_
  refine v_callV (As := [.int (q_i ((xs (7 * k + 1)).toInt))]) (rest := []) (st1 := [.int (q_i r)]) (some (.int (q_i r))) hX mv_RL_146 (c_X9_joinedGroups q1) ⟨rfl, rfl⟩ ⟨Nat.le_of_ble_eq_true rfl, Nat.le_of_ble_eq_true rfl⟩ (k_0 h.1) rfl rfl (Nat.le_of_ble_eq_true rfl) ⟨by show _ ≤ 719123; omega, by show _ ≤ 6944879; omega⟩ dL_law_984 rfl ?_
  refine v_aload_n 2 1 hX dL_law_987 rfl rfl ?_
  refine v_aload_n 0 3 hX dL_law_988 rfl rfl ?_
  refine v_iload_n 3 0 hX dL_law_989 rfl rfl ?_
  refine v_iconst hX dL_law_990 ?_
  refine v_iadd hX dL_law_991 ?_
  refine v_sld (i := 7 * k + 1) hX hs (by omega) hL (by omega) dL_law_992 ?_
  refine v_callV (As := [.int (q_i ((xs (7 * k + 1)).toInt))]) (rest := [.int (q_i r)]) (st1 := [.int (q_i r), .int (q_i r)]) (some (.int (q_i r))) hX mv_RL_149 (c_X10_joinedGroups q2) ⟨rfl, rfl⟩ ⟨Nat.le_of_ble_eq_true rfl, Nat.le_of_ble_eq_true rfl⟩ (k_171 h'.1) rfl rfl (Nat.le_of_ble_eq_true rfl) ⟨by show _ ≤ 719123; omega, by show _ ≤ 6944879; omega⟩ dL_law_993 rfl ?_
  refine v_same (tgt := 1277) hX dL_law_996 (by decide) ?_
  exact v_widen (k := 198 + 2 * (k + 1)) (n := 2300 + 7 * (k + 1)) (by omega) (by omega) (kk _ _ _ _ h')
theorem law_33 {X : q_X} {nm : String} {b L k x : Nat} {xs : Nat → Int32} {S : q_S} {R : q_HR} {I : q_HI} {A : q_A} (hX : q_C X cL_law 4 RL ret nm) (hs : l_sc X b L xs) (hL : L ≤ 3584) (hk : 7 * k + 7 ≤ L) (h : w_J x S R I A) (kk : ∀ S2 R2 J A2, w_J x S2 R2 J A2 → q_V X room_1 cL_law 4 (198 + 2 * (k + 1)) (2300 + 7 * (k + 1)) 1277 (l_lv k x b) [] S2 R2 J) : q_V X room_1 cL_law 4 (198 + 2 * k) (2300 + 7 * k) 1001 (l_lv k x b) [] S R I := by
  obtain ⟨r, I', J, A', q1, q2, h'⟩ := st_joinDistance h (r_iI (xs (7 * k + 1)))
  refine v_aload_n 1 2 hX dL_law_1001 rfl rfl ?_
  refine v_aload_n 0 3 hX dL_law_1002 rfl rfl ?_
  refine v_iload_n 3 0 hX dL_law_1003 rfl rfl ?_
  refine v_iconst hX dL_law_1004 ?_
  refine v_iadd hX dL_law_1005 ?_
  refine v_sld (i := 7 * k + 1) hX hs (by omega) hL (by omega) dL_law_1006 ?_
  refine v_callV (As := [.int (q_i ((xs (7 * k + 1)).toInt))]) (rest := []) (st1 := [.int (q_i r)]) (some (.int (q_i r))) hX mv_RL_150 (c_X9_joinDistance q1) ⟨rfl, rfl⟩ ⟨Nat.le_of_ble_eq_true rfl, Nat.le_of_ble_eq_true rfl⟩ (k_0 h.1) rfl rfl (Nat.le_of_ble_eq_true rfl) ⟨by show _ ≤ 719123; omega, by show _ ≤ 6944879; omega⟩ dL_law_1007 rfl ?_
  refine v_aload_n 2 1 hX dL_law_1010 rfl rfl ?_
  refine v_aload_n 0 3 hX dL_law_1011 rfl rfl ?_
  refine v_iload_n 3 0 hX dL_law_1012 rfl rfl ?_
  refine v_iconst hX dL_law_1013 ?_
  refine v_iadd hX dL_law_1014 ?_
  refine v_sld (i := 7 * k + 1) hX hs (by omega) hL (by omega) dL_law_1015 ?_
  refine v_callV (As := [.int (q_i ((xs (7 * k + 1)).toInt))]) (rest := [.int (q_i r)]) (st1 := [.int (q_i r), .int (q_i r)]) (some (.int (q_i r))) hX mv_RL_153 (c_X10_joinDistance q2) ⟨rfl, rfl⟩ ⟨Nat.le_of_ble_eq_true rfl, Nat.le_of_ble_eq_true rfl⟩ (k_171 h'.1) rfl rfl (Nat.le_of_ble_eq_true rfl) ⟨by show _ ≤ 719123; omega, by show _ ≤ 6944879; omega⟩ dL_law_1016 rfl ?_
  refine v_same (tgt := 1277) hX dL_law_1019 (by decide) ?_
  exact v_widen (k := 198 + 2 * (k + 1)) (n := 2300 + 7 * (k + 1)) (by omega) (by omega) (kk _ _ _ _ h')
theorem law_34 {X : q_X} {nm : String} {b L k x : Nat} {xs : Nat → Int32} {S : q_S} {R : q_HR} {I : q_HI} {A : q_A} (hX : q_C X cL_law 4 RL ret nm) (hs : l_sc X b L xs) (hL : L ≤ 3584) (hk : 7 * k + 7 ≤ L) (h : w_J x S R I A) (kk : ∀ S2 R2 J A2, w_J x S2 R2 J A2 → q_V X room_1 cL_law 4 (198 + 2 * (k + 1)) (2300 + 7 * (k + 1)) 1277 (l_lv k x b) [] S2 R2 J) : q_V X room_1 cL_law 4 (198 + 2 * k) (2300 + 7 * k) 1024 (l_lv k x b) [] S R I := by
  obtain ⟨r, I', J, A', q1, q2, h'⟩ := st_nearestSample h (r_iI (xs (7 * k + 1)))
  refine v_aload_n 1 2 hX dL_law_1024 rfl rfl ?_
  refine v_aload_n 0 3 hX dL_law_1025 rfl rfl ?_
  refine v_iload_n 3 0 hX dL_law_1026 rfl rfl ?_
  refine v_iconst hX dL_law_1027 ?_
  refine v_iadd hX dL_law_1028 ?_
  refine v_sld (i := 7 * k + 1) hX hs (by omega) hL (by omega) dL_law_1029 ?_
  refine v_callV (As := [.int (q_i ((xs (7 * k + 1)).toInt))]) (rest := []) (st1 := [.int (q_i r)]) (some (.int (q_i r))) hX mv_RL_154 (c_X9_nearestSample q1) ⟨rfl, rfl⟩ ⟨Nat.le_of_ble_eq_true rfl, Nat.le_of_ble_eq_true rfl⟩ (k_0 h.1) rfl rfl (Nat.le_of_ble_eq_true rfl) ⟨by show _ ≤ 719123; omega, by show _ ≤ 6944879; omega⟩ dL_law_1030 rfl ?_
  refine v_aload_n 2 1 hX dL_law_1033 rfl rfl ?_
  refine v_aload_n 0 3 hX dL_law_1034 rfl rfl ?_
  refine v_iload_n 3 0 hX dL_law_1035 rfl rfl ?_
  refine v_iconst hX dL_law_1036 ?_
  refine v_iadd hX dL_law_1037 ?_
  refine v_sld (i := 7 * k + 1) hX hs (by omega) hL (by omega) dL_law_1038 ?_
  refine v_callV (As := [.int (q_i ((xs (7 * k + 1)).toInt))]) (rest := [.int (q_i r)]) (st1 := [.int (q_i r), .int (q_i r)]) (some (.int (q_i r))) hX mv_RL_157 (c_X10_nearestSample q2) ⟨rfl, rfl⟩ ⟨Nat.le_of_ble_eq_true rfl, Nat.le_of_ble_eq_true rfl⟩ (k_171 h'.1) rfl rfl (Nat.le_of_ble_eq_true rfl) ⟨by show _ ≤ 719123; omega, by show _ ≤ 6944879; omega⟩ dL_law_1039 rfl ?_
  refine v_same (tgt := 1277) hX dL_law_1042 (by decide) ?_
  exact v_widen (k := 198 + 2 * (k + 1)) (n := 2300 + 7 * (k + 1)) (by omega) (by omega) (kk _ _ _ _ h')
theorem law_35 {X : q_X} {nm : String} {b L k x : Nat} {xs : Nat → Int32} {S : q_S} {R : q_HR} {I : q_HI} {A : q_A} (hX : q_C X cL_law 4 RL ret nm) (hs : l_sc X b L xs) (hL : L ≤ 3584) (hk : 7 * k + 7 ≤ L) (h : w_J x S R I A) (kk : ∀ S2 R2 J A2, w_J x S2 R2 J A2 → q_V X room_1 cL_law 4 (198 + 2 * (k + 1)) (2300 + 7 * (k + 1)) 1277 (l_lv k x b) [] S2 R2 J) : q_V X room_1 cL_law 4 (198 + 2 * k) (2300 + 7 * k) 1047 (l_lv k x b) [] S R I := by
  obtain ⟨r, I', J, A', q1, q2, h'⟩ := st_vote h (r_iI (xs (7 * k + 1)))
  refine v_aload_n 1 2 hX dL_law_1047 rfl rfl ?_
  refine v_aload_n 0 3 hX dL_law_1048 rfl rfl ?_
  refine v_iload_n 3 0 hX dL_law_1049 rfl rfl ?_
  refine v_iconst hX dL_law_1050 ?_
  refine v_iadd hX dL_law_1051 ?_
  refine v_sld (i := 7 * k + 1) hX hs (by omega) hL (by omega) dL_law_1052 ?_
  refine v_callV (As := [.int (q_i ((xs (7 * k + 1)).toInt))]) (rest := []) (st1 := [.int (q_i r)]) (some (.int (q_i r))) hX mv_RL_158 (c_X9_vote q1) ⟨rfl, rfl⟩ ⟨Nat.le_of_ble_eq_true rfl, Nat.le_of_ble_eq_true rfl⟩ (k_0 h.1) rfl rfl (Nat.le_of_ble_eq_true rfl) ⟨by show _ ≤ 719123; omega, by show _ ≤ 6944879; omega⟩ dL_law_1053 rfl ?_
  refine v_aload_n 2 1 hX dL_law_1056 rfl rfl ?_
  refine v_aload_n 0 3 hX dL_law_1057 rfl rfl ?_
  refine v_iload_n 3 0 hX dL_law_1058 rfl rfl ?_
  refine v_iconst hX dL_law_1059 ?_
  refine v_iadd hX dL_law_1060 ?_
  refine v_sld (i := 7 * k + 1) hX hs (by omega) hL (by omega) dL_law_1061 ?_
  refine v_callV (As := [.int (q_i ((xs (7 * k + 1)).toInt))]) (rest := [.int (q_i r)]) (st1 := [.int (q_i r), .int (q_i r)]) (some (.int (q_i r))) hX mv_RL_161 (c_X10_vote q2) ⟨rfl, rfl⟩ ⟨Nat.le_of_ble_eq_true rfl, Nat.le_of_ble_eq_true rfl⟩ (k_171 h'.1) rfl rfl (Nat.le_of_ble_eq_true rfl) ⟨by show _ ≤ 719123; omega, by show _ ≤ 6944879; omega⟩ dL_law_1062 rfl ?_
  refine v_same (tgt := 1277) hX dL_law_1065 (by decide) ?_
  exact v_widen (k := 198 + 2 * (k + 1)) (n := 2300 + 7 * (k + 1)) (by omega) (by omega) (kk _ _ _ _ h')
theorem law_36 {X : q_X} {nm : String} {b L k x : Nat} {xs : Nat → Int32} {S : q_S} {R : q_HR} {I : q_HI} {A : q_A} (hX : q_C X cL_law 4 RL ret nm) (hs : l_sc X b L xs) (hL : L ≤ 3584) (hk : 7 * k + 7 ≤ L) (h : w_J x S R I A) (kk : ∀ S2 R2 J A2, w_J x S2 R2 J A2 → q_V X room_1 cL_law 4 (198 + 2 * (k + 1)) (2300 + 7 * (k + 1)) 1277 (l_lv k x b) [] S2 R2 J) : q_V X room_1 cL_law 4 (198 + 2 * k) (2300 + 7 * k) 1070 (l_lv k x b) [] S R I := by
  obtain ⟨r, I', J, A', q1, q2, h'⟩ := st_leaveOneOut h (r_iI (xs (7 * k + 1))) (r_iI (xs (7 * k + 2)))
  refine v_aload_n 1 2 hX dL_law_1070 rfl rfl ?_
  refine v_aload_n 0 3 hX dL_law_1071 rfl rfl ?_
  refine v_iload_n 3 0 hX dL_law_1072 rfl rfl ?_
  refine v_iconst hX dL_law_1073 ?_
  refine v_iadd hX dL_law_1074 ?_
  refine v_sld (i := 7 * k + 1) hX hs (by omega) hL (by omega) dL_law_1075 ?_
  refine v_aload_n 0 3 hX dL_law_1076 rfl rfl ?_
  refine v_iload_n 3 0 hX dL_law_1077 rfl rfl ?_
  refine v_iconst hX dL_law_1078 ?_
  refine v_iadd hX dL_law_1079 ?_
  refine v_sld (i := 7 * k + 2) hX hs (by omega) hL (by omega) dL_law_1080 ?_
  refine v_callV (As := [.int (q_i ((xs (7 * k + 1)).toInt)), .int (q_i ((xs (7 * k + 2)).toInt))]) (rest := []) (st1 := [.int (q_i r)]) (some (.int (q_i r))) hX mv_RL_162 (c_X9_leaveOneOut q1) ⟨rfl, rfl⟩ ⟨Nat.le_of_ble_eq_true rfl, Nat.le_of_ble_eq_true rfl⟩ (k_0 h.1) rfl rfl (Nat.le_of_ble_eq_true rfl) ⟨by show _ ≤ 719123; omega, by show _ ≤ 6944879; omega⟩ dL_law_1081 rfl ?_
  refine v_aload_n 2 1 hX dL_law_1084 rfl rfl ?_
  refine v_aload_n 0 3 hX dL_law_1085 rfl rfl ?_
  refine v_iload_n 3 0 hX dL_law_1086 rfl rfl ?_
  refine v_iconst hX dL_law_1087 ?_
  refine v_iadd hX dL_law_1088 ?_
  refine v_sld (i := 7 * k + 1) hX hs (by omega) hL (by omega) dL_law_1089 ?_
  refine v_aload_n 0 3 hX dL_law_1090 rfl rfl ?_
  refine v_iload_n 3 0 hX dL_law_1091 rfl rfl ?_
  refine v_iconst hX dL_law_1092 ?_
  refine v_iadd hX dL_law_1093 ?_
  refine v_sld (i := 7 * k + 2) hX hs (by omega) hL (by omega) dL_law_1094 ?_
  refine v_callV (As := [.int (q_i ((xs (7 * k + 1)).toInt)), .int (q_i ((xs (7 * k + 2)).toInt))]) (rest := [.int (q_i r)]) (st1 := [.int (q_i r), .int (q_i r)]) (some (.int (q_i r))) hX mv_RL_165 (c_X10_leaveOneOut q2) ⟨rfl, rfl⟩ ⟨Nat.le_of_ble_eq_true rfl, Nat.le_of_ble_eq_true rfl⟩ (k_171 h'.1) rfl rfl (Nat.le_of_ble_eq_true rfl) ⟨by show _ ≤ 719123; omega, by show _ ≤ 6944879; omega⟩ dL_law_1095 rfl ?_
  refine v_same (tgt := 1277) hX dL_law_1098 (by decide) ?_
  exact v_widen (k := 198 + 2 * (k + 1)) (n := 2300 + 7 * (k + 1)) (by omega) (by omega) (kk _ _ _ _ h')
theorem law_37 {X : q_X} {nm : String} {b L k x : Nat} {xs : Nat → Int32} {S : q_S} {R : q_HR} {I : q_HI} {A : q_A} (hX : q_C X cL_law 4 RL ret nm) (hs : l_sc X b L xs) (hL : L ≤ 3584) (hk : 7 * k + 7 ≤ L) (h : w_J x S R I A) (kk : ∀ S2 R2 J A2, w_J x S2 R2 J A2 → q_V X room_1 cL_law 4 (198 + 2 * (k + 1)) (2300 + 7 * (k + 1)) 1277 (l_lv k x b) [] S2 R2 J) : q_V X room_1 cL_law 4 (198 + 2 * k) (2300 + 7 * k) 1103 (l_lv k x b) [] S R I := by
  obtain ⟨r, I', J, A', q1, q2, h'⟩ := st_confusion h (r_iI (xs (7 * k + 1))) (r_iI (xs (7 * k + 2)))
  refine v_aload_n 1 2 hX dL_law_1103 rfl rfl ?_
  refine v_aload_n 0 3 hX dL_law_1104 rfl rfl ?_
  refine v_iload_n 3 0 hX dL_law_1105 rfl rfl ?_
  refine v_iconst hX dL_law_1106 ?_
  refine v_iadd hX dL_law_1107 ?_
  refine v_sld (i := 7 * k + 1) hX hs (by omega) hL (by omega) dL_law_1108 ?_
  refine v_aload_n 0 3 hX dL_law_1109 rfl rfl ?_
  refine v_iload_n 3 0 hX dL_law_1110 rfl rfl ?_
  refine v_iconst hX dL_law_1111 ?_
  refine v_iadd hX dL_law_1112 ?_
  refine v_sld (i := 7 * k + 2) hX hs (by omega) hL (by omega) dL_law_1113 ?_
  refine v_callV (As := [.int (q_i ((xs (7 * k + 1)).toInt)), .int (q_i ((xs (7 * k + 2)).toInt))]) (rest := []) (st1 := [.int (q_i r)]) (some (.int (q_i r))) hX mv_RL_166 (c_X9_confusion q1) ⟨rfl, rfl⟩ ⟨Nat.le_of_ble_eq_true rfl, Nat.le_of_ble_eq_true rfl⟩ (k_0 h.1) rfl rfl (Nat.le_of_ble_eq_true rfl) ⟨by show _ ≤ 719123; omega, by show _ ≤ 6944879; omega⟩ dL_law_1114 rfl ?_
  refine v_aload_n 2 1 hX dL_law_1117 rfl rfl ?_
  refine v_aload_n 0 3 hX dL_law_1118 rfl rfl ?_
  refine v_iload_n 3 0 hX dL_law_1119 rfl rfl ?_
  refine v_iconst hX dL_law_1120 ?_
  refine v_iadd hX dL_law_1121 ?_
  refine v_sld (i := 7 * k + 1) hX hs (by omega) hL (by omega) dL_law_1122 ?_
  refine v_aload_n 0 3 hX dL_law_1123 rfl rfl ?_
  refine v_iload_n 3 0 hX dL_law_1124 rfl rfl ?_
  refine v_iconst hX dL_law_1125 ?_
  refine v_iadd hX dL_law_1126 ?_
  refine v_sld (i := 7 * k + 2) hX hs (by omega) hL (by omega) dL_law_1127 ?_
  refine v_callV (As := [.int (q_i ((xs (7 * k + 1)).toInt)), .int (q_i ((xs (7 * k + 2)).toInt))]) (rest := [.int (q_i r)]) (st1 := [.int (q_i r), .int (q_i r)]) (some (.int (q_i r))) hX mv_RL_169 (c_X10_confusion q2) ⟨rfl, rfl⟩ ⟨Nat.le_of_ble_eq_true rfl, Nat.le_of_ble_eq_true rfl⟩ (k_171 h'.1) rfl rfl (Nat.le_of_ble_eq_true rfl) ⟨by show _ ≤ 719123; omega, by show _ ≤ 6944879; omega⟩ dL_law_1128 rfl ?_
  refine v_same (tgt := 1277) hX dL_law_1131 (by decide) ?_
  exact v_widen (k := 198 + 2 * (k + 1)) (n := 2300 + 7 * (k + 1)) (by omega) (by omega) (kk _ _ _ _ h')
theorem law_38 {X : q_X} {nm : String} {b L k x : Nat} {xs : Nat → Int32} {S : q_S} {R : q_HR} {I : q_HI} {A : q_A} (hX : q_C X cL_law 4 RL ret nm) (hs : l_sc X b L xs) (hL : L ≤ 3584) (hk : 7 * k + 7 ≤ L) (h : w_J x S R I A) (kk : ∀ S2 R2 J A2, w_J x S2 R2 J A2 → q_V X room_1 cL_law 4 (198 + 2 * (k + 1)) (2300 + 7 * (k + 1)) 1277 (l_lv k x b) [] S2 R2 J) : q_V X room_1 cL_law 4 (198 + 2 * k) (2300 + 7 * k) 1136 (l_lv k x b) [] S R I := by
  obtain ⟨r, I', J, A', q1, q2, h'⟩ := st_correctCount h
  refine v_aload_n 1 2 hX dL_law_1136 rfl rfl ?_
  refine v_callV (As := []) (rest := []) (st1 := [.int (q_i r)]) (some (.int (q_i r))) hX mv_RL_170 (c_X9_correctCount q1) ⟨rfl, rfl⟩ ⟨Nat.le_of_ble_eq_true rfl, Nat.le_of_ble_eq_true rfl⟩ (k_0 h.1) rfl rfl (Nat.le_of_ble_eq_true rfl) ⟨by show _ ≤ 719123; omega, by show _ ≤ 6944879; omega⟩ dL_law_1137 rfl ?_
  refine v_aload_n 2 1 hX dL_law_1140 rfl rfl ?_
  refine v_callV (As := []) (rest := [.int (q_i r)]) (st1 := [.int (q_i r), .int (q_i r)]) (some (.int (q_i r))) hX mv_RL_173 (c_X10_correctCount q2) ⟨rfl, rfl⟩ ⟨Nat.le_of_ble_eq_true rfl, Nat.le_of_ble_eq_true rfl⟩ (k_171 h'.1) rfl rfl (Nat.le_of_ble_eq_true rfl) ⟨by show _ ≤ 719123; omega, by show _ ≤ 6944879; omega⟩ dL_law_1141 rfl ?_
  refine v_same (tgt := 1277) hX dL_law_1144 (by decide) ?_
  exact v_widen (k := 198 + 2 * (k + 1)) (n := 2300 + 7 * (k + 1)) (by omega) (by omega) (kk _ _ _ _ h')
theorem law_39 {X : q_X} {nm : String} {b L k x : Nat} {xs : Nat → Int32} {S : q_S} {R : q_HR} {I : q_HI} {A : q_A} (hX : q_C X cL_law 4 RL ret nm) (hs : l_sc X b L xs) (hL : L ≤ 3584) (hk : 7 * k + 7 ≤ L) (h : w_J x S R I A) (kk : ∀ S2 R2 J A2, w_J x S2 R2 J A2 → q_V X room_1 cL_law 4 (198 + 2 * (k + 1)) (2300 + 7 * (k + 1)) 1277 (l_lv k x b) [] S2 R2 J) : q_V X room_1 cL_law 4 (198 + 2 * k) (2300 + 7 * k) 1149 (l_lv k x b) [] S R I := by
  obtain ⟨r, I', J, A', q1, q2, h'⟩ := st_correctWithout h (r_iI (xs (7 * k + 1)))
  refine v_aload_n 1 2 hX dL_law_1149 rfl rfl ?_
  refine v_aload_n 0 3 hX dL_law_1150 rfl rfl ?_
  refine v_iload_n 3 0 hX dL_law_1151 rfl rfl ?_
  refine v_iconst hX dL_law_1152 ?_
  refine v_iadd hX dL_law_1153 ?_
  refine v_sld (i := 7 * k + 1) hX hs (by omega) hL (by omega) dL_law_1154 ?_
  refine v_callV (As := [.int (q_i ((xs (7 * k + 1)).toInt))]) (rest := []) (st1 := [.int (q_i r)]) (some (.int (q_i r))) hX mv_RL_174 (c_X9_correctWithout q1) ⟨rfl, rfl⟩ ⟨Nat.le_of_ble_eq_true rfl, Nat.le_of_ble_eq_true rfl⟩ (k_0 h.1) rfl rfl (Nat.le_of_ble_eq_true rfl) ⟨by show _ ≤ 719123; omega, by show _ ≤ 6944879; omega⟩ dL_law_1155 rfl ?_
  refine v_aload_n 2 1 hX dL_law_1158 rfl rfl ?_
  refine v_aload_n 0 3 hX dL_law_1159 rfl rfl ?_
  refine v_iload_n 3 0 hX dL_law_1160 rfl rfl ?_
  refine v_iconst hX dL_law_1161 ?_
  refine v_iadd hX dL_law_1162 ?_
  refine v_sld (i := 7 * k + 1) hX hs (by omega) hL (by omega) dL_law_1163 ?_
  refine v_callV (As := [.int (q_i ((xs (7 * k + 1)).toInt))]) (rest := [.int (q_i r)]) (st1 := [.int (q_i r), .int (q_i r)]) (some (.int (q_i r))) hX mv_RL_177 (c_X10_correctWithout q2) ⟨rfl, rfl⟩ ⟨Nat.le_of_ble_eq_true rfl, Nat.le_of_ble_eq_true rfl⟩ (k_171 h'.1) rfl rfl (Nat.le_of_ble_eq_true rfl) ⟨by show _ ≤ 719123; omega, by show _ ≤ 6944879; omega⟩ dL_law_1164 rfl ?_
  refine v_same (tgt := 1277) hX dL_law_1167 (by decide) ?_
  exact v_widen (k := 198 + 2 * (k + 1)) (n := 2300 + 7 * (k + 1)) (by omega) (by omega) (kk _ _ _ _ h')
theorem law_40 {X : q_X} {nm : String} {b L k x : Nat} {xs : Nat → Int32} {S : q_S} {R : q_HR} {I : q_HI} {A : q_A} (hX : q_C X cL_law 4 RL ret nm) (hs : l_sc X b L xs) (hL : L ≤ 3584) (hk : 7 * k + 7 ≤ L) (h : w_J x S R I A) (kk : ∀ S2 R2 J A2, w_J x S2 R2 J A2 → q_V X room_1 cL_law 4 (198 + 2 * (k + 1)) (2300 + 7 * (k + 1)) 1277 (l_lv k x b) [] S2 R2 J) : q_V X room_1 cL_law 4 (198 + 2 * k) (2300 + 7 * k) 1172 (l_lv k x b) [] S R I := by
  obtain ⟨r, I', J, A', q1, q2, h'⟩ := st_correctWith h (r_iI (xs (7 * k + 1)))
  refine v_aload_n 1 2 hX dL_law_1172 rfl rfl ?_
  refine v_aload_n 0 3 hX dL_law_1173 rfl rfl ?_
  refine v_iload_n 3 0 hX dL_law_1174 rfl rfl ?_
  refine v_iconst hX dL_law_1175 ?_
  refine v_iadd hX dL_law_1176 ?_
  refine v_sld (i := 7 * k + 1) hX hs (by omega) hL (by omega) dL_law_1177 ?_
  refine v_callV (As := [.int (q_i ((xs (7 * k + 1)).toInt))]) (rest := []) (st1 := [.int (q_i r)]) (some (.int (q_i r))) hX mv_RL_178 (c_X9_correctWith q1) ⟨rfl, rfl⟩ ⟨Nat.le_of_ble_eq_true rfl, Nat.le_of_ble_eq_true rfl⟩ (k_0 h.1) rfl rfl (Nat.le_of_ble_eq_true rfl) ⟨by show _ ≤ 719123; omega, by show _ ≤ 6944879; omega⟩ dL_law_1178 rfl ?_
  refine v_aload_n 2 1 hX dL_law_1181 rfl rfl ?_
  refine v_aload_n 0 3 hX dL_law_1182 rfl rfl ?_
  refine v_iload_n 3 0 hX dL_law_1183 rfl rfl ?_
  refine v_iconst hX dL_law_1184 ?_
  refine v_iadd hX dL_law_1185 ?_
  refine v_sld (i := 7 * k + 1) hX hs (by omega) hL (by omega) dL_law_1186 ?_
  refine v_callV (As := [.int (q_i ((xs (7 * k + 1)).toInt))]) (rest := [.int (q_i r)]) (st1 := [.int (q_i r), .int (q_i r)]) (some (.int (q_i r))) hX mv_RL_181 (c_X10_correctWith q2) ⟨rfl, rfl⟩ ⟨Nat.le_of_ble_eq_true rfl, Nat.le_of_ble_eq_true rfl⟩ (k_171 h'.1) rfl rfl (Nat.le_of_ble_eq_true rfl) ⟨by show _ ≤ 719123; omega, by show _ ≤ 6944879; omega⟩ dL_law_1187 rfl ?_
  refine v_same (tgt := 1277) hX dL_law_1190 (by decide) ?_
  exact v_widen (k := 198 + 2 * (k + 1)) (n := 2300 + 7 * (k + 1)) (by omega) (by omega) (kk _ _ _ _ h')
theorem law_41 {X : q_X} {nm : String} {b L k x : Nat} {xs : Nat → Int32} {S : q_S} {R : q_HR} {I : q_HI} {A : q_A} (hX : q_C X cL_law 4 RL ret nm) (hs : l_sc X b L xs) (hL : L ≤ 3584) (hk : 7 * k + 7 ≤ L) (h : w_J x S R I A) (kk : ∀ S2 R2 J A2, w_J x S2 R2 J A2 → q_V X room_1 cL_law 4 (198 + 2 * (k + 1)) (2300 + 7 * (k + 1)) 1277 (l_lv k x b) [] S2 R2 J) : q_V X room_1 cL_law 4 (198 + 2 * k) (2300 + 7 * k) 1195 (l_lv k x b) [] S R I := by
  obtain ⟨r, I', J, A', q1, q2, h'⟩ := st_bestSubset h (r_iI (xs (7 * k + 1)))
  refine v_aload_n 1 2 hX dL_law_1195 rfl rfl ?_
  refine v_aload_n 0 3 hX dL_law_1196 rfl rfl ?_
  refine v_iload_n 3 0 hX dL_law_1197 rfl rfl ?_
  refine v_iconst hX dL_law_1198 ?_
  refine v_iadd hX dL_law_1199 ?_
  refine v_sld (i := 7 * k + 1) hX hs (by omega) hL (by omega) dL_law_1200 ?_
  refine v_callV (As := [.int (q_i ((xs (7 * k + 1)).toInt))]) (rest := []) (st1 := [.int (q_i r)]) (some (.int (q_i r))) hX mv_RL_182 (c_X9_bestSubset q1) ⟨rfl, rfl⟩ ⟨Nat.le_of_ble_eq_true rfl, Nat.le_of_ble_eq_true rfl⟩ (k_0 h.1) rfl rfl (Nat.le_of_ble_eq_true rfl) ⟨by show _ ≤ 719123; omega, by show _ ≤ 6944879; omega⟩ dL_law_1201 rfl ?_
  refine v_aload_n 2 1 hX dL_law_1204 rfl rfl ?_
  refine v_aload_n 0 3 hX dL_law_1205 rfl rfl ?_
  refine v_iload_n 3 0 hX dL_law_1206 rfl rfl ?_
  refine v_iconst hX dL_law_1207 ?_
  refine v_iadd hX dL_law_1208 ?_
  refine v_sld (i := 7 * k + 1) hX hs (by omega) hL (by omega) dL_law_1209 ?_
  refine v_callV (As := [.int (q_i ((xs (7 * k + 1)).toInt))]) (rest := [.int (q_i r)]) (st1 := [.int (q_i r), .int (q_i r)]) (some (.int (q_i r))) hX mv_RL_185 (c_X10_bestSubset q2) ⟨rfl, rfl⟩ ⟨Nat.le_of_ble_eq_true rfl, Nat.le_of_ble_eq_true rfl⟩ (k_171 h'.1) rfl rfl (Nat.le_of_ble_eq_true rfl) ⟨by show _ ≤ 719123; omega, by show _ ≤ 6944879; omega⟩ dL_law_1210 rfl ?_
  refine v_same (tgt := 1277) hX dL_law_1213 (by decide) ?_
  exact v_widen (k := 198 + 2 * (k + 1)) (n := 2300 + 7 * (k + 1)) (by omega) (by omega) (kk _ _ _ _ h')
theorem law_42 {X : q_X} {nm : String} {b L k x : Nat} {xs : Nat → Int32} {S : q_S} {R : q_HR} {I : q_HI} {A : q_A} (hX : q_C X cL_law 4 RL ret nm) (hs : l_sc X b L xs) (hL : L ≤ 3584) (hk : 7 * k + 7 ≤ L) (h : w_J x S R I A) (kk : ∀ S2 R2 J A2, w_J x S2 R2 J A2 → q_V X room_1 cL_law 4 (198 + 2 * (k + 1)) (2300 + 7 * (k + 1)) 1277 (l_lv k x b) [] S2 R2 J) : q_V X room_1 cL_law 4 (198 + 2 * k) (2300 + 7 * k) 1218 (l_lv k x b) [] S R I := by
  obtain ⟨r, I', J, A', q1, q2, h'⟩ := st_leastUsefulSensor h
  refine v_aload_n 1 2 hX dL_law_1218 rfl rfl ?_
  refine v_callV (As := []) (rest := []) (st1 := [.int (q_i r)]) (some (.int (q_i r))) hX mv_RL_186 (c_X9_leastUsefulSensor q1) ⟨rfl, rfl⟩ ⟨Nat.le_of_ble_eq_true rfl, Nat.le_of_ble_eq_true rfl⟩ (k_0 h.1) rfl rfl (Nat.le_of_ble_eq_true rfl) ⟨by show _ ≤ 719123; omega, by show _ ≤ 6944879; omega⟩ dL_law_1219 rfl ?_
  refine v_aload_n 2 1 hX dL_law_1222 rfl rfl ?_
  refine v_callV (As := []) (rest := [.int (q_i r)]) (st1 := [.int (q_i r), .int (q_i r)]) (some (.int (q_i r))) hX mv_RL_189 (c_X10_leastUsefulSensor q2) ⟨rfl, rfl⟩ ⟨Nat.le_of_ble_eq_true rfl, Nat.le_of_ble_eq_true rfl⟩ (k_171 h'.1) rfl rfl (Nat.le_of_ble_eq_true rfl) ⟨by show _ ≤ 719123; omega, by show _ ≤ 6944879; omega⟩ dL_law_1223 rfl ?_
  refine v_same (tgt := 1277) hX dL_law_1226 (by decide) ?_
  exact v_widen (k := 198 + 2 * (k + 1)) (n := 2300 + 7 * (k + 1)) (by omega) (by omega) (kk _ _ _ _ h')
theorem law_43 {X : q_X} {nm : String} {b L k x : Nat} {xs : Nat → Int32} {S : q_S} {R : q_HR} {I : q_HI} {A : q_A} (hX : q_C X cL_law 4 RL ret nm) (hs : l_sc X b L xs) (hL : L ≤ 3584) (hk : 7 * k + 7 ≤ L) (h : w_J x S R I A) (kk : ∀ S2 R2 J A2, w_J x S2 R2 J A2 → q_V X room_1 cL_law 4 (198 + 2 * (k + 1)) (2300 + 7 * (k + 1)) 1277 (l_lv k x b) [] S2 R2 J) : q_V X room_1 cL_law 4 (198 + 2 * k) (2300 + 7 * k) 1231 (l_lv k x b) [] S R I := by
  obtain ⟨r, I', J, A', q1, q2, h'⟩ := st_sensorScore h (r_iI (xs (7 * k + 1)))
  refine v_aload_n 1 2 hX dL_law_1231 rfl rfl ?_
  refine v_aload_n 0 3 hX dL_law_1232 rfl rfl ?_
  refine v_iload_n 3 0 hX dL_law_1233 rfl rfl ?_
  refine v_iconst hX dL_law_1234 ?_
  refine v_iadd hX dL_law_1235 ?_
  refine v_sld (i := 7 * k + 1) hX hs (by omega) hL (by omega) dL_law_1236 ?_
  refine v_callV (As := [.int (q_i ((xs (7 * k + 1)).toInt))]) (rest := []) (st1 := [.int (q_i r)]) (some (.int (q_i r))) hX mv_RL_190 (c_X9_sensorScore q1) ⟨rfl, rfl⟩ ⟨Nat.le_of_ble_eq_true rfl, Nat.le_of_ble_eq_true rfl⟩ (k_0 h.1) rfl rfl (Nat.le_of_ble_eq_true rfl) ⟨by show _ ≤ 719123; omega, by show _ ≤ 6944879; omega⟩ dL_law_1237 rfl ?_
  refine v_aload_n 2 1 hX dL_law_1240 rfl rfl ?_
  refine v_aload_n 0 3 hX dL_law_1241 rfl rfl ?_
  refine v_iload_n 3 0 hX dL_law_1242 rfl rfl ?_
  refine v_iconst hX dL_law_1243 ?_
  refine v_iadd hX dL_law_1244 ?_
  refine v_sld (i := 7 * k + 1) hX hs (by omega) hL (by omega) dL_law_1245 ?_
  refine v_callV (As := [.int (q_i ((xs (7 * k + 1)).toInt))]) (rest := [.int (q_i r)]) (st1 := [.int (q_i r), .int (q_i r)]) (some (.int (q_i r))) hX mv_RL_193 (c_X10_sensorScore q2) ⟨rfl, rfl⟩ ⟨Nat.le_of_ble_eq_true rfl, Nat.le_of_ble_eq_true rfl⟩ (k_171 h'.1) rfl rfl (Nat.le_of_ble_eq_true rfl) ⟨by show _ ≤ 719123; omega, by show _ ≤ 6944879; omega⟩ dL_law_1246 rfl ?_
  refine v_same (tgt := 1277) hX dL_law_1249 (by decide) ?_
  exact v_widen (k := 198 + 2 * (k + 1)) (n := 2300 + 7 * (k + 1)) (by omega) (by omega) (kk _ _ _ _ h')
theorem law_44 {X : q_X} {nm : String} {b L k x : Nat} {xs : Nat → Int32} {S : q_S} {R : q_HR} {I : q_HI} {A : q_A} (hX : q_C X cL_law 4 RL ret nm) (hs : l_sc X b L xs) (hL : L ≤ 3584) (hk : 7 * k + 7 ≤ L) (h : w_J x S R I A) (kk : ∀ S2 R2 J A2, w_J x S2 R2 J A2 → q_V X room_1 cL_law 4 (198 + 2 * (k + 1)) (2300 + 7 * (k + 1)) 1277 (l_lv k x b) [] S2 R2 J) : q_V X room_1 cL_law 4 (198 + 2 * k) (2300 + 7 * k) 1254 (l_lv k x b) [] S R I := by
  obtain ⟨r, I', J, A', q1, q2, h'⟩ := st_outlier h (r_iI (xs (7 * k + 1)))
  refine v_aload_n 1 2 hX dL_law_1254 rfl rfl ?_
  refine v_aload_n 0 3 hX dL_law_1255 rfl rfl ?_
  refine v_iload_n 3 0 hX dL_law_1256 rfl rfl ?_
  refine v_iconst hX dL_law_1257 ?_
  refine v_iadd hX dL_law_1258 ?_
  refine v_sld (i := 7 * k + 1) hX hs (by omega) hL (by omega) dL_law_1259 ?_
  refine v_callV (As := [.int (q_i ((xs (7 * k + 1)).toInt))]) (rest := []) (st1 := [.int (q_i r)]) (some (.int (q_i r))) hX mv_RL_194 (c_X9_outlier q1) ⟨rfl, rfl⟩ ⟨Nat.le_of_ble_eq_true rfl, Nat.le_of_ble_eq_true rfl⟩ (k_0 h.1) rfl rfl (Nat.le_of_ble_eq_true rfl) ⟨by show _ ≤ 719123; omega, by show _ ≤ 6944879; omega⟩ dL_law_1260 rfl ?_
  refine v_aload_n 2 1 hX dL_law_1263 rfl rfl ?_
  refine v_aload_n 0 3 hX dL_law_1264 rfl rfl ?_
  refine v_iload_n 3 0 hX dL_law_1265 rfl rfl ?_
  refine v_iconst hX dL_law_1266 ?_
  refine v_iadd hX dL_law_1267 ?_
  refine v_sld (i := 7 * k + 1) hX hs (by omega) hL (by omega) dL_law_1268 ?_
  refine v_callV (As := [.int (q_i ((xs (7 * k + 1)).toInt))]) (rest := [.int (q_i r)]) (st1 := [.int (q_i r), .int (q_i r)]) (some (.int (q_i r))) hX mv_RL_197 (c_X10_outlier q2) ⟨rfl, rfl⟩ ⟨Nat.le_of_ble_eq_true rfl, Nat.le_of_ble_eq_true rfl⟩ (k_171 h'.1) rfl rfl (Nat.le_of_ble_eq_true rfl) ⟨by show _ ≤ 719123; omega, by show _ ≤ 6944879; omega⟩ dL_law_1269 rfl ?_
  refine v_same (tgt := 1277) hX dL_law_1272 (by decide) ?_
  exact v_widen (k := 198 + 2 * (k + 1)) (n := 2300 + 7 * (k + 1)) (by omega) (by omega) (kk _ _ _ _ h')
