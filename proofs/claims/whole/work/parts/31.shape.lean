def w_kA : List Nat := [10, 1, 12, 9, 16, 6, 12, 4, 13, 2, 9, 16, 6, 12, 12, 4, 17, 12, 12, 12, 12, 12, 12, 12, 12, 12, 12, 13, 12, 7, 14, 12, 15, 8, 12, 12, 12, 5, 17, 12, 12, 12, 12, 12, 12, 12, 12, 12, 6, 12, 12]
def w_nA : List Nat := [0, 0, 5, 0, 12, 0, 5, 0, 5, 0, 0, 10, 0, 5, 10, 0, 10, 5, 5, 5, 5, 5, 5, 5, 5, 5, 5, 5, 5, 0, 5, 5, 8, 0, 64, 64, 8, 0, 8, 8, 8, 8, 8, 8, 8, 8, 8, 8, 0, 5, 5]
def w_kG : List Nat := [3, 9, 16, 6, 12, 17, 12, 12, 12, 12, 12, 12, 12, 12, 12]
def w_nG : List Nat := [0, 0, 8, 0, 5, 8, 5, 5, 5, 5, 5, 5, 5, 5, 5]
def w_kM : List Nat := [11, 12, 12, 12, 12, 12, 12, 13, 13, 12, 13, 12]
def w_nM : List Nat := [0, 5, 522, 10, 8, 435, 5, 5, 5, 64, 64, 8]
def w_k (d : Nat) : Nat := if d < 51 then w_kA.getD d 0 else if d < 171 then w_kG.getD ((d - 51) % 15) 0 else w_kM.getD (d - 171) 0
def w_n (d : Nat) : Nat := if d < 51 then w_nA.getD d 0 else if d < 171 then w_nG.getD ((d - 51) % 15) 0 else w_nM.getD (d - 171) 0
/-- the references that never change: class cells, groups, reference's arrays -/
def w_rA : List (Nat × Nat × Nat) := [(0, 0, 1), (0, 1, 9), (0, 2, 29), (0, 3, 32), (0, 4, 33), (0, 5, 37), (0, 6, 48), (0, 7, 50), (1, 0, 2), (1, 1, 3), (1, 2, 7), (1, 3, 8), (3, 0, 4), (3, 1, 5), (5, 1, 6), (9, 0, 10), (9, 1, 14), (9, 2, 15), (9, 3, 16), (9, 4, 27), (9, 5, 28), (10, 0, 11), (10, 1, 12), (12, 1, 13), (29, 0, 30), (29, 1, 31), (33, 0, 34), (33, 1, 35), (33, 2, 36), (37, 0, 38), (37, 1, 47), (48, 1, 49), (171, 10, 172), (171, 11, 173), (171, 12, 174), (171, 13, 175), (171, 16, 176), (171, 17, 177), (171, 20, 178), (171, 21, 179), (171, 22, 180), (171, 23, 181), (171, 25, 182)]
def w_rG : List (Nat × Nat × Nat) := [(0, 0, 1), (0, 1, 5), (0, 2, 14), (1, 0, 2), (1, 1, 3), (3, 1, 4)]
def w_Sh (x : Nat) (S : q_S) (R : q_HR) : Prop := (∀ d, d < 183 → S.1 (x + d) = w_k d ∧ S.2.1 (x + d) = w_n d) ∧ (∀ q ∈ w_rA, R (x + q.1) q.2.1 = x + q.2.2) ∧ (∀ i, i < 8 → ∀ q ∈ w_rG, R (x + 51 + 15 * i + q.1) q.2.1 = x + 51 + 15 * i + q.2.2) ∧
  (∀ j, j < 10 → R (x + 16) j = x + 17 + j) ∧ (∀ j, j < 8 → R (x + 32) j = x + 51 + 15 * j) ∧ (∀ j, j < 8 → R (x + 38) j = x + 39 + j) ∧ (∀ i, i < 8 → ∀ j, j < 8 → R (x + 51 + 15 * i + 5) j = x + 51 + 15 * i + 6 + j) ∧ x + 183 ≤ S.2.2 ∧ 0 < x
section WS
variable {x : Nat} {S : q_S} {R : q_HR}
theorem k_0 (h : w_Sh x S R) : S.1 x = 10 := (h.1 0 (by decide)).1
theorem k_1 (h : w_Sh x S R) : S.1 (x + 1) = 1 := (h.1 1 (by decide)).1
theorem k_2 (h : w_Sh x S R) : S.1 (x + 2) = 12 := (h.1 2 (by decide)).1
theorem n_2 (h : w_Sh x S R) : S.2.1 (x + 2) = 5 := (h.1 2 (by decide)).2
theorem k_3 (h : w_Sh x S R) : S.1 (x + 3) = 9 := (h.1 3 (by decide)).1
theorem k_4 (h : w_Sh x S R) : S.1 (x + 4) = 16 := (h.1 4 (by decide)).1
theorem n_4 (h : w_Sh x S R) : S.2.1 (x + 4) = 12 := (h.1 4 (by decide)).2
theorem k_5 (h : w_Sh x S R) : S.1 (x + 5) = 6 := (h.1 5 (by decide)).1
theorem k_6 (h : w_Sh x S R) : S.1 (x + 6) = 12 := (h.1 6 (by decide)).1
theorem n_6 (h : w_Sh x S R) : S.2.1 (x + 6) = 5 := (h.1 6 (by decide)).2
theorem k_7 (h : w_Sh x S R) : S.1 (x + 7) = 4 := (h.1 7 (by decide)).1
theorem k_8 (h : w_Sh x S R) : S.1 (x + 8) = 13 := (h.1 8 (by decide)).1
theorem n_8 (h : w_Sh x S R) : S.2.1 (x + 8) = 5 := (h.1 8 (by decide)).2
theorem k_9 (h : w_Sh x S R) : S.1 (x + 9) = 2 := (h.1 9 (by decide)).1
theorem k_10 (h : w_Sh x S R) : S.1 (x + 10) = 9 := (h.1 10 (by decide)).1
theorem k_11 (h : w_Sh x S R) : S.1 (x + 11) = 16 := (h.1 11 (by decide)).1
theorem n_11 (h : w_Sh x S R) : S.2.1 (x + 11) = 10 := (h.1 11 (by decide)).2
theorem k_12 (h : w_Sh x S R) : S.1 (x + 12) = 6 := (h.1 12 (by decide)).1
theorem k_13 (h : w_Sh x S R) : S.1 (x + 13) = 12 := (h.1 13 (by decide)).1
theorem n_13 (h : w_Sh x S R) : S.2.1 (x + 13) = 5 := (h.1 13 (by decide)).2
theorem k_14 (h : w_Sh x S R) : S.1 (x + 14) = 12 := (h.1 14 (by decide)).1
theorem n_14 (h : w_Sh x S R) : S.2.1 (x + 14) = 10 := (h.1 14 (by decide)).2
theorem k_15 (h : w_Sh x S R) : S.1 (x + 15) = 4 := (h.1 15 (by decide)).1
theorem k_16 (h : w_Sh x S R) : S.1 (x + 16) = 17 := (h.1 16 (by decide)).1
theorem n_16 (h : w_Sh x S R) : S.2.1 (x + 16) = 10 := (h.1 16 (by decide)).2
theorem k_17 (h : w_Sh x S R) : S.1 (x + 17) = 12 := (h.1 17 (by decide)).1
theorem n_17 (h : w_Sh x S R) : S.2.1 (x + 17) = 5 := (h.1 17 (by decide)).2
theorem k_18 (h : w_Sh x S R) : S.1 (x + 18) = 12 := (h.1 18 (by decide)).1
theorem n_18 (h : w_Sh x S R) : S.2.1 (x + 18) = 5 := (h.1 18 (by decide)).2
theorem k_19 (h : w_Sh x S R) : S.1 (x + 19) = 12 := (h.1 19 (by decide)).1
theorem n_19 (h : w_Sh x S R) : S.2.1 (x + 19) = 5 := (h.1 19 (by decide)).2
theorem k_20 (h : w_Sh x S R) : S.1 (x + 20) = 12 := (h.1 20 (by decide)).1
theorem n_20 (h : w_Sh x S R) : S.2.1 (x + 20) = 5 := (h.1 20 (by decide)).2
theorem k_21 (h : w_Sh x S R) : S.1 (x + 21) = 12 := (h.1 21 (by decide)).1
theorem n_21 (h : w_Sh x S R) : S.2.1 (x + 21) = 5 := (h.1 21 (by decide)).2
theorem k_22 (h : w_Sh x S R) : S.1 (x + 22) = 12 := (h.1 22 (by decide)).1
theorem n_22 (h : w_Sh x S R) : S.2.1 (x + 22) = 5 := (h.1 22 (by decide)).2
theorem k_23 (h : w_Sh x S R) : S.1 (x + 23) = 12 := (h.1 23 (by decide)).1
theorem n_23 (h : w_Sh x S R) : S.2.1 (x + 23) = 5 := (h.1 23 (by decide)).2
theorem k_24 (h : w_Sh x S R) : S.1 (x + 24) = 12 := (h.1 24 (by decide)).1
theorem n_24 (h : w_Sh x S R) : S.2.1 (x + 24) = 5 := (h.1 24 (by decide)).2
theorem k_25 (h : w_Sh x S R) : S.1 (x + 25) = 12 := (h.1 25 (by decide)).1
theorem n_25 (h : w_Sh x S R) : S.2.1 (x + 25) = 5 := (h.1 25 (by decide)).2
theorem k_26 (h : w_Sh x S R) : S.1 (x + 26) = 12 := (h.1 26 (by decide)).1
theorem n_26 (h : w_Sh x S R) : S.2.1 (x + 26) = 5 := (h.1 26 (by decide)).2
theorem k_27 (h : w_Sh x S R) : S.1 (x + 27) = 13 := (h.1 27 (by decide)).1
theorem n_27 (h : w_Sh x S R) : S.2.1 (x + 27) = 5 := (h.1 27 (by decide)).2
theorem k_28 (h : w_Sh x S R) : S.1 (x + 28) = 12 := (h.1 28 (by decide)).1
theorem n_28 (h : w_Sh x S R) : S.2.1 (x + 28) = 5 := (h.1 28 (by decide)).2
theorem k_29 (h : w_Sh x S R) : S.1 (x + 29) = 7 := (h.1 29 (by decide)).1
theorem k_30 (h : w_Sh x S R) : S.1 (x + 30) = 14 := (h.1 30 (by decide)).1
theorem n_30 (h : w_Sh x S R) : S.2.1 (x + 30) = 5 := (h.1 30 (by decide)).2
theorem k_31 (h : w_Sh x S R) : S.1 (x + 31) = 12 := (h.1 31 (by decide)).1
theorem n_31 (h : w_Sh x S R) : S.2.1 (x + 31) = 5 := (h.1 31 (by decide)).2
theorem k_32 (h : w_Sh x S R) : S.1 (x + 32) = 15 := (h.1 32 (by decide)).1
theorem n_32 (h : w_Sh x S R) : S.2.1 (x + 32) = 8 := (h.1 32 (by decide)).2
theorem k_33 (h : w_Sh x S R) : S.1 (x + 33) = 8 := (h.1 33 (by decide)).1
theorem k_34 (h : w_Sh x S R) : S.1 (x + 34) = 12 := (h.1 34 (by decide)).1
theorem n_34 (h : w_Sh x S R) : S.2.1 (x + 34) = 64 := (h.1 34 (by decide)).2
theorem k_35 (h : w_Sh x S R) : S.1 (x + 35) = 12 := (h.1 35 (by decide)).1
theorem n_35 (h : w_Sh x S R) : S.2.1 (x + 35) = 64 := (h.1 35 (by decide)).2
theorem k_36 (h : w_Sh x S R) : S.1 (x + 36) = 12 := (h.1 36 (by decide)).1
theorem n_36 (h : w_Sh x S R) : S.2.1 (x + 36) = 8 := (h.1 36 (by decide)).2
theorem k_37 (h : w_Sh x S R) : S.1 (x + 37) = 5 := (h.1 37 (by decide)).1
theorem k_38 (h : w_Sh x S R) : S.1 (x + 38) = 17 := (h.1 38 (by decide)).1
theorem n_38 (h : w_Sh x S R) : S.2.1 (x + 38) = 8 := (h.1 38 (by decide)).2
theorem k_39 (h : w_Sh x S R) : S.1 (x + 39) = 12 := (h.1 39 (by decide)).1
theorem n_39 (h : w_Sh x S R) : S.2.1 (x + 39) = 8 := (h.1 39 (by decide)).2
theorem k_40 (h : w_Sh x S R) : S.1 (x + 40) = 12 := (h.1 40 (by decide)).1
theorem n_40 (h : w_Sh x S R) : S.2.1 (x + 40) = 8 := (h.1 40 (by decide)).2
theorem k_41 (h : w_Sh x S R) : S.1 (x + 41) = 12 := (h.1 41 (by decide)).1
theorem n_41 (h : w_Sh x S R) : S.2.1 (x + 41) = 8 := (h.1 41 (by decide)).2
theorem k_42 (h : w_Sh x S R) : S.1 (x + 42) = 12 := (h.1 42 (by decide)).1
theorem n_42 (h : w_Sh x S R) : S.2.1 (x + 42) = 8 := (h.1 42 (by decide)).2
theorem k_43 (h : w_Sh x S R) : S.1 (x + 43) = 12 := (h.1 43 (by decide)).1
theorem n_43 (h : w_Sh x S R) : S.2.1 (x + 43) = 8 := (h.1 43 (by decide)).2
theorem k_44 (h : w_Sh x S R) : S.1 (x + 44) = 12 := (h.1 44 (by decide)).1
theorem n_44 (h : w_Sh x S R) : S.2.1 (x + 44) = 8 := (h.1 44 (by decide)).2
theorem k_45 (h : w_Sh x S R) : S.1 (x + 45) = 12 := (h.1 45 (by decide)).1
theorem n_45 (h : w_Sh x S R) : S.2.1 (x + 45) = 8 := (h.1 45 (by decide)).2
theorem k_46 (h : w_Sh x S R) : S.1 (x + 46) = 12 := (h.1 46 (by decide)).1
theorem n_46 (h : w_Sh x S R) : S.2.1 (x + 46) = 8 := (h.1 46 (by decide)).2
theorem k_47 (h : w_Sh x S R) : S.1 (x + 47) = 12 := (h.1 47 (by decide)).1
theorem n_47 (h : w_Sh x S R) : S.2.1 (x + 47) = 8 := (h.1 47 (by decide)).2
theorem k_48 (h : w_Sh x S R) : S.1 (x + 48) = 6 := (h.1 48 (by decide)).1
theorem k_49 (h : w_Sh x S R) : S.1 (x + 49) = 12 := (h.1 49 (by decide)).1
theorem n_49 (h : w_Sh x S R) : S.2.1 (x + 49) = 5 := (h.1 49 (by decide)).2
theorem k_50 (h : w_Sh x S R) : S.1 (x + 50) = 12 := (h.1 50 (by decide)).1
theorem n_50 (h : w_Sh x S R) : S.2.1 (x + 50) = 5 := (h.1 50 (by decide)).2
theorem k_171 (h : w_Sh x S R) : S.1 (x + 171) = 11 := (h.1 171 (by decide)).1
theorem k_172 (h : w_Sh x S R) : S.1 (x + 172) = 12 := (h.1 172 (by decide)).1
theorem n_172 (h : w_Sh x S R) : S.2.1 (x + 172) = 5 := (h.1 172 (by decide)).2
theorem k_173 (h : w_Sh x S R) : S.1 (x + 173) = 12 := (h.1 173 (by decide)).1
theorem n_173 (h : w_Sh x S R) : S.2.1 (x + 173) = 522 := (h.1 173 (by decide)).2
theorem k_174 (h : w_Sh x S R) : S.1 (x + 174) = 12 := (h.1 174 (by decide)).1
theorem n_174 (h : w_Sh x S R) : S.2.1 (x + 174) = 10 := (h.1 174 (by decide)).2
theorem k_175 (h : w_Sh x S R) : S.1 (x + 175) = 12 := (h.1 175 (by decide)).1
theorem n_175 (h : w_Sh x S R) : S.2.1 (x + 175) = 8 := (h.1 175 (by decide)).2
theorem k_176 (h : w_Sh x S R) : S.1 (x + 176) = 12 := (h.1 176 (by decide)).1
theorem n_176 (h : w_Sh x S R) : S.2.1 (x + 176) = 435 := (h.1 176 (by decide)).2
theorem k_177 (h : w_Sh x S R) : S.1 (x + 177) = 12 := (h.1 177 (by decide)).1
theorem n_177 (h : w_Sh x S R) : S.2.1 (x + 177) = 5 := (h.1 177 (by decide)).2
theorem k_178 (h : w_Sh x S R) : S.1 (x + 178) = 13 := (h.1 178 (by decide)).1
theorem n_178 (h : w_Sh x S R) : S.2.1 (x + 178) = 5 := (h.1 178 (by decide)).2
theorem k_179 (h : w_Sh x S R) : S.1 (x + 179) = 13 := (h.1 179 (by decide)).1
theorem n_179 (h : w_Sh x S R) : S.2.1 (x + 179) = 5 := (h.1 179 (by decide)).2
theorem k_180 (h : w_Sh x S R) : S.1 (x + 180) = 12 := (h.1 180 (by decide)).1
theorem n_180 (h : w_Sh x S R) : S.2.1 (x + 180) = 64 := (h.1 180 (by decide)).2
theorem k_181 (h : w_Sh x S R) : S.1 (x + 181) = 13 := (h.1 181 (by decide)).1
theorem n_181 (h : w_Sh x S R) : S.2.1 (x + 181) = 64 := (h.1 181 (by decide)).2
theorem k_182 (h : w_Sh x S R) : S.1 (x + 182) = 12 := (h.1 182 (by decide)).1
theorem n_182 (h : w_Sh x S R) : S.2.1 (x + 182) = 8 := (h.1 182 (by decide)).2
theorem r_0_0 (h : w_Sh x S R) : R x 0 = x + 1 := h.2.1 (0, 0, 1) (List.mem_of_getElem? (i := 0) rfl)
theorem r_0_1 (h : w_Sh x S R) : R x 1 = x + 9 := h.2.1 (0, 1, 9) (List.mem_of_getElem? (i := 1) rfl)
theorem r_0_2 (h : w_Sh x S R) : R x 2 = x + 29 := h.2.1 (0, 2, 29) (List.mem_of_getElem? (i := 2) rfl)
theorem r_0_3 (h : w_Sh x S R) : R x 3 = x + 32 := h.2.1 (0, 3, 32) (List.mem_of_getElem? (i := 3) rfl)
theorem r_0_4 (h : w_Sh x S R) : R x 4 = x + 33 := h.2.1 (0, 4, 33) (List.mem_of_getElem? (i := 4) rfl)
theorem r_0_5 (h : w_Sh x S R) : R x 5 = x + 37 := h.2.1 (0, 5, 37) (List.mem_of_getElem? (i := 5) rfl)
theorem r_0_6 (h : w_Sh x S R) : R x 6 = x + 48 := h.2.1 (0, 6, 48) (List.mem_of_getElem? (i := 6) rfl)
theorem r_0_7 (h : w_Sh x S R) : R x 7 = x + 50 := h.2.1 (0, 7, 50) (List.mem_of_getElem? (i := 7) rfl)
theorem r_1_0 (h : w_Sh x S R) : R (x + 1) 0 = x + 2 := h.2.1 (1, 0, 2) (List.mem_of_getElem? (i := 8) rfl)
theorem r_1_1 (h : w_Sh x S R) : R (x + 1) 1 = x + 3 := h.2.1 (1, 1, 3) (List.mem_of_getElem? (i := 9) rfl)
theorem r_1_2 (h : w_Sh x S R) : R (x + 1) 2 = x + 7 := h.2.1 (1, 2, 7) (List.mem_of_getElem? (i := 10) rfl)
theorem r_1_3 (h : w_Sh x S R) : R (x + 1) 3 = x + 8 := h.2.1 (1, 3, 8) (List.mem_of_getElem? (i := 11) rfl)
theorem r_3_0 (h : w_Sh x S R) : R (x + 3) 0 = x + 4 := h.2.1 (3, 0, 4) (List.mem_of_getElem? (i := 12) rfl)
theorem r_3_1 (h : w_Sh x S R) : R (x + 3) 1 = x + 5 := h.2.1 (3, 1, 5) (List.mem_of_getElem? (i := 13) rfl)
theorem r_5_1 (h : w_Sh x S R) : R (x + 5) 1 = x + 6 := h.2.1 (5, 1, 6) (List.mem_of_getElem? (i := 14) rfl)
theorem r_9_0 (h : w_Sh x S R) : R (x + 9) 0 = x + 10 := h.2.1 (9, 0, 10) (List.mem_of_getElem? (i := 15) rfl)
theorem r_9_1 (h : w_Sh x S R) : R (x + 9) 1 = x + 14 := h.2.1 (9, 1, 14) (List.mem_of_getElem? (i := 16) rfl)
theorem r_9_2 (h : w_Sh x S R) : R (x + 9) 2 = x + 15 := h.2.1 (9, 2, 15) (List.mem_of_getElem? (i := 17) rfl)
theorem r_9_3 (h : w_Sh x S R) : R (x + 9) 3 = x + 16 := h.2.1 (9, 3, 16) (List.mem_of_getElem? (i := 18) rfl)
theorem r_9_4 (h : w_Sh x S R) : R (x + 9) 4 = x + 27 := h.2.1 (9, 4, 27) (List.mem_of_getElem? (i := 19) rfl)
theorem r_9_5 (h : w_Sh x S R) : R (x + 9) 5 = x + 28 := h.2.1 (9, 5, 28) (List.mem_of_getElem? (i := 20) rfl)
theorem r_10_0 (h : w_Sh x S R) : R (x + 10) 0 = x + 11 := h.2.1 (10, 0, 11) (List.mem_of_getElem? (i := 21) rfl)
theorem r_10_1 (h : w_Sh x S R) : R (x + 10) 1 = x + 12 := h.2.1 (10, 1, 12) (List.mem_of_getElem? (i := 22) rfl)
theorem r_12_1 (h : w_Sh x S R) : R (x + 12) 1 = x + 13 := h.2.1 (12, 1, 13) (List.mem_of_getElem? (i := 23) rfl)
theorem r_29_0 (h : w_Sh x S R) : R (x + 29) 0 = x + 30 := h.2.1 (29, 0, 30) (List.mem_of_getElem? (i := 24) rfl)
theorem r_29_1 (h : w_Sh x S R) : R (x + 29) 1 = x + 31 := h.2.1 (29, 1, 31) (List.mem_of_getElem? (i := 25) rfl)
theorem r_33_0 (h : w_Sh x S R) : R (x + 33) 0 = x + 34 := h.2.1 (33, 0, 34) (List.mem_of_getElem? (i := 26) rfl)
theorem r_33_1 (h : w_Sh x S R) : R (x + 33) 1 = x + 35 := h.2.1 (33, 1, 35) (List.mem_of_getElem? (i := 27) rfl)
theorem r_33_2 (h : w_Sh x S R) : R (x + 33) 2 = x + 36 := h.2.1 (33, 2, 36) (List.mem_of_getElem? (i := 28) rfl)
theorem r_37_0 (h : w_Sh x S R) : R (x + 37) 0 = x + 38 := h.2.1 (37, 0, 38) (List.mem_of_getElem? (i := 29) rfl)
theorem r_37_1 (h : w_Sh x S R) : R (x + 37) 1 = x + 47 := h.2.1 (37, 1, 47) (List.mem_of_getElem? (i := 30) rfl)
theorem r_48_1 (h : w_Sh x S R) : R (x + 48) 1 = x + 49 := h.2.1 (48, 1, 49) (List.mem_of_getElem? (i := 31) rfl)
theorem r_171_10 (h : w_Sh x S R) : R (x + 171) 10 = x + 172 := h.2.1 (171, 10, 172) (List.mem_of_getElem? (i := 32) rfl)
theorem r_171_11 (h : w_Sh x S R) : R (x + 171) 11 = x + 173 := h.2.1 (171, 11, 173) (List.mem_of_getElem? (i := 33) rfl)
theorem r_171_12 (h : w_Sh x S R) : R (x + 171) 12 = x + 174 := h.2.1 (171, 12, 174) (List.mem_of_getElem? (i := 34) rfl)
theorem r_171_13 (h : w_Sh x S R) : R (x + 171) 13 = x + 175 := h.2.1 (171, 13, 175) (List.mem_of_getElem? (i := 35) rfl)
theorem r_171_16 (h : w_Sh x S R) : R (x + 171) 16 = x + 176 := h.2.1 (171, 16, 176) (List.mem_of_getElem? (i := 36) rfl)
theorem r_171_17 (h : w_Sh x S R) : R (x + 171) 17 = x + 177 := h.2.1 (171, 17, 177) (List.mem_of_getElem? (i := 37) rfl)
theorem r_171_20 (h : w_Sh x S R) : R (x + 171) 20 = x + 178 := h.2.1 (171, 20, 178) (List.mem_of_getElem? (i := 38) rfl)
theorem r_171_21 (h : w_Sh x S R) : R (x + 171) 21 = x + 179 := h.2.1 (171, 21, 179) (List.mem_of_getElem? (i := 39) rfl)
theorem r_171_22 (h : w_Sh x S R) : R (x + 171) 22 = x + 180 := h.2.1 (171, 22, 180) (List.mem_of_getElem? (i := 40) rfl)
theorem r_171_23 (h : w_Sh x S R) : R (x + 171) 23 = x + 181 := h.2.1 (171, 23, 181) (List.mem_of_getElem? (i := 41) rfl)
theorem r_171_25 (h : w_Sh x S R) : R (x + 171) 25 = x + 182 := h.2.1 (171, 25, 182) (List.mem_of_getElem? (i := 42) rfl)
theorem w_kg {i c : Nat} (hi : i < 8) (hc : c < 15) : w_k (51 + 15 * i + c) = w_kG.getD c 0 := by
  unfold w_k
  rw [if_neg (by omega), if_pos (by omega), show (51 + 15 * i + c - 51) % 15 = c by omega]
theorem w_ng {i c : Nat} (hi : i < 8) (hc : c < 15) : w_n (51 + 15 * i + c) = w_nG.getD c 0 := by
  unfold w_n
  rw [if_neg (by omega), if_pos (by omega), show (51 + 15 * i + c - 51) % 15 = c by omega]
theorem kg_0 (h : w_Sh x S R) {i : Nat} (hi : i < 8) : S.1 (x + 51 + 15 * i) = 3 := by
  rw [show x + 51 + 15 * i = x + (51 + 15 * i + 0) by omega, (h.1 (51 + 15 * i + 0) (by omega)).1, w_kg hi (by decide)]
  rfl
theorem kg_1 (h : w_Sh x S R) {i : Nat} (hi : i < 8) : S.1 (x + 51 + 15 * i + 1) = 9 := by
  rw [show x + 51 + 15 * i + 1 = x + (51 + 15 * i + 1) by omega, (h.1 (51 + 15 * i + 1) (by omega)).1, w_kg hi (by decide)]
  rfl
theorem kg_2 (h : w_Sh x S R) {i : Nat} (hi : i < 8) : S.1 (x + 51 + 15 * i + 2) = 16 := by
  rw [show x + 51 + 15 * i + 2 = x + (51 + 15 * i + 2) by omega, (h.1 (51 + 15 * i + 2) (by omega)).1, w_kg hi (by decide)]
  rfl
theorem ng_2 (h : w_Sh x S R) {i : Nat} (hi : i < 8) : S.2.1 (x + 51 + 15 * i + 2) = 8 := by
  rw [show x + 51 + 15 * i + 2 = x + (51 + 15 * i + 2) by omega, (h.1 (51 + 15 * i + 2) (by omega)).2, w_ng hi (by decide)]
  rfl
theorem kg_3 (h : w_Sh x S R) {i : Nat} (hi : i < 8) : S.1 (x + 51 + 15 * i + 3) = 6 := by
  rw [show x + 51 + 15 * i + 3 = x + (51 + 15 * i + 3) by omega, (h.1 (51 + 15 * i + 3) (by omega)).1, w_kg hi (by decide)]
  rfl
theorem kg_4 (h : w_Sh x S R) {i : Nat} (hi : i < 8) : S.1 (x + 51 + 15 * i + 4) = 12 := by
  rw [show x + 51 + 15 * i + 4 = x + (51 + 15 * i + 4) by omega, (h.1 (51 + 15 * i + 4) (by omega)).1, w_kg hi (by decide)]
  rfl
theorem ng_4 (h : w_Sh x S R) {i : Nat} (hi : i < 8) : S.2.1 (x + 51 + 15 * i + 4) = 5 := by
  rw [show x + 51 + 15 * i + 4 = x + (51 + 15 * i + 4) by omega, (h.1 (51 + 15 * i + 4) (by omega)).2, w_ng hi (by decide)]
  rfl
theorem kg_5 (h : w_Sh x S R) {i : Nat} (hi : i < 8) : S.1 (x + 51 + 15 * i + 5) = 17 := by
  rw [show x + 51 + 15 * i + 5 = x + (51 + 15 * i + 5) by omega, (h.1 (51 + 15 * i + 5) (by omega)).1, w_kg hi (by decide)]
  rfl
theorem ng_5 (h : w_Sh x S R) {i : Nat} (hi : i < 8) : S.2.1 (x + 51 + 15 * i + 5) = 8 := by
  rw [show x + 51 + 15 * i + 5 = x + (51 + 15 * i + 5) by omega, (h.1 (51 + 15 * i + 5) (by omega)).2, w_ng hi (by decide)]
  rfl
theorem kg_6 (h : w_Sh x S R) {i : Nat} (hi : i < 8) : S.1 (x + 51 + 15 * i + 6) = 12 := by
  rw [show x + 51 + 15 * i + 6 = x + (51 + 15 * i + 6) by omega, (h.1 (51 + 15 * i + 6) (by omega)).1, w_kg hi (by decide)]
  rfl
theorem ng_6 (h : w_Sh x S R) {i : Nat} (hi : i < 8) : S.2.1 (x + 51 + 15 * i + 6) = 5 := by
  rw [show x + 51 + 15 * i + 6 = x + (51 + 15 * i + 6) by omega, (h.1 (51 + 15 * i + 6) (by omega)).2, w_ng hi (by decide)]
  rfl
theorem kg_7 (h : w_Sh x S R) {i : Nat} (hi : i < 8) : S.1 (x + 51 + 15 * i + 7) = 12 := by
  rw [show x + 51 + 15 * i + 7 = x + (51 + 15 * i + 7) by omega, (h.1 (51 + 15 * i + 7) (by omega)).1, w_kg hi (by decide)]
  rfl
theorem ng_7 (h : w_Sh x S R) {i : Nat} (hi : i < 8) : S.2.1 (x + 51 + 15 * i + 7) = 5 := by
  rw [show x + 51 + 15 * i + 7 = x + (51 + 15 * i + 7) by omega, (h.1 (51 + 15 * i + 7) (by omega)).2, w_ng hi (by decide)]
  rfl
theorem kg_8 (h : w_Sh x S R) {i : Nat} (hi : i < 8) : S.1 (x + 51 + 15 * i + 8) = 12 := by
  rw [show x + 51 + 15 * i + 8 = x + (51 + 15 * i + 8) by omega, (h.1 (51 + 15 * i + 8) (by omega)).1, w_kg hi (by decide)]
  rfl
theorem ng_8 (h : w_Sh x S R) {i : Nat} (hi : i < 8) : S.2.1 (x + 51 + 15 * i + 8) = 5 := by
  rw [show x + 51 + 15 * i + 8 = x + (51 + 15 * i + 8) by omega, (h.1 (51 + 15 * i + 8) (by omega)).2, w_ng hi (by decide)]
  rfl
theorem kg_9 (h : w_Sh x S R) {i : Nat} (hi : i < 8) : S.1 (x + 51 + 15 * i + 9) = 12 := by
  rw [show x + 51 + 15 * i + 9 = x + (51 + 15 * i + 9) by omega, (h.1 (51 + 15 * i + 9) (by omega)).1, w_kg hi (by decide)]
  rfl
theorem ng_9 (h : w_Sh x S R) {i : Nat} (hi : i < 8) : S.2.1 (x + 51 + 15 * i + 9) = 5 := by
  rw [show x + 51 + 15 * i + 9 = x + (51 + 15 * i + 9) by omega, (h.1 (51 + 15 * i + 9) (by omega)).2, w_ng hi (by decide)]
  rfl
theorem kg_10 (h : w_Sh x S R) {i : Nat} (hi : i < 8) : S.1 (x + 51 + 15 * i + 10) = 12 := by
  rw [show x + 51 + 15 * i + 10 = x + (51 + 15 * i + 10) by omega, (h.1 (51 + 15 * i + 10) (by omega)).1, w_kg hi (by decide)]
  rfl
theorem ng_10 (h : w_Sh x S R) {i : Nat} (hi : i < 8) : S.2.1 (x + 51 + 15 * i + 10) = 5 := by
  rw [show x + 51 + 15 * i + 10 = x + (51 + 15 * i + 10) by omega, (h.1 (51 + 15 * i + 10) (by omega)).2, w_ng hi (by decide)]
  rfl
theorem kg_11 (h : w_Sh x S R) {i : Nat} (hi : i < 8) : S.1 (x + 51 + 15 * i + 11) = 12 := by
  rw [show x + 51 + 15 * i + 11 = x + (51 + 15 * i + 11) by omega, (h.1 (51 + 15 * i + 11) (by omega)).1, w_kg hi (by decide)]
  rfl
theorem ng_11 (h : w_Sh x S R) {i : Nat} (hi : i < 8) : S.2.1 (x + 51 + 15 * i + 11) = 5 := by
  rw [show x + 51 + 15 * i + 11 = x + (51 + 15 * i + 11) by omega, (h.1 (51 + 15 * i + 11) (by omega)).2, w_ng hi (by decide)]
  rfl
theorem kg_12 (h : w_Sh x S R) {i : Nat} (hi : i < 8) : S.1 (x + 51 + 15 * i + 12) = 12 := by
  rw [show x + 51 + 15 * i + 12 = x + (51 + 15 * i + 12) by omega, (h.1 (51 + 15 * i + 12) (by omega)).1, w_kg hi (by decide)]
  rfl
theorem ng_12 (h : w_Sh x S R) {i : Nat} (hi : i < 8) : S.2.1 (x + 51 + 15 * i + 12) = 5 := by
  rw [show x + 51 + 15 * i + 12 = x + (51 + 15 * i + 12) by omega, (h.1 (51 + 15 * i + 12) (by omega)).2, w_ng hi (by decide)]
  rfl
theorem kg_13 (h : w_Sh x S R) {i : Nat} (hi : i < 8) : S.1 (x + 51 + 15 * i + 13) = 12 := by
  rw [show x + 51 + 15 * i + 13 = x + (51 + 15 * i + 13) by omega, (h.1 (51 + 15 * i + 13) (by omega)).1, w_kg hi (by decide)]
  rfl
theorem ng_13 (h : w_Sh x S R) {i : Nat} (hi : i < 8) : S.2.1 (x + 51 + 15 * i + 13) = 5 := by
  rw [show x + 51 + 15 * i + 13 = x + (51 + 15 * i + 13) by omega, (h.1 (51 + 15 * i + 13) (by omega)).2, w_ng hi (by decide)]
  rfl
theorem kg_14 (h : w_Sh x S R) {i : Nat} (hi : i < 8) : S.1 (x + 51 + 15 * i + 14) = 12 := by
  rw [show x + 51 + 15 * i + 14 = x + (51 + 15 * i + 14) by omega, (h.1 (51 + 15 * i + 14) (by omega)).1, w_kg hi (by decide)]
  rfl
theorem ng_14 (h : w_Sh x S R) {i : Nat} (hi : i < 8) : S.2.1 (x + 51 + 15 * i + 14) = 5 := by
  rw [show x + 51 + 15 * i + 14 = x + (51 + 15 * i + 14) by omega, (h.1 (51 + 15 * i + 14) (by omega)).2, w_ng hi (by decide)]
  rfl
theorem rg_0_0 (h : w_Sh x S R) {i : Nat} (hi : i < 8) : R (x + 51 + 15 * i) 0 = x + 51 + 15 * i + 1 := h.2.2.1 i hi (0, 0, 1) (List.mem_of_getElem? (i := 0) rfl)
theorem rg_0_1 (h : w_Sh x S R) {i : Nat} (hi : i < 8) : R (x + 51 + 15 * i) 1 = x + 51 + 15 * i + 5 := h.2.2.1 i hi (0, 1, 5) (List.mem_of_getElem? (i := 1) rfl)
theorem rg_0_2 (h : w_Sh x S R) {i : Nat} (hi : i < 8) : R (x + 51 + 15 * i) 2 = x + 51 + 15 * i + 14 := h.2.2.1 i hi (0, 2, 14) (List.mem_of_getElem? (i := 2) rfl)
theorem rg_1_0 (h : w_Sh x S R) {i : Nat} (hi : i < 8) : R (x + 51 + 15 * i + 1) 0 = x + 51 + 15 * i + 2 := h.2.2.1 i hi (1, 0, 2) (List.mem_of_getElem? (i := 3) rfl)
theorem rg_1_1 (h : w_Sh x S R) {i : Nat} (hi : i < 8) : R (x + 51 + 15 * i + 1) 1 = x + 51 + 15 * i + 3 := h.2.2.1 i hi (1, 1, 3) (List.mem_of_getElem? (i := 4) rfl)
theorem rg_3_1 (h : w_Sh x S R) {i : Nat} (hi : i < 8) : R (x + 51 + 15 * i + 3) 1 = x + 51 + 15 * i + 4 := h.2.2.1 i hi (3, 1, 4) (List.mem_of_getElem? (i := 5) rfl)
theorem r_16 (h : w_Sh x S R) {j : Nat} (hj : j < 10) : R (x + 16) j = x + 17 + j := h.2.2.2.1 j hj
theorem r_32 (h : w_Sh x S R) {j : Nat} (hj : j < 8) : R (x + 32) j = x + 51 + 15 * j := h.2.2.2.2.1 j hj
theorem r_38 (h : w_Sh x S R) {j : Nat} (hj : j < 8) : R (x + 38) j = x + 39 + j := h.2.2.2.2.2.1 j hj
theorem rg_5 (h : w_Sh x S R) {i j : Nat} (hi : i < 8) (hj : j < 8) : R (x + 51 + 15 * i + 5) j = x + 51 + 15 * i + 6 + j := h.2.2.2.2.2.2.1 i hi j hj
theorem kg_row (h : w_Sh x S R) {i j : Nat} (hi : i < 8) (hj : j < 8) : S.1 (x + 51 + 15 * i + 6 + j) = 12 ∧ S.2.1 (x + 51 + 15 * i + 6 + j) = 5 := by
  have e : x + 51 + 15 * i + 6 + j = x + (51 + 15 * i + (6 + j)) := by omega
  have h1 := h.1 (51 + 15 * i + (6 + j)) (by omega)
  rw [w_kg hi (by omega), w_ng hi (by omega)] at h1
  rw [e]
  rcases (show j = 0 ∨ j = 1 ∨ j = 2 ∨ j = 3 ∨ j = 4 ∨ j = 5 ∨ j = 6 ∨ j = 7 by omega) with rfl | rfl | rfl | rfl | rfl | rfl | rfl | rfl <;> exact h1
theorem k_row17 (h : w_Sh x S R) {j : Nat} (hj : j < 10) : S.1 (x + 17 + j) = 12 ∧ S.2.1 (x + 17 + j) = 5 := by
  rcases (show j = 0 ∨ j = 1 ∨ j = 2 ∨ j = 3 ∨ j = 4 ∨ j = 5 ∨ j = 6 ∨ j = 7 ∨ j = 8 ∨ j = 9 by omega) with rfl | rfl | rfl | rfl | rfl | rfl | rfl | rfl | rfl | rfl
  · exact ⟨k_17 h, n_17 h⟩
  · exact ⟨k_18 h, n_18 h⟩
  · exact ⟨k_19 h, n_19 h⟩
  · exact ⟨k_20 h, n_20 h⟩
  · exact ⟨k_21 h, n_21 h⟩
  · exact ⟨k_22 h, n_22 h⟩
  · exact ⟨k_23 h, n_23 h⟩
  · exact ⟨k_24 h, n_24 h⟩
  · exact ⟨k_25 h, n_25 h⟩
  · exact ⟨k_26 h, n_26 h⟩
theorem k_row39 (h : w_Sh x S R) {j : Nat} (hj : j < 8) : S.1 (x + 39 + j) = 12 ∧ S.2.1 (x + 39 + j) = 8 := by
  rcases (show j = 0 ∨ j = 1 ∨ j = 2 ∨ j = 3 ∨ j = 4 ∨ j = 5 ∨ j = 6 ∨ j = 7 by omega) with rfl | rfl | rfl | rfl | rfl | rfl | rfl | rfl
  · exact ⟨k_39 h, n_39 h⟩
  · exact ⟨k_40 h, n_40 h⟩
  · exact ⟨k_41 h, n_41 h⟩
  · exact ⟨k_42 h, n_42 h⟩
  · exact ⟨k_43 h, n_43 h⟩
  · exact ⟨k_44 h, n_44 h⟩
  · exact ⟨k_45 h, n_45 h⟩
  · exact ⟨k_46 h, n_46 h⟩
end WS
