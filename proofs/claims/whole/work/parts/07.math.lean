/-- the heap behind new int[N][K] -/
def q_nm (S : q_S) (N K : Nat) : q_S := (fun b => if b = S.2.2 then 17 else if S.2.2 < b ∧ b < S.2.2 + 1 + N then 12 else S.1 b, fun b => if b = S.2.2 then N else if S.2.2 < b ∧ b < S.2.2 + 1 + N then K else S.2.1 b, S.2.2 + 1 + N)
def q_zm (R : q_HR) (nx N : Nat) : q_HR := fun b j => if b = nx then (if j < N then nx + 1 + j else 0) else if nx < b ∧ b < nx + 1 + N then 0 else R b j
def q_zi (I : q_HI) (nx N : Nat) : q_HI := fun b j => if nx ≤ b ∧ b < nx + 1 + N then 0 else I b j
def q_mx (x y : Int) : Int := if y < x then x else y
def q_mn (x y : Int) : Int := if y < x then y else x
def q_ab (x : Int) : Int := if 0 < x then x else -x
theorem q_iteI {c d : Prop} [h1 : Decidable c] [h2 : Decidable d] (h : c ↔ d) (a b : Int) : (if c then q_i a else q_i b) = q_i (if d then a else b) := by
  by_cases hc : c
  · rw [if_pos hc, if_pos (h.mp hc)]
  · rw [if_neg hc, if_neg (fun q => hc (h.mpr q))]
theorem q_iteL {c d : Prop} [h1 : Decidable c] [h2 : Decidable d] (h : c ↔ d) (a b : Int) : (if c then q_l a else q_l b) = q_l (if d then a else b) := by
  by_cases hc : c
  · rw [if_pos hc, if_pos (h.mp hc)]
  · rw [if_neg hc, if_neg (fun q => hc (h.mpr q))]
theorem q_mxI (x y : Int) : (if x < y then y else x) = q_mx x y := by unfold q_mx; split <;> split <;> omega
theorem q_lLt0 {x : Int} (hx : r_l x) : (0 : Int64) < q_l x ↔ 0 < x := by rw [← q_l0]; exact q_lLt (by unfold r_l; omega) hx
theorem wms_maxI : Cond.static Lib.Math.max.name ∈ lw_tbl := List.mem_of_getElem? (i := 88) (by decide +kernel)
theorem wmc_maxI : Cond.code Lib.Math.max.name Lib.Math.max.code 2 (some .int) ∈ lw_tbl := List.mem_of_getElem? (i := 89) (by decide +kernel)
theorem wms_minI : Cond.static Lib.Math.min.name ∈ lw_tbl := List.mem_of_getElem? (i := 705) (by decide +kernel)
theorem wmc_minI : Cond.code Lib.Math.min.name Lib.Math.min.code 2 (some .int) ∈ lw_tbl := List.mem_of_getElem? (i := 706) (by decide +kernel)
theorem wms_maxJ : Cond.static Lib.MathLoose.max_long.x ∈ lw_tbl := List.mem_of_getElem? (i := 454) (by decide +kernel)
theorem wmc_maxJ : Cond.code Lib.MathLoose.max_long.x Lib.MathLoose.max_long.code 4 (some .long) ∈ lw_tbl := List.mem_of_getElem? (i := 455) (by decide +kernel)
theorem wms_minJ : Cond.static Lib.MathLoose.min_long.x ∈ lw_tbl := List.mem_of_getElem? (i := 343) (by decide +kernel)
theorem wmc_minJ : Cond.code Lib.MathLoose.min_long.x Lib.MathLoose.min_long.code 4 (some .long) ∈ lw_tbl := List.mem_of_getElem? (i := 344) (by decide +kernel)
theorem wms_absJ : Cond.static Lib.MathLoose.abs_long.x ∈ lw_tbl := List.mem_of_getElem? (i := 535) (by decide +kernel)
theorem wmc_absJ : Cond.code Lib.MathLoose.abs_long.x Lib.MathLoose.abs_long.code 2 (some .long) ∈ lw_tbl := List.mem_of_getElem? (i := 536) (by decide +kernel)
theorem wm_init : Cond.initialized "java/lang/Math" ∈ lw_tbl := List.mem_of_getElem? (i := 57) (by decide +kernel)
theorem wml_RX9_328 : Cond.methodLink RX9 328 Lib.MathLoose.min_long.x ∈ lw_tbl := List.mem_of_getElem? (i := 832) (by decide +kernel)
theorem wml_RX0_99 : Cond.methodLink RX0 99 Lib.MathLoose.min_long.x ∈ lw_tbl := List.mem_of_getElem? (i := 342) (by decide +kernel)
theorem wml_RX0_112 : Cond.methodLink RX0 112 Lib.MathLoose.max_long.x ∈ lw_tbl := List.mem_of_getElem? (i := 453) (by decide +kernel)
theorem wml_RX1_75 : Cond.methodLink RX1 75 Lib.MathLoose.abs_long.x ∈ lw_tbl := List.mem_of_getElem? (i := 534) (by decide +kernel)
theorem wml_RX1_81 : Cond.methodLink RX1 81 Lib.MathLoose.max_long.x ∈ lw_tbl := List.mem_of_getElem? (i := 537) (by decide +kernel)
theorem wml_RX4_38 : Cond.methodLink RX4 38 Lib.Math.min.name ∈ lw_tbl := List.mem_of_getElem? (i := 704) (by decide +kernel)
theorem wml_RX4_44 : Cond.methodLink RX4 44 Lib.Math.max.name ∈ lw_tbl := List.mem_of_getElem? (i := 707) (by decide +kernel)
theorem wml_RX7_25 : Cond.methodLink RX7 25 Lib.Math.min.name ∈ lw_tbl := List.mem_of_getElem? (i := 763) (by decide +kernel)
theorem wml_RX8_7 : Cond.methodLink RX8 7 Lib.Math.max.name ∈ lw_tbl := List.mem_of_getElem? (i := 87) (by decide +kernel)
section QM
variable {X : q_X} {Rm : Room} {cc : ByteArray} {nL cells slots pc : Nat} {lv : List (Nat × Value)} {st : List Value} {S : q_S} {R : q_HR} {I : q_HI} {own : String} {ret : Option FieldType} {nm : String}
theorem v_mmaxI {idx : Nat} {x y : Int} (hX : q_C X cc nL own ret nm) (gx : r_i x) (gy : r_i y) (w1 : Cond.methodLink own idx Lib.Math.max.name ∈ lw_tbl) (hf : 1 ≤ Rm.frames) (hW : (st.map fun v => v.category).sum + 13 ≤ Rm.locals) (hc : cells ≤ Rm.cells) (hs : slots ≤ Rm.slots) (hd : decode cc pc = .ok (.invokestatic idx, 3)) (kk : q_V X Rm cc nL cells slots (pc + 3) lv (.int (q_i (q_mx x y)) :: st) S R I) : q_V X Rm cc nL cells slots pc lv (.int (q_i y) :: .int (q_i x) :: st) S R I := by
  obtain ⟨p, l, e, s, m, args, below, meth, c, D, cy, B, Q⟩ := X
  obtain ⟨hx, hb, hml, hown, hK, hB, hlk, hrt, hnm⟩ := hX
  intro H locs ls hR hF hl
  refine va_mmax hx hb (by rw [hml]; exact hl.1.symm) hown (hK.use w1 rfl args) (hK.use wms_maxI rfl args) (hK.use wm_init rfl args) (hK.use wmc_maxI rfl args) hf hW hc hs hd ?_
  rw [q_iteI (q_iLt gx gy), q_mxI]
  exact kk H locs ls hR hF hl
theorem v_mminI {idx : Nat} {x y : Int} (hX : q_C X cc nL own ret nm) (gx : r_i x) (gy : r_i y) (w1 : Cond.methodLink own idx Lib.Math.min.name ∈ lw_tbl) (hf : 1 ≤ Rm.frames) (hW : (st.map fun v => v.category).sum + 13 ≤ Rm.locals) (hc : cells ≤ Rm.cells) (hs : slots ≤ Rm.slots) (hd : decode cc pc = .ok (.invokestatic idx, 3)) (kk : q_V X Rm cc nL cells slots (pc + 3) lv (.int (q_i (q_mn x y)) :: st) S R I) : q_V X Rm cc nL cells slots pc lv (.int (q_i y) :: .int (q_i x) :: st) S R I := by
  obtain ⟨p, l, e, s, m, args, below, meth, c, D, cy, B, Q⟩ := X
  obtain ⟨hx, hb, hml, hown, hK, hB, hlk, hrt, hnm⟩ := hX
  intro H locs ls hR hF hl
  refine va_mmin hx hb (by rw [hml]; exact hl.1.symm) hown (hK.use w1 rfl args) (hK.use wms_minI rfl args) (hK.use wm_init rfl args) (hK.use wmc_minI rfl args) hf hW hc hs hd ?_
  rw [q_iteI (q_iLt gy gx), ← q_mn]
  exact kk H locs ls hR hF hl
theorem v_mmaxJ {idx : Nat} {x y : Int} (hX : q_C X cc nL own ret nm) (gx : r_l x) (gy : r_l y) (w1 : Cond.methodLink own idx Lib.MathLoose.max_long.x ∈ lw_tbl) (hf : 1 ≤ Rm.frames) (hW : (st.map fun v => v.category).sum + 15 ≤ Rm.locals) (hc : cells ≤ Rm.cells) (hs : slots ≤ Rm.slots) (hd : decode cc pc = .ok (.invokestatic idx, 3)) (kk : q_V X Rm cc nL cells slots (pc + 3) lv (.long (q_l (q_mx x y)) :: st) S R I) : q_V X Rm cc nL cells slots pc lv (.long (q_l y) :: .long (q_l x) :: st) S R I := by
  obtain ⟨p, l, e, s, m, args, below, meth, c, D, cy, B, Q⟩ := X
  obtain ⟨hx, hb, hml, hown, hK, hB, hlk, hrt, hnm⟩ := hX
  intro H locs ls hR hF hl
  refine va_mmax_long hx hb (by rw [hml]; exact hl.1.symm) hown (hK.use w1 rfl args) (hK.use wms_maxJ rfl args) (hK.use wm_init rfl args) (hK.use wmc_maxJ rfl args) hf hW hc hs hd ?_
  rw [q_iteL (q_lLt gy gx), ← q_mx]
  exact kk H locs ls hR hF hl
theorem v_mminJ {idx : Nat} {x y : Int} (hX : q_C X cc nL own ret nm) (gx : r_l x) (gy : r_l y) (w1 : Cond.methodLink own idx Lib.MathLoose.min_long.x ∈ lw_tbl) (hf : 1 ≤ Rm.frames) (hW : (st.map fun v => v.category).sum + 15 ≤ Rm.locals) (hc : cells ≤ Rm.cells) (hs : slots ≤ Rm.slots) (hd : decode cc pc = .ok (.invokestatic idx, 3)) (kk : q_V X Rm cc nL cells slots (pc + 3) lv (.long (q_l (q_mn x y)) :: st) S R I) : q_V X Rm cc nL cells slots pc lv (.long (q_l y) :: .long (q_l x) :: st) S R I := by
  obtain ⟨p, l, e, s, m, args, below, meth, c, D, cy, B, Q⟩ := X
  obtain ⟨hx, hb, hml, hown, hK, hB, hlk, hrt, hnm⟩ := hX
  intro H locs ls hR hF hl
  refine va_mmin_long hx hb (by rw [hml]; exact hl.1.symm) hown (hK.use w1 rfl args) (hK.use wms_minJ rfl args) (hK.use wm_init rfl args) (hK.use wmc_minJ rfl args) hf hW hc hs hd ?_
  rw [q_iteL (q_lLt gy gx), ← q_mn]
  exact kk H locs ls hR hF hl
theorem v_mabsJ {idx : Nat} {x : Int} (hX : q_C X cc nL own ret nm) (gx : r_l x) (w1 : Cond.methodLink own idx Lib.MathLoose.abs_long.x ∈ lw_tbl) (hf : 1 ≤ Rm.frames) (hW : (st.map fun v => v.category).sum + 13 ≤ Rm.locals) (hc : cells ≤ Rm.cells) (hs : slots ≤ Rm.slots) (hd : decode cc pc = .ok (.invokestatic idx, 3)) (kk : q_V X Rm cc nL cells slots (pc + 3) lv (.long (q_l (q_ab x)) :: st) S R I) : q_V X Rm cc nL cells slots pc lv (.long (q_l x) :: st) S R I := by
  obtain ⟨p, l, e, s, m, args, below, meth, c, D, cy, B, Q⟩ := X
  obtain ⟨hx, hb, hml, hown, hK, hB, hlk, hrt, hnm⟩ := hX
  intro H locs ls hR hF hl
  refine va_mabs_long hx hb (by rw [hml]; exact hl.1.symm) hown (hK.use w1 rfl args) (hK.use wms_absJ rfl args) (hK.use wm_init rfl args) (hK.use wmc_absJ rfl args) hf hW hc hs hd ?_
  rw [q_lNeg, q_iteL (q_lLt0 gx), ← q_ab]
  exact kk H locs ls hR hF hl
theorem v_mna {idx N K : Nat} {n1 k1 : Int} (hX : q_C X cc nL own ret nm) (hw : Cond.classLink own idx "[[I" ∈ lw_tbl) (h1 : n1 = (N : Int)) (h2 : k1 = (K : Int)) (hN : N ≤ 1000) (hK1 : K ≤ 1000) (hc : cells + (1 + N) ≤ Rm.cells) (hs : slots + (N + N * K) ≤ Rm.slots) (hd : decode cc pc = .ok (.multianewarray idx 2, 4))
    (kk : q_V X Rm cc nL (cells + 1 + N) (slots + N + N * K) (pc + 4) lv (.ref S.2.2 :: st) (q_nm S N K) (q_zm R S.2.2 N) (q_zi I S.2.2 N)) : q_V X Rm cc nL cells slots pc lv (.int (q_i k1) :: .int (q_i n1) :: st) S R I := by
  obtain ⟨p, l, e, s, m, args, below, meth, c, D, cy, B, Q⟩ := X
  obtain ⟨hx, hb, hml, hown, hK, hB, hlk, hrt, hnm⟩ := hX
  intro H locs ls hR hF hl
  subst h1
  subst h2
  have hr : r_i (N : Int) := by unfold r_i; omega
  have hr2 : r_i (K : Int) := by unfold r_i; omega
  refine q_mnaW hx hb hown (hK.use hw rfl args) hK.2.2.2.2 (hK.use wa_int rfl args) (by rw [← q_i0, q_iLt hr r_i0]; omega) (by rw [← q_i0, q_iLt hr2 r_i0]; omega) (by rw [q_nat (by omega) hr]; simp) (by rw [q_nat (by omega) hr2]; simp) hN hK1 hc hs hd fun cA comp H1 f1 f2 z1 o1 e1 e2 => ?_
  have hcA : cA = cy 17 := Option.some.inj (f1.symm.trans (q_kinds hK (k := 17) (t0 := 5) rfl).2)
  have hcI : comp = cy 12 := Option.some.inj (f2.symm.trans (q_kinds hK (k := 12) (t0 := 0) rfl).2)
  subst hcA
  subst hcI
  have hsz := hR.1.1
  have hBH : B ≤ H.size := Nat.le_trans hF.2.2.2 hF.1
  rw [hsz] at e1 e2 z1
  have hR1 : q_R B D cy (q_nm S N K) (q_zm R S.2.2 N) (q_zi I S.2.2 N) H1 := by
    refine ⟨⟨z1, fun a => ?_⟩, fun b hb => ?_⟩
    · show (if a = S.2.2 then N else if S.2.2 < a ∧ a < S.2.2 + 1 + N then K else S.2.1 a) < _
      split
      · omega
      · split
        · omega
        · exact hR.1.2 a
    · show B ≤ b ∧ q_cell D cy (if b = S.2.2 then 17 else if S.2.2 < b ∧ b < S.2.2 + 1 + N then 12 else S.1 b) (if b = S.2.2 then N else if S.2.2 < b ∧ b < S.2.2 + 1 + N then K else S.2.1 b) _ _ b H1
      by_cases hb1 : b = S.2.2
      · rw [if_pos hb1, if_pos hb1]
        refine ⟨by omega, ?_⟩
        unfold q_cell
        rw [if_neg (by decide), hb1, e1]
        refine congrArg (fun f => some (arrV (cy 17) N f)) (funext fun j => ?_)
        show _ = q_rf (q_zm R S.2.2 N S.2.2 j)
        unfold q_zm q_rf
        rw [if_pos rfl]
        by_cases hj : j < N
        · rw [if_pos hj, if_pos hj, if_neg (by omega)]
        · rw [if_neg hj, if_neg hj, if_pos rfl]
      · rw [if_neg hb1, if_neg hb1]
        by_cases hb2 : S.2.2 < b ∧ b < S.2.2 + 1 + N
        · rw [if_pos hb2, if_pos hb2]
          refine ⟨by omega, ?_⟩
          unfold q_cell
          have e3 := e2 (b - (S.2.2 + 1)) (by omega)
          rw [show S.2.2 + 1 + (b - (S.2.2 + 1)) = b by omega] at e3
          rw [if_neg (by decide), e3]
          refine congrArg (fun f => some (arrV (cy 12) K f)) (funext fun j => ?_)
          show _ = Value.int (q_i (q_zi I S.2.2 N b j))
          unfold q_zi
          rw [if_pos (by omega)]
          rfl
        · rw [if_neg hb2, if_neg hb2]
          have hb' : S.1 b ≠ 0 := by
            have h9 : (if b = S.2.2 then 17 else if S.2.2 < b ∧ b < S.2.2 + 1 + N then 12 else S.1 b) ≠ 0 := hb
            rwa [if_neg hb1, if_neg hb2] at h9
          obtain ⟨h1, h2⟩ := hR.2 b hb'
          have hlt := h2.lt
          refine ⟨h1, ?_⟩
          have er : q_zm R S.2.2 N b = R b := by funext j; unfold q_zm; rw [if_neg hb1, if_neg hb2]
          have ei : q_zi I S.2.2 N b = I b := by funext j; unfold q_zi; rw [if_neg (by omega)]
          rw [er, ei]
          exact h2.kept (o1 b hlt)
  have k2 := kk H1 locs ls hR1 ⟨by have := hF.1; omega, fun q hq => by rw [o1 q (by omega)]; exact hF.2.1 q hq, hF.2.2.1, hF.2.2.2⟩ hl
  rw [← hsz] at k2
  exact k2
end QM
