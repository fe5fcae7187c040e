def q_mx (x y : Int) : Int := if y < x then x else y
def q_mn (x y : Int) : Int := if y < x then y else x
def q_ab (x : Int) : Int := if 0 < x then x else -x
theorem q_iteI {c d : Prop} [h1 : Decidable c] [h2 : Decidable d] (h : c ↔ d) (a b : Int) : (if c then q_i a else q_i b) = q_i (if d then a else b) := by
  by_cases hc : c
  · rw [if_pos hc, if_pos (h.mp hc)]
  · rw [if_neg hc, if_neg (fun q => hc (h.mpr q))]
theorem q_iteL {c d : Prop} [h1 : Decidable c] [h2 : Decidable d] (h : c ↔ d) (a b : Int) : (if c then q_l a else q_l b) = q_l (if d then a else b) := by
  by_cases hc : c
  · rw [if_pos hc, if_pos (h.mp hc)]
  · rw [if_neg hc, if_neg (fun q => hc (h.mpr q))]
theorem q_mxI (x y : Int) : (if x < y then y else x) = q_mx x y := by unfold q_mx; split <;> split <;> omega
theorem q_lLt0 {x : Int} (hx : r_l x) : (0 : Int64) < q_l x ↔ 0 < x := by rw [← q_l0]; exact q_lLt (by unfold r_l; omega) hx
theorem wms_maxI : Cond.static Lib.Math.max.name ∈ lw_tbl := List.mem_of_getElem? (i := 88) (by decide +kernel)
theorem wmc_maxI : Cond.code Lib.Math.max.name Lib.Math.max.code 2 (some .int) ∈ lw_tbl := List.mem_of_getElem? (i := 89) (by decide +kernel)
theorem wms_minI : Cond.static Lib.Math.min.name ∈ lw_tbl := List.mem_of_getElem? (i := 705) (by decide +kernel)
theorem wmc_minI : Cond.code Lib.Math.min.name Lib.Math.min.code 2 (some .int) ∈ lw_tbl := List.mem_of_getElem? (i := 706) (by decide +kernel)
theorem wms_maxJ : Cond.static Lib.MathLoose.max_long.x ∈ lw_tbl := List.mem_of_getElem? (i := 454) (by decide +kernel)
theorem wmc_maxJ : Cond.code Lib.MathLoose.max_long.x Lib.MathLoose.max_long.code 4 (some .long) ∈ lw_tbl := List.mem_of_getElem? (i := 455) (by decide +kernel)
theorem wms_minJ : Cond.static Lib.MathLoose.min_long.x ∈ lw_tbl := List.mem_of_getElem? (i := 343) (by decide +kernel)
theorem wmc_minJ : Cond.code Lib.MathLoose.min_long.x Lib.MathLoose.min_long.code 4 (some .long) ∈ lw_tbl := List.mem_of_getElem? (i := 344) (by decide +kernel)
theorem wms_absJ : Cond.static Lib.MathLoose.abs_long.x ∈ lw_tbl := List.mem_of_getElem? (i := 535) (by decide +kernel)
theorem wmc_absJ : Cond.code Lib.MathLoose.abs_long.x Lib.MathLoose.abs_long.code 2 (some .long) ∈ lw_tbl := List.mem_of_getElem? (i := 536) (by decide +kernel)
theorem wm_init : Cond.initialized "java/lang/Math" ∈ lw_tbl := List.mem_of_getElem? (i := 57) (by decide +kernel)
theorem wml_RX9_328 : Cond.methodLink RX9 328 Lib.MathLoose.min_long.x ∈ lw_tbl := List.mem_of_getElem? (i := 832) (by decide +kernel)
theorem wml_RX0_99 : Cond.methodLink RX0 99 Lib.MathLoose.min_long.x ∈ lw_tbl := List.mem_of_getElem? (i := 342) (by decide +kernel)
theorem wml_RX0_112 : Cond.methodLink RX0 112 Lib.MathLoose.max_long.x ∈ lw_tbl := List.mem_of_getElem? (i := 453) (by decide +kernel)
theorem wml_RX1_75 : Cond.methodLink RX1 75 Lib.MathLoose.abs_long.x ∈ lw_tbl := List.mem_of_getElem? (i := 534) (by decide +kernel)
theorem wml_RX1_81 : Cond.methodLink RX1 81 Lib.MathLoose.max_long.x ∈ lw_tbl := List.mem_of_getElem? (i := 537) (by decide +kernel)
theorem wml_RX4_38 : Cond.methodLink RX4 38 Lib.Math.min.name ∈ lw_tbl := List.mem_of_getElem? (i := 704) (by decide +kernel)
theorem wml_RX4_44 : Cond.methodLink RX4 44 Lib.Math.max.name ∈ lw_tbl := List.mem_of_getElem? (i := 707) (by decide +kernel)
theorem wml_RX7_25 : Cond.methodLink RX7 25 Lib.Math.min.name ∈ lw_tbl := List.mem_of_getElem? (i := 763) (by decide +kernel)
theorem wml_RX8_7 : Cond.methodLink RX8 7 Lib.Math.max.name ∈ lw_tbl := List.mem_of_getElem? (i := 87) (by decide +kernel)
section QM
variable {X : q_X} {Rm : Room} {cc : ByteArray} {nL cells slots pc : Nat} {lv : List (Nat × Value)} {st : List Value} {S : q_S} {R : q_HR} {I : q_HI} {own : String} {ret : Option FieldType} {nm : String}
theorem v_mmaxI {idx : Nat} {x y : Int} (hX : q_C X cc nL own ret nm) (gx : r_i x) (gy : r_i y) (w1 : Cond.methodLink own idx Lib.Math.max.name ∈ lw_tbl) (hf : 1 ≤ Rm.frames) (hW : (st.map fun v => v.category).sum + 13 ≤ Rm.locals) (hc : cells ≤ Rm.cells) (hs : slots ≤ Rm.slots) (hd : decode cc pc = .ok (.invokestatic idx, 3)) (kk : q_V X Rm cc nL cells slots (pc + 3) lv (.int (q_i (q_mx x y)) :: st) S R I) : q_V X Rm cc nL cells slots pc lv (.int (q_i y) :: .int (q_i x) :: st) S R I := by
  obtain ⟨p, l, e, s, m, args, below, meth, c, D, cy, B, Q⟩ := X
  obtain ⟨hx, hb, hml, hown, hK, hB, hlk, hrt, hnm⟩ := hX
  intro H locs ls hR hF hl
  refine va_mmax hx hb (by rw [hml]; exact hl.1.symm) hown (hK.use w1 rfl args) (hK.use wms_maxI rfl args) (hK.use wm_init rfl args) (hK.use wmc_maxI rfl args) hf hW hc hs hd ?_
  rw [q_iteI (q_iLt gx gy), q_mxI]
  exact kk H locs ls hR hF hl
theorem v_mminI {idx : Nat} {x y : Int} (hX : q_C X cc nL own ret nm) (gx : r_i x) (gy : r_i y) (w1 : Cond.methodLink own idx Lib.Math.min.name ∈ lw_tbl) (hf : 1 ≤ Rm.frames) (hW : (st.map fun v => v.category).sum + 13 ≤ Rm.locals) (hc : cells ≤ Rm.cells) (hs : slots ≤ Rm.slots) (hd : decode cc pc = .ok (.invokestatic idx, 3)) (kk : q_V X Rm cc nL cells slots (pc + 3) lv (.int (q_i (q_mn x y)) :: st) S R I) : q_V X Rm cc nL cells slots pc lv (.int (q_i y) :: .int (q_i x) :: st) S R I := by
  obtain ⟨p, l, e, s, m, args, below, meth, c, D, cy, B, Q⟩ := X
  obtain ⟨hx, hb, hml, hown, hK, hB, hlk, hrt, hnm⟩ := hX
  intro H locs ls hR hF hl
  refine va_mmin hx hb (by rw [hml]; exact hl.1.symm) hown (hK.use w1 rfl args) (hK.use wms_minI rfl args) (hK.use wm_init rfl args) (hK.use wmc_minI rfl args) hf hW hc hs hd ?_
  rw [q_iteI (q_iLt gy gx), ← q_mn]
  exact kk H locs ls hR hF hl
theorem v_mmaxJ {idx : Nat} {x y : Int} (hX : q_C X cc nL own ret nm) (gx : r_l x) (gy : r_l y) (w1 : Cond.methodLink own idx Lib.MathLoose.max_long.x ∈ lw_tbl) (hf : 1 ≤ Rm.frames) (hW : (st.map fun v => v.category).sum + 15 ≤ Rm.locals) (hc : cells ≤ Rm.cells) (hs : slots ≤ Rm.slots) (hd : decode cc pc = .ok (.invokestatic idx, 3)) (kk : q_V X Rm cc nL cells slots (pc + 3) lv (.long (q_l (q_mx x y)) :: st) S R I) : q_V X Rm cc nL cells slots pc lv (.long (q_l y) :: .long (q_l x) :: st) S R I := by
  obtain ⟨p, l, e, s, m, args, below, meth, c, D, cy, B, Q⟩ := X
  obtain ⟨hx, hb, hml, hown, hK, hB, hlk, hrt, hnm⟩ := hX
  intro H locs ls hR hF hl
  refine va_mmax_long hx hb (by rw [hml]; exact hl.1.symm) hown (hK.use w1 rfl args) (hK.use wms_maxJ rfl args) (hK.use wm_init rfl args) (hK.use wmc_maxJ rfl args) hf hW hc hs hd ?_
  rw [q_iteL (q_lLt gy gx), ← q_mx]
  exact kk H locs ls hR hF hl
theorem v_mminJ {idx : Nat} {x y : Int} (hX : q_C X cc nL own ret nm) (gx : r_l x) (gy : r_l y) (w1 : Cond.methodLink own idx Lib.MathLoose.min_long.x ∈ lw_tbl) (hf : 1 ≤ Rm.frames) (hW : (st.map fun v => v.category).sum + 15 ≤ Rm.locals) (hc : cells ≤ Rm.cells) (hs : slots ≤ Rm.slots) (hd : decode cc pc = .ok (.invokestatic idx, 3)) (kk : q_V X Rm cc nL cells slots (pc + 3) lv (.long (q_l (q_mn x y)) :: st) S R I) : q_V X Rm cc nL cells slots pc lv (.long (q_l y) :: .long (q_l x) :: st) S R I := by
  obtain ⟨p, l, e, s, m, args, below, meth, c, D, cy, B, Q⟩ := X
  obtain ⟨hx, hb, hml, hown, hK, hB, hlk, hrt, hnm⟩ := hX
  intro H locs ls hR hF hl
  refine va_mmin_long hx hb (by rw [hml]; exact hl.1.symm) hown (hK.use w1 rfl args) (hK.use wms_minJ rfl args) (hK.use wm_init rfl args) (hK.use wmc_minJ rfl args) hf hW hc hs hd ?_
  rw [q_iteL (q_lLt gy gx), ← q_mn]
  exact kk H locs ls hR hF hl
theorem v_mabsJ {idx : Nat} {x : Int} (hX : q_C X cc nL own ret nm) (gx : r_l x) (w1 : Cond.methodLink own idx Lib.MathLoose.abs_long.x ∈ lw_tbl) (hf : 1 ≤ Rm.frames) (hW : (st.map fun v => v.category).sum + 13 ≤ Rm.locals) (hc : cells ≤ Rm.cells) (hs : slots ≤ Rm.slots) (hd : decode cc pc = .ok (.invokestatic idx, 3)) (kk : q_V X Rm cc nL cells slots (pc + 3) lv (.long (q_l (q_ab x)) :: st) S R I) : q_V X Rm cc nL cells slots pc lv (.long (q_l x) :: st) S R I := by
  obtain ⟨p, l, e, s, m, args, below, meth, c, D, cy, B, Q⟩ := X
  obtain ⟨hx, hb, hml, hown, hK, hB, hlk, hrt, hnm⟩ := hX
  intro H locs ls hR hF hl
  refine va_mabs_long hx hb (by rw [hml]; exact hl.1.symm) hown (hK.use w1 rfl args) (hK.use wms_absJ rfl args) (hK.use wm_init rfl args) (hK.use wmc_absJ rfl args) hf hW hc hs hd ?_
  rw [q_lNeg, q_iteL (q_lLt0 gx), ← q_ab]
  exact kk H locs ls hR hF hl
end QM
