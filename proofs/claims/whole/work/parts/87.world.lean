/-! THE LAW: the world at its start -/
theorem l_cls {s : State} {args : Array Value} (hts : ∀ w ∈ lw_tbl, w.before args s = true) : ∃ D : va_G, ∀ (k : Nat) (q : vw_C), vwCl[k]? = some q → u_Kn s q.1 q.2.1 q.2.2 (D.1 k) (D.2 k) := by
  obtain ⟨c0, i0, h0⟩ := u_known (C := RX0) (T := TX0) (N := 7) (n := 7) hts (fun w hw => (q_cl1.2.2.2.1 w hw).1) (hts _ (List.mem_of_getElem? (i := 76) (by decide +kernel)))
  obtain ⟨c1, i1, h1⟩ := u_known (C := RX1) (T := TX1) (N := 8) (n := 8) hts (fun w hw => (q_cl2.2.2.2.1 w hw).1) (hts _ (List.mem_of_getElem? (i := 176) (by decide +kernel)))
  obtain ⟨c2, i2, h2⟩ := u_known (C := RX2) (T := TX2) (N := 4) (n := 4) hts (fun w hw => (q_cl3.2.2.2.1 w hw).1) (hts _ (List.mem_of_getElem? (i := 284) (by decide +kernel)))
  obtain ⟨c3, i3, h3⟩ := u_known (C := RX3) (T := TX3) (N := 5) (n := 5) hts (fun w hw => (q_cl4.2.2.2.1 w hw).1) (hts _ (List.mem_of_getElem? (i := 123) (by decide +kernel)))
  obtain ⟨c4, i4, h4⟩ := u_known (C := RX4) (T := TX4) (N := 5) (n := 5) hts (fun w hw => (q_cl5.2.2.2.1 w hw).1) (hts _ (List.mem_of_getElem? (i := 259) (by decide +kernel)))
  obtain ⟨c5, i5, h5⟩ := u_known (C := RX5) (T := TX5) (N := 2) (n := 2) hts (fun w hw => (q_cl6.2.2.2.1 w hw).1) (hts _ (List.mem_of_getElem? (i := 92) (by decide +kernel)))
  obtain ⟨c6, i6, h6⟩ := u_known (C := RX6) (T := TX6) (N := 3) (n := 3) hts (fun w hw => (q_cl7.2.2.2.1 w hw).1) (hts _ (List.mem_of_getElem? (i := 219) (by decide +kernel)))
  obtain ⟨c7, i7, h7⟩ := u_known (C := RX7) (T := TX7) (N := 4) (n := 4) hts (fun w hw => (q_cl8.2.2.2.1 w hw).1) (hts _ (List.mem_of_getElem? (i := 238) (by decide +kernel)))
  obtain ⟨c8, i8, h8⟩ := u_known (C := RX8) (T := TX8) (N := 3) (n := 3) hts (fun w hw => (q_cl9.2.2.2.1 w hw).1) (hts _ (List.mem_of_getElem? (i := 82) (by decide +kernel)))
  obtain ⟨c9, i9, h9⟩ := u_known (C := RX9) (T := TX9) (N := 13) (n := 13) hts (fun w hw => (q_cl10.2.2.2.1 w hw).1) (hts _ (List.mem_of_getElem? (i := 68) (by decide +kernel)))
  obtain ⟨c10, i10, h10⟩ := u_known (C := RX10) (T := TX10) (N := 28) (n := 28) hts (fun w hw => (q_cl11.2.2.2.1 w hw).1) (hts _ (List.mem_of_getElem? (i := 838) (by decide +kernel)))
  refine ⟨(fun k => match k with | 0 => c0 | 1 => c1 | 2 => c2 | 3 => c3 | 4 => c4 | 5 => c5 | 6 => c6 | 7 => c7 | 8 => c8 | 9 => c9 | _ => c10, fun k => match k with | 0 => i0 | 1 => i1 | 2 => i2 | 3 => i3 | 4 => i4 | 5 => i5 | 6 => i6 | 7 => i7 | 8 => i8 | 9 => i9 | _ => i10), fun k q hq => ?_⟩
  match k, hq with
  | 0, hq => cases hq; exact h0
  | 1, hq => cases hq; exact h1
  | 2, hq => cases hq; exact h2
  | 3, hq => cases hq; exact h3
  | 4, hq => cases hq; exact h4
  | 5, hq => cases hq; exact h5
  | 6, hq => cases hq; exact h6
  | 7, hq => cases hq; exact h7
  | 8, hq => cases hq; exact h8
  | 9, hq => cases hq; exact h9
  | 10, hq => cases hq; exact h10
  | k + 11, hq => simp [vwCl] at hq
theorem l_arr {s : State} {args : Array Value} {ty : FieldType} (h : (Cond.arrayClass ty).before args s = true) : ∃ cA, ArrOfT s cA ty ∧ s.vm.findClass ("[" ++ ty.toString) = some cA := by
  obtain ⟨cA, kA, comp, h1, h2, h3⟩ := Cond.arrayClass_spec h
  exact ⟨cA, fun n z => ⟨fun k h => (by cases h), kA, h2, comp, h3⟩, h1⟩
theorem l_arrO {s : State} {args : Array Value} {C : String} (h : (Cond.arrayOver (.object C)).before args s = true) : ∃ cA, ArrOfT s cA (.object C) ∧ va_RA s cA (.object C) := by
  obtain ⟨comp, c, k, h1, h2, h3, h4, h5⟩ := Cond.arrayOver_spec h
  exact ⟨c, fun n z => ⟨fun k h => (by cases h), k, h3, comp, h4⟩, k, comp, h3, h4, h1, h5⟩
theorem l_arrA {s : State} {args : Array Value} (h : (Cond.arrayOver (.array .int)).before args s = true) : ∃ cA, ArrOfT s cA (.array .int) ∧ va_RA s cA (.array .int) := by
  obtain ⟨comp, c, k, h1, h2, h3, h4, h5⟩ := arrayOverA_spec h
  exact ⟨c, fun n z => ⟨fun k h => (by cases h), k, h3, comp, h4⟩, h5⟩
theorem l_Nw {w : Cond} {s : State} {args : Array Value} (ho : q_ok w = true) (h : w.before args s = true) : va_Nw w s := by
  unfold q_ok at ho
  split at ho
  · exact va_Nw.of rfl h
  · exact va_Nw.of rfl h
  · exact word_at (State.WarmedH.refl s) (good_of_word ho) h
theorem l_K {s : State} {args : Array Value} (hts : ∀ w ∈ lw_tbl, w.before args s = true) : ∃ (D : va_G) (cy : Nat → ClassId), q_K D cy s := by
  obtain ⟨D, hD⟩ := l_cls hts
  obtain ⟨cI, aI, nI⟩ := l_arr (ty := .int) (hts _ (List.mem_of_getElem? (i := 107) (by decide +kernel)))
  obtain ⟨cL, aL, nL⟩ := l_arr (ty := .long) (hts _ (List.mem_of_getElem? (i := 174) (by decide +kernel)))
  obtain ⟨cZ, aZ, nZ⟩ := l_arr (ty := .boolean) (hts _ (List.mem_of_getElem? (i := 234) (by decide +kernel)))
  have oG := hts (Cond.arrayOver (.object "SensorArray$Group")) (List.mem_of_getElem? (i := 236) (by decide +kernel))
  have oM := hts (Cond.arrayOver (.object "SensorArray$Measurement")) (List.mem_of_getElem? (i := 91) (by decide +kernel))
  have oA := hts (Cond.arrayOver (.array .int)) (List.mem_of_getElem? (i := 186) (by decide +kernel))
  obtain ⟨cG, aG, nG⟩ := l_arrO oG
  obtain ⟨cM, aM, nM⟩ := l_arrO oM
  obtain ⟨cA, aA, nA⟩ := l_arrA oA
  refine ⟨D, fun k => match k with | 12 => cI | 13 => cL | 14 => cZ | 15 => cG | 16 => cM | _ => cA, fun w hw ho => l_Nw ho (hts w hw), ⟨hD, fun k q hq => ?_⟩, oG, oM, oA⟩
  match k, hq with
  | 0, hq => cases hq; exact ⟨aI, nI⟩
  | 1, hq => cases hq; exact ⟨aL, nL⟩
  | 2, hq => cases hq; exact ⟨aZ, nZ⟩
  | 3, hq => cases hq; exact ⟨aG, nG⟩
  | 4, hq => cases hq; exact ⟨aM, nM⟩
  | 5, hq => cases hq; exact ⟨aA, nA⟩
  | k + 6, hq => simp [q_tys] at hq
theorem z_and63 (v : Int) : 0 ≤ q_and v 63 ∧ q_and v 63 ≤ 63 := by
  have h : (q_i v &&& q_i 63).toBitVec.toNat ≤ 63 := by
    rw [Int32.toBitVec_and, BitVec.toNat_and]
    exact Nat.le_trans Nat.and_le_right (by decide)
  have e : q_and v 63 = ((q_i v &&& q_i 63).toBitVec.toNat : Int) := by
    show (q_i v &&& q_i 63).toBitVec.toInt = _
    rw [BitVec.toInt_eq_toNat_cond, if_pos (by omega)]
  omega
