/-! ONE CALL OF BOTH -/
def w_J (x : Nat) (S : q_S) (R : q_HR) (I : q_HI) (A : q_A) : Prop := w_Sh x S R ∧ w_zz S ∧ z_B A ∧ w_C x S R I A ∧ w_D x I A
theorem g_sensorCount {x : Nat} {S : q_S} {R : q_HR} {I : q_HI} {A : q_A} (hS : w_Sh x S R) (hB : z_B A) (hC : w_C x S R I A) : f_X9_sensorCount S R I x = some (A 0 1) := by
  have e := hC.1.1
  unfold f_X9_sensorCount
  simp only [k_0 hS, r_0_0 hS, k_1 hS, e]
  simp (disch := (first | trivial | assumption | omega | (refine r_iE ?_ ?_ <;> omega) | (refine r_lE ?_ ?_ <;> omega) | fail)) only [↓q_gdT, ↓q_ltE, ↓if_pos, ↓if_neg]
theorem g_classCount {x : Nat} {S : q_S} {R : q_HR} {I : q_HI} {A : q_A} (hS : w_Sh x S R) (hB : z_B A) (hC : w_C x S R I A) : f_X9_classCount S R I x = some (A 0 4) := by
  have e := hC.1.2.2.2.1
  unfold f_X9_classCount
  simp only [k_0 hS, e]
  simp (disch := (first | trivial | assumption | omega | (refine r_iE ?_ ?_ <;> omega) | (refine r_lE ?_ ?_ <;> omega) | fail)) only [↓q_gdT, ↓q_ltE, ↓if_pos, ↓if_neg]
theorem st_reset {x : Nat} {S : q_S} {R : q_HR} {I : q_HI} {A : q_A} {a : Int} (h : w_J x S R I A) (ha : r_i a) : ∃ (r : Int) (R' : q_HR) (I' J : q_HI) (A' : q_A), f_X9_reset S R I x a = some (r, R', I') ∧ f_X10_reset S R' I' (x + 171) a = some (r, J) ∧ w_J x S R' J A' := by
  obtain ⟨hS, hz, hB, hC, hD⟩ := h
  obtain ⟨B', R', I', q1, C1, ch, cr⟩ := g_reset hS hB hC ha
  have hS' := hS.fr cr
  obtain ⟨J, q2, D2, F2⟩ := h_reset hS' (hD.ch ch) ha
  exact ⟨_, R', I', J, _, q1, q2, hS', hz, B', C1.mc B' F2, D2⟩
theorem st_sensorCount {x : Nat} {S : q_S} {R : q_HR} {I : q_HI} {A : q_A} (h : w_J x S R I A) : ∃ (r : Int) (J : q_HI) (A' : q_A), f_X9_sensorCount S R I x = some r ∧ f_X10_sensorCount S R I (x + 171) = some (r, J) ∧ w_J x S R J A' := by
  obtain ⟨hS, hz, hB, hC, hD⟩ := h
  obtain ⟨J, q2, T2⟩ := h_sensorCount hS hD
  exact ⟨_, J, A, g_sensorCount hS hB hC, q2, hS, hz, hB, hC.mc hB T2.mc, hD.t T2⟩
theorem st_setBaseline {x : Nat} {S : q_S} {R : q_HR} {I : q_HI} {A : q_A} {a b : Int} (h : w_J x S R I A) (ha : r_i a) (hb : r_i b) : ∃ (r : Int) (I' J : q_HI) (A' : q_A), f_X9_setBaseline S R I x a b = some (r, I') ∧ f_X10_setBaseline S R I' (x + 171) a b = some (r, J) ∧ w_J x S R J A' := by
  obtain ⟨hS, hz, hB, hC, hD⟩ := h
  obtain ⟨B', I', q1, C1, ch⟩ := g_setBaseline hS hB hC ha hb
  obtain ⟨J, q2, D2, F2⟩ := h_setBaseline hS hB (hD.ch ch) ha hb
  exact ⟨_, I', J, _, q1, q2, hS, hz, B', C1.mc B' F2, D2⟩
theorem st_measure {x : Nat} {S : q_S} {R : q_HR} {I : q_HI} {A : q_A} {a b c d e f : Int} (h : w_J x S R I A) (ha : r_i a) (hb : r_i b) (hc : r_i c) (hd : r_i d) (he : r_i e) (hf : r_i f) : ∃ (r : Int) (S' : q_S) (R' : q_HR) (I' J : q_HI) (A' : q_A), f_X9_measure S R I x a b c d e f = some (r, S', R', I') ∧ f_X10_measure S' R' I' (x + 171) a b c d e f = some (r, J) ∧ w_J x S' R' J A' := by
  obtain ⟨hS, hz, hB, hC, hD⟩ := h
  obtain ⟨B', S', R', I', q1, hS', hz', C1, ch, l1, l2⟩ := g_measure hS hz hB hC ha hb hc hd he hf
  have hx := hS.2.2.2.2.2.2.2.1
  have hD' : w_D x I' A := ⟨fun j h1 h2 => by rw [ch _ (by omega) (by omega)]; exact hD.1 j h1 h2, fun d h1 h2 j => by rw [ch _ (by omega) (by omega)]; exact hD.2 d h1 h2 j⟩
  obtain ⟨J, q2, D2, F2⟩ := h_measure hS' hB hD' ha hb hc hd he hf
  exact ⟨_, S', R', I', J, _, q1, q2, hS', hz', B', C1.mc B' F2, D2⟩
theorem st_ratio {x : Nat} {S : q_S} {R : q_HR} {I : q_HI} {A : q_A} {a : Int} (h : w_J x S R I A) (ha : r_i a) : ∃ (r : Int) (J : q_HI) (A' : q_A), f_X9_ratio S R I x a = some r ∧ f_X10_ratio S R I (x + 171) a = some (r, J) ∧ w_J x S R J A' := by
  obtain ⟨hS, hz, hB, hC, hD⟩ := h
  obtain ⟨J, q2, T2⟩ := h_ratio hS hB hD ha
  exact ⟨_, J, A, g_ratio hS hB hC ha, q2, hS, hz, hB, hC.mc hB T2.mc, hD.t T2⟩
theorem st_feature {x : Nat} {S : q_S} {R : q_HR} {I : q_HI} {A : q_A} {a : Int} (h : w_J x S R I A) (ha : r_i a) : ∃ (r : Int) (J : q_HI) (A' : q_A), f_X9_feature S R I x a = some r ∧ f_X10_feature S R I (x + 171) a = some (r, J) ∧ w_J x S R J A' := by
  obtain ⟨hS, hz, hB, hC, hD⟩ := h
  obtain ⟨J, q2, T2⟩ := h_feature hS hB hD ha
  exact ⟨_, J, A, g_feature hS hB hC ha, q2, hS, hz, hB, hC.mc hB T2.mc, hD.t T2⟩
theorem st_addCalibration {x : Nat} {S : q_S} {R : q_HR} {I : q_HI} {A : q_A} (h : w_J x S R I A) : ∃ (r : Int) (R' : q_HR) (I' J : q_HI) (A' : q_A), f_X9_addCalibration S R I x = some (r, R', I') ∧ f_X10_addCalibration S R' I' (x + 171) = some (r, J) ∧ w_J x S R' J A' := by
  obtain ⟨hS, hz, hB, hC, hD⟩ := h
  obtain ⟨B', R', I', q1, C1, ch, cr⟩ := g_addCalibration hS hB hC
  have hS' := hS.fr cr
  obtain ⟨J, q2, D2, F2⟩ := h_addCalibration hS' hB (hD.ch ch)
  exact ⟨_, R', I', J, _, q1, q2, hS', hz, B', C1.mc B' F2, D2⟩
theorem st_removeCalibration {x : Nat} {S : q_S} {R : q_HR} {I : q_HI} {A : q_A} (h : w_J x S R I A) : ∃ (r : Int) (R' : q_HR) (I' J : q_HI) (A' : q_A), f_X9_removeCalibration S R I x = some (r, R', I') ∧ f_X10_removeCalibration S R' I' (x + 171) = some (r, J) ∧ w_J x S R' J A' := by
  obtain ⟨hS, hz, hB, hC, hD⟩ := h
  obtain ⟨B', R', I', q1, C1, ch, cr⟩ := g_removeCalibration hS hB hC
  have hS' := hS.fr cr
  obtain ⟨J, q2, D2, F2⟩ := h_removeCalibration hS' hB (hD.ch ch)
  exact ⟨_, R', I', J, _, q1, q2, hS', hz, B', C1.mc B' F2, D2⟩
theorem st_humiditySlope {x : Nat} {S : q_S} {R : q_HR} {I : q_HI} {A : q_A} {a : Int} (h : w_J x S R I A) (ha : r_i a) : ∃ (r : Int) (J : q_HI) (A' : q_A), f_X9_humiditySlope S R I x a = some r ∧ f_X10_humiditySlope S R I (x + 171) a = some (r, J) ∧ w_J x S R J A' := by
  obtain ⟨hS, hz, hB, hC, hD⟩ := h
  obtain ⟨J, q2, T2⟩ := h_humiditySlope hS hB hD ha
  exact ⟨_, J, A, g_humiditySlope hS hB hC ha, q2, hS, hz, hB, hC.mc hB T2.mc, hD.t T2⟩
theorem st_useHumidity {x : Nat} {S : q_S} {R : q_HR} {I : q_HI} {A : q_A} {a : Int} (h : w_J x S R I A) (ha : a = 0 ∨ a = 1) : ∃ (r : Int) (I' J : q_HI) (A' : q_A), f_X9_useHumidity S R I x a = some (r, I') ∧ f_X10_useHumidity S R I' (x + 171) a = some (r, J) ∧ w_J x S R J A' := by
  obtain ⟨hS, hz, hB, hC, hD⟩ := h
  obtain ⟨B', I', q1, C1, ch⟩ := g_useHumidity hS hB hC ha
  obtain ⟨J, q2, D2, F2⟩ := h_useHumidity hS hB (hD.ch ch) ha
  exact ⟨_, I', J, _, q1, q2, hS, hz, B', C1.mc B' F2, D2⟩
theorem st_addReference {x : Nat} {S : q_S} {R : q_HR} {I : q_HI} {A : q_A} {a : Int} (h : w_J x S R I A) (ha : r_i a) : ∃ (r : Int) (R' : q_HR) (I' J : q_HI) (A' : q_A), f_X9_addReference S R I x a = some (r, R', I') ∧ f_X10_addReference S R' I' (x + 171) a = some (r, J) ∧ w_J x S R' J A' := by
  obtain ⟨hS, hz, hB, hC, hD⟩ := h
  obtain ⟨B', R', I', q1, C1, ch, cr⟩ := g_addReference hS hB hC ha
  have hS' := hS.fr cr
  obtain ⟨J, q2, D2, F2⟩ := h_addReference hS' hB (hD.ch ch) ha
  exact ⟨_, R', I', J, _, q1, q2, hS', hz, B', C1.mc B' F2, D2⟩
theorem st_removeReference {x : Nat} {S : q_S} {R : q_HR} {I : q_HI} {A : q_A} (h : w_J x S R I A) : ∃ (r : Int) (R' : q_HR) (I' J : q_HI) (A' : q_A), f_X9_removeReference S R I x = some (r, R', I') ∧ f_X10_removeReference S R' I' (x + 171) = some (r, J) ∧ w_J x S R' J A' := by
  obtain ⟨hS, hz, hB, hC, hD⟩ := h
  obtain ⟨B', R', I', q1, C1, ch, cr⟩ := g_removeReference hS hB hC
  have hS' := hS.fr cr
  obtain ⟨J, q2, D2, F2⟩ := h_removeReference hS' hB (hD.ch ch)
  exact ⟨_, R', I', J, _, q1, q2, hS', hz, B', C1.mc B' F2, D2⟩
theorem st_driftComponent {x : Nat} {S : q_S} {R : q_HR} {I : q_HI} {A : q_A} {a : Int} (h : w_J x S R I A) (ha : r_i a) : ∃ (r : Int) (I' J : q_HI) (A' : q_A), f_X9_driftComponent S R I x a = some (r, I') ∧ f_X10_driftComponent S R I' (x + 171) a = some (r, J) ∧ w_J x S R J A' := by
  obtain ⟨hS, hz, hB, hC, hD⟩ := h
  obtain ⟨I', q1, Q1⟩ := g_driftComponent hS hB hC ha
  obtain ⟨J, q2, T2⟩ := h_driftComponent hS hB (hD.q Q1) ha
  exact ⟨_, I', J, A, q1, q2, hS, hz, hB, (hC.q Q1).mc hB T2.mc, (hD.q Q1).t T2⟩
theorem st_driftPosition {x : Nat} {S : q_S} {R : q_HR} {I : q_HI} {A : q_A} (h : w_J x S R I A) : ∃ (r : Int) (I' J : q_HI) (A' : q_A), f_X9_driftPosition S R I x = some (r, I') ∧ f_X10_driftPosition S R I' (x + 171) = some (r, J) ∧ w_J x S R J A' := by
  obtain ⟨hS, hz, hB, hC, hD⟩ := h
  obtain ⟨I', q1, Q1⟩ := g_driftPosition hS hB hC
  obtain ⟨J, q2, T2⟩ := h_driftPosition hS hB (hD.q Q1)
  exact ⟨_, I', J, A, q1, q2, hS, hz, hB, (hC.q Q1).mc hB T2.mc, (hD.q Q1).t T2⟩
theorem st_useDrift {x : Nat} {S : q_S} {R : q_HR} {I : q_HI} {A : q_A} {a : Int} (h : w_J x S R I A) (ha : a = 0 ∨ a = 1) : ∃ (r : Int) (I' J : q_HI) (A' : q_A), f_X9_useDrift S R I x a = some (r, I') ∧ f_X10_useDrift S R I' (x + 171) a = some (r, J) ∧ w_J x S R J A' := by
  obtain ⟨hS, hz, hB, hC, hD⟩ := h
  obtain ⟨B', I', q1, C1, ch⟩ := g_useDrift hS hB hC ha
  obtain ⟨J, q2, D2, F2⟩ := h_useDrift hS hB (hD.ch ch) ha
  exact ⟨_, I', J, _, q1, q2, hS, hz, B', C1.mc B' F2, D2⟩
theorem st_predictedReference {x : Nat} {S : q_S} {R : q_HR} {I : q_HI} {A : q_A} {a b : Int} (h : w_J x S R I A) (ha : r_i a) (hb : r_i b) : ∃ (r : Int) (I' J : q_HI) (A' : q_A), f_X9_predictedReference S R I x a b = some (r, I') ∧ f_X10_predictedReference S R I' (x + 171) a b = some (r, J) ∧ w_J x S R J A' := by
  obtain ⟨hS, hz, hB, hC, hD⟩ := h
  obtain ⟨I', q1, Q1⟩ := g_predictedReference hS hB hC ha hb
  obtain ⟨J, q2, T2⟩ := h_predictedReference hS hB (hD.q Q1) ha hb
  exact ⟨_, I', J, A, q1, q2, hS, hz, hB, (hC.q Q1).mc hB T2.mc, (hD.q Q1).t T2⟩
theorem st_addClass {x : Nat} {S : q_S} {R : q_HR} {I : q_HI} {A : q_A} (h : w_J x S R I A) : ∃ (r : Int) (I' J : q_HI) (A' : q_A), f_X9_addClass S R I x = some (r, I') ∧ f_X10_addClass S R I' (x + 171) = some (r, J) ∧ w_J x S R J A' := by
  obtain ⟨hS, hz, hB, hC, hD⟩ := h
  obtain ⟨B', I', q1, C1, ch⟩ := g_addClass hS hB hC
  obtain ⟨J, q2, D2, F2⟩ := h_addClass hS hB (hD.ch ch)
  exact ⟨_, I', J, _, q1, q2, hS, hz, B', C1.mc B' F2, D2⟩
theorem st_classCount {x : Nat} {S : q_S} {R : q_HR} {I : q_HI} {A : q_A} (h : w_J x S R I A) : ∃ (r : Int) (J : q_HI) (A' : q_A), f_X9_classCount S R I x = some r ∧ f_X10_classCount S R I (x + 171) = some (r, J) ∧ w_J x S R J A' := by
  obtain ⟨hS, hz, hB, hC, hD⟩ := h
  obtain ⟨J, q2, T2⟩ := h_classCount hS hD
  exact ⟨_, J, A, g_classCount hS hB hC, q2, hS, hz, hB, hC.mc hB T2.mc, hD.t T2⟩
theorem st_addSample {x : Nat} {S : q_S} {R : q_HR} {I : q_HI} {A : q_A} {a : Int} (h : w_J x S R I A) (ha : r_i a) : ∃ (r : Int) (R' : q_HR) (I' J : q_HI) (A' : q_A), f_X9_addSample S R I x a = some (r, R', I') ∧ f_X10_addSample S R' I' (x + 171) a = some (r, J) ∧ w_J x S R' J A' := by
  obtain ⟨hS, hz, hB, hC, hD⟩ := h
  obtain ⟨B', R', I', q1, C1, ch, cr⟩ := g_addSample hS hB hC ha
  have hS' := hS.fr cr
  obtain ⟨J, q2, D2, F2⟩ := h_addSample hS' hB (hD.ch ch) ha
  exact ⟨_, R', I', J, _, q1, q2, hS', hz, B', C1.mc B' F2, D2⟩
theorem st_removeSample {x : Nat} {S : q_S} {R : q_HR} {I : q_HI} {A : q_A} {a b : Int} (h : w_J x S R I A) (ha : r_i a) (hb : r_i b) : ∃ (r : Int) (R' : q_HR) (I' J : q_HI) (A' : q_A), f_X9_removeSample S R I x a b = some (r, R', I') ∧ f_X10_removeSample S R' I' (x + 171) a b = some (r, J) ∧ w_J x S R' J A' := by
  obtain ⟨hS, hz, hB, hC, hD⟩ := h
  obtain ⟨B', R', I', q1, C1, ch, cr⟩ := g_removeSample hS hB hC ha hb
  have hS' := hS.fr cr
  obtain ⟨J, q2, D2, F2⟩ := h_removeSample hS' hB (hD.ch ch) ha hb
  exact ⟨_, R', I', J, _, q1, q2, hS', hz, B', C1.mc B' F2, D2⟩
theorem st_recall {x : Nat} {S : q_S} {R : q_HR} {I : q_HI} {A : q_A} {a b : Int} (h : w_J x S R I A) (ha : r_i a) (hb : r_i b) : ∃ (r : Int) (R' : q_HR) (I' J : q_HI) (A' : q_A), f_X9_recall S R I x a b = some (r, R', I') ∧ f_X10_recall S R' I' (x + 171) a b = some (r, J) ∧ w_J x S R' J A' := by
  obtain ⟨hS, hz, hB, hC, hD⟩ := h
  obtain ⟨B', R', I', q1, C1, ch, cr⟩ := g_recall hS hB hC ha hb
  have hS' := hS.fr cr
  obtain ⟨J, q2, D2, F2⟩ := h_recall hS' hB (hD.ch ch) ha hb
  exact ⟨_, R', I', J, _, q1, q2, hS', hz, B', C1.mc B' F2, D2⟩
theorem st_sampleCount {x : Nat} {S : q_S} {R : q_HR} {I : q_HI} {A : q_A} {a : Int} (h : w_J x S R I A) (ha : r_i a) : ∃ (r : Int) (J : q_HI) (A' : q_A), f_X9_sampleCount S R I x a = some r ∧ f_X10_sampleCount S R I (x + 171) a = some (r, J) ∧ w_J x S R J A' := by
  obtain ⟨hS, hz, hB, hC, hD⟩ := h
  obtain ⟨J, q2, T2⟩ := h_sampleCount hS hB hD ha
  exact ⟨_, J, A, g_sampleCount hS hB hC ha, q2, hS, hz, hB, hC.mc hB T2.mc, hD.t T2⟩
theorem st_distance {x : Nat} {S : q_S} {R : q_HR} {I : q_HI} {A : q_A} {a : Int} (h : w_J x S R I A) (ha : r_i a) : ∃ (r : Int) (I' J : q_HI) (A' : q_A), f_X9_distance S R I x a = some (r, I') ∧ f_X10_distance S R I' (x + 171) a = some (r, J) ∧ w_J x S R J A' := by
  obtain ⟨hS, hz, hB, hC, hD⟩ := h
  obtain ⟨I', q1, Q1⟩ := g_distance hS hB hC ha
  obtain ⟨J, q2, T2⟩ := h_distance hS hB (hD.q Q1) ha
  exact ⟨_, I', J, A, q1, q2, hS, hz, hB, (hC.q Q1).mc hB T2.mc, (hD.q Q1).t T2⟩
theorem st_nearestClass {x : Nat} {S : q_S} {R : q_HR} {I : q_HI} {A : q_A} (h : w_J x S R I A) : ∃ (r : Int) (I' J : q_HI) (A' : q_A), f_X9_nearestClass S R I x = some (r, I') ∧ f_X10_nearestClass S R I' (x + 171) = some (r, J) ∧ w_J x S R J A' := by
  obtain ⟨hS, hz, hB, hC, hD⟩ := h
  obtain ⟨I', q1, Q1⟩ := g_nearestClass hS hB hC
  obtain ⟨J, q2, T2⟩ := h_nearestClass hS hB (hD.q Q1)
  exact ⟨_, I', J, A, q1, q2, hS, hz, hB, (hC.q Q1).mc hB T2.mc, (hD.q Q1).t T2⟩
theorem st_runnerUp {x : Nat} {S : q_S} {R : q_HR} {I : q_HI} {A : q_A} (h : w_J x S R I A) : ∃ (r : Int) (I' J : q_HI) (A' : q_A), f_X9_runnerUp S R I x = some (r, I') ∧ f_X10_runnerUp S R I' (x + 171) = some (r, J) ∧ w_J x S R J A' := by
  obtain ⟨hS, hz, hB, hC, hD⟩ := h
  obtain ⟨I', q1, Q1⟩ := g_runnerUp hS hB hC
  obtain ⟨J, q2, T2⟩ := h_runnerUp hS hB (hD.q Q1)
  exact ⟨_, I', J, A, q1, q2, hS, hz, hB, (hC.q Q1).mc hB T2.mc, (hD.q Q1).t T2⟩
theorem st_radius {x : Nat} {S : q_S} {R : q_HR} {I : q_HI} {A : q_A} {a : Int} (h : w_J x S R I A) (ha : r_i a) : ∃ (r : Int) (I' J : q_HI) (A' : q_A), f_X9_radius S R I x a = some (r, I') ∧ f_X10_radius S R I' (x + 171) a = some (r, J) ∧ w_J x S R J A' := by
  obtain ⟨hS, hz, hB, hC, hD⟩ := h
  obtain ⟨I', q1, Q1⟩ := g_radius hS hB hC ha
  obtain ⟨J, q2, T2⟩ := h_radius hS hB (hD.q Q1) ha
  exact ⟨_, I', J, A, q1, q2, hS, hz, hB, (hC.q Q1).mc hB T2.mc, (hD.q Q1).t T2⟩
theorem st_setMargin {x : Nat} {S : q_S} {R : q_HR} {I : q_HI} {A : q_A} {a : Int} (h : w_J x S R I A) (ha : r_i a) : ∃ (r : Int) (I' J : q_HI) (A' : q_A), f_X9_setMargin S R I x a = some (r, I') ∧ f_X10_setMargin S R I' (x + 171) a = some (r, J) ∧ w_J x S R J A' := by
  obtain ⟨hS, hz, hB, hC, hD⟩ := h
  obtain ⟨B', I', q1, C1, ch⟩ := g_setMargin hS hB hC ha
  obtain ⟨J, q2, D2, F2⟩ := h_setMargin hS (hD.ch ch) ha
  exact ⟨_, I', J, _, q1, q2, hS, hz, B', C1.mc B' F2, D2⟩
theorem st_setSlack {x : Nat} {S : q_S} {R : q_HR} {I : q_HI} {A : q_A} {a : Int} (h : w_J x S R I A) (ha : r_i a) : ∃ (r : Int) (I' J : q_HI) (A' : q_A), f_X9_setSlack S R I x a = some (r, I') ∧ f_X10_setSlack S R I' (x + 171) a = some (r, J) ∧ w_J x S R J A' := by
  obtain ⟨hS, hz, hB, hC, hD⟩ := h
  obtain ⟨B', I', q1, C1, ch⟩ := g_setSlack hS hB hC ha
  obtain ⟨J, q2, D2, F2⟩ := h_setSlack hS (hD.ch ch) ha
  exact ⟨_, I', J, _, q1, q2, hS, hz, B', C1.mc B' F2, D2⟩
theorem st_classify {x : Nat} {S : q_S} {R : q_HR} {I : q_HI} {A : q_A} (h : w_J x S R I A) : ∃ (r : Int) (I' J : q_HI) (A' : q_A), f_X9_classify S R I x = some (r, I') ∧ f_X10_classify S R I' (x + 171) = some (r, J) ∧ w_J x S R J A' := by
  obtain ⟨hS, hz, hB, hC, hD⟩ := h
  obtain ⟨I', q1, Q1⟩ := g_classify hS hB hC
  obtain ⟨J, q2, T2⟩ := h_classify hS hB (hD.q Q1)
  exact ⟨_, I', J, A, q1, q2, hS, hz, hB, (hC.q Q1).mc hB T2.mc, (hD.q Q1).t T2⟩
theorem st_classDistance {x : Nat} {S : q_S} {R : q_HR} {I : q_HI} {A : q_A} {a b : Int} (h : w_J x S R I A) (ha : r_i a) (hb : r_i b) : ∃ (r : Int) (I' J : q_HI) (A' : q_A), f_X9_classDistance S R I x a b = some (r, I') ∧ f_X10_classDistance S R I' (x + 171) a b = some (r, J) ∧ w_J x S R J A' := by
  obtain ⟨hS, hz, hB, hC, hD⟩ := h
  obtain ⟨I', q1, Q1⟩ := g_classDistance hS hB hC ha hb
  obtain ⟨J, q2, T2⟩ := h_classDistance hS hB (hD.q Q1) ha hb
  exact ⟨_, I', J, A, q1, q2, hS, hz, hB, (hC.q Q1).mc hB T2.mc, (hD.q Q1).t T2⟩
theorem st_closestClasses {x : Nat} {S : q_S} {R : q_HR} {I : q_HI} {A : q_A} (h : w_J x S R I A) : ∃ (r : Int) (I' J : q_HI) (A' : q_A), f_X9_closestClasses S R I x = some (r, I') ∧ f_X10_closestClasses S R I' (x + 171) = some (r, J) ∧ w_J x S R J A' := by
  obtain ⟨hS, hz, hB, hC, hD⟩ := h
  obtain ⟨I', q1, Q1⟩ := g_closestClasses hS hB hC
  obtain ⟨J, q2, T2⟩ := h_closestClasses hS hB (hD.q Q1)
  exact ⟨_, I', J, A, q1, q2, hS, hz, hB, (hC.q Q1).mc hB T2.mc, (hD.q Q1).t T2⟩
theorem st_suspectSensor {x : Nat} {S : q_S} {R : q_HR} {I : q_HI} {A : q_A} (h : w_J x S R I A) : ∃ (r : Int) (I' J : q_HI) (A' : q_A), f_X9_suspectSensor S R I x = some (r, I') ∧ f_X10_suspectSensor S R I' (x + 171) = some (r, J) ∧ w_J x S R J A' := by
  obtain ⟨hS, hz, hB, hC, hD⟩ := h
  obtain ⟨I', q1, Q1⟩ := g_suspect hS hB hC
  obtain ⟨J, q2, T2⟩ := h_suspect hS hB (hD.q Q1)
  exact ⟨_, I', J, A, q1, q2, hS, hz, hB, (hC.q Q1).mc hB T2.mc, (hD.q Q1).t T2⟩
theorem st_joinedGroups {x : Nat} {S : q_S} {R : q_HR} {I : q_HI} {A : q_A} {a : Int} (h : w_J x S R I A) (ha : r_i a) : ∃ (r : Int) (I' J : q_HI) (A' : q_A), f_X9_joinedGroups S R I x a = some (r, I') ∧ f_X10_joinedGroups S R I' (x + 171) a = some (r, J) ∧ w_J x S R J A' := by
  obtain ⟨hS, hz, hB, hC, hD⟩ := h
  obtain ⟨I', q1, Q1⟩ := g_joinedGroups hS hB hC ha
  obtain ⟨J, q2, T2⟩ := h_joinedGroups hS hB (hD.q Q1) ha
  exact ⟨_, I', J, A, q1, q2, hS, hz, hB, (hC.q Q1).mc hB T2.mc, (hD.q Q1).t T2⟩
theorem st_joinDistance {x : Nat} {S : q_S} {R : q_HR} {I : q_HI} {A : q_A} {a : Int} (h : w_J x S R I A) (ha : r_i a) : ∃ (r : Int) (I' J : q_HI) (A' : q_A), f_X9_joinDistance S R I x a = some (r, I') ∧ f_X10_joinDistance S R I' (x + 171) a = some (r, J) ∧ w_J x S R J A' := by
  obtain ⟨hS, hz, hB, hC, hD⟩ := h
  obtain ⟨I', q1, Q1⟩ := g_joinDistance hS hB hC ha
  obtain ⟨J, q2, T2⟩ := h_joinDistance hS hB (hD.q Q1) ha
  exact ⟨_, I', J, A, q1, q2, hS, hz, hB, (hC.q Q1).mc hB T2.mc, (hD.q Q1).t T2⟩
theorem st_nearestSample {x : Nat} {S : q_S} {R : q_HR} {I : q_HI} {A : q_A} {a : Int} (h : w_J x S R I A) (ha : r_i a) : ∃ (r : Int) (I' J : q_HI) (A' : q_A), f_X9_nearestSample S R I x a = some (r, I') ∧ f_X10_nearestSample S R I' (x + 171) a = some (r, J) ∧ w_J x S R J A' := by
  obtain ⟨hS, hz, hB, hC, hD⟩ := h
  obtain ⟨I', q1, Q1⟩ := g_nearestSample hS hB hC ha
  obtain ⟨J, q2, T2⟩ := h_nearestSample hS hB (hD.q Q1) ha
  exact ⟨_, I', J, A, q1, q2, hS, hz, hB, (hC.q Q1).mc hB T2.mc, (hD.q Q1).t T2⟩
theorem st_vote {x : Nat} {S : q_S} {R : q_HR} {I : q_HI} {A : q_A} {a : Int} (h : w_J x S R I A) (ha : r_i a) : ∃ (r : Int) (I' J : q_HI) (A' : q_A), f_X9_vote S R I x a = some (r, I') ∧ f_X10_vote S R I' (x + 171) a = some (r, J) ∧ w_J x S R J A' := by
  obtain ⟨hS, hz, hB, hC, hD⟩ := h
  obtain ⟨I', q1, Q1⟩ := g_vote hS hB hC ha
  obtain ⟨J, q2, T2⟩ := h_vote hS hB (hD.q Q1) ha
  exact ⟨_, I', J, A, q1, q2, hS, hz, hB, (hC.q Q1).mc hB T2.mc, (hD.q Q1).t T2⟩
theorem st_leaveOneOut {x : Nat} {S : q_S} {R : q_HR} {I : q_HI} {A : q_A} {a b : Int} (h : w_J x S R I A) (ha : r_i a) (hb : r_i b) : ∃ (r : Int) (I' J : q_HI) (A' : q_A), f_X9_leaveOneOut S R I x a b = some (r, I') ∧ f_X10_leaveOneOut S R I' (x + 171) a b = some (r, J) ∧ w_J x S R J A' := by
  obtain ⟨hS, hz, hB, hC, hD⟩ := h
  obtain ⟨I', q1, Q1⟩ := g_leaveOneOut hS hB hC ha hb
  obtain ⟨J, q2, T2⟩ := h_leaveOneOut hS hB (hD.q Q1) ha hb
  exact ⟨_, I', J, A, q1, q2, hS, hz, hB, (hC.q Q1).mc hB T2.mc, (hD.q Q1).t T2⟩
theorem st_confusion {x : Nat} {S : q_S} {R : q_HR} {I : q_HI} {A : q_A} {a b : Int} (h : w_J x S R I A) (ha : r_i a) (hb : r_i b) : ∃ (r : Int) (I' J : q_HI) (A' : q_A), f_X9_confusion S R I x a b = some (r, I') ∧ f_X10_confusion S R I' (x + 171) a b = some (r, J) ∧ w_J x S R J A' := by
  obtain ⟨hS, hz, hB, hC, hD⟩ := h
  obtain ⟨I', q1, Q1⟩ := g_confusion hS hB hC ha hb
  obtain ⟨J, q2, T2⟩ := h_confusion hS hB (hD.q Q1) ha hb
  exact ⟨_, I', J, A, q1, q2, hS, hz, hB, (hC.q Q1).mc hB T2.mc, (hD.q Q1).t T2⟩
theorem st_correctCount {x : Nat} {S : q_S} {R : q_HR} {I : q_HI} {A : q_A} (h : w_J x S R I A) : ∃ (r : Int) (I' J : q_HI) (A' : q_A), f_X9_correctCount S R I x = some (r, I') ∧ f_X10_correctCount S R I' (x + 171) = some (r, J) ∧ w_J x S R J A' := by
  obtain ⟨hS, hz, hB, hC, hD⟩ := h
  obtain ⟨I', q1, Q1⟩ := g_correctCount hS hB hC
  obtain ⟨J, q2, T2⟩ := h_correctCount hS hB (hD.q Q1)
  exact ⟨_, I', J, A, q1, q2, hS, hz, hB, (hC.q Q1).mc hB T2.mc, (hD.q Q1).t T2⟩
theorem st_correctWithout {x : Nat} {S : q_S} {R : q_HR} {I : q_HI} {A : q_A} {a : Int} (h : w_J x S R I A) (ha : r_i a) : ∃ (r : Int) (I' J : q_HI) (A' : q_A), f_X9_correctWithout S R I x a = some (r, I') ∧ f_X10_correctWithout S R I' (x + 171) a = some (r, J) ∧ w_J x S R J A' := by
  obtain ⟨hS, hz, hB, hC, hD⟩ := h
  obtain ⟨I', q1, Q1⟩ := g_correctWithout hS hB hC ha
  obtain ⟨J, q2, T2⟩ := h_correctWithout hS hB (hD.q Q1) ha
  exact ⟨_, I', J, A, q1, q2, hS, hz, hB, (hC.q Q1).mc hB T2.mc, (hD.q Q1).t T2⟩
theorem st_correctWith {x : Nat} {S : q_S} {R : q_HR} {I : q_HI} {A : q_A} {a : Int} (h : w_J x S R I A) (ha : r_i a) : ∃ (r : Int) (I' J : q_HI) (A' : q_A), f_X9_correctWith S R I x a = some (r, I') ∧ f_X10_correctWith S R I' (x + 171) a = some (r, J) ∧ w_J x S R J A' := by
  obtain ⟨hS, hz, hB, hC, hD⟩ := h
  obtain ⟨I', q1, Q1⟩ := g_correctWith hS hB hC ha
  obtain ⟨J, q2, T2⟩ := h_correctWith hS hB (hD.q Q1) ha
  exact ⟨_, I', J, A, q1, q2, hS, hz, hB, (hC.q Q1).mc hB T2.mc, (hD.q Q1).t T2⟩
theorem st_bestSubset {x : Nat} {S : q_S} {R : q_HR} {I : q_HI} {A : q_A} {a : Int} (h : w_J x S R I A) (ha : r_i a) : ∃ (r : Int) (I' J : q_HI) (A' : q_A), f_X9_bestSubset S R I x a = some (r, I') ∧ f_X10_bestSubset S R I' (x + 171) a = some (r, J) ∧ w_J x S R J A' := by
  obtain ⟨hS, hz, hB, hC, hD⟩ := h
  obtain ⟨I', q1, Q1⟩ := g_bestSubset hS hB hC ha
  obtain ⟨J, q2, T2⟩ := h_bestSubset hS hB (hD.q Q1) ha
  exact ⟨_, I', J, A, q1, q2, hS, hz, hB, (hC.q Q1).mc hB T2.mc, (hD.q Q1).t T2⟩
theorem st_leastUsefulSensor {x : Nat} {S : q_S} {R : q_HR} {I : q_HI} {A : q_A} (h : w_J x S R I A) : ∃ (r : Int) (I' J : q_HI) (A' : q_A), f_X9_leastUsefulSensor S R I x = some (r, I') ∧ f_X10_leastUsefulSensor S R I' (x + 171) = some (r, J) ∧ w_J x S R J A' := by
  obtain ⟨hS, hz, hB, hC, hD⟩ := h
  obtain ⟨I', q1, Q1⟩ := g_leastUseful hS hB hC
  obtain ⟨J, q2, T2⟩ := h_leastUseful hS hB (hD.q Q1)
  exact ⟨_, I', J, A, q1, q2, hS, hz, hB, (hC.q Q1).mc hB T2.mc, (hD.q Q1).t T2⟩
theorem st_sensorScore {x : Nat} {S : q_S} {R : q_HR} {I : q_HI} {A : q_A} {a : Int} (h : w_J x S R I A) (ha : r_i a) : ∃ (r : Int) (I' J : q_HI) (A' : q_A), f_X9_sensorScore S R I x a = some (r, I') ∧ f_X10_sensorScore S R I' (x + 171) a = some (r, J) ∧ w_J x S R J A' := by
  obtain ⟨hS, hz, hB, hC, hD⟩ := h
  obtain ⟨I', q1, Q1⟩ := g_sensorScore hS hB hC ha
  obtain ⟨J, q2, T2⟩ := h_sensorScore hS hB (hD.q Q1) ha
  exact ⟨_, I', J, A, q1, q2, hS, hz, hB, (hC.q Q1).mc hB T2.mc, (hD.q Q1).t T2⟩
theorem st_outlier {x : Nat} {S : q_S} {R : q_HR} {I : q_HI} {A : q_A} {a : Int} (h : w_J x S R I A) (ha : r_i a) : ∃ (r : Int) (I' J : q_HI) (A' : q_A), f_X9_outlier S R I x a = some (r, I') ∧ f_X10_outlier S R I' (x + 171) a = some (r, J) ∧ w_J x S R J A' := by
  obtain ⟨hS, hz, hB, hC, hD⟩ := h
  obtain ⟨I', q1, Q1⟩ := g_outlier hS hB hC ha
  obtain ⟨J, q2, T2⟩ := h_outlier hS hB (hD.q Q1) ha
  exact ⟨_, I', J, A, q1, q2, hS, hz, hB, (hC.q Q1).mc hB T2.mc, (hD.q Q1).t T2⟩
