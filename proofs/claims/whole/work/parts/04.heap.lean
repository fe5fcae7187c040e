section QH
variable {X : q_X} {Rm : Room} {cc : ByteArray} {nL cells slots pc : Nat} {lv : List (Nat × Value)} {st : List Value} {S : q_S} {R : q_HR} {I : q_HI} {own : String} {ret : Option FieldType} {nm : String}
/-! FIELDS -/
theorem q_getW {p : Program} {l : Launch} {e : Env} {s : State} {m : MethodId} {args : Array Value} {below : List Frame} {meth : Method} {c : Code} {D : va_G} {cy : Nat → ClassId} {B : Nat} {Q : State → Prop} {H : Heap} {locs : List Loc} {ls : Array Slot} {a idx k j : Nat} {fin nest : Bool} (hx : p.tables.exec = Jvm.exec) (hb : c.code = cc) (hown : s.vm.findClass own = some m.cls) (hK : q_K D cy s) (hR : q_R B D cy S R I H)
    (hA : q_FA own idx k j fin nest) (hk : S.1 a = k) (hd : decode cc pc = .ok (.getfield idx, 3)) (kk : W p l e Rm s m args below meth c H locs cells slots Q (F0 m (pc + 3) ls (q_fv (q_ty k j) (R a j) (I a j) :: st))) : W p l e Rm s m args below meth c H locs cells slots Q (F0 m pc ls (.ref a :: st)) := by
  obtain ⟨C, T, hC, hj, hk12, hk0, hTC, hfin, hws, hpf, hnms, hlk⟩ := hA
  have hc := (hR.2 a (by omega)).2
  rw [hk] at hc
  unfold q_cell at hc
  rw [if_pos hk12] at hc
  obtain ⟨cell, q1, q2, q3, q4⟩ := hc
  obtain ⟨hS, hfc, kC, hkC, hkind⟩ := hK.2.1.1 (k - 1) _ hC
  obtain ⟨cf, kf, fi, f, hi, hsl⟩ := hS j hj
  dsimp only at hi hsl hS hfc
  have hts : ∀ w ∈ u_ws C T (q_nf k), w.before args s = true := fun w hw => hK.use (hws w hw).1 (hws w hw).2 args
  have hst := (u_facts hfc hkC (u_lays hts (fun w h => h) hj) hi).1
  rw [hTC] at hi
  have hslot : cell.slots[f.slot]? = some (q_fv (q_ty k j) (R a j) (I a j)) := by rw [hsl]; exact q4 j hj
  cases nest with
  | false =>
    simp only [Bool.false_eq_true, if_false] at hlk
    exact W.getf hx hb hown (hK.use hlk.1 rfl args) hi hst q1 (by rw [q3]; exact fun h => by cases h) hslot rfl rfl hd kk
  | true =>
    simp only [if_true] at hlk
    obtain ⟨host, hlk⟩ := hlk
    exact va_Wgetf hx hb hown (hK.use hlk rfl args) hi hst q1 (by rw [q3]; exact fun h => by cases h) hslot rfl rfl hd kk
theorem v_getI {a idx k j : Nat} {fin nest : Bool} (hX : q_C X cc nL own ret nm) (hA : q_FA own idx k j fin nest) (hv : ∀ r z, q_fv (q_ty k j) r z = .int (q_i z)) (hk : S.1 a = k) (hd : decode cc pc = .ok (.getfield idx, 3)) (kk : q_V X Rm cc nL cells slots (pc + 3) lv (.int (q_i (I a j)) :: st) S R I) : q_V X Rm cc nL cells slots pc lv (.ref a :: st) S R I := by
  obtain ⟨p, l, e, s, m, args, below, meth, c, D, cy, B, Q⟩ := X
  obtain ⟨hx, hb, hml, hown, hK, hB, hlk, hrt, hnm⟩ := hX
  intro H locs ls hR hF hl
  refine q_getW hx hb hown hK hR hA hk hd ?_
  rw [hv]
  exact kk H locs ls hR hF hl
theorem v_getJ {a idx k j : Nat} {fin nest : Bool} (hX : q_C X cc nL own ret nm) (hA : q_FA own idx k j fin nest) (hv : ∀ r z, q_fv (q_ty k j) r z = .long (q_l z)) (hk : S.1 a = k) (hd : decode cc pc = .ok (.getfield idx, 3)) (kk : q_V X Rm cc nL cells slots (pc + 3) lv (.long (q_l (I a j)) :: st) S R I) : q_V X Rm cc nL cells slots pc lv (.ref a :: st) S R I := by
  obtain ⟨p, l, e, s, m, args, below, meth, c, D, cy, B, Q⟩ := X
  obtain ⟨hx, hb, hml, hown, hK, hB, hlk, hrt, hnm⟩ := hX
  intro H locs ls hR hF hl
  refine q_getW hx hb hown hK hR hA hk hd ?_
  rw [hv]
  exact kk H locs ls hR hF hl
theorem q_rf_ref {B : Nat} {D : va_G} {cy : Nat → ClassId} {H : Heap} (hB : 0 < B) (hR : q_R B D cy S R I H) {r k : Nat} (hr : S.1 r = k) (hk : k ≠ 0) : q_rf r = .ref r := by
  have := (hR.2 r (by omega)).1
  unfold q_rf
  rw [if_neg (by omega)]
theorem v_getA {a idx k j kr : Nat} {fin nest : Bool} (hX : q_C X cc nL own ret nm) (hA : q_FA own idx k j fin nest) (hv : ∀ r z, q_fv (q_ty k j) r z = q_rf r) (hk : S.1 a = k) (hr : S.1 (R a j) = kr) (hn : kr ≠ 0) (hd : decode cc pc = .ok (.getfield idx, 3)) (kk : q_V X Rm cc nL cells slots (pc + 3) lv (.ref (R a j) :: st) S R I) : q_V X Rm cc nL cells slots pc lv (.ref a :: st) S R I := by
  obtain ⟨p, l, e, s, m, args, below, meth, c, D, cy, B, Q⟩ := X
  obtain ⟨hx, hb, hml, hown, hK, hB, hlk, hrt, hnm⟩ := hX
  intro H locs ls hR hF hl
  refine q_getW hx hb hown hK hR hA hk hd ?_
  rw [hv, q_rf_ref hB hR hr hn]
  exact kk H locs ls hR hF hl
theorem q_putW {p : Program} {l : Launch} {e : Env} {s : State} {m : MethodId} {args : Array Value} {below : List Frame} {meth : Method} {c : Code} {D : va_G} {cy : Nat → ClassId} {B : Nat} {Q : State → Prop} {H : Heap} {locs : List Loc} {ls : Array Slot} {a idx k j : Nat} {fin nest : Bool} {v : Value} (hx : p.tables.exec = Jvm.exec) (hb : c.code = cc) (hown : s.vm.findClass own = some m.cls) (hK : q_K D cy s) (hR : q_R B D cy S R I H)
    (hA : q_FA own idx k j fin nest) (hfi : fin = false ∨ (nest = false ∧ meth.name = "<init>")) (hk : S.1 a = k) (hn : narrow (q_ty k j) v = v) (hf : fits (q_ty k j) v = true) (hd : decode cc pc = .ok (.putfield idx, 3))
    (kk : ∀ (H' : Heap) (sl : Nat), t_OB a (D.1 (k - 1)) (q_nf k) (D.2 (k - 1)) H' (updV (fun j => q_fv (q_ty k j) (R a j) (I a j)) j v) → H'.size = H.size → (∀ q : Nat, q ≠ a → H'[q]? = H[q]?) → W p l e Rm s m args below meth c H' (locs ++ [⟨a, sl⟩]) cells slots Q (F0 m (pc + 3) ls st)) : W p l e Rm s m args below meth c H locs cells slots Q (F0 m pc ls (v :: .ref a :: st)) := by
  obtain ⟨C, T, hC, hj, hk12, hk0, hTC, hfin, hws, hpf, hnms, hlk⟩ := hA
  have hc := (hR.2 a (by omega)).2
  rw [hk] at hc
  unfold q_cell at hc
  rw [if_pos hk12] at hc
  obtain ⟨cell, q1, q2, q3, q4⟩ := hc
  have hts : ∀ w ∈ u_ws C T (q_nf k), w.before args s = true := fun w hw => hK.use (hws w hw).1 (hws w hw).2 args
  have hap := va_apart (own := own) hts (fun w h => h) (q_ty k) hpf hnms hK.2.1 hC
  obtain ⟨hS, hfc, kC, hkC, hkind⟩ := hK.2.1.1 (k - 1) _ hC
  obtain ⟨cf, kf, fi, f, hi, hsl⟩ := hS j hj
  dsimp only at hi hsl hS hfc
  have hst := (u_facts hfc hkC (u_lays hts (fun w h => h) hj) hi).1
  have hlay := hts _ (u_in_lay hj)
  have hlt : f.slot < cell.slots.size := by rw [hsl]; exact k2_hasslot (q4 j hj)
  unfold u_lay at hlay
  cases fin with
  | false =>
    rw [if_neg (by rw [hfin]; decide)] at hlay
    have h6 := u_store hfc hkC hkind hlay hi (hpf j hj) hn hf
    rw [hTC] at hi
    cases nest with
    | false =>
      simp only [Bool.false_eq_true, if_false] at hlk
      refine W.putK hx hb (f := f) ⟨hown, hK.use hlk.1 rfl args, ⟨_, _, _, hi⟩, hst⟩ (by rw [q2]; exact h6) q1 q3 hlt rfl rfl hd fun H' e1 e2 e3 => ?_
      rw [hsl] at e1 ⊢
      exact kk H' _ ⟨_, e1, q2, q3, t_set q4 hap hj v⟩ e2 e3
    | true =>
      simp only [if_true] at hlk
      obtain ⟨host, hlk⟩ := hlk
      refine va_WputK hx hb (f := f) hown (hK.use hlk rfl args) hi hst (by rw [q2]; exact h6) q1 q3 hlt rfl rfl hd fun H' e1 e2 e3 => ?_
      rw [hsl] at e1 ⊢
      exact kk H' _ ⟨_, e1, q2, q3, t_set q4 hap hj v⟩ e2 e3
  | true =>
    rcases hfi with hfi | ⟨rfl, hin⟩
    · cases hfi
    · simp only [Bool.false_eq_true, if_false] at hlk
      rw [if_pos hfin] at hlay
      have hcf : m.cls = cf := by
        obtain ⟨_, _, c', _, _, _, -, -, hf', -, -, -, hown2, -⟩ := Cond.laysFinal_spec hlay
        have e1 : c' = cf := by have := hi.symm.trans hf'; simp at this; exact this.1.symm
        rw [hTC, hlk.2] at hown2
        rw [← e1]; exact Option.some.inj (hown.symm.trans hown2)
      have h6 := u_fits hfc hkC hkind (Or.inr hlay) hi (hpf j hj) hn hf
      rw [hTC] at hi
      refine W.putFinK hx hb hown (hK.use hlk.1 rfl args) hi hst hcf hin (by rw [q2]; exact h6) q1 q3 hlt rfl rfl hd fun H' e1 e2 e3 => ?_
      rw [hsl] at e1 ⊢
      exact kk H' _ ⟨_, e1, q2, q3, t_set q4 hap hj v⟩ e2 e3
theorem q_FA.lt {idx k j : Nat} {fin nest : Bool} (h : q_FA own idx k j fin nest) : k < 12 ∧ 0 < k := by
  obtain ⟨C, T, hC, hj, hk12, hk0, -⟩ := h
  exact ⟨hk12, hk0⟩
theorem q_putI {a idx k j : Nat} {fin nest : Bool} {z : Int} {v : Value} (hX : q_C X cc nL own ret nm) (hA : q_FA own idx k j fin nest) (hfi : fin = false ∨ (nest = false ∧ nm = "<init>")) (hv : ∀ r, q_fv (q_ty k j) r z = v) (hk : S.1 a = k) (hn : narrow (q_ty k j) v = v) (hf : fits (q_ty k j) v = true) (hd : decode cc pc = .ok (.putfield idx, 3)) (kk : q_V X Rm cc nL cells slots (pc + 3) lv st S R (q_up I a j z)) : q_V X Rm cc nL cells slots pc lv (v :: .ref a :: st) S R I := by
  obtain ⟨p, l, e, s, m, args, below, meth, c, D, cy, B, Q⟩ := X
  obtain ⟨hx, hb, hml, hown, hK, hB, hlk, hrt, hnm⟩ := hX
  intro H locs ls hR hF hl
  obtain ⟨hk12, hk0⟩ := hA.lt
  subst hnm
  refine q_putW hx hb hown hK hR hA hfi hk hn hf hd fun H' sl e1 e2 e3 => ?_
  refine kk H' _ ls (hR.put e2 e3 (fun _ _ => rfl) (fun b hb => q_up_ne I j z hb) ?_) (hF.put e2 e3 (hR.2 a (by omega)).1) hl
  rw [hk]
  unfold q_cell
  rw [if_pos hk12, q_up_self, ← q_updI k j (R a) (I a) z, hv]
  exact e1
theorem v_putI {a idx k j : Nat} {nest : Bool} {z : Int} (hX : q_C X cc nL own ret nm) (hA : q_FA own idx k j false nest) (ht : q_ty k j = .int) (hk : S.1 a = k) (hd : decode cc pc = .ok (.putfield idx, 3)) (kk : q_V X Rm cc nL cells slots (pc + 3) lv st S R (q_up I a j z)) : q_V X Rm cc nL cells slots pc lv (.int (q_i z) :: .ref a :: st) S R I :=
  q_putI hX hA (Or.inl rfl) (fun r => by rw [ht]; rfl) hk (by rw [ht]; rfl) (by rw [ht]; rfl) hd kk
theorem v_putFI {a idx k j : Nat} {z : Int} (hX : q_C X cc nL own ret "<init>") (hA : q_FA own idx k j true false) (ht : q_ty k j = .int) (hk : S.1 a = k) (hd : decode cc pc = .ok (.putfield idx, 3)) (kk : q_V X Rm cc nL cells slots (pc + 3) lv st S R (q_up I a j z)) : q_V X Rm cc nL cells slots pc lv (.int (q_i z) :: .ref a :: st) S R I :=
  q_putI hX hA (Or.inr ⟨rfl, rfl⟩) (fun r => by rw [ht]; rfl) hk (by rw [ht]; rfl) (by rw [ht]; rfl) hd kk
theorem v_putJ {a idx k j : Nat} {nest : Bool} {z : Int} (hX : q_C X cc nL own ret nm) (hA : q_FA own idx k j false nest) (ht : q_ty k j = .long) (hk : S.1 a = k) (hd : decode cc pc = .ok (.putfield idx, 3)) (kk : q_V X Rm cc nL cells slots (pc + 3) lv st S R (q_up I a j z)) : q_V X Rm cc nL cells slots pc lv (.long (q_l z) :: .ref a :: st) S R I :=
  q_putI hX hA (Or.inl rfl) (fun r => by rw [ht]; rfl) hk (by rw [ht]; rfl) (by rw [ht]; rfl) hd kk
theorem q_bz {z : Int} (h : z = 0 ∨ z = 1) : narrow .boolean (.int (q_i z)) = .int (q_i z) ∧ fits .boolean (.int (q_i z)) = true := by
  rcases h with rfl | rfl
  · exact ⟨by decide, by decide⟩
  · exact ⟨by decide, by decide⟩
theorem v_putZ {a idx k j : Nat} {nest : Bool} {z : Int} (hX : q_C X cc nL own ret nm) (hA : q_FA own idx k j false nest) (ht : q_ty k j = .boolean) (gz : z = 0 ∨ z = 1) (hk : S.1 a = k) (hd : decode cc pc = .ok (.putfield idx, 3)) (kk : q_V X Rm cc nL cells slots (pc + 3) lv st S R (q_up I a j z)) : q_V X Rm cc nL cells slots pc lv (.int (q_i z) :: .ref a :: st) S R I :=
  q_putI hX hA (Or.inl rfl) (fun r => by rw [ht]; rfl) hk (by rw [ht]; exact (q_bz gz).1) (by rw [ht]; exact (q_bz gz).2) hd kk
theorem q_putA {a idx k j v kv : Nat} {fin nest : Bool} (hX : q_C X cc nL own ret nm) (hA : q_FA own idx k j fin nest) (hfi : fin = false ∨ (nest = false ∧ nm = "<init>")) (hv : ∀ r z, q_fv (q_ty k j) r z = q_rf r) (hn : narrow (q_ty k j) (.ref v) = .ref v) (hf : fits (q_ty k j) (.ref v) = true) (hk : S.1 a = k) (hr : S.1 v = kv) (h0 : kv ≠ 0) (hd : decode cc pc = .ok (.putfield idx, 3)) (kk : q_V X Rm cc nL cells slots (pc + 3) lv st S (q_up R a j v) I) : q_V X Rm cc nL cells slots pc lv (.ref v :: .ref a :: st) S R I := by
  obtain ⟨p, l, e, s, m, args, below, meth, c, D, cy, B, Q⟩ := X
  obtain ⟨hx, hb, hml, hown, hK, hB, hlk, hrt, hnm⟩ := hX
  intro H locs ls hR hF hl
  obtain ⟨hk12, hk0⟩ := hA.lt
  subst hnm
  refine q_putW hx hb hown hK hR hA hfi hk hn hf hd fun H' sl e1 e2 e3 => ?_
  refine kk H' _ ls (hR.put e2 e3 (fun b hb => q_up_ne R j v hb) (fun _ _ => rfl) ?_) (hF.put e2 e3 (hR.2 a (by omega)).1) hl
  rw [hk]
  unfold q_cell
  rw [if_pos hk12, q_up_self, ← q_updR k j (R a) (I a) v, hv, q_rf_ref hB hR hr h0]
  exact e1
theorem v_putA {a idx k j v kv : Nat} {nest : Bool} (hX : q_C X cc nL own ret nm) (hA : q_FA own idx k j false nest) (hv : ∀ r z, q_fv (q_ty k j) r z = q_rf r) (hn : narrow (q_ty k j) (.ref v) = .ref v) (hf : fits (q_ty k j) (.ref v) = true) (hk : S.1 a = k) (hr : S.1 v = kv) (h0 : kv ≠ 0) (hd : decode cc pc = .ok (.putfield idx, 3)) (kk : q_V X Rm cc nL cells slots (pc + 3) lv st S (q_up R a j v) I) : q_V X Rm cc nL cells slots pc lv (.ref v :: .ref a :: st) S R I :=
  q_putA hX hA (Or.inl rfl) hv hn hf hk hr h0 hd kk
theorem v_putFA {a idx k j v kv : Nat} (hX : q_C X cc nL own ret "<init>") (hA : q_FA own idx k j true false) (hv : ∀ r z, q_fv (q_ty k j) r z = q_rf r) (hn : narrow (q_ty k j) (.ref v) = .ref v) (hf : fits (q_ty k j) (.ref v) = true) (hk : S.1 a = k) (hr : S.1 v = kv) (h0 : kv ≠ 0) (hd : decode cc pc = .ok (.putfield idx, 3)) (kk : q_V X Rm cc nL cells slots (pc + 3) lv st S (q_up R a j v) I) : q_V X Rm cc nL cells slots pc lv (.ref v :: .ref a :: st) S R I :=
  q_putA hX hA (Or.inr ⟨rfl, rfl⟩) hv hn hf hk hr h0 hd kk
/-! ARRAYS -/
theorem q_arr {B : Nat} {D : va_G} {cy : Nat → ClassId} {H : Heap} (hR : q_R B D cy S R I H) {a k : Nat} (hk : S.1 a = k) (h12 : ¬ k < 12) : B ≤ a ∧ H[a]? = some (arrV (cy k) (S.2.1 a) (fun j => q_fv (q_ty k j) (R a j) (I a j))) := by
  have hc := hR.2 a (by omega)
  rw [hk] at hc
  unfold q_cell at hc
  rw [if_neg h12] at hc
  exact hc
theorem q_in {n : Nat} {i : Int} (hi : 0 ≤ i ∧ i < (n : Int)) (hr : r_i i) : ¬ (q_i i < 0 ∨ n ≤ (q_i i).toNatClampNeg) := by
  rw [q_nat hi.1 hr, ← q_i0, q_iLt hr r_i0]
  omega
theorem q_rng {B : Nat} {D : va_G} {cy : Nat → ClassId} {H : Heap} (hR : q_R B D cy S R I H) {a : Nat} {i : Int} (hi : 0 ≤ i ∧ i < (S.2.1 a : Int)) : r_i i := by
  have := hR.1.2 a
  unfold r_i
  omega
theorem v_alen {a k t0 : Nat} {ty : FieldType} (hX : q_C X cc nL own ret nm) (hk : S.1 a = k) (h12 : ¬ k < 12) (ht : ∀ cy : Nat → ClassId, (q_tys cy)[t0]? = some (cy k, ty)) (hd : decode cc pc = .ok (.arraylength, 1)) (kk : q_V X Rm cc nL cells slots (pc + 1) lv (.int (q_i (S.2.1 a : Int)) :: st) S R I) : q_V X Rm cc nL cells slots pc lv (.ref a :: st) S R I := by
  obtain ⟨p, l, e, s, m, args, below, meth, c, D, cy, B, Q⟩ := X
  obtain ⟨hx, hb, hml, hown, hK, hB, hlk, hrt, hnm⟩ := hX
  intro H locs ls hR hF hl
  obtain ⟨hBa, hc⟩ := q_arr hR hk h12
  exact W.alen hx hb hc ((q_kinds hK (ht cy)).1 _ _) (by rw [arrV_size]; exact q_ofN) rfl rfl hd (kk H locs ls hR hF hl)
theorem v_iaload {a : Nat} {i : Int} (hX : q_C X cc nL own ret nm) (hk : S.1 a = 12) (hi : 0 ≤ i ∧ i < (S.2.1 a : Int)) (hd : decode cc pc = .ok (.iaload, 1)) (kk : q_V X Rm cc nL cells slots (pc + 1) lv (.int (q_i (I a i.toNat)) :: st) S R I) : q_V X Rm cc nL cells slots pc lv (.int (q_i i) :: .ref a :: st) S R I := by
  obtain ⟨p, l, e, s, m, args, below, meth, c, D, cy, B, Q⟩ := X
  obtain ⟨hx, hb, hml, hown, hK, hB, hlk, hrt, hnm⟩ := hX
  intro H locs ls hR hF hl
  obtain ⟨hBa, hc⟩ := q_arr hR hk (by decide)
  have hr := q_rng hR hi
  exact W.iald (v := .int (q_i (I a i.toNat))) hx hb hc ((q_kinds hK (k := 12) (t0 := 0) rfl).1 _ _) (fun h => by cases h) (by rw [arrV_size]; exact q_in hi hr) (by rw [q_nat hi.1 hr, arrV_read _ _ (by omega)]; rfl) rfl rfl hd (kk H locs ls hR hF hl)
theorem v_laload {a : Nat} {i : Int} (hX : q_C X cc nL own ret nm) (hk : S.1 a = 13) (hi : 0 ≤ i ∧ i < (S.2.1 a : Int)) (hd : decode cc pc = .ok (.laload, 1)) (kk : q_V X Rm cc nL cells slots (pc + 1) lv (.long (q_l (I a i.toNat)) :: st) S R I) : q_V X Rm cc nL cells slots pc lv (.int (q_i i) :: .ref a :: st) S R I := by
  obtain ⟨p, l, e, s, m, args, below, meth, c, D, cy, B, Q⟩ := X
  obtain ⟨hx, hb, hml, hown, hK, hB, hlk, hrt, hnm⟩ := hX
  intro H locs ls hR hF hl
  obtain ⟨hBa, hc⟩ := q_arr hR hk (by decide)
  have hr := q_rng hR hi
  exact W.lald (v := .long (q_l (I a i.toNat))) hx hb hc ((q_kinds hK (k := 13) (t0 := 1) rfl).1 _ _) (fun h => by cases h) (by rw [arrV_size]; exact q_in hi hr) (by rw [q_nat hi.1 hr, arrV_read _ _ (by omega)]; rfl) rfl rfl hd (kk H locs ls hR hF hl)
theorem v_baload {a : Nat} {i : Int} (hX : q_C X cc nL own ret nm) (hk : S.1 a = 14) (hi : 0 ≤ i ∧ i < (S.2.1 a : Int)) (hd : decode cc pc = .ok (.baload, 1)) (kk : q_V X Rm cc nL cells slots (pc + 1) lv (.int (q_i (I a i.toNat)) :: st) S R I) : q_V X Rm cc nL cells slots pc lv (.int (q_i i) :: .ref a :: st) S R I := by
  obtain ⟨p, l, e, s, m, args, below, meth, c, D, cy, B, Q⟩ := X
  obtain ⟨hx, hb, hml, hown, hK, hB, hlk, hrt, hnm⟩ := hX
  intro H locs ls hR hF hl
  obtain ⟨hBa, hc⟩ := q_arr hR hk (by decide)
  have hr := q_rng hR hi
  exact W.zald (v := .int (q_i (I a i.toNat))) hx hb hc ((q_kinds hK (k := 14) (t0 := 2) rfl).1 _ _) (fun h => by cases h) (by rw [arrV_size]; exact q_in hi hr) (by rw [q_nat hi.1 hr, arrV_read _ _ (by omega)]; rfl) rfl rfl hd (kk H locs ls hR hF hl)
theorem v_iastore {a : Nat} {i z : Int} (hX : q_C X cc nL own ret nm) (hk : S.1 a = 12) (hi : 0 ≤ i ∧ i < (S.2.1 a : Int)) (hd : decode cc pc = .ok (.iastore, 1)) (kk : q_V X Rm cc nL cells slots (pc + 1) lv st S R (q_up I a i.toNat z)) : q_V X Rm cc nL cells slots pc lv (.int (q_i z) :: .int (q_i i) :: .ref a :: st) S R I := by
  obtain ⟨p, l, e, s, m, args, below, meth, c, D, cy, B, Q⟩ := X
  obtain ⟨hx, hb, hml, hown, hK, hB, hlk, hrt, hnm⟩ := hX
  intro H locs ls hR hF hl
  obtain ⟨hBa, hc⟩ := q_arr hR hk (by decide)
  have hr := q_rng hR hi
  refine W.iast hx hb hc ((q_kinds hK (k := 12) (t0 := 0) rfl).1 _ _) (fun h => by cases h) (by rw [arrV_size]; exact q_in hi hr) rfl rfl hd fun H' e1 e2 e3 => ?_
  refine kk H' _ ls (hR.put e2 e3 (fun _ _ => rfl) (fun b hb => q_up_ne I i.toNat z hb) ?_) (hF.put e2 e3 hBa) hl
  rw [hk]
  unfold q_cell
  rw [if_neg (by decide), e1, arrV_store, q_nat hi.1 hr, q_up_self]
  exact congrArg (fun f => some (arrV (cy 12) (S.2.1 a) f)) (q_updI 12 i.toNat (R a) (I a) z)
theorem v_lastore {a : Nat} {i z : Int} (hX : q_C X cc nL own ret nm) (hk : S.1 a = 13) (hi : 0 ≤ i ∧ i < (S.2.1 a : Int)) (hd : decode cc pc = .ok (.lastore, 1)) (kk : q_V X Rm cc nL cells slots (pc + 1) lv st S R (q_up I a i.toNat z)) : q_V X Rm cc nL cells slots pc lv (.long (q_l z) :: .int (q_i i) :: .ref a :: st) S R I := by
  obtain ⟨p, l, e, s, m, args, below, meth, c, D, cy, B, Q⟩ := X
  obtain ⟨hx, hb, hml, hown, hK, hB, hlk, hrt, hnm⟩ := hX
  intro H locs ls hR hF hl
  obtain ⟨hBa, hc⟩ := q_arr hR hk (by decide)
  have hr := q_rng hR hi
  refine W.last hx hb hc ((q_kinds hK (k := 13) (t0 := 1) rfl).1 _ _) (fun h => by cases h) (by rw [arrV_size]; exact q_in hi hr) rfl rfl hd fun H' e1 e2 e3 => ?_
  refine kk H' _ ls (hR.put e2 e3 (fun _ _ => rfl) (fun b hb => q_up_ne I i.toNat z hb) ?_) (hF.put e2 e3 hBa) hl
  rw [hk]
  unfold q_cell
  rw [if_neg (by decide), e1, arrV_store, q_nat hi.1 hr, q_up_self]
  exact congrArg (fun f => some (arrV (cy 13) (S.2.1 a) f)) (q_updI 13 i.toNat (R a) (I a) z)
theorem v_bastore {a : Nat} {i z : Int} (hX : q_C X cc nL own ret nm) (gz : z = 0 ∨ z = 1) (hk : S.1 a = 14) (hi : 0 ≤ i ∧ i < (S.2.1 a : Int)) (hd : decode cc pc = .ok (.bastore, 1)) (kk : q_V X Rm cc nL cells slots (pc + 1) lv st S R (q_up I a i.toNat z)) : q_V X Rm cc nL cells slots pc lv (.int (q_i z) :: .int (q_i i) :: .ref a :: st) S R I := by
  obtain ⟨p, l, e, s, m, args, below, meth, c, D, cy, B, Q⟩ := X
  obtain ⟨hx, hb, hml, hown, hK, hB, hlk, hrt, hnm⟩ := hX
  intro H locs ls hR hF hl
  obtain ⟨hBa, hc⟩ := q_arr hR hk (by decide)
  have hr := q_rng hR hi
  refine W.zast hx hb hc ((q_kinds hK (k := 14) (t0 := 2) rfl).1 _ _) (fun h => by cases h) (by rw [arrV_size]; exact q_in hi hr) rfl rfl hd fun H' e1 e2 e3 => ?_
  rw [(q_bz gz).1] at e1
  refine kk H' _ ls (hR.put e2 e3 (fun _ _ => rfl) (fun b hb => q_up_ne I i.toNat z hb) ?_) (hF.put e2 e3 hBa) hl
  rw [hk]
  unfold q_cell
  rw [if_neg (by decide), e1, arrV_store, q_nat hi.1 hr, q_up_self]
  exact congrArg (fun f => some (arrV (cy 14) (S.2.1 a) f)) (q_updI 14 i.toNat (R a) (I a) z)
theorem v_aaload {a k t0 kr : Nat} {i : Int} {ty : FieldType} (hX : q_C X cc nL own ret nm) (hk : S.1 a = k) (h12 : ¬ k < 12) (ht : ∀ cy : Nat → ClassId, (q_tys cy)[t0]? = some (cy k, ty)) (hty : ty.isReference = true) (hv : ∀ j r z, q_fv (q_ty k j) r z = q_rf r) (hi : 0 ≤ i ∧ i < (S.2.1 a : Int)) (hr0 : S.1 (R a i.toNat) = kr) (hn : kr ≠ 0) (hd : decode cc pc = .ok (.aaload, 1)) (kk : q_V X Rm cc nL cells slots (pc + 1) lv (.ref (R a i.toNat) :: st) S R I) : q_V X Rm cc nL cells slots pc lv (.int (q_i i) :: .ref a :: st) S R I := by
  obtain ⟨p, l, e, s, m, args, below, meth, c, D, cy, B, Q⟩ := X
  obtain ⟨hx, hb, hml, hown, hK, hB, hlk, hrt, hnm⟩ := hX
  intro H locs ls hR hF hl
  obtain ⟨hBa, hc⟩ := q_arr hR hk h12
  have hr := q_rng hR hi
  exact W.aald (v := .ref (R a i.toNat)) hx hb hc ((q_kinds hK (ht cy)).1 _ _) hty (fun h => by cases h) (by rw [arrV_size]; exact q_in hi hr) (by rw [q_nat hi.1 hr, arrV_read _ _ (by omega), hv, q_rf_ref hB hR hr0 hn]) rfl rfl hd (kk H locs ls hR hF hl)
theorem v_aastore {a v k t0 kv : Nat} {i : Int} {C : String} {T : u_T} (hX : q_C X cc nL own ret nm) (hk : S.1 a = k) (h12 : ¬ k < 12) (ht : ∀ cy : Nat → ClassId, (q_tys cy)[t0]? = some (cy k, .object C)) (hv : ∀ j r z, q_fv (q_ty k j) r z = q_rf r) (hi : 0 ≤ i ∧ i < (S.2.1 a : Int)) (hkv : S.1 v = kv) (hv12 : kv < 12) (hv0 : kv ≠ 0) (hC : vwCl[kv - 1]? = some (C, T, q_nf kv)) (hd : decode cc pc = .ok (.aastore, 1)) (kk : q_V X Rm cc nL cells slots (pc + 1) lv st S (q_up R a i.toNat v) I) : q_V X Rm cc nL cells slots pc lv (.ref v :: .int (q_i i) :: .ref a :: st) S R I := by
  obtain ⟨p, l, e, s, m, args, below, meth, c, D, cy, B, Q⟩ := X
  obtain ⟨hx, hb, hml, hown, hK, hB, hlk, hrt, hnm⟩ := hX
  intro H locs ls hR hF hl
  obtain ⟨hBa, hc⟩ := q_arr hR hk h12
  have hr := q_rng hR hi
  have hcv := (hR.2 v (by omega)).2
  rw [hkv] at hcv
  unfold q_cell at hcv
  rw [if_pos hv12] at hcv
  obtain ⟨cellV, g1, g2, g3, -⟩ := hcv
  have hcls := (hK.2.1.1 (kv - 1) _ hC).2
  obtain ⟨kA, comp, k1, k2, k3, -⟩ := (q_kinds hK (ht cy)).2
  have hcomp : comp = D.1 (kv - 1) := Option.some.inj (k3.symm.trans hcls.1)
  subst hcomp
  obtain ⟨kC, hkC, -⟩ := hcls.2
  have hin : ¬ q_i i < 0 ∧ (q_i i).toNatClampNeg < S.2.1 a := by
    have := q_in hi hr
    constructor
    · exact fun h => this (Or.inl h)
    · exact Nat.not_le.mp fun h => this (Or.inr h)
  refine W.aast hx hb hc (fun q h => by cases h) (fun h => by cases h) k1 k2 rfl hkC ⟨hin.1, by rw [arrV_size]; exact hin.2⟩ g1 (fun q h => by rw [g3] at h; cases h) (by rw [g2]; exact hkC) (by rw [g2]; exact va_assign hcls) rfl rfl hd fun H' e1 e2 e3 => ?_
  refine kk H' _ ls (hR.put e2 e3 (fun b hb => q_up_ne R i.toNat v hb) (fun _ _ => rfl) ?_) (hF.put e2 e3 hBa) hl
  rw [hk]
  unfold q_cell
  rw [if_neg h12, e1, arrV_store, q_nat hi.1 hr, q_up_self, ← q_updR k i.toNat (R a) (I a) v, hv, q_rf_ref hB hR hkv hv0]
end QH
