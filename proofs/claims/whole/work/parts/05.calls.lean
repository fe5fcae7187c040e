/-! NEW CELLS -/
def q_nw (S : q_S) (k n : Nat) : q_S := (fun b => if b = S.2.2 then k else S.1 b, fun b => if b = S.2.2 then n else S.2.1 b, S.2.2 + 1)
def q_NA (own : String) (idx k : Nat) : Prop := ∃ (C : String) (T : u_T), vwCl[k - 1]? = some (C, T, q_nf k) ∧ k < 12 ∧ 0 < k ∧ (∀ w ∈ u_ws C T (q_nf k), w ∈ lw_tbl ∧ q_ok w = true) ∧ (∀ i, i < q_nf k → parseFieldDescriptor (T i).2.2.1 = some (q_ty k i)) ∧
  Cond.classLink own idx C ∈ lw_tbl ∧ Cond.instantiable C (q_nf k) ∈ lw_tbl ∧ Cond.initialized C ∈ lw_tbl
theorem q_R.grow {B : Nat} {D : va_G} {cy : Nat → ClassId} {S : q_S} {R : q_HR} {I : q_HI} {H H1 : Heap} {k n : Nat} (h : q_R B D cy S R I H) (hB : B ≤ H.size) (hn : n < 2147483648) (hz : H1.size = H.size + 1) (ho : ∀ q : Nat, q < H.size → H1[q]? = H[q]?)
    (hc : q_cell D cy k n (fun _ => 0) (fun _ => 0) H.size H1) : q_R B D cy (q_nw S k n) (q_zr R S.2.2 0) (q_zr I S.2.2 0) H1 := by
  have hs := h.1.1
  refine ⟨⟨by rw [hz, hs]; rfl, fun a => ?_⟩, fun b hb => ?_⟩
  · show (if a = S.2.2 then n else S.2.1 a) < _
    split
    · exact hn
    · exact h.1.2 a
  · show B ≤ b ∧ q_cell D cy (if b = S.2.2 then k else S.1 b) (if b = S.2.2 then n else S.2.1 b) _ _ b H1
    by_cases hbe : b = S.2.2
    · subst hbe
      rw [if_pos rfl, if_pos rfl, q_zr_self, q_zr_self]
      rw [← hs] at *
      exact ⟨hB, hc⟩
    · rw [if_neg hbe, if_neg hbe, q_zr_ne _ _ hbe, q_zr_ne _ _ hbe]
      have hb' : S.1 b ≠ 0 := by
        have h9 : (if b = S.2.2 then k else S.1 b) ≠ 0 := hb
        rwa [if_neg hbe] at h9
      obtain ⟨h1, h2⟩ := h.2 b hb'
      exact ⟨h1, h2.kept (ho b h2.lt)⟩
theorem q_F.grow {B : Nat} {H0 H H1 : Heap} {locs : List Loc} (h : q_F B H0 H locs) (hz : H1.size = H.size + 1) (ho : ∀ q : Nat, q < H.size → H1[q]? = H[q]?) : q_F B H0 H1 locs :=
  ⟨by rw [hz]; have := h.1; omega, fun q hq => by rw [ho q (by have := h.1; have := h.2.2.2; omega)]; exact h.2.1 q hq, h.2.2.1, h.2.2.2⟩
section QN
variable {X : q_X} {Rm : Room} {cc : ByteArray} {nL cells slots pc : Nat} {lv : List (Nat × Value)} {st : List Value} {S : q_S} {R : q_HR} {I : q_HI} {own : String} {ret : Option FieldType} {nm : String}
theorem v_new {idx k : Nat} (hX : q_C X cc nL own ret nm) (hA : q_NA own idx k) (hc1 : cells + 1 ≤ Rm.cells) (hs1 : slots + q_nf k ≤ Rm.slots) (hd : decode cc pc = .ok (.new idx, 3)) (kk : q_V X Rm cc nL (cells + 1) (slots + q_nf k) (pc + 3) lv (.ref S.2.2 :: st) (q_nw S k 0) (q_zr R S.2.2 0) (q_zr I S.2.2 0)) : q_V X Rm cc nL cells slots pc lv st S R I := by
  obtain ⟨p, l, e, s, m, args, below, meth, c, D, cy, B, Q⟩ := X
  obtain ⟨hx, hb, hml, hown, hK, hB, hlk, hrt, hnm⟩ := hX
  intro H locs ls hR hF hl
  obtain ⟨C, T, hC, hk12, hk0, hws, hpf, w1, w2, w3⟩ := hA
  have hKn := hK.2.1.1 (k - 1) _ hC
  have hts : ∀ w ∈ u_ws C T (q_nf k), w.before args s = true := fun w hw => hK.use (hws w hw).1 (hws w hw).2 args
  refine W.newcK hx hb hown (hK.use w1 rfl args) (hK.use w2 rfl args) (hK.use w3 rfl args) rfl hd hc1 hs1 hKn.2.1 rfl fun H1 kC hkC e1 z1 o1 => ?_
  have hbn := u_born (q_ty k) hts (fun w h => h) hKn hkC e1 hpf
  have hs := hR.1.1
  have hBH : B ≤ H.size := Nat.le_trans hF.2.2.2 hF.1
  have hR1 := hR.grow (k := k) (n := 0) hBH (by decide) z1 o1 (by unfold q_cell; rw [if_pos hk12]; exact hbn.to (fun j _ => q_fv0 _))
  have k2 := kk H1 locs ls hR1 (hF.grow z1 o1) hl
  rw [← hs] at k2
  exact k2
theorem v_newarr {atype : ArrayType} {k N t0 : Nat} {n : Int} {ty : FieldType} (hX : q_C X cc nL own ret nm) (h12 : ¬ k < 12) (hw : Cond.arrayClass ty ∈ lw_tbl) (hty : newarray.typeOf atype = ty) (hre : ∀ j, q_ty k j = ty) (ht : ∀ cy : Nat → ClassId, (q_tys cy)[t0]? = some (cy k, ty)) (hra : ∀ (U : State) (c : ClassId), va_RA U c ty → U.vm.findClass ("[" ++ ty.toString) = some c) (hn : 0 ≤ n ∧ n ≤ (N : Int)) (hN : N ≤ 1000) (hbt : ∀ M, M ≤ 1000 → M * componentBytes ty ≤ 536870912) (hc1 : cells + 1 ≤ Rm.cells) (hs1 : slots + N ≤ Rm.slots) (hd : decode cc pc = .ok (.newarray atype, 2))
    (kk : q_V X Rm cc nL (cells + 1) (slots + N) (pc + 2) lv (.ref S.2.2 :: st) (q_nw S k n.toNat) (q_zr R S.2.2 0) (q_zr I S.2.2 0)) : q_V X Rm cc nL cells slots pc lv (.int (q_i n) :: st) S R I := by
  obtain ⟨p, l, e, s, m, args, below, meth, c, D, cy, B, Q⟩ := X
  obtain ⟨hx, hb, hml, hown, hK, hB, hlk, hrt, hnm⟩ := hX
  intro H locs ls hR hF hl
  subst hty
  have hr : r_i n := by unfold r_i; omega
  have hcl : (q_i n).toNatClampNeg = n.toNat := q_nat hn.1 hr
  refine va_newaK hx hb (hK.use hw rfl args) rfl hd rfl (by rw [← q_i0, q_iLt hr r_i0]; omega) hcl (hbt _ (by omega)) hc1 (by omega) rfl fun H1 cA e1 z1 o1 hAr hNm => ?_
  have hcA : cA = cy k := Option.some.inj (hNm.symm.trans (hra s _ (q_kinds hK (ht cy)).2))
  subst hcA
  have hs := hR.1.1
  have hBH : B ≤ H.size := Nat.le_trans hF.2.2.2 hF.1
  have hR1 := hR.grow (k := k) (n := n.toNat) hBH (by omega) z1 o1 (by
    unfold q_cell
    rw [if_neg h12, e1]
    refine congrArg (fun f => some (arrV (cy k) n.toNat f)) (funext fun j => ?_)
    rw [hre j]
    exact q_fv0 _)
  have k2 := kk H1 locs ls hR1 (hF.grow z1 o1) hl
  rw [← hs] at k2
  exact W.widen (k := cells + 1) (n := slots + N) (Nat.le_refl _) (by omega) k2
theorem v_anewarr {idx k N t0 : Nat} {n : Int} {C : String} (hX : q_C X cc nL own ret nm) (h12 : ¬ k < 12) (hw : Cond.classLink own idx C ∈ lw_tbl) (hao : ∀ U : State, (va_AO "SensorArray$Group" U ∧ va_AO "SensorArray$Measurement" U) → va_AO C U) (hre : ∀ j, q_ty k j = .object C) (ht : ∀ cy : Nat → ClassId, (q_tys cy)[t0]? = some (cy k, .object C)) (hn : 0 ≤ n ∧ n ≤ (N : Int)) (hN : N ≤ 1000) (hc1 : cells + 1 ≤ Rm.cells) (hs1 : slots + N ≤ Rm.slots) (hd : decode cc pc = .ok (.anewarray idx, 3))
    (kk : q_V X Rm cc nL (cells + 1) (slots + N) (pc + 3) lv (.ref S.2.2 :: st) (q_nw S k n.toNat) (q_zr R S.2.2 0) (q_zr I S.2.2 0)) : q_V X Rm cc nL cells slots pc lv (.int (q_i n) :: st) S R I := by
  obtain ⟨p, l, e, s, m, args, below, meth, c, D, cy, B, Q⟩ := X
  obtain ⟨hx, hb, hml, hown, hK, hB, hlk, hrt, hnm⟩ := hX
  intro H locs ls hR hF hl
  have hr : r_i n := by unfold r_i; omega
  have hcl : (q_i n).toNatClampNeg = n.toNat := q_nat hn.1 hr
  refine W.anew hx hb hown (hK.use hw rfl args) (va_AO.use (hao s ⟨hK.2.2.1, hK.2.2.2.1⟩)) rfl hd rfl (by rw [← q_i0, q_iLt hr r_i0]; omega) (by omega) hc1 (by omega) fun cA kA comp h1 h2 h3 h4 => ?_
  obtain ⟨kA', comp', -, -, -, h5⟩ := (q_kinds hK (ht cy)).2
  have hcA : cA = cy k := Option.some.inj (h1.symm.trans h5)
  subst hcA
  have hs := hR.1.1
  have hBH : B ≤ H.size := Nat.le_trans hF.2.2.2 hF.1
  have z1 : (H.push { cls := cy k, slots := Array.replicate (q_i n).toNatClampNeg .null, vm := .none }).size = H.size + 1 := by simp
  have o1 : ∀ q : Nat, q < H.size → (H.push { cls := cy k, slots := Array.replicate (q_i n).toNatClampNeg .null, vm := .none })[q]? = H[q]? := fun q hq => by rw [Array.getElem?_push, if_neg (Nat.ne_of_lt hq)]
  have hR1 := hR.grow (k := k) (n := n.toNat) hBH (by omega) z1 o1 (by
    unfold q_cell
    rw [if_neg h12, hcl, arrV_new]
    rw [show (H.push (arrV (cy k) n.toNat fun _ => .null))[H.size]? = some (arrV (cy k) n.toNat fun _ => .null) by simp]
    refine congrArg (fun f => some (arrV (cy k) n.toNat f)) (funext fun j => ?_)
    rw [hre j]
    rfl)
  have k2 := kk _ locs ls hR1 (hF.grow z1 o1) hl
  rw [← hs] at k2
  exact W.widen (k := cells + 1) (n := slots + N) (Nat.le_refl _) (by omega) k2
/-! CALLS -/
def q_MB (own : String) (idx : Nat) (y : MethodName) (bytes : ByteArray) (maxL : Nat) (rt : Option FieldType) (n : Nat) (nest : Bool) : Prop :=
  (if nest = true then ∃ host, Cond.methodLinkNest own idx y host ∈ lw_tbl else Cond.methodLink own idx y ∈ lw_tbl) ∧ Cond.initialized y.cls ∈ lw_tbl ∧ Cond.code y bytes maxL rt ∈ lw_tbl ∧
  (y.cls ≠ "java/lang/invoke/MethodHandle" ∧ y.cls ≠ "java/lang/invoke/VarHandle" ∧ (parseMethodDescriptor y.desc).map (fun d => d.parameters.length) = some n)
def q_MV (own : String) (idx : Nat) (y : MethodName) (bytes : ByteArray) (maxL : Nat) (rt : Option FieldType) (n : Nat) (nest : Bool) (kb : Nat) : Prop :=
  q_MB own idx y bytes maxL rt n nest ∧ Cond.instanceMethod y ∈ lw_tbl ∧ Cond.selects y.cls y y ∈ lw_tbl ∧ (∃ T, vwCl[kb - 1]? = some (y.cls, T, q_nf kb)) ∧ kb < 12 ∧ kb ≠ 0
def q_MS (own : String) (idx : Nat) (y : MethodName) (bytes : ByteArray) (maxL : Nat) (rt : Option FieldType) (n : Nat) (nest : Bool) : Prop :=
  q_MB own idx y bytes maxL rt n nest ∧ Cond.static y ∈ lw_tbl
def q_MI (own : String) (idx : Nat) (y : MethodName) (bytes : ByteArray) (maxL : Nat) (n : Nat) (nest : Bool) : Prop :=
  q_MB own idx y bytes maxL none n nest ∧ Cond.instanceMethod y ∈ lw_tbl ∧ y.name = "<init>"
theorem q_blind {B : Nat} {D : va_G} {cy : Nat → ClassId} {As : List Value} : FrameBlind (q_Pc B D cy As S R I) := fun a U g mk h => ⟨h.1, h.2.1.warm (U := U.calling g mk a) (State.WarmedH.refl U), h.2.2⟩
theorem q_lenOf {y : MethodName} {n : Nat} (hd : (parseMethodDescriptor y.desc).map (fun d => d.parameters.length) = some n) : ∀ sig, parseMethodDescriptor y.desc = some sig → n = sig.parameters.length := fun sig h => by
  rw [h] at hd
  exact (Option.some.inj hd).symm
theorem q_wcode {D : va_G} {cy : Nat → ClassId} {s : State} {y : MethodName} {bytes : ByteArray} {maxL : Nat} {rt : Option FieldType} (hK : q_K D cy s) (hw : Cond.code y bytes maxL rt ∈ lw_tbl) : ∀ w ∈ [Cond.code y bytes maxL rt], ∀ (a' : Array Value) (U : State), s.WarmedH U.vm → w.before a' U = true := fun w hm a' U hW => by
  rw [List.mem_singleton.mp hm]
  exact (hK.warm hW).use hw rfl a'
/-- behind a call -/
theorem q_back {p : Program} {l : Launch} {e : Env} {s : State} {m : MethodId} {args : Array Value} {below : List Frame} {meth : Method} {c : Code} {D : va_G} {cy : Nat → ClassId} {B mc ms : Nat} {Q : State → Prop} {H : Heap} {locs : List Loc} {ls : Array Slot} {rv : Option Value} {rest st1 : List Value} {a : Array Value} {S' : q_S} {R' : q_HR} {I' : q_HI}
    (hr : va_Run p l e Rm s m args below meth c H locs cells slots mc ms (F0 m pc ls st) rest (q_Qc B D cy rv S' R' I' a) (fun q => B ≤ q)) (hF : q_F B s.heap H locs) (h1 : rv.toList ++ rest = st1) (hl : lv_has ls nL lv) (kk : q_V (p, l, e, s, m, args, below, meth, c, D, cy, B, Q) Rm cc nL (cells + mc) (slots + ms) (pc + 3) lv st1 S' R' I') : W p l e Rm s m args below meth c H locs cells slots Q (F0 m pc ls st) := by
  intro T hT Xs
  obtain ⟨v, st₀, t, T', L, h0, X', hL, e1, e2, ⟨hv, hR', hz, hk⟩, go⟩ := hr T hT Xs
  have hv' : v = rv := Outcome.returned.inj hv
  subst hv'
  subst h1
  rw [h0] at hz hk
  obtain ⟨t2, a1, b1⟩ := kk T'.heap (locs ++ L) ls (by rw [e1]; exact hR') ⟨by rw [e1]; exact Nat.le_trans hF.1 hz, fun q hq => by rw [e1, hk q hq]; exact hF.2.1 q hq, fun q hq => by
    rcases List.mem_append.mp hq with h | h
    · exact hF.2.2.1 q h
    · exact hL q h, hF.2.2.2⟩ hl T' rfl X'
  exact ⟨t2, go t2 a1, b1⟩
theorem v_callV {idx maxL n kb b mc ms : Nat} {nest : Bool} {y : MethodName} {bytes : ByteArray} {rt : Option FieldType} {rm : Room} {As rest : List Value} (rv : Option Value) {st1 : List Value} {S' : q_S} {R' : q_HR} {I' : q_HI} (hX : q_C X cc nL own ret nm) (hM : q_MV own idx y bytes maxL rt n nest kb)
    (hc : ∀ (l : Launch) (D : va_G) (cy : Nat → ClassId) (B : Nat), Met l y [Cond.code y bytes maxL rt] rm (q_Pc B D cy (.ref b :: As) S R I) (q_Qc B D cy rv S' R' I') mc ms (fun q => B ≤ q)) (hrm : rm.cells = mc ∧ rm.slots = ms) (hRm : rm.frames + 1 ≤ Rm.frames ∧ 8 + (maxL + 11) + rm.locals ≤ Rm.locals) (hk : S.1 b = kb) (hn : As.length = n) (hs : st = As.reverse ++ .ref b :: rest) (hW : (rest.map fun v => v.category).sum ≤ 8) (hf : cells + mc ≤ Rm.cells ∧ slots + ms ≤ Rm.slots) (hd : decode cc pc = .ok (.invokevirtual idx, 3)) (h1 : rv.toList ++ rest = st1)
    (kk : q_V X Rm cc nL (cells + mc) (slots + ms) (pc + 3) lv st1 S' R' I') : q_V X Rm cc nL cells slots pc lv st S R I := by
  obtain ⟨p, l, e, s, m, args, below, meth, c, D, cy, B, Q⟩ := X
  obtain ⟨hx, hb, hml, hown, hK, hB, hlk, hrt, hnm⟩ := hX
  intro H locs ls hR hF hl
  obtain ⟨⟨hlk2, hini, hcd, hy1, hy2, hpd⟩, hin, hse, ⟨T, hC⟩, h12, h0⟩ := hM
  have hcv := (hR.2 b (by omega)).2
  rw [hk] at hcv
  unfold q_cell at hcv
  rw [if_pos h12] at hcv
  obtain ⟨cellV, g1, g2, g3, -⟩ := hcv
  have hcls := (hK.2.1.1 (kb - 1) _ hC).2.1
  have hP : PreV s H y.cls b (q_Pc B D cy (.ref b :: As) S R I) As := ⟨q_blind, ⟨cellV, g1, by rw [g3]; rfl, by rw [g2]; exact hcls⟩, fun U hU hW => ⟨rfl, hK.warm hW, by rw [hU]; exact hR, hB, by rw [hU]; exact Nat.le_trans hF.2.2.2 hF.1⟩⟩
  cases nest with
  | false =>
    simp only [Bool.false_eq_true, if_false] at hlk2
    exact q_back (va_runV (Ts := []) ⟨hx, hb, hml, hown, fun w h => by cases h⟩ (hc l D cy B) ⟨⟨hrm.1, hrm.2, hRm.1, hRm.2, q_wcode hK hcd, List.mem_singleton.mpr rfl, hK.use hcd rfl args, hK.use hini rfl args, ⟨hy1, hy2⟩, q_lenOf hpd, hK.use hlk2 rfl args⟩, hK.use hin rfl args, hK.use hse rfl args⟩ hP rfl hn hl.1 hs (lv_room hW) hd hf) hF h1 hl kk
  | true =>
    simp only [if_true] at hlk2
    obtain ⟨host, hlk2⟩ := hlk2
    exact q_back (va_runVN (Ts := []) ⟨hx, hb, hml, hown, fun w h => by cases h⟩ (hc l D cy B) ⟨⟨⟨hrm.1, hrm.2, hRm.1, hRm.2, q_wcode hK hcd, List.mem_singleton.mpr rfl⟩, hK.use hcd rfl args, hK.use hini rfl args, ⟨hy1, hy2⟩, q_lenOf hpd, hK.use hlk2 rfl args⟩, hK.use hin rfl args, hK.use hse rfl args⟩ hP rfl hn hl.1 hs (lv_room hW) hd hf) hF h1 hl kk
theorem v_callS {idx maxL n mc ms : Nat} {nest : Bool} {y : MethodName} {bytes : ByteArray} {rt : Option FieldType} {rm : Room} {As rest : List Value} (rv : Option Value) {st1 : List Value} {S' : q_S} {R' : q_HR} {I' : q_HI} (hX : q_C X cc nL own ret nm) (hM : q_MS own idx y bytes maxL rt n nest)
    (hc : ∀ (l : Launch) (D : va_G) (cy : Nat → ClassId) (B : Nat), Met l y [Cond.code y bytes maxL rt] rm (q_Pc B D cy As S R I) (q_Qc B D cy rv S' R' I') mc ms (fun q => B ≤ q)) (hrm : rm.cells = mc ∧ rm.slots = ms) (hRm : rm.frames + 1 ≤ Rm.frames ∧ 8 + (maxL + 11) + rm.locals ≤ Rm.locals) (hn : As.length = n) (hs : st = As.reverse ++ rest) (hW : (rest.map fun v => v.category).sum ≤ 8) (hf : cells + mc ≤ Rm.cells ∧ slots + ms ≤ Rm.slots) (hd : decode cc pc = .ok (.invokestatic idx, 3)) (h1 : rv.toList ++ rest = st1)
    (kk : q_V X Rm cc nL (cells + mc) (slots + ms) (pc + 3) lv st1 S' R' I') : q_V X Rm cc nL cells slots pc lv st S R I := by
  obtain ⟨p, l, e, s, m, args, below, meth, c, D, cy, B, Q⟩ := X
  obtain ⟨hx, hb, hml, hown, hK, hB, hlk, hrt, hnm⟩ := hX
  intro H locs ls hR hF hl
  obtain ⟨⟨hlk2, hini, hcd, hy1, hy2, hpd⟩, hst⟩ := hM
  have hP : PreS s H (q_Pc B D cy As S R I) As := ⟨q_blind, fun U hU hW => ⟨rfl, hK.warm hW, by rw [hU]; exact hR, hB, by rw [hU]; exact Nat.le_trans hF.2.2.2 hF.1⟩⟩
  cases nest with
  | false =>
    simp only [Bool.false_eq_true, if_false] at hlk2
    exact q_back (va_runS (Ts := []) ⟨hx, hb, hml, hown, fun w h => by cases h⟩ (hc l D cy B) ⟨⟨hrm.1, hrm.2, hRm.1, hRm.2, q_wcode hK hcd, List.mem_singleton.mpr rfl, hK.use hcd rfl args, hK.use hini rfl args, ⟨hy1, hy2⟩, q_lenOf hpd, hK.use hlk2 rfl args⟩, hK.use hst rfl args⟩ hP rfl hn hl.1 hs (lv_room hW) hd hf) hF h1 hl kk
  | true =>
    simp only [if_true] at hlk2
    obtain ⟨host, hlk2⟩ := hlk2
    exact q_back (va_runSN (Ts := []) ⟨hx, hb, hml, hown, fun w h => by cases h⟩ (hc l D cy B) ⟨⟨⟨hrm.1, hrm.2, hRm.1, hRm.2, q_wcode hK hcd, List.mem_singleton.mpr rfl⟩, hK.use hcd rfl args, hK.use hini rfl args, ⟨hy1, hy2⟩, q_lenOf hpd, hK.use hlk2 rfl args⟩, hK.use hst rfl args, trivial⟩ hP rfl hn hl.1 hs (lv_room hW) hd hf) hF h1 hl kk
theorem v_callI {idx maxL n b mc ms : Nat} {nest : Bool} {y : MethodName} {bytes : ByteArray} {rm : Room} {As rest : List Value} {S' : q_S} {R' : q_HR} {I' : q_HI} (hX : q_C X cc nL own ret nm) (hM : q_MI own idx y bytes maxL n nest)
    (hc : ∀ (l : Launch) (D : va_G) (cy : Nat → ClassId) (B : Nat), Met l y [Cond.code y bytes maxL none] rm (q_Pc B D cy (.ref b :: As) S R I) (q_Qc B D cy none S' R' I') mc ms (fun q => B ≤ q)) (hrm : rm.cells = mc ∧ rm.slots = ms) (hRm : rm.frames + 1 ≤ Rm.frames ∧ 8 + (maxL + 11) + rm.locals ≤ Rm.locals) (hn : As.length = n) (hs : st = As.reverse ++ .ref b :: rest) (hW : (rest.map fun v => v.category).sum ≤ 8) (hf : cells + mc ≤ Rm.cells ∧ slots + ms ≤ Rm.slots) (hd : decode cc pc = .ok (.invokespecial idx, 3))
    (kk : q_V X Rm cc nL (cells + mc) (slots + ms) (pc + 3) lv rest S' R' I') : q_V X Rm cc nL cells slots pc lv st S R I := by
  obtain ⟨p, l, e, s, m, args, below, meth, c, D, cy, B, Q⟩ := X
  obtain ⟨hx, hb, hml, hown, hK, hB, hlk, hrt, hnm⟩ := hX
  intro H locs ls hR hF hl
  obtain ⟨⟨hlk2, hini, hcd, hy1, hy2, hpd⟩, hin, hyn⟩ := hM
  have hP : PreS s H (q_Pc B D cy (.ref b :: As) S R I) (.ref b :: As) := ⟨q_blind, fun U hU hW => ⟨rfl, hK.warm hW, by rw [hU]; exact hR, hB, by rw [hU]; exact Nat.le_trans hF.2.2.2 hF.1⟩⟩
  cases nest with
  | false =>
    simp only [Bool.false_eq_true, if_false] at hlk2
    exact q_back (va_runI (Ts := []) ⟨hx, hb, hml, hown, fun w h => by cases h⟩ (hc l D cy B) ⟨⟨hrm.1, hrm.2, hRm.1, hRm.2, q_wcode hK hcd, List.mem_singleton.mpr rfl, hK.use hcd rfl args, hK.use hini rfl args, ⟨hy1, hy2⟩, q_lenOf hpd, hK.use hlk2 rfl args⟩, hyn, hK.use hin rfl args⟩ hP rfl hn hl.1 hs (lv_room hW) hd hf) hF rfl hl kk
  | true =>
    simp only [if_true] at hlk2
    obtain ⟨host, hlk2⟩ := hlk2
    exact q_back (va_runIN (Ts := []) ⟨hx, hb, hml, hown, fun w h => by cases h⟩ (hc l D cy B) ⟨⟨⟨hrm.1, hrm.2, hRm.1, hRm.2, q_wcode hK hcd, List.mem_singleton.mpr rfl⟩, hK.use hcd rfl args, hK.use hini rfl args, ⟨hy1, hy2⟩, q_lenOf hpd, hK.use hlk2 rfl args⟩, hyn, hK.use hin rfl args⟩ hP rfl hn hl.1 hs (lv_room hW) hd hf) hF rfl hl kk
theorem v_objInit {idx b : Nat} (hX : q_C X cc nL own ret nm) (w1 : Cond.methodLink own idx objectInit ∈ lw_tbl) (w2 : Cond.instanceMethod objectInit ∈ lw_tbl) (w3 : Cond.code objectInit ⟨#[0xb1]⟩ 1 none ∈ lw_tbl) (hf : 1 ≤ Rm.frames) (hW : (st.map fun v => v.category).sum + 12 ≤ Rm.locals) (hd : decode cc pc = .ok (.invokespecial idx, 3)) (kk : q_V X Rm cc nL cells slots (pc + 3) lv st S R I) : q_V X Rm cc nL cells slots pc lv (.ref b :: st) S R I := by
  obtain ⟨p, l, e, s, m, args, below, meth, c, D, cy, B, Q⟩ := X
  obtain ⟨hx, hb, hml, hown, hK, hB, hlk, hrt, hnm⟩ := hX
  intro H locs ls hR hF hl
  exact W.objInit hx hb hown (hK.use w1 rfl args) (hK.use w2 rfl args) (hK.use w3 rfl args) rfl (by rw [hml]; exact hl.1) rfl hd hf (by show 2 * 0 + _ + 12 ≤ _; omega) (kk H locs ls hR hF hl)
/-! RETURNS -/
theorem v_iret {mc ms : Nat} {z : Int} (hX : q_C X cc nL own (some .int) nm) (hE : q_E X mc ms (some (.int (q_i z))) S R I) (h1 : cells ≤ mc) (h2 : slots ≤ ms) (hd : decode cc pc = .ok (.ireturn, 1)) : q_V X Rm cc nL cells slots pc lv [.int (q_i z)] S R I := by
  obtain ⟨p, l, e, s, m, args, below, meth, c, D, cy, B, Q⟩ := X
  obtain ⟨hx, hb, hml, hown, hK, hB, hlk, hrt, hnm⟩ := hX
  intro H locs ls hR hF hl
  have hE' : Q = _ := hE
  rw [hE']
  refine W.widen h1 h2 ?_
  exact W.iret hx hb hrt (fun t ht hW => ⟨rfl, by rw [ht]; exact hR, by rw [ht]; exact hF.1, fun q hq => by rw [ht]; exact hF.2.1 q hq⟩) hF.2.2.1 hd hlk
theorem v_zret {mc ms : Nat} {z : Int} (hX : q_C X cc nL own (some .boolean) nm) (gz : z = 0 ∨ z = 1) (hE : q_E X mc ms (some (.int (q_i z))) S R I) (h1 : cells ≤ mc) (h2 : slots ≤ ms) (hd : decode cc pc = .ok (.ireturn, 1)) : q_V X Rm cc nL cells slots pc lv [.int (q_i z)] S R I := by
  obtain ⟨p, l, e, s, m, args, below, meth, c, D, cy, B, Q⟩ := X
  obtain ⟨hx, hb, hml, hown, hK, hB, hlk, hrt, hnm⟩ := hX
  intro H locs ls hR hF hl
  have hE' : Q = _ := hE
  rw [hE']
  refine W.widen h1 h2 ?_
  exact W.zret hx hb hrt (q_bz gz).1 (fun t ht hW => ⟨rfl, by rw [ht]; exact hR, by rw [ht]; exact hF.1, fun q hq => by rw [ht]; exact hF.2.1 q hq⟩) hF.2.2.1 hd hlk
theorem v_lret {mc ms : Nat} {z : Int} (hX : q_C X cc nL own (some .long) nm) (hE : q_E X mc ms (some (.long (q_l z))) S R I) (h1 : cells ≤ mc) (h2 : slots ≤ ms) (hd : decode cc pc = .ok (.lreturn, 1)) : q_V X Rm cc nL cells slots pc lv [.long (q_l z)] S R I := by
  obtain ⟨p, l, e, s, m, args, below, meth, c, D, cy, B, Q⟩ := X
  obtain ⟨hx, hb, hml, hown, hK, hB, hlk, hrt, hnm⟩ := hX
  intro H locs ls hR hF hl
  have hE' : Q = _ := hE
  rw [hE']
  refine W.widen h1 h2 ?_
  exact W.lret hx hb hrt (fun t ht hW => ⟨rfl, by rw [ht]; exact hR, by rw [ht]; exact hF.1, fun q hq => by rw [ht]; exact hF.2.1 q hq⟩) hF.2.2.1 hd hlk
theorem v_vret {mc ms : Nat} (hX : q_C X cc nL own none nm) (hE : q_E X mc ms none S R I) (h1 : cells ≤ mc) (h2 : slots ≤ ms) (hd : decode cc pc = .ok (.return_, 1)) : q_V X Rm cc nL cells slots pc lv [] S R I := by
  obtain ⟨p, l, e, s, m, args, below, meth, c, D, cy, B, Q⟩ := X
  obtain ⟨hx, hb, hml, hown, hK, hB, hlk, hrt, hnm⟩ := hX
  intro H locs ls hR hF hl
  have hE' : Q = _ := hE
  rw [hE']
  refine W.widen h1 h2 ?_
  exact W.vret hx hb hrt (fun t ht hW => ⟨rfl, by rw [ht]; exact hR, by rw [ht]; exact hF.1, fun q hq => by rw [ht]; exact hF.2.1 q hq⟩) hF.2.2.1 hd hlk
theorem v_aret {mc ms a : Nat} {C : String} (hX : q_C X cc nL own (some (.object C)) nm) (hE : q_E X mc ms (some (.ref a)) S R I) (h1 : cells ≤ mc) (h2 : slots ≤ ms) (hd : decode cc pc = .ok (.areturn, 1)) : q_V X Rm cc nL cells slots pc lv [.ref a] S R I := by
  obtain ⟨p, l, e, s, m, args, below, meth, c, D, cy, B, Q⟩ := X
  obtain ⟨hx, hb, hml, hown, hK, hB, hlk, hrt, hnm⟩ := hX
  intro H locs ls hR hF hl
  have hE' : Q = _ := hE
  rw [hE']
  refine W.widen h1 h2 ?_
  exact W.aret hx hb hrt (Or.inl ⟨C, rfl⟩) (Or.inr ⟨a, rfl⟩) (fun t ht hW => ⟨rfl, by rw [ht]; exact hR, by rw [ht]; exact hF.1, fun q hq => by rw [ht]; exact hF.2.1 q hq⟩) hF.2.2.1 hd hlk
end QN
/-! A METHOD'S CONTRACT out of its walk -/
theorem q_met {y : MethodName} {cc : ByteArray} {maxL mc ms : Nat} {rt : Option FieldType} {rm : Room} {As : List Value} {lv : List (Nat × Value)} {rv : Option Value} {S S' : q_S} {R R' : q_HR} {I I' : q_HI} {own nm : String} (hy : plainName y.cls = true) (ho : y.cls = own) (hn : y.name = nm) (hL : (lg_sl As).length ≤ maxL) (hlv : lv_args 0 As = lv)
    (body : ∀ X : q_X, q_C X cc maxL own rt nm → q_E X mc ms rv S' R' I' → q_V X rm cc maxL 0 0 0 lv [] S R I) (l : Launch) (D : va_G) (cy : Nat → ClassId) (B : Nat) : Met l y [Cond.code y cc maxL rt] rm (q_Pc B D cy As S R I) (q_Qc B D cy rv S' R' I') mc ms (fun q => B ≤ q) := by
  subst ho
  subst hn
  refine Met.ofW (cc := cc) (maxL := maxL) (ret := rt) hy rfl ?_
  intro p e s m args below meth c s₁ Bd hml hP
  obtain ⟨rfl, hK, hR, hB, hBs⟩ := hP
  have h := body (p, l, e, s, m, As.toArray, below, meth, c, D, cy, B, MQ below (q_Qc B D cy rv S' R' I') As.toArray s mc ms (fun q => B ≤ q)) ⟨Bd.exec, Bd.bytes, hml, findClass_of_methodNamed Bd.named, hK, hB, Bd.notSynchronized, Bd.returns, (name_of_methodNamed Bd.named Bd.method).1⟩ rfl
  have he := lv_entry As hL
  rw [hlv] at he
  rw [lg_entry_eq]
  exact h s.heap [] _ hR ⟨Nat.le_refl _, fun _ _ => rfl, fun _ h => (by cases h), hBs⟩ he
