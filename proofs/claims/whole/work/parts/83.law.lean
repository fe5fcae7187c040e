/-! THE CLAIM OUT OF ONE WALK OF THE LAW'S BODY. Your part is whole_start (and what it stands on); all else here is the same for every law, but numbers. -/
def R_law : String := "SensorArrayLaw"
def lw_P (b : Addr) (xs : List Int32) (args : Array Value) (s : State) : Prop := args = #[.ref b] ∧ s.IntsAt b xs ∧ xs.length ≤ 3584 ∧ (Jvm.Cond.and given_1 narrow_1).before args s = true
def lw_Q (_ : Array Value) (s : State) (o : Outcome) (t : State) : Prop := o = .returned (some (.int 1)) ∧ Framed s o t [] 719123 6944879
def lw_Z (below : List Frame) (a : Array Value) (s : State) : State → Prop := fun t => ∃ o, t.status = .running ∧ Ended t below o ∧ lw_Q a s o t
/-- the law's own end, with 1 on the stack, nothing written that was there before, its room as the claim has it -/
theorem lw_ret {p : Program} {l : Launch} {e : Env} {s : State} {m : MethodId} {below : List Frame} {meth : Method} {c : Code} {b : Nat} (hx : p.tables.exec = Jvm.exec) (hb : c.code = code) (hr : meth.sig.returnType = ret) (hlocks : meth.locks = false) {pc : Nat} {H : Heap} {ls : Array Slot} (hdg : decode code pc = .ok (.ireturn, 1)) : W p l e room_1 s m #[Value.ref b] below meth c H [] 719123 6944879 (lw_Z below #[Value.ref b] s) (F0 m pc ls [.int 1]) := by
  intro T hT X
  obtain ⟨fs, hret, hrun, hended, hW, hframe⟩ := X.leave (v := some (.int 1)) (hlocks := hlocks) (fun h => by rw [hr] at h; cases h)
  have hmeth' : T.vm.method? m = some meth := X.method'
  refine ⟨T.setFrames fs, ?_, .returned (some (.int 1)), hrun, hended, rfl, ⟨_, rfl⟩, hW, hframe⟩
  jvm_step X.here [X.here.top, hx, hb, hdg, hmeth', hr, ret, narrow_b1]
  (try refine ⟨rfl, ?_⟩); (try refine ⟨rfl, ?_⟩)
  first | (intro acts; rw [hret _ acts rfl rfl rfl]) | rw [hret _ _ rfl rfl rfl]
  exact Steps.refl _
/-- what holds at the law's entry: the machine, the code, the tables' words (any of lw_tbl by 'hts w (by decide +kernel)'), the script of L ints xs at the cell b, what the Statement gives of the start (any of its parts by flat_of_before) -/
def lw_At (p : Program) (s : State) (m : MethodId) (meth : Method) (c : Code) (b L : Nat) (xs : Nat → Int32) : Prop :=
  p.tables.exec = Jvm.exec ∧ c.code = code ∧ meth.sig.returnType = ret ∧ c.maxLocals = 4 ∧ s.vm.findClass R_law = some m.cls ∧ (∀ w ∈ lw_tbl, w.before #[Value.ref b] s = true) ∧ va_X b L xs s s.heap ∧ b < s.heap.size ∧ meth.locks = false ∧ (Jvm.Cond.and given_1 narrow_1).before #[Value.ref b] s = true
/-! THE LAW: rows of its own -/
def l_sc (X : q_X) (b L : Nat) (xs : Nat → Int32) : Prop :=
  match X with
  | (_, _, _, s, _, _, _, _, _, _, _, B, _) => va_X b L xs s s.heap ∧ b < B
abbrev l_lv (k x b : Nat) : List (Nat × Value) := [(3, .int (q_i (7 * (k : Int)))), (2, .ref (x + 171)), (1, .ref x), (0, .ref b)]
section QL
variable {X : q_X} {Rm : Room} {cc : ByteArray} {nL cells slots pc : Nat} {lv : List (Nat × Value)} {st : List Value} {S : q_S} {R : q_HR} {I : q_HI} {own : String} {ret : Option FieldType} {nm : String}
theorem q_ixs (v : Int32) : q_i v.toInt = v := Int32.ofInt_toInt v
theorem v_sld {b L i : Nat} {xs : Nat → Int32} {z : Int} (hX : q_C X cc nL own ret nm) (hs : l_sc X b L xs) (hi : i < L) (hL : L ≤ 3584) (hz : z = (i : Int)) (hd : decode cc pc = .ok (.iaload, 1)) (k : q_V X Rm cc nL cells slots (pc + 1) lv (.int (q_i (xs i).toInt) :: st) S R I) : q_V X Rm cc nL cells slots pc lv (.int (q_i z) :: .ref b :: st) S R I := by
  obtain ⟨p, l, e, s, m, args, below, meth, c, D, cy, B, Q⟩ := X
  obtain ⟨hx, hb, hml, hown, hK, hB, hlk, hrt, hnm⟩ := hX
  obtain ⟨⟨scr, h1, h2, h3, h4, h5⟩, hbB⟩ := hs
  intro H locs ls hR hF hl
  subst hz
  have hr : r_i (i : Int) := r_iE (by omega) (by omega)
  have hn : (q_i (i : Int)).toNatClampNeg = i := by rw [q_nat (by omega) hr]; omega
  have hin : ¬ (q_i (i : Int) < 0 ∨ L ≤ (q_i (i : Int)).toNatClampNeg) := by
    rw [hn, ← q_i0, q_iLt hr r_i0]
    omega
  rw [q_ixs] at k
  exact W.iald (v := .int (xs i)) hx hb (by rw [hF.2.1 b hbB]; exact h1) h2 h3 (by rw [h4]; exact hin) (by rw [hn]; exact h5 i hi) rfl rfl hd (k H locs ls hR hF hl)
theorem v_slen {b L : Nat} {xs : Nat → Int32} (hX : q_C X cc nL own ret nm) (hs : l_sc X b L xs) (hd : decode cc pc = .ok (.arraylength, 1)) (k : q_V X Rm cc nL cells slots (pc + 1) lv (.int (q_i (L : Int)) :: st) S R I) : q_V X Rm cc nL cells slots pc lv (.ref b :: st) S R I := by
  obtain ⟨p, l, e, s, m, args, below, meth, c, D, cy, B, Q⟩ := X
  obtain ⟨hx, hb, hml, hown, hK, hB, hlk, hrt, hnm⟩ := hX
  obtain ⟨⟨scr, h1, h2, h3, h4, h5⟩, hbB⟩ := hs
  intro H locs ls hR hF hl
  rw [← q_ofN] at k
  exact W.alen (n := Int32.ofNat L) hx hb (by rw [hF.2.1 b hbB]; exact h1) h2 (by rw [h4] <;> rfl) rfl rfl hd (k H locs ls hR hF hl)
theorem v_same {v : Int32} {off : Int} {tgt : Nat} (hX : q_C X cc nL own ret nm) (hd : decode cc pc = .ok (.if_icmp .eq off, 3)) (ht : (pc : Int) + off = (tgt : Int)) (k : q_V X Rm cc nL cells slots tgt lv st S R I) : q_V X Rm cc nL cells slots pc lv (.int v :: .int v :: st) S R I := by
  obtain ⟨p, l, e, s, m, args, below, meth, c, D, cy, B, Q⟩ := X
  obtain ⟨hx, hb, hml, hown, hK, hB, hlk, hrt, hnm⟩ := hX
  intro H locs ls hR hF hl
  exact lv_icmp_eq hx hb hd ht (fun h => k H locs ls hR hF hl) (fun h => absurd rfl h)
theorem v_tabIn {dflt lo hi off : Int} {offs : Array Int} {len tgt : Nat} {z : Int} (hX : q_C X cc nL own ret nm) (gz : r_i z) (hd : decode cc pc = .ok (.tableswitch dflt lo hi offs, len)) (h1 : lo ≤ z) (h2 : z ≤ hi) (ho : offs[(z - lo).toNat]? = some off) (ht : (pc : Int) + off = (tgt : Int)) (k : q_V X Rm cc nL cells slots tgt lv st S R I) : q_V X Rm cc nL cells slots pc lv (.int (q_i z) :: st) S R I := by
  obtain ⟨p, l, e, s, m, args, below, meth, c, D, cy, B, Q⟩ := X
  obtain ⟨hx, hb, hml, hown, hK, hB, hlk, hrt, hnm⟩ := hX
  intro H locs ls hR hF hl
  have e : (q_i z).toInt = z := q_iT gz
  exact lv_tableIn hx hb hd (by rw [e]; omega) (by rw [e]; omega) (by rw [e]; exact ho) ht (k H locs ls hR hF hl)
theorem v_tabOut {dflt lo hi : Int} {offs : Array Int} {len tgt : Nat} {z : Int} (hX : q_C X cc nL own ret nm) (gz : r_i z) (hd : decode cc pc = .ok (.tableswitch dflt lo hi offs, len)) (h : z < lo ∨ hi < z) (ht : (pc : Int) + dflt = (tgt : Int)) (k : q_V X Rm cc nL cells slots tgt lv st S R I) : q_V X Rm cc nL cells slots pc lv (.int (q_i z) :: st) S R I := by
  obtain ⟨p, l, e, s, m, args, below, meth, c, D, cy, B, Q⟩ := X
  obtain ⟨hx, hb, hml, hown, hK, hB, hlk, hrt, hnm⟩ := hX
  intro H locs ls hR hF hl
  have e : (q_i z).toInt = z := q_iT gz
  exact lv_tableOut hx hb hd (by rw [e]; exact h) ht (k H locs ls hR hF hl)
end QL
