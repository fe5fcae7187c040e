/-! THE JUDGEMENT: a walk at pc, with locals lv, stack st, and the heap as functions S R I -/
abbrev q_X : Type := Program × Launch × Env × State × MethodId × Array Value × List Frame × Method × Code × va_G × (Nat → ClassId) × Nat × (State → Prop)
def q_F (B : Nat) (H0 H : Heap) (locs : List Loc) : Prop := H0.size ≤ H.size ∧ (∀ q : Nat, q < B → H[q]? = H0[q]?) ∧ (∀ q ∈ locs, B ≤ q.base) ∧ B ≤ H0.size
def q_V (X : q_X) (Rm : Room) (cc : ByteArray) (nL cells slots pc : Nat) (lv : List (Nat × Value)) (st : List Value) (S : q_S) (R : q_HR) (I : q_HI) : Prop :=
  match X with
  | (p, l, e, s, m, args, below, meth, c, D, cy, B, Q) => ∀ (H : Heap) (locs : List Loc) (ls : Array Slot), q_R B D cy S R I H → q_F B s.heap H locs → lv_has ls nL lv → W p l e Rm s m args below meth c H locs cells slots Q (F0 m pc ls st)
def q_C (X : q_X) (cc : ByteArray) (nL : Nat) (own : String) (ret : Option FieldType) (nm : String) : Prop :=
  match X with
  | (p, l, e, s, m, args, below, meth, c, D, cy, B, Q) => p.tables.exec = Jvm.exec ∧ c.code = cc ∧ c.maxLocals = nL ∧ s.vm.findClass own = some m.cls ∧ q_K D cy s ∧ 0 < B ∧ meth.locks = false ∧ meth.sig.returnType = ret ∧ meth.name = nm
def q_Pc (B : Nat) (D : va_G) (cy : Nat → ClassId) (As : List Value) (S : q_S) (R : q_HR) (I : q_HI) : Array Value → State → Prop := fun a U => a = As.toArray ∧ q_K D cy U ∧ q_R B D cy S R I U.heap ∧ 0 < B ∧ B ≤ U.heap.size
def q_Qc (B : Nat) (D : va_G) (cy : Nat → ClassId) (rv : Option Value) (S : q_S) (R : q_HR) (I : q_HI) : Array Value → State → Outcome → State → Prop := fun _ st o t => o = .returned rv ∧ q_R B D cy S R I t.heap ∧ st.heap.size ≤ t.heap.size ∧ ∀ q : Nat, q < B → t.heap[q]? = st.heap[q]?
def q_E (X : q_X) (mc ms : Nat) (rv : Option Value) (S : q_S) (R : q_HR) (I : q_HI) : Prop :=
  match X with
  | (p, l, e, s, m, args, below, meth, c, D, cy, B, Q) => Q = MQ below (q_Qc B D cy rv S R I) args s mc ms (fun q => B ≤ q)
/-- a field's access by an entry of a pool: class and place of the field, final, through the nest -/
def q_FA (own : String) (idx k j : Nat) (fin nest : Bool) : Prop := ∃ (C : String) (T : u_T), vwCl[k - 1]? = some (C, T, q_nf k) ∧ j < q_nf k ∧ k < 12 ∧ 0 < k ∧ (T j).1 = C ∧ (T j).2.2.2 = fin ∧
  (∀ w ∈ u_ws C T (q_nf k), w ∈ lw_tbl ∧ q_ok w = true) ∧ (∀ i, i < q_nf k → parseFieldDescriptor (T i).2.2.1 = some (q_ty k i)) ∧ (∀ a, a < q_nf k → ∀ b, b < q_nf k → a ≠ b → (T a).2.1 ≠ (T b).2.1) ∧
  (if nest = true then ∃ host, Cond.fieldLinkNest own idx C (T j).2.1 (T j).2.2.1 host ∈ lw_tbl else Cond.fieldLink own idx C (T j).2.1 (T j).2.2.1 ∈ lw_tbl ∧ C = own)
theorem q_updI (k j : Nat) (r : Nat → Nat) (z : Nat → Int) (w : Int) : updV (fun i => q_fv (q_ty k i) (r i) (z i)) j (q_fv (q_ty k j) (r j) w) = fun i => q_fv (q_ty k i) (r i) (if i = j then w else z i) := by
  funext i
  unfold updV
  by_cases h : i = j
  · subst h; simp
  · simp [h]
theorem q_updR (k j : Nat) (r : Nat → Nat) (z : Nat → Int) (w : Nat) : updV (fun i => q_fv (q_ty k i) (r i) (z i)) j (q_fv (q_ty k j) w (z j)) = fun i => q_fv (q_ty k i) (if i = j then w else r i) (z i) := by
  funext i
  unfold updV
  by_cases h : i = j
  · subst h; simp
  · simp [h]
theorem q_up_self {α : Type} (f : Nat → Nat → α) (a j : Nat) (v : α) : q_up f a j v a = fun i => if i = j then v else f a i := by funext i; simp [q_up]
theorem q_up_ne {α : Type} (f : Nat → Nat → α) {a b : Nat} (j : Nat) (v : α) (h : b ≠ a) : q_up f a j v b = f b := by funext i; simp [q_up, h]
theorem q_zr_self {α : Type} (f : Nat → Nat → α) (a : Nat) (v : α) : q_zr f a v a = fun _ => v := by funext i; simp [q_zr]
theorem q_zr_ne {α : Type} (f : Nat → Nat → α) {a b : Nat} (v : α) (h : b ≠ a) : q_zr f a v b = f b := by funext i; simp [q_zr, h]
/-- one cell is written -/
theorem q_R.put {B : Nat} {D : va_G} {cy : Nat → ClassId} {S : q_S} {R R' : q_HR} {I I' : q_HI} {H H1 : Heap} {a : Nat} (h : q_R B D cy S R I H) (hz : H1.size = H.size) (ho : ∀ q : Nat, q ≠ a → H1[q]? = H[q]?)
    (hr : ∀ b, b ≠ a → R' b = R b) (hi : ∀ b, b ≠ a → I' b = I b) (hc : q_cell D cy (S.1 a) (S.2.1 a) (R' a) (I' a) a H1) : q_R B D cy S R' I' H1 := by
  refine ⟨⟨hz.trans h.1.1, h.1.2⟩, fun b hb => ?_⟩
  obtain ⟨h1, h2⟩ := h.2 b hb
  refine ⟨h1, ?_⟩
  by_cases hba : b = a
  · subst hba; exact hc
  · rw [hr b hba, hi b hba]; exact h2.kept (ho b hba)
theorem q_F.put {B : Nat} {H0 H H1 : Heap} {locs : List Loc} {a k : Nat} (h : q_F B H0 H locs) (hz : H1.size = H.size) (ho : ∀ q : Nat, q ≠ a → H1[q]? = H[q]?) (ha : B ≤ a) : q_F B H0 H1 (locs ++ [⟨a, k⟩]) := by
  refine ⟨by rw [hz]; exact h.1, fun q hq => ?_, fun q hq => ?_, h.2.2.2⟩
  · rw [ho q (by omega)]; exact h.2.1 q hq
  · rcases List.mem_append.mp hq with h1 | h1
    · exact h.2.2.1 q h1
    · rw [List.mem_singleton.mp h1]; exact ha
theorem q_kinds {D : va_G} {cy : Nat → ClassId} {U : State} (hK : q_K D cy U) {k t0 : Nat} {ty : FieldType} (ht : (q_tys cy)[t0]? = some (cy k, ty)) : ArrOfT U (cy k) ty ∧ va_RA U (cy k) ty := hK.2.1.2 t0 _ ht
section QV
variable {X : q_X} {Rm : Room} {cc : ByteArray} {nL cells slots pc : Nat} {lv : List (Nat × Value)} {st : List Value} {S : q_S} {R : q_HR} {I : q_HI} {own : String} {ret : Option FieldType} {nm : String}
theorem v_sub {lv' : List (Nat × Value)} (ks : List Nat) (hl : lv_pick lv ks = lv') (k : q_V X Rm cc nL cells slots pc lv' st S R I) : q_V X Rm cc nL cells slots pc lv st S R I := by
  obtain ⟨p, l, e, s, m, args, below, meth, c, D, cy, B, Q⟩ := X
  intro H locs ls hR hF hv
  exact k H locs ls hR hF (lv_sub hv ks hl)
theorem v_widen {k n : Nat} (h1 : cells ≤ k) (h2 : slots ≤ n) (kk : q_V X Rm cc nL k n pc lv st S R I) : q_V X Rm cc nL cells slots pc lv st S R I := by
  obtain ⟨p, l, e, s, m, args, below, meth, c, D, cy, B, Q⟩ := X
  intro H locs ls hR hF hv
  exact W.widen h1 h2 (kk H locs ls hR hF hv)
theorem v_cs {k n : Nat} (h1 : cells = k) (h2 : slots = n) (kk : q_V X Rm cc nL k n pc lv st S R I) : q_V X Rm cc nL cells slots pc lv st S R I := by subst h1; subst h2; exact kk
theorem v_iconst {n : Int} (hX : q_C X cc nL own ret nm) (hd : decode cc pc = .ok (.iconst n, 1)) (k : q_V X Rm cc nL cells slots (pc + 1) lv (.int (q_i n) :: st) S R I) : q_V X Rm cc nL cells slots pc lv st S R I := by
  obtain ⟨p, l, e, s, m, args, below, meth, c, D, cy, B, Q⟩ := X
  obtain ⟨hx, hb, hml, hown, hK, hB, hlk, hrt, hnm⟩ := hX
  intro H locs ls hR hF hl
  exact lv_iconst hx hb hd rfl (k H locs ls hR hF hl)
theorem v_bipush {n : Int} (z : Int) (hX : q_C X cc nL own ret nm) (hd : decode cc pc = .ok (.bipush n, 2)) (hz : (Int8.ofInt n).toInt32 = q_i z) (k : q_V X Rm cc nL cells slots (pc + 2) lv (.int (q_i z) :: st) S R I) : q_V X Rm cc nL cells slots pc lv st S R I := by
  obtain ⟨p, l, e, s, m, args, below, meth, c, D, cy, B, Q⟩ := X
  obtain ⟨hx, hb, hml, hown, hK, hB, hlk, hrt, hnm⟩ := hX
  intro H locs ls hR hF hl
  exact lv_bipush hx hb hd hz (k H locs ls hR hF hl)
theorem v_sipush {n : Int} (z : Int) (hX : q_C X cc nL own ret nm) (hd : decode cc pc = .ok (.sipush n, 3)) (hz : (Int16.ofInt n).toInt32 = q_i z) (k : q_V X Rm cc nL cells slots (pc + 3) lv (.int (q_i z) :: st) S R I) : q_V X Rm cc nL cells slots pc lv st S R I := by
  obtain ⟨p, l, e, s, m, args, below, meth, c, D, cy, B, Q⟩ := X
  obtain ⟨hx, hb, hml, hown, hK, hB, hlk, hrt, hnm⟩ := hX
  intro H locs ls hR hF hl
  exact lv_sipush hx hb hd hz (k H locs ls hR hF hl)
theorem v_lconst {n : Fin 2} (z : Int) (hX : q_C X cc nL own ret nm) (hd : decode cc pc = .ok (.lconst n, 1)) (hz : Int64.ofNat (n : Nat) = q_l z) (k : q_V X Rm cc nL cells slots (pc + 1) lv (.long (q_l z) :: st) S R I) : q_V X Rm cc nL cells slots pc lv st S R I := by
  obtain ⟨p, l, e, s, m, args, below, meth, c, D, cy, B, Q⟩ := X
  obtain ⟨hx, hb, hml, hown, hK, hB, hlk, hrt, hnm⟩ := hX
  intro H locs ls hR hF hl
  exact lv_lconst hx hb hd hz (k H locs ls hR hF hl)
theorem v_ldc {idx : Nat} {v : Int32} (z : Int) (hX : q_C X cc nL own ret nm) (hw : Cond.constant own idx v ∈ lw_tbl) (hv : v = q_i z) (hd : decode cc pc = .ok (.ldc idx, 2)) (k : q_V X Rm cc nL cells slots (pc + 2) lv (.int (q_i z) :: st) S R I) : q_V X Rm cc nL cells slots pc lv st S R I := by
  obtain ⟨p, l, e, s, m, args, below, meth, c, D, cy, B, Q⟩ := X
  obtain ⟨hx, hb, hml, hown, hK, hB, hlk, hrt, hnm⟩ := hX
  intro H locs ls hR hF hl
  subst hv
  exact lv_ldc hx hb hown (hK.use hw rfl _) hd (k H locs ls hR hF hl)
theorem v_ldcw {idx : Nat} {v : Int32} (z : Int) (hX : q_C X cc nL own ret nm) (hw : Cond.constant own idx v ∈ lw_tbl) (hv : v = q_i z) (hd : decode cc pc = .ok (.ldc_w idx, 3)) (k : q_V X Rm cc nL cells slots (pc + 3) lv (.int (q_i z) :: st) S R I) : q_V X Rm cc nL cells slots pc lv st S R I := by
  obtain ⟨p, l, e, s, m, args, below, meth, c, D, cy, B, Q⟩ := X
  obtain ⟨hx, hb, hml, hown, hK, hB, hlk, hrt, hnm⟩ := hX
  intro H locs ls hR hF hl
  subst hv
  exact lv_ldcw hx hb hown (hK.use hw rfl _) hd (k H locs ls hR hF hl)
theorem v_ldc2 {idx : Nat} {v : Int64} (z : Int) (hX : q_C X cc nL own ret nm) (hw : Cond.constantLong own idx v ∈ lw_tbl) (hv : v = q_l z) (hd : decode cc pc = .ok (.ldc2_w idx, 3)) (k : q_V X Rm cc nL cells slots (pc + 3) lv (.long (q_l z) :: st) S R I) : q_V X Rm cc nL cells slots pc lv st S R I := by
  obtain ⟨p, l, e, s, m, args, below, meth, c, D, cy, B, Q⟩ := X
  obtain ⟨hx, hb, hml, hown, hK, hB, hlk, hrt, hnm⟩ := hX
  intro H locs ls hR hF hl
  subst hv
  exact lv_ldc2 hx hb hown (hK.use hw rfl _) hd (k H locs ls hR hF hl)
theorem v_iload_n {n : Fin 4} (i : Nat) (q : Nat) {x : Int32} (hX : q_C X cc nL own ret nm) (hd : decode cc pc = .ok (.iload_n n, 1)) (hi : (n : Nat) = i) (hq : lv[q]? = some (i, .int x)) (k : q_V X Rm cc nL cells slots (pc + 1) lv (.int x :: st) S R I) : q_V X Rm cc nL cells slots pc lv st S R I := by
  obtain ⟨p, l, e, s, m, args, below, meth, c, D, cy, B, Q⟩ := X
  obtain ⟨hx, hb, hml, hown, hK, hB, hlk, hrt, hnm⟩ := hX
  intro H locs ls hR hF hl
  exact lv_iload_n hx hb hd hi (lv_at hl q hq) (k H locs ls hR hF hl)
theorem v_iload {i : Nat} (q : Nat) {x : Int32} (hX : q_C X cc nL own ret nm) (hd : decode cc pc = .ok (.iload i, 2)) (hq : lv[q]? = some (i, .int x)) (k : q_V X Rm cc nL cells slots (pc + 2) lv (.int x :: st) S R I) : q_V X Rm cc nL cells slots pc lv st S R I := by
  obtain ⟨p, l, e, s, m, args, below, meth, c, D, cy, B, Q⟩ := X
  obtain ⟨hx, hb, hml, hown, hK, hB, hlk, hrt, hnm⟩ := hX
  intro H locs ls hR hF hl
  exact lv_iload hx hb hd (lv_at hl q hq) (k H locs ls hR hF hl)
theorem v_lload_n {n : Fin 4} (i : Nat) (q : Nat) {x : Int64} (hX : q_C X cc nL own ret nm) (hd : decode cc pc = .ok (.lload_n n, 1)) (hi : (n : Nat) = i) (hq : lv[q]? = some (i, .long x)) (k : q_V X Rm cc nL cells slots (pc + 1) lv (.long x :: st) S R I) : q_V X Rm cc nL cells slots pc lv st S R I := by
  obtain ⟨p, l, e, s, m, args, below, meth, c, D, cy, B, Q⟩ := X
  obtain ⟨hx, hb, hml, hown, hK, hB, hlk, hrt, hnm⟩ := hX
  intro H locs ls hR hF hl
  exact lv_lload_n hx hb hd hi (lv_at hl q hq) (k H locs ls hR hF hl)
theorem v_lload {i : Nat} (q : Nat) {x : Int64} (hX : q_C X cc nL own ret nm) (hd : decode cc pc = .ok (.lload i, 2)) (hq : lv[q]? = some (i, .long x)) (k : q_V X Rm cc nL cells slots (pc + 2) lv (.long x :: st) S R I) : q_V X Rm cc nL cells slots pc lv st S R I := by
  obtain ⟨p, l, e, s, m, args, below, meth, c, D, cy, B, Q⟩ := X
  obtain ⟨hx, hb, hml, hown, hK, hB, hlk, hrt, hnm⟩ := hX
  intro H locs ls hR hF hl
  exact lv_lload hx hb hd (lv_at hl q hq) (k H locs ls hR hF hl)
theorem v_aload_n {n : Fin 4} (i : Nat) (q : Nat) {x : Nat} (hX : q_C X cc nL own ret nm) (hd : decode cc pc = .ok (.aload_n n, 1)) (hi : (n : Nat) = i) (hq : lv[q]? = some (i, .ref x)) (k : q_V X Rm cc nL cells slots (pc + 1) lv (.ref x :: st) S R I) : q_V X Rm cc nL cells slots pc lv st S R I := by
  obtain ⟨p, l, e, s, m, args, below, meth, c, D, cy, B, Q⟩ := X
  obtain ⟨hx, hb, hml, hown, hK, hB, hlk, hrt, hnm⟩ := hX
  intro H locs ls hR hF hl
  exact lv_aload_n hx hb hd hi (lv_at hl q hq) (k H locs ls hR hF hl)
theorem v_aload {i : Nat} (q : Nat) {x : Nat} (hX : q_C X cc nL own ret nm) (hd : decode cc pc = .ok (.aload i, 2)) (hq : lv[q]? = some (i, .ref x)) (k : q_V X Rm cc nL cells slots (pc + 2) lv (.ref x :: st) S R I) : q_V X Rm cc nL cells slots pc lv st S R I := by
  obtain ⟨p, l, e, s, m, args, below, meth, c, D, cy, B, Q⟩ := X
  obtain ⟨hx, hb, hml, hown, hK, hB, hlk, hrt, hnm⟩ := hX
  intro H locs ls hR hF hl
  exact lv_aload hx hb hd (lv_at hl q hq) (k H locs ls hR hF hl)
theorem v_istore_n {n : Fin 4} (i : Nat) {x : Int32} {lw : List (Nat × Value)} (hX : q_C X cc nL own ret nm) (hd : decode cc pc = .ok (.istore_n n, 1)) (hi : (n : Nat) = i) (hn : i < nL) (hv : (i, Value.int x) :: lv.filter (fun q => !(q.1 == i) && !(q.1 + 1 == i && q.2.category == 2)) = lw) (k : q_V X Rm cc nL cells slots (pc + 1) lw st S R I) : q_V X Rm cc nL cells slots pc lv (.int x :: st) S R I := by
  obtain ⟨p, l, e, s, m, args, below, meth, c, D, cy, B, Q⟩ := X
  obtain ⟨hx, hb, hml, hown, hK, hB, hlk, hrt, hnm⟩ := hX
  intro H locs ls hR hF hl
  exact lv_istore_n hx hb hd hi hl hn hv (fun ls hl => k H locs ls hR hF hl)
theorem v_istore {i : Nat} {x : Int32} {lw : List (Nat × Value)} (hX : q_C X cc nL own ret nm) (hd : decode cc pc = .ok (.istore i, 2)) (hn : i < nL) (hv : (i, Value.int x) :: lv.filter (fun q => !(q.1 == i) && !(q.1 + 1 == i && q.2.category == 2)) = lw) (k : q_V X Rm cc nL cells slots (pc + 2) lw st S R I) : q_V X Rm cc nL cells slots pc lv (.int x :: st) S R I := by
  obtain ⟨p, l, e, s, m, args, below, meth, c, D, cy, B, Q⟩ := X
  obtain ⟨hx, hb, hml, hown, hK, hB, hlk, hrt, hnm⟩ := hX
  intro H locs ls hR hF hl
  exact lv_istore hx hb hd hl hn hv (fun ls hl => k H locs ls hR hF hl)
theorem v_lstore_n {n : Fin 4} (i : Nat) {x : Int64} {lw : List (Nat × Value)} (hX : q_C X cc nL own ret nm) (hd : decode cc pc = .ok (.lstore_n n, 1)) (hi : (n : Nat) = i) (hn : i + 1 < nL) (hv : (i, Value.long x) :: lv.filter (fun q => !(q.1 == i) && (!(q.1 == i + 1) && !(q.1 + 1 == i && q.2.category == 2))) = lw) (k : q_V X Rm cc nL cells slots (pc + 1) lw st S R I) : q_V X Rm cc nL cells slots pc lv (.long x :: st) S R I := by
  obtain ⟨p, l, e, s, m, args, below, meth, c, D, cy, B, Q⟩ := X
  obtain ⟨hx, hb, hml, hown, hK, hB, hlk, hrt, hnm⟩ := hX
  intro H locs ls hR hF hl
  exact lv_lstore_n hx hb hd hi hl hn hv (fun ls hl => k H locs ls hR hF hl)
theorem v_lstore {i : Nat} {x : Int64} {lw : List (Nat × Value)} (hX : q_C X cc nL own ret nm) (hd : decode cc pc = .ok (.lstore i, 2)) (hn : i + 1 < nL) (hv : (i, Value.long x) :: lv.filter (fun q => !(q.1 == i) && (!(q.1 == i + 1) && !(q.1 + 1 == i && q.2.category == 2))) = lw) (k : q_V X Rm cc nL cells slots (pc + 2) lw st S R I) : q_V X Rm cc nL cells slots pc lv (.long x :: st) S R I := by
  obtain ⟨p, l, e, s, m, args, below, meth, c, D, cy, B, Q⟩ := X
  obtain ⟨hx, hb, hml, hown, hK, hB, hlk, hrt, hnm⟩ := hX
  intro H locs ls hR hF hl
  exact lv_lstore hx hb hd hl hn hv (fun ls hl => k H locs ls hR hF hl)
theorem v_astore_n {n : Fin 4} (i : Nat) {x : Nat} {lw : List (Nat × Value)} (hX : q_C X cc nL own ret nm) (hd : decode cc pc = .ok (.astore_n n, 1)) (hi : (n : Nat) = i) (hn : i < nL) (hv : (i, Value.ref x) :: lv.filter (fun q => !(q.1 == i) && !(q.1 + 1 == i && q.2.category == 2)) = lw) (k : q_V X Rm cc nL cells slots (pc + 1) lw st S R I) : q_V X Rm cc nL cells slots pc lv (.ref x :: st) S R I := by
  obtain ⟨p, l, e, s, m, args, below, meth, c, D, cy, B, Q⟩ := X
  obtain ⟨hx, hb, hml, hown, hK, hB, hlk, hrt, hnm⟩ := hX
  intro H locs ls hR hF hl
  exact lv_astore_n hx hb hd hi hl hn hv (fun ls hl => k H locs ls hR hF hl)
theorem v_astore {i : Nat} {x : Nat} {lw : List (Nat × Value)} (hX : q_C X cc nL own ret nm) (hd : decode cc pc = .ok (.astore i, 2)) (hn : i < nL) (hv : (i, Value.ref x) :: lv.filter (fun q => !(q.1 == i) && !(q.1 + 1 == i && q.2.category == 2)) = lw) (k : q_V X Rm cc nL cells slots (pc + 2) lw st S R I) : q_V X Rm cc nL cells slots pc lv (.ref x :: st) S R I := by
  obtain ⟨p, l, e, s, m, args, below, meth, c, D, cy, B, Q⟩ := X
  obtain ⟨hx, hb, hml, hown, hK, hB, hlk, hrt, hnm⟩ := hX
  intro H locs ls hR hF hl
  exact lv_astore hx hb hd hl hn hv (fun ls hl => k H locs ls hR hF hl)
theorem v_iinc {i : Nat} (q : Nat) {n x : Int} {lw : List (Nat × Value)} (hX : q_C X cc nL own ret nm) (hd : decode cc pc = .ok (.iinc i n, 3)) (hq : lv[q]? = some (i, .int (q_i x))) (hn : i < nL) (hv : (i, Value.int (q_i (x + n))) :: lv.filter (fun q => !(q.1 == i) && !(q.1 + 1 == i && q.2.category == 2)) = lw) (k : q_V X Rm cc nL cells slots (pc + 3) lw st S R I) : q_V X Rm cc nL cells slots pc lv st S R I := by
  obtain ⟨p, l, e, s, m, args, below, meth, c, D, cy, B, Q⟩ := X
  obtain ⟨hx, hb, hml, hown, hK, hB, hlk, hrt, hnm⟩ := hX
  intro H locs ls hR hF hl
  exact lv_iinc hx hb hd hl hq (q_iAdd x n) hn hv (fun ls hl => k H locs ls hR hF hl)
theorem v_iadd {x y : Int} (hX : q_C X cc nL own ret nm) (hd : decode cc pc = .ok (.iadd, 1)) (k : q_V X Rm cc nL cells slots (pc + 1) lv (.int (q_i (x + y)) :: st) S R I) : q_V X Rm cc nL cells slots pc lv (.int (q_i y) :: .int (q_i x) :: st) S R I := by
  obtain ⟨p, l, e, s, m, args, below, meth, c, D, cy, B, Q⟩ := X
  obtain ⟨hx, hb, hml, hown, hK, hB, hlk, hrt, hnm⟩ := hX
  intro H locs ls hR hF hl
  refine lv_iadd hx hb hd ?_
  rw [q_iAdd x y]
  exact k H locs ls hR hF hl
theorem v_isub {x y : Int} (hX : q_C X cc nL own ret nm) (hd : decode cc pc = .ok (.isub, 1)) (k : q_V X Rm cc nL cells slots (pc + 1) lv (.int (q_i (x - y)) :: st) S R I) : q_V X Rm cc nL cells slots pc lv (.int (q_i y) :: .int (q_i x) :: st) S R I := by
  obtain ⟨p, l, e, s, m, args, below, meth, c, D, cy, B, Q⟩ := X
  obtain ⟨hx, hb, hml, hown, hK, hB, hlk, hrt, hnm⟩ := hX
  intro H locs ls hR hF hl
  refine lv_isub hx hb hd ?_
  rw [q_iSub x y]
  exact k H locs ls hR hF hl
theorem v_imul {x y : Int} (hX : q_C X cc nL own ret nm) (hd : decode cc pc = .ok (.imul, 1)) (k : q_V X Rm cc nL cells slots (pc + 1) lv (.int (q_i (x * y)) :: st) S R I) : q_V X Rm cc nL cells slots pc lv (.int (q_i y) :: .int (q_i x) :: st) S R I := by
  obtain ⟨p, l, e, s, m, args, below, meth, c, D, cy, B, Q⟩ := X
  obtain ⟨hx, hb, hml, hown, hK, hB, hlk, hrt, hnm⟩ := hX
  intro H locs ls hR hF hl
  refine lv_imul hx hb hd ?_
  rw [q_iMul x y]
  exact k H locs ls hR hF hl
theorem v_ladd {x y : Int} (hX : q_C X cc nL own ret nm) (hd : decode cc pc = .ok (.ladd, 1)) (k : q_V X Rm cc nL cells slots (pc + 1) lv (.long (q_l (x + y)) :: st) S R I) : q_V X Rm cc nL cells slots pc lv (.long (q_l y) :: .long (q_l x) :: st) S R I := by
  obtain ⟨p, l, e, s, m, args, below, meth, c, D, cy, B, Q⟩ := X
  obtain ⟨hx, hb, hml, hown, hK, hB, hlk, hrt, hnm⟩ := hX
  intro H locs ls hR hF hl
  refine lv_ladd hx hb hd ?_
  rw [q_lAdd x y]
  exact k H locs ls hR hF hl
theorem v_lsub {x y : Int} (hX : q_C X cc nL own ret nm) (hd : decode cc pc = .ok (.lsub, 1)) (k : q_V X Rm cc nL cells slots (pc + 1) lv (.long (q_l (x - y)) :: st) S R I) : q_V X Rm cc nL cells slots pc lv (.long (q_l y) :: .long (q_l x) :: st) S R I := by
  obtain ⟨p, l, e, s, m, args, below, meth, c, D, cy, B, Q⟩ := X
  obtain ⟨hx, hb, hml, hown, hK, hB, hlk, hrt, hnm⟩ := hX
  intro H locs ls hR hF hl
  refine lv_lsub hx hb hd ?_
  rw [q_lSub x y]
  exact k H locs ls hR hF hl
theorem v_lmul {x y : Int} (hX : q_C X cc nL own ret nm) (hd : decode cc pc = .ok (.lmul, 1)) (k : q_V X Rm cc nL cells slots (pc + 1) lv (.long (q_l (x * y)) :: st) S R I) : q_V X Rm cc nL cells slots pc lv (.long (q_l y) :: .long (q_l x) :: st) S R I := by
  obtain ⟨p, l, e, s, m, args, below, meth, c, D, cy, B, Q⟩ := X
  obtain ⟨hx, hb, hml, hown, hK, hB, hlk, hrt, hnm⟩ := hX
  intro H locs ls hR hF hl
  refine lv_lmul hx hb hd ?_
  rw [q_lMul x y]
  exact k H locs ls hR hF hl
theorem v_lneg {x : Int} (hX : q_C X cc nL own ret nm) (hd : decode cc pc = .ok (.lneg, 1)) (k : q_V X Rm cc nL cells slots (pc + 1) lv (.long (q_l (-x)) :: st) S R I) : q_V X Rm cc nL cells slots pc lv (.long (q_l x) :: st) S R I := by
  obtain ⟨p, l, e, s, m, args, below, meth, c, D, cy, B, Q⟩ := X
  obtain ⟨hx, hb, hml, hown, hK, hB, hlk, hrt, hnm⟩ := hX
  intro H locs ls hR hF hl
  refine lv_lneg hx hb hd ?_
  rw [q_lNeg]
  exact k H locs ls hR hF hl
theorem v_idiv {x y : Int} (hX : q_C X cc nL own ret nm) (gx : r_i x) (gy : r_i y) (g0 : y ≠ 0) (hd : decode cc pc = .ok (.idiv, 1)) (k : q_V X Rm cc nL cells slots (pc + 1) lv (.int (q_i (x.tdiv y)) :: st) S R I) : q_V X Rm cc nL cells slots pc lv (.int (q_i y) :: .int (q_i x) :: st) S R I := by
  obtain ⟨p, l, e, s, m, args, below, meth, c, D, cy, B, Q⟩ := X
  obtain ⟨hx, hb, hml, hown, hK, hB, hlk, hrt, hnm⟩ := hX
  intro H locs ls hR hF hl
  refine lv_idiv hx hb hd (fun h => g0 ?_) ?_
  · rw [← q_i0, q_iEq gy (by unfold r_i; omega)] at h; exact h
  · rw [q_iDiv gx gy]; exact k H locs ls hR hF hl
theorem v_irem {x y : Int} (hX : q_C X cc nL own ret nm) (gx : r_i x) (gy : r_i y) (g0 : y ≠ 0) (hd : decode cc pc = .ok (.irem, 1)) (k : q_V X Rm cc nL cells slots (pc + 1) lv (.int (q_i (x.tmod y)) :: st) S R I) : q_V X Rm cc nL cells slots pc lv (.int (q_i y) :: .int (q_i x) :: st) S R I := by
  obtain ⟨p, l, e, s, m, args, below, meth, c, D, cy, B, Q⟩ := X
  obtain ⟨hx, hb, hml, hown, hK, hB, hlk, hrt, hnm⟩ := hX
  intro H locs ls hR hF hl
  refine lv_irem hx hb hd (fun h => g0 ?_) ?_
  · rw [← q_i0, q_iEq gy (by unfold r_i; omega)] at h; exact h
  · rw [q_iDiv gx gy, q_iMul, q_iSub, q_tmod]; exact k H locs ls hR hF hl
theorem v_ldiv {x y : Int} (hX : q_C X cc nL own ret nm) (gx : r_l x) (gy : r_l y) (g0 : y ≠ 0) (hd : decode cc pc = .ok (.ldiv, 1)) (k : q_V X Rm cc nL cells slots (pc + 1) lv (.long (q_l (x.tdiv y)) :: st) S R I) : q_V X Rm cc nL cells slots pc lv (.long (q_l y) :: .long (q_l x) :: st) S R I := by
  obtain ⟨p, l, e, s, m, args, below, meth, c, D, cy, B, Q⟩ := X
  obtain ⟨hx, hb, hml, hown, hK, hB, hlk, hrt, hnm⟩ := hX
  intro H locs ls hR hF hl
  refine lv_ldiv hx hb hd (fun h => g0 ?_) ?_
  · rw [← q_l0, q_lEq gy (by unfold r_l; omega)] at h; exact h
  · rw [q_lDiv gx gy]; exact k H locs ls hR hF hl
theorem v_lrem {x y : Int} (hX : q_C X cc nL own ret nm) (gx : r_l x) (gy : r_l y) (g0 : y ≠ 0) (hd : decode cc pc = .ok (.lrem, 1)) (k : q_V X Rm cc nL cells slots (pc + 1) lv (.long (q_l (x.tmod y)) :: st) S R I) : q_V X Rm cc nL cells slots pc lv (.long (q_l y) :: .long (q_l x) :: st) S R I := by
  obtain ⟨p, l, e, s, m, args, below, meth, c, D, cy, B, Q⟩ := X
  obtain ⟨hx, hb, hml, hown, hK, hB, hlk, hrt, hnm⟩ := hX
  intro H locs ls hR hF hl
  refine lv_lrem hx hb hd (fun h => g0 ?_) ?_
  · rw [← q_l0, q_lEq gy (by unfold r_l; omega)] at h; exact h
  · rw [q_lDiv gx gy, q_lMul, q_lSub, q_tmod]; exact k H locs ls hR hF hl
def q_and (x y : Int) : Int := (q_i x &&& q_i y).toInt
def q_xor (x y : Int) : Int := (q_i x ^^^ q_i y).toInt
def q_shl (x y : Int) : Int := (q_i x <<< (q_i y &&& 31)).toInt
def q_shr (x y : Int) : Int := (q_i x >>> (q_i y &&& 31)).toInt
def q_ushr (x y : Int) : Int := (((q_i x).toUInt32 >>> ((q_i y).toUInt32 &&& Int32.toUInt32 31)).toInt32).toInt
theorem q_iOf (v : Int32) : q_i v.toInt = v := Int32.ofInt_toInt v
theorem v_iand {x y : Int} (hX : q_C X cc nL own ret nm) (hd : decode cc pc = .ok (.iand, 1)) (k : q_V X Rm cc nL cells slots (pc + 1) lv (.int (q_i (q_and x y)) :: st) S R I) : q_V X Rm cc nL cells slots pc lv (.int (q_i y) :: .int (q_i x) :: st) S R I := by
  obtain ⟨p, l, e, s, m, args, below, meth, c, D, cy, B, Q⟩ := X
  obtain ⟨hx, hb, hml, hown, hK, hB, hlk, hrt, hnm⟩ := hX
  intro H locs ls hR hF hl
  refine lv_iand hx hb hd ?_
  have k2 := k H locs ls hR hF hl
  rw [q_and, q_iOf] at k2
  exact k2
theorem v_ixor {x y : Int} (hX : q_C X cc nL own ret nm) (hd : decode cc pc = .ok (.ixor, 1)) (k : q_V X Rm cc nL cells slots (pc + 1) lv (.int (q_i (q_xor x y)) :: st) S R I) : q_V X Rm cc nL cells slots pc lv (.int (q_i y) :: .int (q_i x) :: st) S R I := by
  obtain ⟨p, l, e, s, m, args, below, meth, c, D, cy, B, Q⟩ := X
  obtain ⟨hx, hb, hml, hown, hK, hB, hlk, hrt, hnm⟩ := hX
  intro H locs ls hR hF hl
  refine lv_ixor hx hb hd ?_
  have k2 := k H locs ls hR hF hl
  rw [q_xor, q_iOf] at k2
  exact k2
theorem v_ishl {x y : Int} (hX : q_C X cc nL own ret nm) (hd : decode cc pc = .ok (.ishl, 1)) (k : q_V X Rm cc nL cells slots (pc + 1) lv (.int (q_i (q_shl x y)) :: st) S R I) : q_V X Rm cc nL cells slots pc lv (.int (q_i y) :: .int (q_i x) :: st) S R I := by
  obtain ⟨p, l, e, s, m, args, below, meth, c, D, cy, B, Q⟩ := X
  obtain ⟨hx, hb, hml, hown, hK, hB, hlk, hrt, hnm⟩ := hX
  intro H locs ls hR hF hl
  refine lv_ishl hx hb hd ?_
  have k2 := k H locs ls hR hF hl
  rw [q_shl, q_iOf] at k2
  exact k2
theorem v_ishr {x y : Int} (hX : q_C X cc nL own ret nm) (hd : decode cc pc = .ok (.ishr, 1)) (k : q_V X Rm cc nL cells slots (pc + 1) lv (.int (q_i (q_shr x y)) :: st) S R I) : q_V X Rm cc nL cells slots pc lv (.int (q_i y) :: .int (q_i x) :: st) S R I := by
  obtain ⟨p, l, e, s, m, args, below, meth, c, D, cy, B, Q⟩ := X
  obtain ⟨hx, hb, hml, hown, hK, hB, hlk, hrt, hnm⟩ := hX
  intro H locs ls hR hF hl
  refine lv_ishr hx hb hd ?_
  have k2 := k H locs ls hR hF hl
  rw [q_shr, q_iOf] at k2
  exact k2
theorem v_iushr {x y : Int} (hX : q_C X cc nL own ret nm) (hd : decode cc pc = .ok (.iushr, 1)) (k : q_V X Rm cc nL cells slots (pc + 1) lv (.int (q_i (q_ushr x y)) :: st) S R I) : q_V X Rm cc nL cells slots pc lv (.int (q_i y) :: .int (q_i x) :: st) S R I := by
  obtain ⟨p, l, e, s, m, args, below, meth, c, D, cy, B, Q⟩ := X
  obtain ⟨hx, hb, hml, hown, hK, hB, hlk, hrt, hnm⟩ := hX
  intro H locs ls hR hF hl
  have k2 := k H locs ls hR hF hl
  rw [q_ushr, q_iOf] at k2
  exact lv_iushr hx hb hd rfl k2
theorem v_i2l {x : Int} (hX : q_C X cc nL own ret nm) (gx : r_i x) (hd : decode cc pc = .ok (.i2l, 1)) (k : q_V X Rm cc nL cells slots (pc + 1) lv (.long (q_l x) :: st) S R I) : q_V X Rm cc nL cells slots pc lv (.int (q_i x) :: st) S R I := by
  obtain ⟨p, l, e, s, m, args, below, meth, c, D, cy, B, Q⟩ := X
  obtain ⟨hx, hb, hml, hown, hK, hB, hlk, hrt, hnm⟩ := hX
  intro H locs ls hR hF hl
  exact lv_i2l hx hb hd (q_i2l gx) (k H locs ls hR hF hl)
theorem v_l2i {x : Int} (hX : q_C X cc nL own ret nm) (hd : decode cc pc = .ok (.l2i, 1)) (k : q_V X Rm cc nL cells slots (pc + 1) lv (.int (q_i x) :: st) S R I) : q_V X Rm cc nL cells slots pc lv (.long (q_l x) :: st) S R I := by
  obtain ⟨p, l, e, s, m, args, below, meth, c, D, cy, B, Q⟩ := X
  obtain ⟨hx, hb, hml, hown, hK, hB, hlk, hrt, hnm⟩ := hX
  intro H locs ls hR hF hl
  exact lv_l2i hx hb hd (q_l2i x) (k H locs ls hR hF hl)
theorem v_lcmp {x y : Int} (hX : q_C X cc nL own ret nm) (gx : r_l x) (gy : r_l y) (hd : decode cc pc = .ok (.lcmp, 1)) (k : q_V X Rm cc nL cells slots (pc + 1) lv (.int (q_i (q_cmp x y)) :: st) S R I) : q_V X Rm cc nL cells slots pc lv (.long (q_l y) :: .long (q_l x) :: st) S R I := by
  obtain ⟨p, l, e, s, m, args, below, meth, c, D, cy, B, Q⟩ := X
  obtain ⟨hx, hb, hml, hown, hK, hB, hlk, hrt, hnm⟩ := hX
  intro H locs ls hR hF hl
  refine W.lcmp hx hb hd ?_
  rw [q_cmpE gx gy]
  exact k H locs ls hR hF hl
theorem v_dup {v : Value} (hX : q_C X cc nL own ret nm) (hd : decode cc pc = .ok (.dup, 1)) (hc : v.category = 1) (k : q_V X Rm cc nL cells slots (pc + 1) lv (v :: v :: st) S R I) : q_V X Rm cc nL cells slots pc lv (v :: st) S R I := by
  obtain ⟨p, l, e, s, m, args, below, meth, c, D, cy, B, Q⟩ := X
  obtain ⟨hx, hb, hml, hown, hK, hB, hlk, hrt, hnm⟩ := hX
  intro H locs ls hR hF hl
  exact lv_dup hx hb hd hc (k H locs ls hR hF hl)
theorem v_dup_x1 {v w : Value} (hX : q_C X cc nL own ret nm) (hd : decode cc pc = .ok (.dup_x1, 1)) (hc : v.category = 1) (hc2 : w.category = 1) (k : q_V X Rm cc nL cells slots (pc + 1) lv (v :: w :: v :: st) S R I) : q_V X Rm cc nL cells slots pc lv (v :: w :: st) S R I := by
  obtain ⟨p, l, e, s, m, args, below, meth, c, D, cy, B, Q⟩ := X
  obtain ⟨hx, hb, hml, hown, hK, hB, hlk, hrt, hnm⟩ := hX
  intro H locs ls hR hF hl
  exact lv_dup_x1 hx hb hd hc hc2 (k H locs ls hR hF hl)
theorem v_dup2 {v w : Value} (hX : q_C X cc nL own ret nm) (hd : decode cc pc = .ok (.dup2, 1)) (hc : v.category = 1) (hc2 : w.category = 1) (k : q_V X Rm cc nL cells slots (pc + 1) lv (v :: w :: v :: w :: st) S R I) : q_V X Rm cc nL cells slots pc lv (v :: w :: st) S R I := by
  obtain ⟨p, l, e, s, m, args, below, meth, c, D, cy, B, Q⟩ := X
  obtain ⟨hx, hb, hml, hown, hK, hB, hlk, hrt, hnm⟩ := hX
  intro H locs ls hR hF hl
  exact lv_dup2_11 hx hb hd hc hc2 (k H locs ls hR hF hl)
theorem v_icmp_eq {x y : Int} {off : Int} {tgt : Nat} (hX : q_C X cc nL own ret nm) (gx : r_i x) (gy : r_i y) (hd : decode cc pc = .ok (.if_icmp .eq off, 3)) (ht : (pc : Int) + off = (tgt : Int)) (kt : x = y → q_V X Rm cc nL cells slots tgt lv st S R I) (kf : ¬ (x = y) → q_V X Rm cc nL cells slots (pc + 3) lv st S R I) : q_V X Rm cc nL cells slots pc lv (.int (q_i y) :: .int (q_i x) :: st) S R I := by
  obtain ⟨p, l, e, s, m, args, below, meth, c, D, cy, B, Q⟩ := X
  obtain ⟨hx, hb, hml, hown, hK, hB, hlk, hrt, hnm⟩ := hX
  intro H locs ls hR hF hl
  exact lv_icmp_eq hx hb hd ht (fun h => kt ((q_iEq gx gy).mp h) H locs ls hR hF hl) (fun h => kf (fun q => h ((q_iEq gx gy).mpr q)) H locs ls hR hF hl)
theorem v_if_eq {x : Int} {off : Int} {tgt : Nat} (hX : q_C X cc nL own ret nm) (gx : r_i x) (hd : decode cc pc = .ok (.ifCond .eq off, 3)) (ht : (pc : Int) + off = (tgt : Int)) (kt : x = 0 → q_V X Rm cc nL cells slots tgt lv st S R I) (kf : ¬ (x = 0) → q_V X Rm cc nL cells slots (pc + 3) lv st S R I) : q_V X Rm cc nL cells slots pc lv (.int (q_i x) :: st) S R I := by
  obtain ⟨p, l, e, s, m, args, below, meth, c, D, cy, B, Q⟩ := X
  obtain ⟨hx, hb, hml, hown, hK, hB, hlk, hrt, hnm⟩ := hX
  intro H locs ls hR hF hl
  exact lv_if_eq hx hb hd ht (fun h => kt ((q_iEq gx r_i0).mp h) H locs ls hR hF hl) (fun h => kf (fun q => h ((q_iEq gx r_i0).mpr q)) H locs ls hR hF hl)
theorem v_ifc_eq {x y : Int} {off : Int} {tgt : Nat} (hX : q_C X cc nL own ret nm) (hd : decode cc pc = .ok (.ifCond .eq off, 3)) (ht : (pc : Int) + off = (tgt : Int)) (kt : x = y → q_V X Rm cc nL cells slots tgt lv st S R I) (kf : ¬ (x = y) → q_V X Rm cc nL cells slots (pc + 3) lv st S R I) : q_V X Rm cc nL cells slots pc lv (.int (q_i (q_cmp x y)) :: st) S R I := by
  obtain ⟨p, l, e, s, m, args, below, meth, c, D, cy, B, Q⟩ := X
  obtain ⟨hx, hb, hml, hown, hK, hB, hlk, hrt, hnm⟩ := hX
  intro H locs ls hR hF hl
  exact lv_if_eq hx hb hd ht (fun h => kt (q_cmp_eq.mp ((q_iEq (q_cmpR x y) r_i0).mp h)) H locs ls hR hF hl) (fun h => kf (fun q => h ((q_iEq (q_cmpR x y) r_i0).mpr (q_cmp_eq.mpr q))) H locs ls hR hF hl)
theorem v_icmp_ne {x y : Int} {off : Int} {tgt : Nat} (hX : q_C X cc nL own ret nm) (gx : r_i x) (gy : r_i y) (hd : decode cc pc = .ok (.if_icmp .ne off, 3)) (ht : (pc : Int) + off = (tgt : Int)) (kt : x = y → q_V X Rm cc nL cells slots (pc + 3) lv st S R I) (kf : ¬ (x = y) → q_V X Rm cc nL cells slots tgt lv st S R I) : q_V X Rm cc nL cells slots pc lv (.int (q_i y) :: .int (q_i x) :: st) S R I := by
  obtain ⟨p, l, e, s, m, args, below, meth, c, D, cy, B, Q⟩ := X
  obtain ⟨hx, hb, hml, hown, hK, hB, hlk, hrt, hnm⟩ := hX
  intro H locs ls hR hF hl
  refine lv_icmp_ne hx hb hd ht (fun h => kf (fun q => h ((q_iEq gx gy).mpr q)) H locs ls hR hF hl) (fun h => kt ?_ H locs ls hR hF hl)
  exact (q_iEq gx gy).mp h
theorem v_if_ne {x : Int} {off : Int} {tgt : Nat} (hX : q_C X cc nL own ret nm) (gx : r_i x) (hd : decode cc pc = .ok (.ifCond .ne off, 3)) (ht : (pc : Int) + off = (tgt : Int)) (kt : x = 0 → q_V X Rm cc nL cells slots (pc + 3) lv st S R I) (kf : ¬ (x = 0) → q_V X Rm cc nL cells slots tgt lv st S R I) : q_V X Rm cc nL cells slots pc lv (.int (q_i x) :: st) S R I := by
  obtain ⟨p, l, e, s, m, args, below, meth, c, D, cy, B, Q⟩ := X
  obtain ⟨hx, hb, hml, hown, hK, hB, hlk, hrt, hnm⟩ := hX
  intro H locs ls hR hF hl
  refine lv_if_ne hx hb hd ht (fun h => kf (fun q => h ((q_iEq gx r_i0).mpr q)) H locs ls hR hF hl) (fun h => kt ?_ H locs ls hR hF hl)
  exact (q_iEq gx r_i0).mp h
theorem v_ifc_ne {x y : Int} {off : Int} {tgt : Nat} (hX : q_C X cc nL own ret nm) (hd : decode cc pc = .ok (.ifCond .ne off, 3)) (ht : (pc : Int) + off = (tgt : Int)) (kt : x = y → q_V X Rm cc nL cells slots (pc + 3) lv st S R I) (kf : ¬ (x = y) → q_V X Rm cc nL cells slots tgt lv st S R I) : q_V X Rm cc nL cells slots pc lv (.int (q_i (q_cmp x y)) :: st) S R I := by
  obtain ⟨p, l, e, s, m, args, below, meth, c, D, cy, B, Q⟩ := X
  obtain ⟨hx, hb, hml, hown, hK, hB, hlk, hrt, hnm⟩ := hX
  intro H locs ls hR hF hl
  refine lv_if_ne hx hb hd ht (fun h => kf (fun q => h ((q_iEq (q_cmpR x y) r_i0).mpr (q_cmp_eq.mpr q))) H locs ls hR hF hl) (fun h => kt ?_ H locs ls hR hF hl)
  exact q_cmp_eq.mp ((q_iEq (q_cmpR x y) r_i0).mp h)
theorem v_icmp_lt {x y : Int} {off : Int} {tgt : Nat} (hX : q_C X cc nL own ret nm) (gx : r_i x) (gy : r_i y) (hd : decode cc pc = .ok (.if_icmp .lt off, 3)) (ht : (pc : Int) + off = (tgt : Int)) (kt : x < y → q_V X Rm cc nL cells slots tgt lv st S R I) (kf : ¬ (x < y) → q_V X Rm cc nL cells slots (pc + 3) lv st S R I) : q_V X Rm cc nL cells slots pc lv (.int (q_i y) :: .int (q_i x) :: st) S R I := by
  obtain ⟨p, l, e, s, m, args, below, meth, c, D, cy, B, Q⟩ := X
  obtain ⟨hx, hb, hml, hown, hK, hB, hlk, hrt, hnm⟩ := hX
  intro H locs ls hR hF hl
  exact lv_icmp_lt hx hb hd ht (fun h => kt ((q_iLt gx gy).mp h) H locs ls hR hF hl) (fun h => kf (fun q => h ((q_iLt gx gy).mpr q)) H locs ls hR hF hl)
theorem v_if_lt {x : Int} {off : Int} {tgt : Nat} (hX : q_C X cc nL own ret nm) (gx : r_i x) (hd : decode cc pc = .ok (.ifCond .lt off, 3)) (ht : (pc : Int) + off = (tgt : Int)) (kt : x < 0 → q_V X Rm cc nL cells slots tgt lv st S R I) (kf : ¬ (x < 0) → q_V X Rm cc nL cells slots (pc + 3) lv st S R I) : q_V X Rm cc nL cells slots pc lv (.int (q_i x) :: st) S R I := by
  obtain ⟨p, l, e, s, m, args, below, meth, c, D, cy, B, Q⟩ := X
  obtain ⟨hx, hb, hml, hown, hK, hB, hlk, hrt, hnm⟩ := hX
  intro H locs ls hR hF hl
  exact lv_if_lt hx hb hd ht (fun h => kt ((q_iLt gx r_i0).mp h) H locs ls hR hF hl) (fun h => kf (fun q => h ((q_iLt gx r_i0).mpr q)) H locs ls hR hF hl)
theorem v_ifc_lt {x y : Int} {off : Int} {tgt : Nat} (hX : q_C X cc nL own ret nm) (hd : decode cc pc = .ok (.ifCond .lt off, 3)) (ht : (pc : Int) + off = (tgt : Int)) (kt : x < y → q_V X Rm cc nL cells slots tgt lv st S R I) (kf : ¬ (x < y) → q_V X Rm cc nL cells slots (pc + 3) lv st S R I) : q_V X Rm cc nL cells slots pc lv (.int (q_i (q_cmp x y)) :: st) S R I := by
  obtain ⟨p, l, e, s, m, args, below, meth, c, D, cy, B, Q⟩ := X
  obtain ⟨hx, hb, hml, hown, hK, hB, hlk, hrt, hnm⟩ := hX
  intro H locs ls hR hF hl
  exact lv_if_lt hx hb hd ht (fun h => kt (q_cmp_lt.mp ((q_iLt (q_cmpR x y) r_i0).mp h)) H locs ls hR hF hl) (fun h => kf (fun q => h ((q_iLt (q_cmpR x y) r_i0).mpr (q_cmp_lt.mpr q))) H locs ls hR hF hl)
theorem v_icmp_ge {x y : Int} {off : Int} {tgt : Nat} (hX : q_C X cc nL own ret nm) (gx : r_i x) (gy : r_i y) (hd : decode cc pc = .ok (.if_icmp .ge off, 3)) (ht : (pc : Int) + off = (tgt : Int)) (kt : y ≤ x → q_V X Rm cc nL cells slots tgt lv st S R I) (kf : ¬ (y ≤ x) → q_V X Rm cc nL cells slots (pc + 3) lv st S R I) : q_V X Rm cc nL cells slots pc lv (.int (q_i y) :: .int (q_i x) :: st) S R I := by
  obtain ⟨p, l, e, s, m, args, below, meth, c, D, cy, B, Q⟩ := X
  obtain ⟨hx, hb, hml, hown, hK, hB, hlk, hrt, hnm⟩ := hX
  intro H locs ls hR hF hl
  exact lv_icmp_ge hx hb hd ht (fun h => kt ((q_iLe gy gx).mp h) H locs ls hR hF hl) (fun h => kf (fun q => h ((q_iLe gy gx).mpr q)) H locs ls hR hF hl)
theorem v_if_ge {x : Int} {off : Int} {tgt : Nat} (hX : q_C X cc nL own ret nm) (gx : r_i x) (hd : decode cc pc = .ok (.ifCond .ge off, 3)) (ht : (pc : Int) + off = (tgt : Int)) (kt : 0 ≤ x → q_V X Rm cc nL cells slots tgt lv st S R I) (kf : ¬ (0 ≤ x) → q_V X Rm cc nL cells slots (pc + 3) lv st S R I) : q_V X Rm cc nL cells slots pc lv (.int (q_i x) :: st) S R I := by
  obtain ⟨p, l, e, s, m, args, below, meth, c, D, cy, B, Q⟩ := X
  obtain ⟨hx, hb, hml, hown, hK, hB, hlk, hrt, hnm⟩ := hX
  intro H locs ls hR hF hl
  exact lv_if_ge hx hb hd ht (fun h => kt ((q_iLe r_i0 gx).mp h) H locs ls hR hF hl) (fun h => kf (fun q => h ((q_iLe r_i0 gx).mpr q)) H locs ls hR hF hl)
theorem v_ifc_ge {x y : Int} {off : Int} {tgt : Nat} (hX : q_C X cc nL own ret nm) (hd : decode cc pc = .ok (.ifCond .ge off, 3)) (ht : (pc : Int) + off = (tgt : Int)) (kt : y ≤ x → q_V X Rm cc nL cells slots tgt lv st S R I) (kf : ¬ (y ≤ x) → q_V X Rm cc nL cells slots (pc + 3) lv st S R I) : q_V X Rm cc nL cells slots pc lv (.int (q_i (q_cmp x y)) :: st) S R I := by
  obtain ⟨p, l, e, s, m, args, below, meth, c, D, cy, B, Q⟩ := X
  obtain ⟨hx, hb, hml, hown, hK, hB, hlk, hrt, hnm⟩ := hX
  intro H locs ls hR hF hl
  exact lv_if_ge hx hb hd ht (fun h => kt (q_cmp_ge.mp ((q_iLe r_i0 (q_cmpR x y)).mp h)) H locs ls hR hF hl) (fun h => kf (fun q => h ((q_iLe r_i0 (q_cmpR x y)).mpr (q_cmp_ge.mpr q))) H locs ls hR hF hl)
theorem v_icmp_gt {x y : Int} {off : Int} {tgt : Nat} (hX : q_C X cc nL own ret nm) (gx : r_i x) (gy : r_i y) (hd : decode cc pc = .ok (.if_icmp .gt off, 3)) (ht : (pc : Int) + off = (tgt : Int)) (kt : y < x → q_V X Rm cc nL cells slots tgt lv st S R I) (kf : ¬ (y < x) → q_V X Rm cc nL cells slots (pc + 3) lv st S R I) : q_V X Rm cc nL cells slots pc lv (.int (q_i y) :: .int (q_i x) :: st) S R I := by
  obtain ⟨p, l, e, s, m, args, below, meth, c, D, cy, B, Q⟩ := X
  obtain ⟨hx, hb, hml, hown, hK, hB, hlk, hrt, hnm⟩ := hX
  intro H locs ls hR hF hl
  exact lv_icmp_gt hx hb hd ht (fun h => kt ((q_iLt gy gx).mp h) H locs ls hR hF hl) (fun h => kf (fun q => h ((q_iLt gy gx).mpr q)) H locs ls hR hF hl)
theorem v_if_gt {x : Int} {off : Int} {tgt : Nat} (hX : q_C X cc nL own ret nm) (gx : r_i x) (hd : decode cc pc = .ok (.ifCond .gt off, 3)) (ht : (pc : Int) + off = (tgt : Int)) (kt : 0 < x → q_V X Rm cc nL cells slots tgt lv st S R I) (kf : ¬ (0 < x) → q_V X Rm cc nL cells slots (pc + 3) lv st S R I) : q_V X Rm cc nL cells slots pc lv (.int (q_i x) :: st) S R I := by
  obtain ⟨p, l, e, s, m, args, below, meth, c, D, cy, B, Q⟩ := X
  obtain ⟨hx, hb, hml, hown, hK, hB, hlk, hrt, hnm⟩ := hX
  intro H locs ls hR hF hl
  exact lv_if_gt hx hb hd ht (fun h => kt ((q_iLt r_i0 gx).mp h) H locs ls hR hF hl) (fun h => kf (fun q => h ((q_iLt r_i0 gx).mpr q)) H locs ls hR hF hl)
theorem v_ifc_gt {x y : Int} {off : Int} {tgt : Nat} (hX : q_C X cc nL own ret nm) (hd : decode cc pc = .ok (.ifCond .gt off, 3)) (ht : (pc : Int) + off = (tgt : Int)) (kt : y < x → q_V X Rm cc nL cells slots tgt lv st S R I) (kf : ¬ (y < x) → q_V X Rm cc nL cells slots (pc + 3) lv st S R I) : q_V X Rm cc nL cells slots pc lv (.int (q_i (q_cmp x y)) :: st) S R I := by
  obtain ⟨p, l, e, s, m, args, below, meth, c, D, cy, B, Q⟩ := X
  obtain ⟨hx, hb, hml, hown, hK, hB, hlk, hrt, hnm⟩ := hX
  intro H locs ls hR hF hl
  exact lv_if_gt hx hb hd ht (fun h => kt (q_cmp_gt.mp ((q_iLt r_i0 (q_cmpR x y)).mp h)) H locs ls hR hF hl) (fun h => kf (fun q => h ((q_iLt r_i0 (q_cmpR x y)).mpr (q_cmp_gt.mpr q))) H locs ls hR hF hl)
theorem v_icmp_le {x y : Int} {off : Int} {tgt : Nat} (hX : q_C X cc nL own ret nm) (gx : r_i x) (gy : r_i y) (hd : decode cc pc = .ok (.if_icmp .le off, 3)) (ht : (pc : Int) + off = (tgt : Int)) (kt : x ≤ y → q_V X Rm cc nL cells slots tgt lv st S R I) (kf : ¬ (x ≤ y) → q_V X Rm cc nL cells slots (pc + 3) lv st S R I) : q_V X Rm cc nL cells slots pc lv (.int (q_i y) :: .int (q_i x) :: st) S R I := by
  obtain ⟨p, l, e, s, m, args, below, meth, c, D, cy, B, Q⟩ := X
  obtain ⟨hx, hb, hml, hown, hK, hB, hlk, hrt, hnm⟩ := hX
  intro H locs ls hR hF hl
  exact lv_icmp_le hx hb hd ht (fun h => kt ((q_iLe gx gy).mp h) H locs ls hR hF hl) (fun h => kf (fun q => h ((q_iLe gx gy).mpr q)) H locs ls hR hF hl)
theorem v_if_le {x : Int} {off : Int} {tgt : Nat} (hX : q_C X cc nL own ret nm) (gx : r_i x) (hd : decode cc pc = .ok (.ifCond .le off, 3)) (ht : (pc : Int) + off = (tgt : Int)) (kt : x ≤ 0 → q_V X Rm cc nL cells slots tgt lv st S R I) (kf : ¬ (x ≤ 0) → q_V X Rm cc nL cells slots (pc + 3) lv st S R I) : q_V X Rm cc nL cells slots pc lv (.int (q_i x) :: st) S R I := by
  obtain ⟨p, l, e, s, m, args, below, meth, c, D, cy, B, Q⟩ := X
  obtain ⟨hx, hb, hml, hown, hK, hB, hlk, hrt, hnm⟩ := hX
  intro H locs ls hR hF hl
  exact lv_if_le hx hb hd ht (fun h => kt ((q_iLe gx r_i0).mp h) H locs ls hR hF hl) (fun h => kf (fun q => h ((q_iLe gx r_i0).mpr q)) H locs ls hR hF hl)
theorem v_ifc_le {x y : Int} {off : Int} {tgt : Nat} (hX : q_C X cc nL own ret nm) (hd : decode cc pc = .ok (.ifCond .le off, 3)) (ht : (pc : Int) + off = (tgt : Int)) (kt : x ≤ y → q_V X Rm cc nL cells slots tgt lv st S R I) (kf : ¬ (x ≤ y) → q_V X Rm cc nL cells slots (pc + 3) lv st S R I) : q_V X Rm cc nL cells slots pc lv (.int (q_i (q_cmp x y)) :: st) S R I := by
  obtain ⟨p, l, e, s, m, args, below, meth, c, D, cy, B, Q⟩ := X
  obtain ⟨hx, hb, hml, hown, hK, hB, hlk, hrt, hnm⟩ := hX
  intro H locs ls hR hF hl
  exact lv_if_le hx hb hd ht (fun h => kt (q_cmp_le.mp ((q_iLe (q_cmpR x y) r_i0).mp h)) H locs ls hR hF hl) (fun h => kf (fun q => h ((q_iLe (q_cmpR x y) r_i0).mpr (q_cmp_le.mpr q))) H locs ls hR hF hl)
theorem v_goto {off : Int} {tgt : Nat} (hX : q_C X cc nL own ret nm) (hd : decode cc pc = .ok (.goto off, 3)) (ht : (pc : Int) + off = (tgt : Int)) (k : q_V X Rm cc nL cells slots tgt lv st S R I) : q_V X Rm cc nL cells slots pc lv st S R I := by
  obtain ⟨p, l, e, s, m, args, below, meth, c, D, cy, B, Q⟩ := X
  obtain ⟨hx, hb, hml, hown, hK, hB, hlk, hrt, hnm⟩ := hX
  intro H locs ls hR hF hl
  exact lv_goto hx hb hd ht (k H locs ls hR hF hl)
end QV
