/-! NUMBERS: an Int stands for the int (q_i) or the long (q_l) that it wraps to; r_i, r_l: it is in the range -/
def q_i (z : Int) : Int32 := Int32.ofInt z
def q_l (z : Int) : Int64 := Int64.ofInt z
def r_i (z : Int) : Prop := -2147483648 ≤ z ∧ z ≤ 2147483647
def r_l (z : Int) : Prop := -9223372036854775808 ≤ z ∧ z ≤ 9223372036854775807
theorem q_iT {z : Int} (h : r_i z) : (q_i z).toInt = z := Int32.toInt_ofInt_of_le (by have := h.1; omega) (by have := h.2; omega)
theorem q_lT {z : Int} (h : r_l z) : (q_l z).toInt = z := Int64.toInt_ofInt_of_le (by have := h.1; omega) (by have := h.2; omega)
theorem q_iEq {x y : Int} (hx : r_i x) (hy : r_i y) : q_i x = q_i y ↔ x = y := by rw [← Int32.toInt_inj, q_iT hx, q_iT hy]
theorem q_iLt {x y : Int} (hx : r_i x) (hy : r_i y) : q_i x < q_i y ↔ x < y := by rw [Int32.lt_iff_toInt_lt, q_iT hx, q_iT hy]
theorem q_iLe {x y : Int} (hx : r_i x) (hy : r_i y) : q_i x ≤ q_i y ↔ x ≤ y := by rw [Int32.le_iff_toInt_le, q_iT hx, q_iT hy]
theorem q_lEq {x y : Int} (hx : r_l x) (hy : r_l y) : q_l x = q_l y ↔ x = y := by rw [← Int64.toInt_inj, q_lT hx, q_lT hy]
theorem q_lLt {x y : Int} (hx : r_l x) (hy : r_l y) : q_l x < q_l y ↔ x < y := by rw [Int64.lt_iff_toInt_lt, q_lT hx, q_lT hy]
theorem q_i0 : q_i 0 = 0 := rfl
theorem q_l0 : q_l 0 = 0 := rfl
theorem r_i0 : r_i 0 := by unfold r_i; omega
theorem q_iAdd (x y : Int) : q_i x + q_i y = q_i (x + y) := (Int32.ofInt_add x y).symm
theorem q_iSub (x y : Int) : q_i x - q_i y = q_i (x - y) := (Int32.ofInt_sub x y).symm
theorem q_iMul (x y : Int) : q_i x * q_i y = q_i (x * y) := (Int32.ofInt_mul x y).symm
theorem q_lAdd (x y : Int) : q_l x + q_l y = q_l (x + y) := (Int64.ofInt_add x y).symm
theorem q_lSub (x y : Int) : q_l x - q_l y = q_l (x - y) := (Int64.ofInt_sub x y).symm
theorem q_lMul (x y : Int) : q_l x * q_l y = q_l (x * y) := (Int64.ofInt_mul x y).symm
theorem q_lNeg (x : Int) : -q_l x = q_l (-x) := (Int64.ofInt_neg x).symm
theorem q_i2l {x : Int} (h : r_i x) : (q_i x).toInt64 = q_l x := Int64.toInt_inj.mp (by
  rw [Int32.toInt_toInt64, q_iT h, q_lT ⟨by have := h.1; omega, by have := h.2; omega⟩])
theorem q_l2i (x : Int) : (q_l x).toInt32 = q_i x := Int64.toInt32_ofInt
theorem q_min : Int32.minValue.toInt = -2147483648 := by decide
theorem q_max : Int32.maxValue.toInt = 2147483647 := by decide
theorem q_minl : Int64.minValue.toInt = -9223372036854775808 := by decide
theorem q_maxl : Int64.maxValue.toInt = 9223372036854775807 := by decide
theorem q_iDiv {x y : Int} (hx : r_i x) (hy : r_i y) : q_i x / q_i y = q_i (x.tdiv y) :=
  (Int32.ofInt_tdiv (by rw [q_min]; exact hx.1) (by rw [q_max]; exact hx.2) (by rw [q_min]; exact hy.1) (by rw [q_max]; exact hy.2)).symm
theorem q_lDiv {x y : Int} (hx : r_l x) (hy : r_l y) : q_l x / q_l y = q_l (x.tdiv y) :=
  (Int64.ofInt_tdiv (by rw [q_minl]; exact hx.1) (by rw [q_maxl]; exact hx.2) (by rw [q_minl]; exact hy.1) (by rw [q_maxl]; exact hy.2)).symm
theorem q_tmod (x y : Int) : x - x.tdiv y * y = x.tmod y := by rw [Int.tmod_def, Int.mul_comm]
theorem q_nat {z : Int} (h0 : 0 ≤ z) (h : r_i z) : (q_i z).toNatClampNeg = z.toNat := Int32.toNatClampNeg_ofInt_of_le (by have := h.1; omega) (by have := h.2; omega)
theorem q_ofN {n : Nat} : Int32.ofNat n = q_i (n : Int) := (Int32.ofInt_eq_ofNat).symm
/-- what lcmp answers -/
def q_cmp (x y : Int) : Int := if y < x then 1 else if x = y then 0 else -1
theorem q_cmpE {x y : Int} (hx : r_l x) (hy : r_l y) : lg_cmp (q_l x) (q_l y) = q_i (q_cmp x y) := by
  unfold lg_cmp q_cmp
  simp only [gt_iff_lt, q_lLt hy hx, q_lEq hx hy]
  by_cases h1 : y < x
  · rw [if_pos h1, if_pos h1]; rfl
  · rw [if_neg h1, if_neg h1]
    by_cases h2 : x = y
    · rw [if_pos h2, if_pos h2]; rfl
    · rw [if_neg h2, if_neg h2]; rfl
theorem q_cmpR (x y : Int) : r_i (q_cmp x y) := by unfold q_cmp r_i; split <;> (try split) <;> omega
theorem q_cmp_lt {x y : Int} : q_cmp x y < 0 ↔ x < y := by unfold q_cmp; split <;> (try split) <;> omega
theorem q_cmp_le {x y : Int} : q_cmp x y ≤ 0 ↔ x ≤ y := by unfold q_cmp; split <;> (try split) <;> omega
theorem q_cmp_gt {x y : Int} : 0 < q_cmp x y ↔ y < x := by unfold q_cmp; split <;> (try split) <;> omega
theorem q_cmp_ge {x y : Int} : 0 ≤ q_cmp x y ↔ y ≤ x := by unfold q_cmp; split <;> (try split) <;> omega
theorem q_cmp_eq {x y : Int} : q_cmp x y = 0 ↔ x = y := by unfold q_cmp; split <;> (try split) <;> omega
/-! WORDS OF THE FUNCTIONS: a guard, a bind, a name -/
noncomputable def q_gd {α : Type} (p : Prop) (k : Option α) : Option α := @ite _ p (Classical.propDecidable p) k none
theorem q_gd_some {α : Type} {p : Prop} {k : Option α} {r : α} (h : q_gd p k = some r) : p ∧ k = some r := by
  unfold q_gd at h
  by_cases hp : p
  · rw [if_pos hp] at h; exact ⟨hp, h⟩
  · rw [if_neg hp] at h; cases h
theorem q_gdT {α : Type} {p : Prop} {k : Option α} (h : p) : q_gd p k = k := by unfold q_gd; rw [if_pos h]
def q_bd {α β : Type} (o : Option α) (k : α → Option β) : Option β := match o with | none => none | some a => k a
theorem q_bd_some {α β : Type} {o : Option α} {k : α → Option β} {r : β} (h : q_bd o k = some r) : ∃ a, o = some a ∧ k a = some r := by
  cases o with
  | none => cases h
  | some a => exact ⟨a, rfl, h⟩
theorem q_bdE {α β : Type} {o : Option α} {a : α} {k : α → Option β} (h : o = some a) : q_bd o k = k a := by rw [h]; rfl
def q_lt {α β : Type} (v : α) (k : α → β) : β := k v
theorem q_lt_nm {α β : Type} {v : α} {k : α → β} {r : β} (h : q_lt v k = r) : ∃ x, v = x ∧ k x = r := ⟨v, rfl, h⟩
theorem q_ltE {α β : Type} {v : α} {k : α → β} : q_lt v k = k v := rfl
theorem q_ifp {α : Type} {c : Prop} [hd : Decidable c] {A B r : α} (h : c) (e : (if c then A else B) = r) : A = r := by rw [if_pos h] at e; exact e
theorem q_ifn {α : Type} {c : Prop} [hd : Decidable c] {A B r : α} (h : ¬ c) (e : (if c then A else B) = r) : B = r := by rw [if_neg h] at e; exact e
/-! THE HEAP AS FUNCTIONS: S = (kind of a cell, length of an array, the next address), R: its slots that hold references (0: null), I: its slots that hold numbers.
Kinds: 1..11 the classes of vwCl, 12 int[], 13 long[], 14 boolean[], 15 Group[], 16 Measurement[], 17 int[][]; 0: no cell of ours -/
abbrev q_S : Type := (Nat → Nat) × (Nat → Nat) × Nat
abbrev q_HR : Type := Nat → Nat → Nat
abbrev q_HI : Type := Nat → Nat → Int
def q_rf (r : Nat) : Value := if r = 0 then .null else .ref r
def q_fv (ty : FieldType) (r : Nat) (z : Int) : Value := match ty with
  | .long => .long (q_l z)
  | .object _ => q_rf r
  | .array _ => q_rf r
  | .float => .float 0
  | .double => .double 0
  | _ => .int (q_i z)
theorem q_fv0 (ty : FieldType) : defaultValue ty = q_fv ty 0 0 := by cases ty <;> rfl
def q_up {α : Type} (f : Nat → Nat → α) (a k : Nat) (v : α) : Nat → Nat → α := fun b j => if b = a ∧ j = k then v else f b j
def q_zr {α : Type} (f : Nat → Nat → α) (a : Nat) (v : α) : Nat → Nat → α := fun b j => if b = a then v else f b j
def q_ty (k : Nat) : Nat → FieldType := match k with
  | 1 => tyX0
  | 2 => tyX1
  | 3 => tyX2
  | 4 => tyX3
  | 5 => tyX4
  | 6 => tyX5
  | 7 => tyX6
  | 8 => tyX7
  | 9 => tyX8
  | 10 => tyX9
  | 11 => tyX10
  | 12 => fun _ => .int
  | 13 => fun _ => .long
  | 14 => fun _ => .boolean
  | 15 => fun _ => .object "SensorArray$Group"
  | 16 => fun _ => .object "SensorArray$Measurement"
  | _ => fun _ => .array .int
def q_nf (k : Nat) : Nat := match k with
  | 1 => 7
  | 2 => 8
  | 3 => 4
  | 4 => 5
  | 5 => 5
  | 6 => 2
  | 7 => 3
  | 8 => 4
  | 9 => 3
  | 10 => 13
  | _ => 28
def q_cell (D : va_G) (cy : Nat → ClassId) (k n : Nat) (r : Nat → Nat) (z : Nat → Int) (a : Nat) (H : Heap) : Prop :=
  if k < 12 then t_OB a (D.1 (k - 1)) (q_nf k) (D.2 (k - 1)) H (fun j => q_fv (q_ty k j) (r j) (z j))
  else H[a]? = some (arrV (cy k) n (fun j => q_fv (q_ty k j) (r j) (z j)))
def q_R (B : Nat) (D : va_G) (cy : Nat → ClassId) (S : q_S) (R : q_HR) (I : q_HI) (H : Heap) : Prop :=
  (H.size = S.2.2 ∧ ∀ a, S.2.1 a < 2147483648) ∧ ∀ a, S.1 a ≠ 0 → B ≤ a ∧ q_cell D cy (S.1 a) (S.2.1 a) (R a) (I a) a H
theorem q_cell.lt {D : va_G} {cy : Nat → ClassId} {k n : Nat} {r : Nat → Nat} {z : Nat → Int} {a : Nat} {H : Heap} (h : q_cell D cy k n r z a H) : a < H.size := by
  unfold q_cell at h
  split at h
  · obtain ⟨cell, h2, -⟩ := h
    exact (Array.getElem?_eq_some_iff.mp h2).1
  · exact (Array.getElem?_eq_some_iff.mp h).1
theorem q_cell.kept {D : va_G} {cy : Nat → ClassId} {k n : Nat} {r : Nat → Nat} {z : Nat → Int} {a : Nat} {H H1 : Heap} (h : q_cell D cy k n r z a H) (hq : H1[a]? = H[a]?) : q_cell D cy k n r z a H1 := by
  unfold q_cell at h ⊢
  split at h
  · next hk => rw [if_pos hk]; exact h.kept hq
  · next hk => rw [if_neg hk]; exact hq.trans h
/-! THE STATIC WORLD: the tables' words, the classes -/
def q_ok (w : Cond) : Bool := match w with
  | .fieldLinkNest _ _ _ _ _ _ => true
  | .methodLinkNest _ _ _ _ => true
  | w => goodWord w
def q_tys (cy : Nat → ClassId) : List (ClassId × FieldType) := [(cy 12, .int), (cy 13, .long), (cy 14, .boolean), (cy 15, .object "SensorArray$Group"), (cy 16, .object "SensorArray$Measurement"), (cy 17, .array .int)]
def q_AA (U : State) : Prop := (Cond.arrayOver (.array .int)).before #[] U = true
def q_K (D : va_G) (cy : Nat → ClassId) (U : State) : Prop :=
  (∀ w ∈ lw_tbl, q_ok w = true → va_Nw w U) ∧ va_K D vwCl (q_tys cy) U ∧ va_AO "SensorArray$Group" U ∧ va_AO "SensorArray$Measurement" U ∧ q_AA U
theorem q_ok_warm {w : Cond} {s U : State} (hW : s.WarmedH U.vm) (h : q_ok w = true) (hs : va_Nw w s) : va_Nw w U := by
  unfold q_ok at h
  split at h
  · exact va_Nw.warmF hW hs
  · exact va_Nw.warmM hW hs
  · exact word_at hW (good_of_word h) hs
theorem q_AA.moved {u U : State} (hvm : u.vm.Alike U.vm) (h : q_AA u) : q_AA U := by
  obtain ⟨comp, c, k, h1, h2, h3, h4, h5⟩ := arrayOverA_spec h
  obtain ⟨k', hk', he⟩ := hvm.2.2 _ _ h3
  have hi : (U.vm.classes.findIdx? fun (x : Class) => match x.kind with | .array component _ => component == comp | _ => false) = some c := by
    rw [hvm.findIdx?_eq _ (fun _ => rfl)]
    exact h2
  have hkind : k'.kind = .array comp (.array .int) := by rw [he]; exact h4
  have f1 : U.vm.findClass (FieldType.array .int).toString = some comp := by rw [hvm.findClass]; exact h1
  have f2 : U.vm.findClass ("[" ++ (FieldType.array .int).toString) = some c := by rw [hvm.findClass]; exact h5
  unfold q_AA Cond.before Cond.holds
  simp only [Cond.value]
  rw [f1, Option.bind_some]
  refine (congrArg (fun o : Option Nat => (o.bind (fun c => (U.vm.classes[c]?).map fun (k : Class) => match k.kind with | .array _ ty => decide (ty = FieldType.array .int) && decide (U.vm.findClass ("[" ++ (FieldType.array .int).toString) = some c) | _ => false) == some true)) hi).trans ?_
  simp [hk', hkind, f2]
theorem q_K.warm {D : va_G} {cy : Nat → ClassId} {s U : State} (hW : s.WarmedH U.vm) (h : q_K D cy s) : q_K D cy U :=
  ⟨fun w hw ho => q_ok_warm hW ho (h.1 w hw ho), va_K.moved hW.alike h.2.1, va_AO.moved hW.alike h.2.2.1, va_AO.moved hW.alike h.2.2.2.1, q_AA.moved hW.alike h.2.2.2.2⟩
/-- a word of the tables, at any arguments -/
theorem q_K.use {D : va_G} {cy : Nat → ClassId} {U : State} {w : Cond} (h : q_K D cy U) (hw : w ∈ lw_tbl) (ho : q_ok w = true) (A : Array Value) : w.before A U = true := by
  have h1 := h.1 w hw ho
  unfold q_ok at ho
  split at ho
  · exact va_Nw.use rfl h1
  · exact va_Nw.use rfl h1
  · exact word_at (State.WarmedH.refl U) (good_of_word ho) h1
