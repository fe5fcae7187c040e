/-! THE CLASS: least pairs, and joining -/
def z_m1 (P : Nat → Int) (m0 : Int) : Nat → Int
  | 0 => m0
  | n + 1 => if P n = -1 ∨ (z_m1 P m0 n ≠ -1 ∧ z_m1 P m0 n ≤ P n) then z_m1 P m0 n else P n
def z_m2 (P : Nat → Nat → Int) (n : Nat) : Nat → Int
  | 0 => -1
  | i + 1 => z_m1 (P i) (z_m2 P n i) n
theorem z_m1C {P : Nat → Int} {m0 : Int} : ∀ {n : Nat}, (m0 ≠ -1 → z_m1 P m0 n ≠ -1 ∧ z_m1 P m0 n ≤ m0) ∧ (∀ j, j < n → P j ≠ -1 → z_m1 P m0 n ≠ -1 ∧ z_m1 P m0 n ≤ P j) ∧ (z_m1 P m0 n = m0 ∨ ∃ j, j < n ∧ P j ≠ -1 ∧ z_m1 P m0 n = P j)
  | 0 => ⟨fun h => ⟨h, Int.le_refl _⟩, fun j hj => absurd hj (by omega), Or.inl rfl⟩
  | n + 1 => by
    obtain ⟨h1, h2, h3⟩ := z_m1C (P := P) (m0 := m0) (n := n)
    unfold z_m1
    split
    · next hc =>
      refine ⟨h1, fun j hj hp => ?_, ?_⟩
      · by_cases e : j = n
        · subst e
          rcases hc with hc | hc
          · exact absurd hc hp
          · exact hc
        · exact h2 j (by omega) hp
      · rcases h3 with h3 | ⟨j, h4, h5, h6⟩
        · exact Or.inl h3
        · exact Or.inr ⟨j, by omega, h5, h6⟩
    · next hc =>
      refine ⟨fun h => ⟨by omega, by have := h1 h; omega⟩, fun j hj hp => ⟨by omega, ?_⟩, Or.inr ⟨n, by omega, by omega, rfl⟩⟩
      by_cases e : j = n
      · subst e; exact Int.le_refl _
      · have := h2 j (by omega) hp
        omega
theorem z_m2C {P : Nat → Nat → Int} {n : Nat} : ∀ {m : Nat}, (∀ i j, i < m → j < n → P i j ≠ -1 → z_m2 P n m ≠ -1 ∧ z_m2 P n m ≤ P i j) ∧ (z_m2 P n m = -1 ∨ ∃ i j, i < m ∧ j < n ∧ P i j ≠ -1 ∧ z_m2 P n m = P i j)
  | 0 => ⟨fun i j h => absurd h (by omega), Or.inl rfl⟩
  | m + 1 => by
    obtain ⟨h1, h2⟩ := z_m2C (P := P) (n := n) (m := m)
    obtain ⟨g1, g2, g3⟩ := z_m1C (P := P m) (m0 := z_m2 P n m) (n := n)
    have e : z_m2 P n (m + 1) = z_m1 (P m) (z_m2 P n m) n := rfl
    rw [e]
    refine ⟨fun i j hi hj hp => ?_, ?_⟩
    · by_cases e : i = m
      · subst e; exact g2 j hj hp
      · have := h1 i j (by omega) hj hp
        have := g1 this.1
        omega
    · rcases g3 with g3 | ⟨j, g4, g5, g6⟩
      · rw [g3]
        rcases h2 with h2 | ⟨i, j, h3, h4, h5, h6⟩
        · exact Or.inl h2
        · exact Or.inr ⟨i, j, by omega, h4, h5, h6⟩
      · exact Or.inr ⟨m, j, by omega, g4, g5, g6⟩
theorem z_m2U {P Q : Nat → Nat → Int} {n m n' m' : Nat} (h1 : ∀ i j, i < m → j < n → P i j ≠ -1 → ∃ i' j', i' < m' ∧ j' < n' ∧ Q i' j' ≠ -1 ∧ Q i' j' ≤ P i j) (h2 : ∀ i j, i < m' → j < n' → Q i j ≠ -1 → ∃ i' j', i' < m ∧ j' < n ∧ P i' j' ≠ -1 ∧ P i' j' ≤ Q i j) : z_m2 P n m = z_m2 Q n' m' := by
  obtain ⟨p1, p2⟩ := z_m2C (P := P) (n := n) (m := m)
  obtain ⟨q1, q2⟩ := z_m2C (P := Q) (n := n') (m := m')
  rcases p2 with p2 | ⟨i, j, p3, p4, p5, p6⟩
  · rcases q2 with q2 | ⟨i', j', q3, q4, q5, q6⟩
    · rw [p2, q2]
    · obtain ⟨i, j, r1, r2, r3, r4⟩ := h2 i' j' q3 q4 q5
      exact absurd p2 (p1 i j r1 r2 r3).1
  · obtain ⟨i', j', r1, r2, r3, r4⟩ := h1 i j p3 p4 p5
    have a1 := q1 i' j' r1 r2 r3
    rcases q2 with q2 | ⟨i2, j2, q3, q4, q5, q6⟩
    · exact absurd q2 a1.1
    · obtain ⟨i3, j3, s1, s2, s3, s4⟩ := h2 i2 j2 q3 q4 q5
      have a2 := p1 i3 j3 s1 s2 s3
      omega
/-- the pairs: a distance, and the heads of its two groups, in one number -/
def z_key (d a b : Int) : Int := 100 * d + 10 * q_mn a b + q_mx a b
def z_lp (H : Nat → Int) (D : Nat → Nat → Int) (i j : Nat) : Int := if i < j ∧ H i ≠ -1 ∧ H j ≠ -1 ∧ H i ≠ H j then z_key (D i j) (H i) (H j) else -1
def z_bp (H : Nat → Int) (D : Nat → Nat → Int) : Int := z_m2 (z_lp H D) 8 8
def z_jn (H : Nat → Int) (v : Int) (i : Nat) : Int := if H i = v % 10 then v / 10 % 10 else H i
def z_hs (D : Nat → Nat → Int) (H : Nat → Int) : Nat → Nat → Int
  | 0 => H
  | k + 1 => if z_bp (z_hs D H k) D = -1 then z_hs D H k else z_jn (z_hs D H k) (z_bp (z_hs D H k) D)
def z_ok (H : Nat → Int) : Prop := ∀ i, i < 8 → H i = -1 ∨ ((0 ≤ H i ∧ H i < 8) ∧ H (H i).toNat = H i)
def z_dk (H : Nat → Int) (D : Nat → Nat → Int) : Prop := ∀ i j, i < 8 → j < 8 → H i ≠ -1 → H j ≠ -1 → 0 ≤ D i j ∧ D i j ≤ 320000000
theorem z_mm {a b : Int} : (a ≤ b ∧ q_mn a b = a ∧ q_mx a b = b) ∨ (b ≤ a ∧ q_mn a b = b ∧ q_mx a b = a) := by
  unfold q_mn q_mx
  split <;> omega
/-- the least pair: two heads, and a distance -/
theorem z_bpB {H : Nat → Int} {D : Nat → Nat → Int} (hH : z_ok H) (hD : z_dk H D) : z_bp H D = -1 ∨ (0 ≤ z_bp H D ∧ z_bp H D ≤ 32000000099 ∧ ∃ g h : Nat, g < h ∧ h < 8 ∧ H g = (g : Int) ∧ H h = (h : Int) ∧ z_bp H D % 10 = (h : Int) ∧ z_bp H D / 10 % 10 = (g : Int)) := by
  rcases (z_m2C (P := z_lp H D) (n := 8) (m := 8)).2 with h | ⟨i, j, h1, h2, h3, h4⟩
  · exact Or.inl h
  · have e : z_bp H D = z_lp H D i j := h4
    rw [e]
    unfold z_lp at h3 ⊢
    by_cases hc : i < j ∧ H i ≠ -1 ∧ H j ≠ -1 ∧ H i ≠ H j
    · rw [if_pos hc] at h3 ⊢
      obtain ⟨c1, c2, c3, c4⟩ := hc
      have d := hD i j h1 h2 c2 c3
      rcases hH i h1 with q | ⟨q1, q2⟩
      · exact absurd q c2
      rcases hH j h2 with q | ⟨q3, q4⟩
      · exact absurd q c3
      unfold z_key at h3 ⊢
      rcases z_mm (a := H i) (b := H j) with ⟨m1, m2, m3⟩ | ⟨m1, m2, m3⟩
      · rw [m2, m3] at h3 ⊢
        refine Or.inr ⟨by omega, by omega, (H i).toNat, (H j).toNat, by omega, by omega, by omega, by omega, by omega, by omega⟩
      · rw [m2, m3] at h3 ⊢
        refine Or.inr ⟨by omega, by omega, (H j).toNat, (H i).toNat, by omega, by omega, by omega, by omega, by omega, by omega⟩
    · exact absurd (if_neg hc) h3
theorem z_jnO {H : Nat → Int} {D : Nat → Nat → Int} (hH : z_ok H) (hD : z_dk H D) (hv : z_bp H D ≠ -1) : z_ok (z_jn H (z_bp H D)) ∧ z_dk (z_jn H (z_bp H D)) D ∧ ∀ i, z_jn H (z_bp H D) i = -1 ↔ H i = -1 := by
  rcases z_bpB hH hD with h | ⟨h1, h2, g, h, h3, h4, h5, h6, h7, h8⟩
  · exact absurd h hv
  have eg : ∀ i, z_jn H (z_bp H D) i = if H i = (h : Int) then (g : Int) else H i := fun i => by unfold z_jn; rw [h7, h8]
  have en : ∀ i, z_jn H (z_bp H D) i = -1 ↔ H i = -1 := fun i => by rw [eg]; split <;> omega
  refine ⟨fun i hi => ?_, fun i j hi hj n1 n2 => hD i j hi hj (fun q => n1 ((en i).2 q)) (fun q => n2 ((en j).2 q)), en⟩
  rcases hH i hi with q | ⟨q1, q2⟩
  · exact Or.inl ((en i).2 q)
  · refine Or.inr ?_
    rw [eg i]
    by_cases c : H i = (h : Int)
    · rw [if_pos c]
      refine ⟨by omega, ?_⟩
      rw [Int.toNat_natCast, eg g, if_neg (by omega)]
      exact h5
    · rw [if_neg c]
      refine ⟨q1, ?_⟩
      rw [eg, q2, if_neg c]
theorem z_hsO {H : Nat → Int} {D : Nat → Nat → Int} (hH : z_ok H) (hD : z_dk H D) : ∀ k, z_ok (z_hs D H k) ∧ z_dk (z_hs D H k) D ∧ ∀ i, z_hs D H k i = -1 ↔ H i = -1
  | 0 => ⟨hH, hD, fun _ => Iff.rfl⟩
  | k + 1 => by
    obtain ⟨h1, h2, h3⟩ := z_hsO hH hD k
    unfold z_hs
    split
    · exact ⟨h1, h2, h3⟩
    · next hv =>
      obtain ⟨g1, g2, g3⟩ := z_jnO h1 h2 hv
      exact ⟨g1, g2, fun i => (g3 i).trans (h3 i)⟩
/-! no more than eight heads, and one fewer with each joining -/
theorem z_smLt {f g : Nat → Int} : ∀ {n : Nat}, (∀ i, i < n → f i ≤ g i) → ∀ q, q < n → f q + 1 ≤ g q → z_sm f n + 1 ≤ z_sm g n
  | 0, _, q, h, _ => absurd h (by omega)
  | n + 1, h, q, hq, h1 => by
    show z_sm f n + f n + 1 ≤ z_sm g n + g n
    by_cases e : q = n
    · subst e
      have : z_sm f q ≤ z_sm g q := by
        have := z_smNN (f := fun k => g k - f k) (n := q) (fun k hk => by have := h k (by omega); show 0 ≤ g k - f k; omega)
        have e2 : ∀ n, z_sm (fun k => g k - f k) n = z_sm g n - z_sm f n := fun n => by
          induction n with
          | zero => rfl
          | succ n ih => show z_sm _ n + (g n - f n) = (z_sm g n + g n) - (z_sm f n + f n); rw [ih]; omega
        rw [e2] at this
        omega
      omega
    · have := z_smLt (n := n) (fun i hi => h i (by omega)) q (by omega) h1
      have := h n (by omega)
      omega
def z_hc (H : Nat → Int) : Int := z_sm (fun i => if H i = (i : Int) then 1 else 0) 8
theorem z_hc2 {H : Nat → Int} {g h : Nat} (h1 : g < h) (h2 : h < 8) (h3 : H g = (g : Int)) (h4 : H h = (h : Int)) : 2 ≤ z_hc H := by
  have a1 := z_smLt (f := fun i => if i = g then 0 else if H i = (i : Int) then 1 else 0) (g := fun i => if H i = (i : Int) then 1 else 0) (n := 8) (fun i _ => by split <;> split <;> omega) g (by omega) (by rw [if_pos rfl, if_pos h3]; omega)
  have a2 := z_smLt (f := fun _ => 0) (g := fun i => if i = g then 0 else if H i = (i : Int) then 1 else 0) (n := 8) (fun i _ => by split <;> (try split) <;> omega) h (by omega) (by rw [if_neg (by omega), if_pos h4]; omega)
  have a3 : z_sm (fun _ => 0) 8 = 0 := z_sm0 (fun _ _ => rfl)
  unfold z_hc
  omega
theorem z_hsEnd {H : Nat → Int} {D : Nat → Nat → Int} (hH : z_ok H) (hD : z_dk H D) : ∀ k, z_bp (z_hs D H k) D = -1 ∨ z_hc (z_hs D H k) ≤ 8 - (k : Int)
  | 0 => by
    refine Or.inr ?_
    have := z_smB (lo := 0) (hi := 1) (f := fun i => if H i = (i : Int) then 1 else 0) (n := 8) (fun i _ => by split <;> omega)
    unfold z_hc z_hs
    omega
  | k + 1 => by
    obtain ⟨h1, h2, h3⟩ := z_hsO hH hD k
    by_cases hv : z_bp (z_hs D H k) D = -1
    · have e : z_hs D H (k + 1) = z_hs D H k := by
        show (if _ then _ else _) = _
        rw [if_pos hv]
      rw [e]
      exact Or.inl hv
    · have e : z_hs D H (k + 1) = z_jn (z_hs D H k) (z_bp (z_hs D H k) D) := by
        show (if _ then _ else _) = _
        rw [if_neg hv]
      rw [e]
      refine Or.inr ?_
      rcases z_hsEnd hH hD k with q | q
      · exact absurd q hv
      rcases z_bpB h1 h2 with q' | ⟨h1', h2', g, h, h3', h4, h5, h6, h7, h8⟩
      · exact absurd q' hv
      have eg : ∀ i, z_jn (z_hs D H k) (z_bp (z_hs D H k) D) i = if z_hs D H k i = (h : Int) then (g : Int) else z_hs D H k i := fun i => by unfold z_jn; rw [h7, h8]
      have := z_smLt (f := fun i => if z_jn (z_hs D H k) (z_bp (z_hs D H k) D) i = (i : Int) then 1 else 0) (g := fun i => if z_hs D H k i = (i : Int) then 1 else 0) (n := 8) (fun i hi => by
        rw [eg i]
        by_cases c : z_hs D H k i = (h : Int)
        · rw [if_pos c]
          by_cases c2 : (g : Int) = (i : Int)
          · have : g = i := by omega
            subst this
            rw [if_pos rfl, if_pos h5]
            omega
          · rw [if_neg c2]
            split <;> omega
        · rw [if_neg c]
          omega) h h4 (by
          rw [eg h, if_pos h6, if_neg (by omega), if_pos h6]
          omega)
      unfold z_hc at q ⊢
      omega
theorem z_hs8 {H : Nat → Int} {D : Nat → Nat → Int} (hH : z_ok H) (hD : z_dk H D) : z_bp (z_hs D H 8) D = -1 := by
  rcases z_hsEnd hH hD 8 with h | h
  · exact h
  · obtain ⟨h1, h2, h3⟩ := z_hsO hH hD 8
    rcases z_bpB h1 h2 with q | ⟨_, _, g, h', h3', h4, h5, h6, _, _⟩
    · exact q
    · have := z_hc2 h3' h4 h5 h6
      omega
theorem z_hsStay {H : Nat → Int} {D : Nat → Nat → Int} {k : Nat} (h : z_bp (z_hs D H k) D = -1) : ∀ n, z_hs D H (k + n) = z_hs D H k
  | 0 => rfl
  | n + 1 => by
    have ih := z_hsStay h n
    show (if z_bp (z_hs D H (k + n)) D = -1 then z_hs D H (k + n) else z_jn (z_hs D H (k + n)) (z_bp (z_hs D H (k + n)) D)) = _
    rw [ih, if_pos h]
