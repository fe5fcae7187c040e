/-! THE LAW: from its entry -/
theorem law_main {X : q_X} {nm : String} {b L : Nat} {xs : Nat → Int32} {S0 : q_S} (hX : q_C X cL_law 4 RL ret nm) (hs : l_sc X b L xs) (hL : L ≤ 3584) (h0 : ∀ a, S0.1 a = 0) (hx : 0 < S0.2.2) (hend : ∀ (lv : List (Nat × Value)) (S : q_S) (R : q_HR) (I : q_HI) (cells slots : Nat), cells ≤ 719123 → slots ≤ 6944879 → q_V X room_1 cL_law 4 cells slots 1284 lv [.int (q_i 1)] S R I) : q_V X room_1 cL_law 4 0 0 0 [(0, .ref b)] [] S0 (fun _ _ => 0) z_I0 := by
  have cs0 : w_cs S0.2.2 S0 (fun _ _ => 0) z_I0 [] 0 [] := ⟨fun d hd => absurd hd (Nat.not_lt_zero d), rfl, rfl, fun a _ => h0 a, fun q hq => absurd hq List.not_mem_nil, fun q hq => absurd hq List.not_mem_nil, fun _ _ _ => rfl⟩
  obtain ⟨cs1, e1⟩ := cs0.new 10 0
  obtain ⟨⟨S1, R1, I1⟩, q1, cs2, c1⟩ := ct_X9 (fun _ _ => 0) cs1
  dsimp only at cs2 c1
  have n2 := cs2.nx
  obtain ⟨cs3, e3⟩ := cs2.new 11 0
  have hI := cs2.2.2.2.2.2.2
  obtain ⟨⟨S2, R2, I2⟩, q2, hS, hz, n4, r8, hD, hF⟩ := ct_X10 hx cs3 hI
  dsimp only at hS hz n4 r8 hD hF
  have hB : z_B (z_re (fun _ _ => 0) 2) := z_reB _ (by decide)
  have hJ : w_J S0.2.2 S2 R2 I2 (z_re (fun _ _ => 0) 2) := ⟨hS, hz, hB, (c1 S1).re' hB r8 hF, hD⟩
  refine v_new hX na_RL_7 (Nat.le_of_ble_eq_true rfl) (Nat.le_of_ble_eq_true rfl) dL_law_0 ?_
  rw [e1]
  refine v_dup hX dL_law_3 rfl ?_
  refine v_callI (As := []) (rest := [.ref S0.2.2]) hX mi_RL_9 (c_X9_init q1) ⟨rfl, rfl⟩ ⟨Nat.le_of_ble_eq_true rfl, Nat.le_of_ble_eq_true rfl⟩ rfl rfl (Nat.le_of_ble_eq_true rfl) ⟨Nat.le_of_ble_eq_true rfl, Nat.le_of_ble_eq_true rfl⟩ dL_law_4 ?_
  refine v_astore_n 1 (lw := [(1, .ref S0.2.2), (0, .ref b)]) hX dL_law_7 rfl (by decide) rfl ?_
  refine v_new hX na_RL_10 (Nat.le_of_ble_eq_true rfl) (Nat.le_of_ble_eq_true rfl) dL_law_8 ?_
  rw [e3]
  rw [← n2] at q2
  refine v_dup hX dL_law_11 rfl ?_
  refine v_callI (As := []) (rest := [.ref S1.2.2]) hX mi_RL_12 (c_X10_init q2) ⟨rfl, rfl⟩ ⟨Nat.le_of_ble_eq_true rfl, Nat.le_of_ble_eq_true rfl⟩ rfl rfl (Nat.le_of_ble_eq_true rfl) ⟨Nat.le_of_ble_eq_true rfl, Nat.le_of_ble_eq_true rfl⟩ dL_law_12 ?_
  rw [n2]
  refine v_astore_n 2 (lw := [(2, .ref (S0.2.2 + 171)), (1, .ref S0.2.2), (0, .ref b)]) hX dL_law_15 rfl (by decide) rfl ?_
  refine v_iconst hX dL_law_16 ?_
  refine v_istore_n 3 (lw := l_lv 0 S0.2.2 b) hX dL_law_17 rfl (by decide) rfl ?_
  exact v_cs (k := 198 + 2 * 0) (n := 2300 + 7 * 0) rfl rfl (law_loop hX hs hL hend (7 * 512) 0 S2 R2 I2 _ (by omega) (by omega) hJ)
theorem whole_start {p : Program} {e : Env} {s : State} {m : MethodId} {below : List Frame} {meth : Method} {c : Code} (l : Launch) (hflags : l.flags = flags0) {b L : Nat} {xs : Nat → Int32} (hL : L ≤ 3584) (C0 : lw_At p s m meth c b L xs) : W p l e room_1 s m #[Value.ref b] below meth c s.heap [] 0 0 (lw_Z below #[Value.ref b] s) (entryFrame m ([Value.ref b] : List Value).toArray 4) := by
  obtain ⟨hx, hb, hr, hml, hown, hts, hXs, hbl, hlocks, hgv⟩ := C0
  obtain ⟨D, cy, hK⟩ := l_K hts
  have h := law_main (X := (p, l, e, s, m, #[Value.ref b], below, meth, c, D, cy, s.heap.size, lw_Z below #[Value.ref b] s)) (nm := meth.name) (b := b) (L := L) (xs := xs) (S0 := (fun _ => 0, fun _ => 0, s.heap.size)) ⟨hx, hb, hml, hown, hK, Nat.lt_of_le_of_lt (Nat.zero_le b) hbl, hlocks, hr, rfl⟩ ⟨hXs, hbl⟩ hL (fun _ => rfl) (Nat.lt_of_le_of_lt (Nat.zero_le b) hbl) (fun lv S R I cells slots h1 h2 H locs ls hR hF hl => va_forget hF.2.2.1 (W.widen h1 h2 (lw_ret hx hb hr hlocks dL_law_1284)))
  have he := lv_entry ([.ref b]) (n := 4) (Nat.le_of_ble_eq_true rfl)
  rw [lg_entry_eq]
  exact h s.heap [] _ ⟨⟨rfl, fun _ => (by decide : (0 : Nat) < 2147483648)⟩, fun a ha => absurd rfl ha⟩ ⟨Nat.le_refl _, fun _ _ => rfl, fun _ h => (by cases h), Nat.le_refl _⟩ he
set_option maxHeartbeats 4000000 in
theorem lw_walk (l : Launch) (hflags : l.flags = flags0) (b : Addr) (xs : List Int32) : MetFree l x (headSpec (Jvm.Cond.code x code maxLocals ret :: tables_1) room_1) (lw_P b xs) (fun _ _ _ _ _ => True) lw_Q := by
  refine MetFree.of_bodyS (code := code) (maxLocals := maxLocals) (ret := ret) (by decide) ?_ ?_
  · intro args s m h hn
    obtain ⟨meth, c, h1, h2, h3, h4, h5, h6, -, -⟩ := Cond.code_spec hn (atoms_spec (ws := Jvm.Cond.code x code maxLocals ret :: tables_1) h _ List.mem_cons_self)
    exact ⟨meth, c, h1, h2, h3, h4, h5, h6⟩
  · intro p e s m args below meth c s₁ B hml0 hP _
    obtain ⟨rfl, hx, hbd, hgv⟩ := hP
    obtain ⟨scr, harrAt, hlist, hof, hsmall⟩ := hx
    obtain ⟨hcb, hkn, -, -⟩ := State.arrayAt?_spec harrAt
    have hown : s.vm.findClass R_law = some m.cls := findClass_of_methodNamed B.named
    have hts0 : ∀ c ∈ (Jvm.Cond.code x code maxLocals ret :: tables_1), c.before #[Value.ref b] s = true := atoms_spec (ws := Jvm.Cond.code x code maxLocals ret :: tables_1) B.pre
    have hts : ∀ w ∈ lw_tbl, w.before #[Value.ref b] s = true := k2_hts_sels lw_privs (fun w hw => hts0 w (List.mem_cons_of_mem _ hw)) lw_privs_ok
    have hml : c.maxLocals = 4 := B.maxLocals_eq (hts0 _ List.mem_cons_self)
    have X₀ : Stand p l e room_1 s m #[Value.ref b] below meth c s₁ [] 0 0 := Stand.of_body B
    have hh0 : s₁.heap = s.heap := by rw [B.state]; rfl
    have hsz : scr.slots.size = xs.length := by rw [← Array.length_toList, hlist, List.length_map]
    have hval : ∀ j : Nat, j < xs.length → scr.slots[j]? = some (.int (xs.getD j 0)) := fun j hj => by
      rw [← Array.getElem?_toList, hlist]
      simp [hj]
    have hbl : b < s.heap.size := (Array.getElem?_eq_some_iff.mp hcb).1
    have hX : va_X b xs.length (fun j => xs.getD j 0) s s.heap := ⟨scr, hcb, hof, hkn, hsz, hval⟩
    have K : W p l e room_1 s m #[Value.ref b] below meth c s₁.heap [] 0 0 (lw_Z below #[Value.ref b] s) (entryFrame m ([Value.ref b] : List Value).toArray 4) := by
      rw [hh0]
      exact whole_start l hflags hbd ⟨B.exec, B.bytes, B.returns, hml, hown, hts, hX, hbl, B.notSynchronized, hgv⟩
    obtain ⟨t, a1, o, b1, b2, b3⟩ := K s₁ rfl X₀
    exact ⟨t, o, a1, b1, b2, b3⟩
theorem lw_pre_spec {args : Array Value} {s : State} (h : (Jvm.Cond.and given_1 narrow_1).before args s = true) (hr : rest_1_c.before args s = true) : ∃ (b : Addr) (xs : List Int32), lw_P b xs args s := by
  have hs := flat_of_before _ h
  have hq := flat_of_before _ hr
  have hc : (Cond.count 1).before args s = true := hs _ (by decide +kernel)
  have harr : (Cond.arrayOf (.arg 0) .int).before args s = true := hs _ (by decide +kernel)
  have hle : (Cond.le (.length (.arg 0)) (.int 3584)).before args s = true := hs _ (by decide +kernel)
  have hlen : (Cond.isInt (.length (.arg 0))).before args s = true := hq _ (by decide +kernel)
  have hall : (Cond.all (.arg 0) (.isInt (.elem (.arg 0) (.index 0)))).before args s = true := hq _ (by decide +kernel)
  obtain ⟨b, xs, hb, hx⟩ := State.ints_of_pre rfl harr hlen hall
  have hsm : xs.length < 2 ^ 31 := hx.choose_spec.2.2.2
  have hev : (Term.length (.arg 0)).eval args s none [] s = some (.int xs.length.toInt32) := hx.length_eval hb
  have hv := Cond.le_ints hev (show (Term.int 3584).eval args s none [] s = some (.int 3584) from rfl)
  have hd : xs.length.toInt32 ≤ 3584 := by
    simpa [Cond.before, Cond.holds, hv] using hle
  have hN : xs.length ≤ 3584 := (Int32.ofNat_le_ofNat hsm (by decide)).mp (show Int32.ofNat xs.length ≤ Int32.ofNat 3584 from hd)
  exact ⟨b, xs, Cond.one_arg hc (show args[0]? = some (.ref b) from hb), hx, hN, h⟩
theorem lw_comes (l : Launch) (hflags : l.flags = flags0) : Comes l x (Jvm.Cond.code x code maxLocals ret :: tables_1) room_1 (fun tb e args s => Calls_1 tb e args s ∧ rest_1 tb e args s ∧ Pre_1 tb e args s)
    (fun _ _ args s o t => lw_Q args s o t) := by
  intro p e ha hc hk s m args below hf hfit hheap happ hpre
  obtain ⟨b, xs, hP⟩ := lw_pre_spec hpre.2.2 hpre.2.1
  obtain ⟨k, o, h1, h2, h3, hQ⟩ := lw_walk l hflags b xs p e ha hc hk s m args below hf ((Spec.applies_iff_loose hf).mp happ).1 hP trivial
  exact ⟨k, o, h1, h2, h3, hQ⟩
theorem lw_frame {s t : State} {o : Outcome} {args : Array Value} (h : Framed s o t [] 719123 6944879) :
    Framed s o t (fieldLocs frame_1_writes args s ++ arrayLocs frame_1_arrays args s ++ staticLocs frame_1_statics s) 719123 6944879 := h
theorem lw_limb (L : Cond) (hL : ∀ (args : Array Value) (s t : State), L.after args s (.returned (some (.int 1))) t = true) :
    ArmFor flags0 classFile x code maxLocals ret World_1 tables_1 room_1 Calls_1 rest_1 Pre_1
      (fun tb e a s o t => postC L tb e a s o t ∧ Framed s o t (fieldLocs frame_1_writes a s ++ arrayLocs frame_1_arrays a s ++ staticLocs frame_1_statics s) 719123 6944879) := by
  intro l hflags _ _ p e ha hc hk s m args below hf hfit hheap happ hpre
  obtain ⟨k, o, h1, h2, h3, rfl, hF⟩ := lw_comes l hflags p e ha hc hk s m args below hf hfit hheap happ hpre
  exact ⟨k, _, h1, h2, h3, hL args s _, lw_frame hF⟩
theorem i_vc : Claimed_1_1 ∧ Claimed_1_2 := ⟨lw_limb limb_1_1 (fun args s t => by simp [limb_1_1, Cond.after, Cond.holds, Cond.value]), lw_limb limb_1_2 (fun args s t => Cond.after_iff.mpr (by
  first | (rw [show limb_1_2 = Cond.eq .result (.int 1) from rfl, Cond.eq_ints (x := 1) (y := 1) rfl rfl]; simp; done) | (simp [limb_1_2, Cond.value, Term.eval]; done)))⟩
