def lC (p : Program) (s : State) (m : MethodId) (meth : Method) (c : Code) (D : va_G) (ca : Nat → ClassId) (ad0 ad1 : Nat → Nat) (b L : Nat) (xs : Nat → Int32) : Prop :=
  lw_At p s m meth c b L xs ∧ gK D ca s ∧ gI ad0 91 LC ∧ gI ad1 26 LM ∧ (∀ i j, i < 91 → j < 26 → ad0 i ≠ ad1 j) ∧ (∀ i, i < 91 → s.heap.size ≤ ad0 i) ∧ ∀ j, j < 26 → s.heap.size ≤ ad1 j
def GL (p : Program) (l : Launch) (e : Env) (s : State) (m : MethodId) (below : List Frame) (meth : Method) (c : Code) (D : va_G) (ca : Nat → ClassId) (ad0 ad1 : Nat → Nat) (b : Nat) (pc : Nat) (x3 : Int32) (st : List Value) (σ τ : St) : Prop :=
  ∀ (H : Heap) (locs : List Loc) (la : Array Slot), va_P D vwCl (gW ad0 ca 91 LC σ) H → va_P D vwCl (gW ad1 ca 26 LM τ) H → va_S (fun q : Nat => s.heap.size ≤ q) s.heap H locs → lv_has la 4 [(0, .ref b), (1, .ref (ad0 0)), (2, .ref (ad1 0)), (3, .int x3)] → W p l e room_1 s m #[Value.ref b] below meth c H locs 600000 7302250 (lw_Z below #[Value.ref b] s) (F0 m pc la st)
section LR
variable {p : Program} {l : Launch} {e : Env} {s : State} {m : MethodId} {below : List Frame} {meth : Method} {c : Code} {D : va_G} {ca : Nat → ClassId} {ad0 ad1 : Nat → Nat} {b L : Nat} {xs : Nat → Int32} {pc : Nat} {x3 : Int32} {st : List Value} {σ τ : St}
theorem l_iadd (C : lC p s m meth c D ca ad0 ad1 b L xs) {x y : Int32} (hd : decode code pc = .ok (.iadd, 1)) (k : GL p l e s m below meth c D ca ad0 ad1 b (pc + 1) x3 (.int (x + y) :: st) σ τ) : GL p l e s m below meth c D ca ad0 ad1 b pc x3 (.int y :: .int x :: st) σ τ :=
  fun H locs la hP hR hS hl => lv_iadd C.1.1 C.1.2.1 hd (k H locs la hP hR hS hl)
theorem l_isub (C : lC p s m meth c D ca ad0 ad1 b L xs) {x y : Int32} (hd : decode code pc = .ok (.isub, 1)) (k : GL p l e s m below meth c D ca ad0 ad1 b (pc + 1) x3 (.int (x - y) :: st) σ τ) : GL p l e s m below meth c D ca ad0 ad1 b pc x3 (.int y :: .int x :: st) σ τ :=
  fun H locs la hP hR hS hl => lv_isub C.1.1 C.1.2.1 hd (k H locs la hP hR hS hl)
theorem l_iand (C : lC p s m meth c D ca ad0 ad1 b L xs) {x y : Int32} (hd : decode code pc = .ok (.iand, 1)) (k : GL p l e s m below meth c D ca ad0 ad1 b (pc + 1) x3 (.int (x &&& y) :: st) σ τ) : GL p l e s m below meth c D ca ad0 ad1 b pc x3 (.int y :: .int x :: st) σ τ :=
  fun H locs la hP hR hS hl => lv_iand C.1.1 C.1.2.1 hd (k H locs la hP hR hS hl)
theorem l_land (C : lC p s m meth c D ca ad0 ad1 b L xs) {x y : Int64} (hd : decode code pc = .ok (.land, 1)) (k : GL p l e s m below meth c D ca ad0 ad1 b (pc + 1) x3 (.long (x &&& y) :: st) σ τ) : GL p l e s m below meth c D ca ad0 ad1 b pc x3 (.long y :: .long x :: st) σ τ :=
  fun H locs la hP hR hS hl => lv_land C.1.1 C.1.2.1 hd (k H locs la hP hR hS hl)
theorem l_lor (C : lC p s m meth c D ca ad0 ad1 b L xs) {x y : Int64} (hd : decode code pc = .ok (.lor, 1)) (k : GL p l e s m below meth c D ca ad0 ad1 b (pc + 1) x3 (.long (x ||| y) :: st) σ τ) : GL p l e s m below meth c D ca ad0 ad1 b pc x3 (.long y :: .long x :: st) σ τ :=
  fun H locs la hP hR hS hl => lv_lor C.1.1 C.1.2.1 hd (k H locs la hP hR hS hl)
theorem l_lshl (C : lC p s m meth c D ca ad0 ad1 b L xs) {x : Int64} {y : Int32} (hd : decode code pc = .ok (.lshl, 1)) (k : GL p l e s m below meth c D ca ad0 ad1 b (pc + 1) x3 (.long (x <<< (y.toInt64 &&& 63)) :: st) σ τ) : GL p l e s m below meth c D ca ad0 ad1 b pc x3 (.int y :: .long x :: st) σ τ :=
  fun H locs la hP hR hS hl => lv_lshl C.1.1 C.1.2.1 hd rfl (k H locs la hP hR hS hl)
theorem l_i2l (C : lC p s m meth c D ca ad0 ad1 b L xs) {x : Int32} (hd : decode code pc = .ok (.i2l, 1)) (k : GL p l e s m below meth c D ca ad0 ad1 b (pc + 1) x3 (.long x.toInt64 :: st) σ τ) : GL p l e s m below meth c D ca ad0 ad1 b pc x3 (.int x :: st) σ τ :=
  fun H locs la hP hR hS hl => lv_i2l C.1.1 C.1.2.1 hd rfl (k H locs la hP hR hS hl)
theorem l_iconst (C : lC p s m meth c D ca ad0 ad1 b L xs) {n : Int} (v : Int32) (hd : decode code pc = .ok (.iconst n, 1)) (hv : Int32.ofInt n = v) (k : GL p l e s m below meth c D ca ad0 ad1 b (pc + 1) x3 (.int v :: st) σ τ) : GL p l e s m below meth c D ca ad0 ad1 b pc x3 st σ τ :=
  fun H locs la hP hR hS hl => lv_iconst C.1.1 C.1.2.1 hd hv (k H locs la hP hR hS hl)
theorem l_bipush (C : lC p s m meth c D ca ad0 ad1 b L xs) {n : Int} (v : Int32) (hd : decode code pc = .ok (.bipush n, 2)) (hv : (Int8.ofInt n).toInt32 = v) (k : GL p l e s m below meth c D ca ad0 ad1 b (pc + 2) x3 (.int v :: st) σ τ) : GL p l e s m below meth c D ca ad0 ad1 b pc x3 st σ τ :=
  fun H locs la hP hR hS hl => lv_bipush C.1.1 C.1.2.1 hd hv (k H locs la hP hR hS hl)
theorem l_ldc2 (C : lC p s m meth c D ca ad0 ad1 b L xs) {i : Nat} (v : Int64) (hw : Cond.constantLong RL i v ∈ lw_tbl) (hd : decode code pc = .ok (.ldc2_w i, 3)) (k : GL p l e s m below meth c D ca ad0 ad1 b (pc + 3) x3 (.long v :: st) σ τ) : GL p l e s m below meth c D ca ad0 ad1 b pc x3 st σ τ :=
  fun H locs la hP hR hS hl => lv_ldc2 (own := RL) C.1.1 C.1.2.1 C.1.2.2.2.2.1 (C.1.2.2.2.2.2.1 _ hw) hd (k H locs la hP hR hS hl)
theorem l_iload (C : lC p s m meth c D ca ad0 ad1 b L xs) (hd : decode code pc = .ok (.iload_n 3, 1)) (k : GL p l e s m below meth c D ca ad0 ad1 b (pc + 1) x3 (.int x3 :: st) σ τ) : GL p l e s m below meth c D ca ad0 ad1 b pc x3 st σ τ :=
  fun H locs la hP hR hS hl => lv_iload_n C.1.1 C.1.2.1 hd rfl (lv_at hl 3 rfl) (k H locs la hP hR hS hl)
theorem l_aload0 (C : lC p s m meth c D ca ad0 ad1 b L xs) (hd : decode code pc = .ok (.aload_n 0, 1)) (k : GL p l e s m below meth c D ca ad0 ad1 b (pc + 1) x3 (.ref b :: st) σ τ) : GL p l e s m below meth c D ca ad0 ad1 b pc x3 st σ τ :=
  fun H locs la hP hR hS hl => lv_aload_n C.1.1 C.1.2.1 hd rfl (lv_at hl 0 rfl) (k H locs la hP hR hS hl)
theorem l_aload1 (C : lC p s m meth c D ca ad0 ad1 b L xs) (hd : decode code pc = .ok (.aload_n 1, 1)) (k : GL p l e s m below meth c D ca ad0 ad1 b (pc + 1) x3 (.ref (ad0 0) :: st) σ τ) : GL p l e s m below meth c D ca ad0 ad1 b pc x3 st σ τ :=
  fun H locs la hP hR hS hl => lv_aload_n C.1.1 C.1.2.1 hd rfl (lv_at hl 1 rfl) (k H locs la hP hR hS hl)
theorem l_aload2 (C : lC p s m meth c D ca ad0 ad1 b L xs) (hd : decode code pc = .ok (.aload_n 2, 1)) (k : GL p l e s m below meth c D ca ad0 ad1 b (pc + 1) x3 (.ref (ad1 0) :: st) σ τ) : GL p l e s m below meth c D ca ad0 ad1 b pc x3 st σ τ :=
  fun H locs la hP hR hS hl => lv_aload_n C.1.1 C.1.2.1 hd rfl (lv_at hl 2 rfl) (k H locs la hP hR hS hl)
theorem l_bA (C : lC p s m meth c D ca ad0 ad1 b L xs) : ¬ (fun q : Nat => s.heap.size ≤ q) b := Nat.not_le.mpr C.1.2.2.2.2.2.2.2.1
theorem l_sld (C : lC p s m meth c D ca ad0 ad1 b L xs) {i : Int32} (hin : vp_in i L) (hd : decode code pc = .ok (.iaload, 1)) (k : GL p l e s m below meth c D ca ad0 ad1 b (pc + 1) x3 (.int (xs i.toNatClampNeg) :: st) σ τ) : GL p l e s m below meth c D ca ad0 ad1 b pc x3 (.int i :: .ref b :: st) σ τ :=
  fun H locs la hP hR hS hl => va_sld C.1.1 C.1.2.1 C.1.2.2.2.2.2.2.1 C.1.2.2.2.2.2.2.2.1 (l_bA C) hS hin hd (k H locs la hP hR hS hl)
theorem l_slen (C : lC p s m meth c D ca ad0 ad1 b L xs) (hd : decode code pc = .ok (.arraylength, 1)) (k : GL p l e s m below meth c D ca ad0 ad1 b (pc + 1) x3 (.int (nI L) :: st) σ τ) : GL p l e s m below meth c D ca ad0 ad1 b pc x3 (.ref b :: st) σ τ :=
  fun H locs la hP hR hS hl => va_slen C.1.1 C.1.2.1 C.1.2.2.2.2.2.2.1 C.1.2.2.2.2.2.2.2.1 (l_bA C) hS hd (k H locs la hP hR hS hl)
theorem l_icmp_gt (C : lC p s m meth c D ca ad0 ad1 b L xs) {x y : Int32} {off : Int} (tgt : Nat) (hd : decode code pc = .ok (.if_icmp .gt off, 3)) (ht : (pc : Int) + off = (tgt : Int)) (kt : y < x → GL p l e s m below meth c D ca ad0 ad1 b tgt x3 st σ τ) (kf : ¬ y < x → GL p l e s m below meth c D ca ad0 ad1 b (pc + 3) x3 st σ τ) : GL p l e s m below meth c D ca ad0 ad1 b pc x3 (.int y :: .int x :: st) σ τ :=
  fun H locs la hP hR hS hl => lv_icmp_gt C.1.1 C.1.2.1 hd ht (fun q => kt q H locs la hP hR hS hl) (fun q => kf q H locs la hP hR hS hl)
theorem l_eqI (C : lC p s m meth c D ca ad0 ad1 b L xs) {x : Int32} {off : Int} (tgt : Nat) (hd : decode code pc = .ok (.if_icmp .eq off, 3)) (ht : (pc : Int) + off = (tgt : Int)) (k : GL p l e s m below meth c D ca ad0 ad1 b tgt x3 st σ τ) : GL p l e s m below meth c D ca ad0 ad1 b pc x3 (.int x :: .int x :: st) σ τ :=
  fun H locs la hP hR hS hl => lv_icmp_eq C.1.1 C.1.2.1 hd ht (fun _ => k H locs la hP hR hS hl) (fun q => absurd rfl q)
theorem l_eqL (C : lC p s m meth c D ca ad0 ad1 b L xs) {x : Int64} {off : Int} (tgt : Nat) (hd0 : decode code pc = .ok (.lcmp, 1)) (hd : decode code (pc + 1) = .ok (.ifCond .eq off, 3)) (ht : ((pc + 1 : Nat) : Int) + off = (tgt : Int)) (k : GL p l e s m below meth c D ca ad0 ad1 b tgt x3 st σ τ) : GL p l e s m below meth c D ca ad0 ad1 b pc x3 (.long x :: .long x :: st) σ τ :=
  fun H locs la hP hR hS hl => W.lcmp C.1.1 C.1.2.1 hd0 (lv_if_eq C.1.1 C.1.2.1 hd ht (fun _ => k H locs la hP hR hS hl) (fun q => absurd ((lg_cmp_eq x x).mpr rfl) q))
theorem l_goto (C : lC p s m meth c D ca ad0 ad1 b L xs) {off : Int} (tgt : Nat) (hd : decode code pc = .ok (.goto off, 3)) (ht : (pc : Int) + off = (tgt : Int)) (k : GL p l e s m below meth c D ca ad0 ad1 b tgt x3 st σ τ) : GL p l e s m below meth c D ca ad0 ad1 b pc x3 st σ τ :=
  fun H locs la hP hR hS hl => lv_goto C.1.1 C.1.2.1 hd ht (k H locs la hP hR hS hl)
theorem l_iinc (C : lC p s m meth c D ca ad0 ad1 b L xs) (hd : decode code pc = .ok (.iinc 3 6, 3)) (k : GL p l e s m below meth c D ca ad0 ad1 b (pc + 3) (x3 + 6) st σ τ) : GL p l e s m below meth c D ca ad0 ad1 b pc x3 st σ τ :=
  fun H locs la hP hR hS hl => lv_iinc (v := x3 + 6) (lv' := [(3, .int (x3 + 6)), (0, .ref b), (1, .ref (ad0 0)), (2, .ref (ad1 0))]) (k := 3) C.1.1 C.1.2.1 hd hl rfl rfl (by decide) rfl (fun la' hl' => k H locs la' hP hR hS (lv_sub hl' [1, 2, 3, 0] rfl))
theorem l_tableIn (C : lC p s m meth c D ca ad0 ad1 b L xs) {dflt lo hi : Int} {offs : Array Int} {len : Nat} {x : Int32} {off : Int} (tgt : Nat) (hd : decode code pc = .ok (.tableswitch dflt lo hi offs, len)) (h1 : ¬ x.toInt < lo) (h2 : ¬ hi < x.toInt) (ho : offs[(x.toInt - lo).toNat]? = some off) (ht : (pc : Int) + off = (tgt : Int)) (k : GL p l e s m below meth c D ca ad0 ad1 b tgt x3 st σ τ) : GL p l e s m below meth c D ca ad0 ad1 b pc x3 (.int x :: st) σ τ :=
  fun H locs la hP hR hS hl => lv_tableIn C.1.1 C.1.2.1 hd h1 h2 ho ht (k H locs la hP hR hS hl)
theorem l_tableOut (C : lC p s m meth c D ca ad0 ad1 b L xs) {dflt lo hi : Int} {offs : Array Int} {len : Nat} {x : Int32} (tgt : Nat) (hd : decode code pc = .ok (.tableswitch dflt lo hi offs, len)) (h : x.toInt < lo ∨ hi < x.toInt) (ht : (pc : Int) + dflt = (tgt : Int)) (k : GL p l e s m below meth c D ca ad0 ad1 b tgt x3 st σ τ) : GL p l e s m below meth c D ca ad0 ad1 b pc x3 (.int x :: st) σ τ :=
  fun H locs la hP hR hS hl => lv_tableOut C.1.1 C.1.2.1 hd h ht (k H locs la hP hR hS hl)
theorem l_ret (C : lC p s m meth c D ca ad0 ad1 b L xs) (hd : decode code pc = .ok (.ireturn, 1)) : GL p l e s m below meth c D ca ad0 ad1 b pc x3 [.int 1] σ τ := by
  intro H locs la hP hR hS hl
  refine va_forget (fun q hq => hS.2.2 q hq) ?_
  exact lw_ret C.1.1 C.1.2.1 C.1.2.2.1 C.1.2.2.2.2.2.2.2.2.1 hd
theorem gW_kept {ad : Nat → Nat} {N : Nat} {Ly : Nat → Nat} {σ : St} {H H1 : Heap} (h : va_P D vwCl (gW ad ca N Ly σ) H) (hq : ∀ k, k < N → H1[ad k]? = H[ad k]?) : va_P D vwCl (gW ad ca N Ly σ) H1 := by
  intro k q hk
  have hN : k < N := by
    have := (List.getElem?_eq_some_iff.mp hk).1
    simpa [gW] using this
  have hk2 := hk
  rw [gW_get hN] at hk2
  cases hk2
  exact (h k _ hk).kept (hq k hN)
theorem l_run {rv : Option Value} {ad : Nat → Nat} {N : Nat} {Ly : Nat → Nat} {ρ : St} {a : Array Value} {H : Heap} {locs : List Loc} {la : Array Slot} {st0 : List Value} {Q : State → Prop} (hr : va_Run p l e room_1 s m #[Value.ref b] below meth c H locs 600000 7302250 0 0 (F0 m pc la st0) st (gQ D ca ad N Ly rv ρ a) (gA ad N)) (hS : va_S (fun q : Nat => s.heap.size ≤ q) s.heap H locs) (hA : ∀ k, k < N → s.heap.size ≤ ad k)
    (kk : ∀ (H1 : Heap) (locs1 : List Loc), va_P D vwCl (gW ad ca N Ly ρ) H1 → (∀ q : Nat, q < H.size → ¬ gA ad N q → H1[q]? = H[q]?) → va_S (fun q : Nat => s.heap.size ≤ q) s.heap H1 locs1 → W p l e room_1 s m #[Value.ref b] below meth c H1 locs1 600000 7302250 Q (F0 m (pc + 3) la (rv.toList ++ st))) : W p l e room_1 s m #[Value.ref b] below meth c H locs 600000 7302250 Q (F0 m pc la st0) := by
  intro T hT X
  obtain ⟨v, st₀, t, T', Lc, h0, X', hL, e1, e2, ⟨h4, h5, h6⟩, stp⟩ := hr T hT X
  obtain rfl : v = rv := by cases h4; rfl
  obtain ⟨z1, z2⟩ := h6
  rw [h0] at z1 z2
  have hS' : va_S (fun q : Nat => s.heap.size ≤ q) s.heap T'.heap (locs ++ Lc) := by
    refine ⟨Nat.le_trans hS.1 (by rw [e1]; exact z1), fun q a1 a2 => ?_, fun q hq => ?_⟩
    · rw [e1, z2 q (Nat.lt_of_lt_of_le a1 hS.1) (fun ⟨k, k1, k2⟩ => a2 (by rw [k2]; exact hA k k1))]
      exact hS.2.1 q a1 a2
    · rcases List.mem_append.mp hq with h | h
      · exact hS.2.2 q h
      · obtain ⟨k, k1, k2⟩ := hL q h
        show s.heap.size ≤ q.base
        rw [k2]; exact hA k k1
  obtain ⟨t2, a1, b1⟩ := kk T'.heap (locs ++ Lc) (by rw [e1]; exact h5) (fun q q1 q2 => by rw [e1]; exact z2 q q1 q2) hS' T' rfl X'
  exact ⟨t2, stp t2 a1, b1⟩
theorem l_hts (C : lC p s m meth c D ca ad0 ad1 b L xs) : ∀ w ∈ gtb, w.before #[Value.ref b] s = true := fun w hw => C.1.2.2.2.2.2.1 w (gtb_in hw)
theorem l_callCI (C : lC p s m meth c D ca ad0 ad1 b L xs) {y : MethodName} {bytes : ByteArray} {mL n i : Nat} {ry : Option FieldType} {rm : Room} {st0 : List Value} {r : Int32} {ρ : St} (As : List Value) (q : okV RL i RX7 y bytes mL ry n) (hM : gM l D ca ad0 91 LC y bytes mL ry rm (.ref 0 :: As) σ (some (.int r)) ρ) (hAs : As.map (tv ad0) = As) (hst : st0 = As.reverse ++ .ref (ad0 0) :: st) (hn : As.length = n) (hrm : rm.cells = 0 ∧ rm.slots = 0) (hR0 : rm.frames + 1 ≤ room_1.frames ∧ 8 + (mL + 11) + rm.locals ≤ room_1.locals) (h8 : (st.map (fun v => v.category)).sum ≤ 8) (hd : decode code pc = .ok (.invokevirtual i, 3)) (k : GL p l e s m below meth c D ca ad0 ad1 b (pc + 3) x3 (.int r :: st) ρ τ) : GL p l e s m below meth c D ca ad0 ad1 b pc x3 st0 σ τ := by
  intro H locs la hP hR hS hl
  obtain ⟨q1, q2, q3, q4, q5, q6, q7, q8⟩ := q
  subst hst
  refine l_run (rv := (some (.int r))) (ρ := ρ) (a := (Value.ref (ad0 0) :: As).toArray) (ad := ad0) (N := 91) (Ly := LC) (st := st) ?_ hS C.2.2.2.2.2.1 (fun H1 locs1 hP1 hkq hS1 => k H1 locs1 la hP1 (gW_kept hR (fun k hk => hkq (ad1 k) (va_at.lt (hR k _ (gW_get hk))) (fun ⟨z, z1, z2⟩ => C.2.2.2.2.1 z k z1 hk z2.symm))) hS1 hl)
  unfold gM at hM
  rw [List.map_cons, hAs] at hM
  exact va_runV (Ts := gtb) (own := RL) (As := As) (rest := st) (C := RX7) (b := ad0 0) (index := i) (n := n) (bytes := bytes) (maxL := mL) (ret := ry) ⟨C.1.1, C.1.2.1, C.1.2.2.2.1, C.1.2.2.2.2.1, l_hts C⟩ hM ⟨callB_of n (l_hts C) (gd_in q5) rfl hrm.1 hrm.2 (l_hts C _ q4) (l_hts C _ q1) ⟨q6, q7, q8⟩ hR0, l_hts C _ q2, l_hts C _ q3⟩ ⟨gPc_blind, va_recv (q := (RX7, TX7, 13)) C.2.1.1 hP rfl (gW_obj (cd := 7) rfl (by decide) C.2.2.1), fun U hU hW => ⟨rfl, by rw [hU]; exact hP, gK_warm hW C.2.1, C.2.2.1⟩⟩ rfl hn hl.1 rfl (lv_room h8) hd ⟨Nat.le_refl _, Nat.le_refl _⟩
theorem l_callCL (C : lC p s m meth c D ca ad0 ad1 b L xs) {y : MethodName} {bytes : ByteArray} {mL n i : Nat} {ry : Option FieldType} {rm : Room} {st0 : List Value} {r : Int64} {ρ : St} (As : List Value) (q : okV RL i RX7 y bytes mL ry n) (hM : gM l D ca ad0 91 LC y bytes mL ry rm (.ref 0 :: As) σ (some (.long r)) ρ) (hAs : As.map (tv ad0) = As) (hst : st0 = As.reverse ++ .ref (ad0 0) :: st) (hn : As.length = n) (hrm : rm.cells = 0 ∧ rm.slots = 0) (hR0 : rm.frames + 1 ≤ room_1.frames ∧ 8 + (mL + 11) + rm.locals ≤ room_1.locals) (h8 : (st.map (fun v => v.category)).sum ≤ 8) (hd : decode code pc = .ok (.invokevirtual i, 3)) (k : GL p l e s m below meth c D ca ad0 ad1 b (pc + 3) x3 (.long r :: st) ρ τ) : GL p l e s m below meth c D ca ad0 ad1 b pc x3 st0 σ τ := by
  intro H locs la hP hR hS hl
  obtain ⟨q1, q2, q3, q4, q5, q6, q7, q8⟩ := q
  subst hst
  refine l_run (rv := (some (.long r))) (ρ := ρ) (a := (Value.ref (ad0 0) :: As).toArray) (ad := ad0) (N := 91) (Ly := LC) (st := st) ?_ hS C.2.2.2.2.2.1 (fun H1 locs1 hP1 hkq hS1 => k H1 locs1 la hP1 (gW_kept hR (fun k hk => hkq (ad1 k) (va_at.lt (hR k _ (gW_get hk))) (fun ⟨z, z1, z2⟩ => C.2.2.2.2.1 z k z1 hk z2.symm))) hS1 hl)
  unfold gM at hM
  rw [List.map_cons, hAs] at hM
  exact va_runV (Ts := gtb) (own := RL) (As := As) (rest := st) (C := RX7) (b := ad0 0) (index := i) (n := n) (bytes := bytes) (maxL := mL) (ret := ry) ⟨C.1.1, C.1.2.1, C.1.2.2.2.1, C.1.2.2.2.2.1, l_hts C⟩ hM ⟨callB_of n (l_hts C) (gd_in q5) rfl hrm.1 hrm.2 (l_hts C _ q4) (l_hts C _ q1) ⟨q6, q7, q8⟩ hR0, l_hts C _ q2, l_hts C _ q3⟩ ⟨gPc_blind, va_recv (q := (RX7, TX7, 13)) C.2.1.1 hP rfl (gW_obj (cd := 7) rfl (by decide) C.2.2.1), fun U hU hW => ⟨rfl, by rw [hU]; exact hP, gK_warm hW C.2.1, C.2.2.1⟩⟩ rfl hn hl.1 rfl (lv_room h8) hd ⟨Nat.le_refl _, Nat.le_refl _⟩
theorem l_callMI (C : lC p s m meth c D ca ad0 ad1 b L xs) {y : MethodName} {bytes : ByteArray} {mL n i : Nat} {ry : Option FieldType} {rm : Room} {st0 : List Value} {r : Int32} {ρ : St} (As : List Value) (q : okV RL i RX8 y bytes mL ry n) (hM : gM l D ca ad1 26 LM y bytes mL ry rm (.ref 0 :: As) τ (some (.int r)) ρ) (hAs : As.map (tv ad1) = As) (hst : st0 = As.reverse ++ .ref (ad1 0) :: st) (hn : As.length = n) (hrm : rm.cells = 0 ∧ rm.slots = 0) (hR0 : rm.frames + 1 ≤ room_1.frames ∧ 8 + (mL + 11) + rm.locals ≤ room_1.locals) (h8 : (st.map (fun v => v.category)).sum ≤ 8) (hd : decode code pc = .ok (.invokevirtual i, 3)) (k : GL p l e s m below meth c D ca ad0 ad1 b (pc + 3) x3 (.int r :: st) σ ρ) : GL p l e s m below meth c D ca ad0 ad1 b pc x3 st0 σ τ := by
  intro H locs la hP hR hS hl
  obtain ⟨q1, q2, q3, q4, q5, q6, q7, q8⟩ := q
  subst hst
  refine l_run (rv := (some (.int r))) (ρ := ρ) (a := (Value.ref (ad1 0) :: As).toArray) (ad := ad1) (N := 26) (Ly := LM) (st := st) ?_ hS C.2.2.2.2.2.2 (fun H1 locs1 hP1 hkq hS1 => k H1 locs1 la (gW_kept hP (fun k hk => hkq (ad0 k) (va_at.lt (hP k _ (gW_get hk))) (fun ⟨z, z1, z2⟩ => C.2.2.2.2.1 k z hk z1 z2))) hP1 hS1 hl)
  unfold gM at hM
  rw [List.map_cons, hAs] at hM
  exact va_runV (Ts := gtb) (own := RL) (As := As) (rest := st) (C := RX8) (b := ad1 0) (index := i) (n := n) (bytes := bytes) (maxL := mL) (ret := ry) ⟨C.1.1, C.1.2.1, C.1.2.2.2.1, C.1.2.2.2.2.1, l_hts C⟩ hM ⟨callB_of n (l_hts C) (gd_in q5) rfl hrm.1 hrm.2 (l_hts C _ q4) (l_hts C _ q1) ⟨q6, q7, q8⟩ hR0, l_hts C _ q2, l_hts C _ q3⟩ ⟨gPc_blind, va_recv (q := (RX8, TX8, 37)) C.2.1.1 hR rfl (gW_obj (cd := 8) rfl (by decide) C.2.2.2.1), fun U hU hW => ⟨rfl, by rw [hU]; exact hR, gK_warm hW C.2.1, C.2.2.2.1⟩⟩ rfl hn hl.1 rfl (lv_room h8) hd ⟨Nat.le_refl _, Nat.le_refl _⟩
theorem l_callML (C : lC p s m meth c D ca ad0 ad1 b L xs) {y : MethodName} {bytes : ByteArray} {mL n i : Nat} {ry : Option FieldType} {rm : Room} {st0 : List Value} {r : Int64} {ρ : St} (As : List Value) (q : okV RL i RX8 y bytes mL ry n) (hM : gM l D ca ad1 26 LM y bytes mL ry rm (.ref 0 :: As) τ (some (.long r)) ρ) (hAs : As.map (tv ad1) = As) (hst : st0 = As.reverse ++ .ref (ad1 0) :: st) (hn : As.length = n) (hrm : rm.cells = 0 ∧ rm.slots = 0) (hR0 : rm.frames + 1 ≤ room_1.frames ∧ 8 + (mL + 11) + rm.locals ≤ room_1.locals) (h8 : (st.map (fun v => v.category)).sum ≤ 8) (hd : decode code pc = .ok (.invokevirtual i, 3)) (k : GL p l e s m below meth c D ca ad0 ad1 b (pc + 3) x3 (.long r :: st) σ ρ) : GL p l e s m below meth c D ca ad0 ad1 b pc x3 st0 σ τ := by
  intro H locs la hP hR hS hl
  obtain ⟨q1, q2, q3, q4, q5, q6, q7, q8⟩ := q
  subst hst
  refine l_run (rv := (some (.long r))) (ρ := ρ) (a := (Value.ref (ad1 0) :: As).toArray) (ad := ad1) (N := 26) (Ly := LM) (st := st) ?_ hS C.2.2.2.2.2.2 (fun H1 locs1 hP1 hkq hS1 => k H1 locs1 la (gW_kept hP (fun k hk => hkq (ad0 k) (va_at.lt (hP k _ (gW_get hk))) (fun ⟨z, z1, z2⟩ => C.2.2.2.2.1 k z hk z1 z2))) hP1 hS1 hl)
  unfold gM at hM
  rw [List.map_cons, hAs] at hM
  exact va_runV (Ts := gtb) (own := RL) (As := As) (rest := st) (C := RX8) (b := ad1 0) (index := i) (n := n) (bytes := bytes) (maxL := mL) (ret := ry) ⟨C.1.1, C.1.2.1, C.1.2.2.2.1, C.1.2.2.2.2.1, l_hts C⟩ hM ⟨callB_of n (l_hts C) (gd_in q5) rfl hrm.1 hrm.2 (l_hts C _ q4) (l_hts C _ q1) ⟨q6, q7, q8⟩ hR0, l_hts C _ q2, l_hts C _ q3⟩ ⟨gPc_blind, va_recv (q := (RX8, TX8, 37)) C.2.1.1 hR rfl (gW_obj (cd := 8) rfl (by decide) C.2.2.2.1), fun U hU hW => ⟨rfl, by rw [hU]; exact hR, gK_warm hW C.2.1, C.2.2.2.1⟩⟩ rfl hn hl.1 rfl (lv_room h8) hd ⟨Nat.le_refl _, Nat.le_refl _⟩
end LR
