section GS
variable {p : Program} {l : Launch} {e : Env} {R : Room} {s : State} {m : MethodId} {args : Array Value} {below : List Frame} {meth : Method} {c : Code} {D : va_G} {ca : Nat → ClassId} {ad : Nat → Nat} {N : Nat} {L : Nat → Nat} {own : String} {cc : ByteArray} {nL : Nat} {Q : State → Prop} {pc : Nat} {ls : List (Nat × Value)} {st : List Value} {σ : St} {cs ss : Nat}
theorem g_sub {ls' : List (Nat × Value)} (ks : List Nat) (h : lv_pick ls ks = ls') (k : GG p l e R s m args below meth c D ca ad N L nL cs ss Q pc ls' st σ) : GG p l e R s m args below meth c D ca ad N L nL cs ss Q pc ls st σ := by
  intro H locs la hP hS hl
  refine k H locs la hP hS (lv_sub hl ks ?_)
  rw [← h]
  simp only [lv_pick, List.map_filterMap]
  congr 1
  funext i
  simp
theorem g_ent {ls' : List (Nat × Value)} (h : ls = ls') (k : GG p l e R s m args below meth c D ca ad N L nL cs ss Q pc ls' st σ) : GG p l e R s m args below meth c D ca ad N L nL cs ss Q pc ls st σ := by subst h; exact k
theorem g_nmS (k : ∀ τ : St, τ = σ → GG p l e R s m args below meth c D ca ad N L nL cs ss Q pc ls st τ) : GG p l e R s m args below meth c D ca ad N L nL cs ss Q pc ls st σ := k σ rfl
theorem g_callVI {ret : Option FieldType} (C : gC p s m args meth c D ca ad N L own cc nL ret) {y : MethodName} {bytes : ByteArray} {mL n i : Nat} {ry : Option FieldType} {rm : Room} {k cd : Nat} {st0 : List Value} {τ : St} {Cn : String} {T : u_T} {Nf : Nat} {r : Int32} (As : List Value) (q : okV own i Cn y bytes mL ry n) (hM : gM l D ca ad N L y bytes mL ry rm (.ref k :: As) σ (some (.int r)) τ) (hk : L k = cd) (hc : cd < 10) (hcd : vwCl[cd]? = some (Cn, T, Nf)) (hst : st0 = As.reverse ++ .ref k :: st) (hn : As.length = n) (hrm : rm.cells = 0 ∧ rm.slots = 0) (hR : rm.frames + 1 ≤ R.frames ∧ 8 + (mL + 11) + rm.locals ≤ R.locals) (h8 : (st.map (fun v => v.category)).sum ≤ 8) (hd : decode cc pc = .ok (.invokevirtual i, 3)) (kk : G p l e R s m args below meth c D ca ad N L nL Q (pc + 3) ls (.int r :: st) τ) : G p l e R s m args below meth c D ca ad N L nL Q pc ls st0 σ :=
  g_callV C q hM hk hc hcd hst hn hrm hR h8 rfl hd kk
theorem g_callSI {ret : Option FieldType} (C : gC p s m args meth c D ca ad N L own cc nL ret) {y : MethodName} {bytes : ByteArray} {mL n i : Nat} {ry : Option FieldType} {rm : Room} {st0 : List Value} {τ : St} {r : Int32} (As : List Value) (q : okS own i y bytes mL ry n) (hM : gM l D ca ad N L y bytes mL ry rm As σ (some (.int r)) τ) (hst : st0 = As.reverse ++ st) (hn : As.length = n) (hrm : rm.cells = 0 ∧ rm.slots = 0) (hR : rm.frames + 1 ≤ R.frames ∧ 8 + (mL + 11) + rm.locals ≤ R.locals) (h8 : (st.map (fun v => v.category)).sum ≤ 8) (hd : decode cc pc = .ok (.invokestatic i, 3)) (kk : G p l e R s m args below meth c D ca ad N L nL Q (pc + 3) ls (.int r :: st) τ) : G p l e R s m args below meth c D ca ad N L nL Q pc ls st0 σ :=
  g_callS C q hM hst hn hrm hR h8 rfl hd kk
theorem g_callVL {ret : Option FieldType} (C : gC p s m args meth c D ca ad N L own cc nL ret) {y : MethodName} {bytes : ByteArray} {mL n i : Nat} {ry : Option FieldType} {rm : Room} {k cd : Nat} {st0 : List Value} {τ : St} {Cn : String} {T : u_T} {Nf : Nat} {r : Int64} (As : List Value) (q : okV own i Cn y bytes mL ry n) (hM : gM l D ca ad N L y bytes mL ry rm (.ref k :: As) σ (some (.long r)) τ) (hk : L k = cd) (hc : cd < 10) (hcd : vwCl[cd]? = some (Cn, T, Nf)) (hst : st0 = As.reverse ++ .ref k :: st) (hn : As.length = n) (hrm : rm.cells = 0 ∧ rm.slots = 0) (hR : rm.frames + 1 ≤ R.frames ∧ 8 + (mL + 11) + rm.locals ≤ R.locals) (h8 : (st.map (fun v => v.category)).sum ≤ 8) (hd : decode cc pc = .ok (.invokevirtual i, 3)) (kk : G p l e R s m args below meth c D ca ad N L nL Q (pc + 3) ls (.long r :: st) τ) : G p l e R s m args below meth c D ca ad N L nL Q pc ls st0 σ :=
  g_callV C q hM hk hc hcd hst hn hrm hR h8 rfl hd kk
theorem g_callSL {ret : Option FieldType} (C : gC p s m args meth c D ca ad N L own cc nL ret) {y : MethodName} {bytes : ByteArray} {mL n i : Nat} {ry : Option FieldType} {rm : Room} {st0 : List Value} {τ : St} {r : Int64} (As : List Value) (q : okS own i y bytes mL ry n) (hM : gM l D ca ad N L y bytes mL ry rm As σ (some (.long r)) τ) (hst : st0 = As.reverse ++ st) (hn : As.length = n) (hrm : rm.cells = 0 ∧ rm.slots = 0) (hR : rm.frames + 1 ≤ R.frames ∧ 8 + (mL + 11) + rm.locals ≤ R.locals) (h8 : (st.map (fun v => v.category)).sum ≤ 8) (hd : decode cc pc = .ok (.invokestatic i, 3)) (kk : G p l e R s m args below meth c D ca ad N L nL Q (pc + 3) ls (.long r :: st) τ) : G p l e R s m args below meth c D ca ad N L nL Q pc ls st0 σ :=
  g_callS C q hM hst hn hrm hR h8 rfl hd kk
theorem g_callVV {ret : Option FieldType} (C : gC p s m args meth c D ca ad N L own cc nL ret) {y : MethodName} {bytes : ByteArray} {mL n i : Nat} {ry : Option FieldType} {rm : Room} {k cd : Nat} {st0 : List Value} {τ : St} {Cn : String} {T : u_T} {Nf : Nat}  (As : List Value) (q : okV own i Cn y bytes mL ry n) (hM : gM l D ca ad N L y bytes mL ry rm (.ref k :: As) σ none τ) (hk : L k = cd) (hc : cd < 10) (hcd : vwCl[cd]? = some (Cn, T, Nf)) (hst : st0 = As.reverse ++ .ref k :: st) (hn : As.length = n) (hrm : rm.cells = 0 ∧ rm.slots = 0) (hR : rm.frames + 1 ≤ R.frames ∧ 8 + (mL + 11) + rm.locals ≤ R.locals) (h8 : (st.map (fun v => v.category)).sum ≤ 8) (hd : decode cc pc = .ok (.invokevirtual i, 3)) (kk : G p l e R s m args below meth c D ca ad N L nL Q (pc + 3) ls st τ) : G p l e R s m args below meth c D ca ad N L nL Q pc ls st0 σ :=
  g_callV C q hM hk hc hcd hst hn hrm hR h8 rfl hd kk
theorem g_callSV {ret : Option FieldType} (C : gC p s m args meth c D ca ad N L own cc nL ret) {y : MethodName} {bytes : ByteArray} {mL n i : Nat} {ry : Option FieldType} {rm : Room} {st0 : List Value} {τ : St}  (As : List Value) (q : okS own i y bytes mL ry n) (hM : gM l D ca ad N L y bytes mL ry rm As σ none τ) (hst : st0 = As.reverse ++ st) (hn : As.length = n) (hrm : rm.cells = 0 ∧ rm.slots = 0) (hR : rm.frames + 1 ≤ R.frames ∧ 8 + (mL + 11) + rm.locals ≤ R.locals) (h8 : (st.map (fun v => v.category)).sum ≤ 8) (hd : decode cc pc = .ok (.invokestatic i, 3)) (kk : G p l e R s m args below meth c D ca ad N L nL Q (pc + 3) ls st τ) : G p l e R s m args below meth c D ca ad N L nL Q pc ls st0 σ :=
  g_callS C q hM hst hn hrm hR h8 rfl hd kk
def cpk (sp dp n : Int32) (n0 n1 : Nat) : Bool := decide (¬ sp < 0) && (decide (¬ dp < 0) && (decide (¬ n < 0) && (decide (sp.toNatClampNeg + n.toNatClampNeg ≤ n0) && decide (dp.toNatClampNeg + n.toNatClampNeg ≤ n1))))
def okA (own : String) (i : Nat) : Prop := Cond.methodLink own i arraycopyName ∈ gtb ∧ Cond.native arraycopyName ∈ gtb ∧ Cond.static arraycopyName ∈ gtb ∧ Cond.initialized "java/lang/System" ∈ gtb
theorem g_copyI {ret : Option FieldType} (C : gC p s m args meth c D ca ad N L own cc nL ret) {k0 k1 c0 c1 i : Nat} {sp dp n : Int32} (n0 n1 : Nat) (q : okA own i) (hk0 : L k0 = c0) (ho0 : gok c0 0 n0) (hk1 : L k1 = c1) (ho1 : gok c1 0 n1) (hz : cpk sp dp n n0 n1 = true) (hf : 1 ≤ R.frames) (hl8 : (st.map (fun v => v.category)).sum + 18 ≤ R.locals) (hd : decode cc pc = .ok (.invokestatic i, 3)) (kk : GG p l e R s m args below meth c D ca ad N L nL cs ss Q (pc + 3) ls st (rw1 σ k1 (va_cpy (σ.1 k0) (σ.1 k1) sp.toNatClampNeg dp.toNatClampNeg n.toNatClampNeg))) : GG p l e R s m args below meth c D ca ad N L nL cs ss Q pc ls (.int n :: .int dp :: .ref k1 :: .int sp :: .ref k0 :: st) σ := by
  intro H locs la hP hS hl
  obtain ⟨hx, hb, hml, hown, hts, ⟨hK, hNw, hAO⟩, hI, hlk, hr⟩ := C
  obtain ⟨q1, q2, q3, q4⟩ := q
  simp only [cpk, Bool.and_eq_true, decide_eq_true_eq] at hz
  obtain ⟨z1, z2, z3, z4, z5⟩ := hz
  have hg0 := gW_row (ca := ca) (σ := σ) hk0 ho0 hI
  have hg1 := gW_row (ca := ca) (σ := σ) hk1 ho1 hI
  rw [show gct ad c0 k0 σ = .inl (σ.1 k0) by simp [gct, ho0.2.2.1]] at hg0
  rw [show gct ad c1 k1 σ = .inl (σ.1 k1) by simp [gct, ho1.2.2.1]] at hg1
  have hw : (gW ad ca N L σ).set k1 (ad k1, .inl (ca (gac 0), n1, .inl (va_cpy (σ.1 k0) (σ.1 k1) sp.toNatClampNeg dp.toNatClampNeg n.toNatClampNeg))) = gW ad ca N L (rw1 σ k1 (va_cpy (σ.1 k0) (σ.1 k1) sp.toNatClampNeg dp.toNatClampNeg n.toNatClampNeg)) := gW_rowset hk1 ho1 (by simp [gct, ho1.2.2.1, rw1_row]) (fun a h => rw1_off a h)
  have h8' : ((st.map (tv ad)).map (fun v => v.category)).sum + (nativeFrameWords "java/lang/System" "arraycopy" 5 + 11) ≤ R.locals := by
    rw [List.map_map, show ((fun v : Value => v.category) ∘ tv ad) = (fun v => v.category) from funext (fun v => tv_cat ad v), show nativeFrameWords "java/lang/System" "arraycopy" 5 + 11 = 18 by decide]
    exact hl8
  exact va_copyi (D := D) (ty := .int) hx hb (by rw [hml]; exact hl.1.symm) hown (hts _ q1) (hts _ q2) (hts _ q3) (hts _ q4) hK hP (gW_D hI) hS k0 k1 0 0 hg0 hg1 rfl rfl rfl z1 z2 z3 z4 z5 (fun _ _ => rfl) hf h8' hd (fun H1 locs1 hP1 _ hS1 => kk H1 locs1 la (by rw [hw] at hP1; exact hP1) hS1 hl)
theorem g_copyL {ret : Option FieldType} (C : gC p s m args meth c D ca ad N L own cc nL ret) {k0 k1 c0 c1 i : Nat} {sp dp n : Int32} (n0 n1 : Nat) (q : okA own i) (hk0 : L k0 = c0) (ho0 : gok c0 1 n0) (hk1 : L k1 = c1) (ho1 : gok c1 1 n1) (hz : cpk sp dp n n0 n1 = true) (hf : 1 ≤ R.frames) (hl8 : (st.map (fun v => v.category)).sum + 18 ≤ R.locals) (hd : decode cc pc = .ok (.invokestatic i, 3)) (kk : GG p l e R s m args below meth c D ca ad N L nL cs ss Q (pc + 3) ls st (rw2 σ k1 (va_cpy (σ.2 k0) (σ.2 k1) sp.toNatClampNeg dp.toNatClampNeg n.toNatClampNeg))) : GG p l e R s m args below meth c D ca ad N L nL cs ss Q pc ls (.int n :: .int dp :: .ref k1 :: .int sp :: .ref k0 :: st) σ := by
  intro H locs la hP hS hl
  obtain ⟨hx, hb, hml, hown, hts, ⟨hK, hNw, hAO⟩, hI, hlk, hr⟩ := C
  obtain ⟨q1, q2, q3, q4⟩ := q
  simp only [cpk, Bool.and_eq_true, decide_eq_true_eq] at hz
  obtain ⟨z1, z2, z3, z4, z5⟩ := hz
  have hg0 := gW_row (ca := ca) (σ := σ) hk0 ho0 hI
  have hg1 := gW_row (ca := ca) (σ := σ) hk1 ho1 hI
  rw [show gct ad c0 k0 σ = .inr (.inl (σ.2 k0)) by simp [gct, ho0.2.2.1]] at hg0
  rw [show gct ad c1 k1 σ = .inr (.inl (σ.2 k1)) by simp [gct, ho1.2.2.1]] at hg1
  have hw : (gW ad ca N L σ).set k1 (ad k1, .inl (ca (gac 1), n1, .inr (.inl (va_cpy (σ.2 k0) (σ.2 k1) sp.toNatClampNeg dp.toNatClampNeg n.toNatClampNeg)))) = gW ad ca N L (rw2 σ k1 (va_cpy (σ.2 k0) (σ.2 k1) sp.toNatClampNeg dp.toNatClampNeg n.toNatClampNeg)) := gW_rowset hk1 ho1 (by simp [gct, ho1.2.2.1, rw2_row]) (fun a h => rw2_off a h)
  have h8' : ((st.map (tv ad)).map (fun v => v.category)).sum + (nativeFrameWords "java/lang/System" "arraycopy" 5 + 11) ≤ R.locals := by
    rw [List.map_map, show ((fun v : Value => v.category) ∘ tv ad) = (fun v => v.category) from funext (fun v => tv_cat ad v), show nativeFrameWords "java/lang/System" "arraycopy" 5 + 11 = 18 by decide]
    exact hl8
  exact va_copyl (D := D) (ty := .long) hx hb (by rw [hml]; exact hl.1.symm) hown (hts _ q1) (hts _ q2) (hts _ q3) (hts _ q4) hK hP (gW_D hI) hS k0 k1 1 1 hg0 hg1 rfl rfl rfl z1 z2 z3 z4 z5 (fun _ _ => rfl) hf h8' hd (fun H1 locs1 hP1 _ hS1 => kk H1 locs1 la (by rw [hw] at hP1; exact hP1) hS1 hl)
end GS
theorem sw_out {x : Int32} (n : Nat) (hn : n < 2 ^ 31) (h : ∀ j : Nat, j ≤ n → ¬ x = nI j) : x.toInt < 0 ∨ (n : Int) < x.toInt := by
  rcases Int.lt_or_le x.toInt 0 with a | a
  · exact Or.inl a
  · rcases Int.lt_or_le (n : Int) x.toInt with b | b
    · exact Or.inr b
    · exfalso
      have hj : x = nI x.toInt.toNat := by
        apply Int32.toInt_inj.mp
        rw [nI_toInt (by omega)]
        omega
      exact h x.toInt.toNat (by omega) hj
theorem sw_23 {x : Int32} (h2 : ¬ x = 2) (h3 : ¬ x = 3) : Op.lookupswitch.offset (#[(2, 28), (3, 30)] : Array (Int × Int)).toList 46 x.toInt = 46 := by
  have a2 : ¬ x.toInt = 2 := fun q => h2 (Int32.toInt_inj.mp (by rw [q]; rfl))
  have a3 : ¬ x.toInt = 3 := fun q => h3 (Int32.toInt_inj.mp (by rw [q]; rfl))
  have b2 : ¬ (2 : Int) = x.toInt := fun q => a2 q.symm
  have b3 : ¬ (3 : Int) = x.toInt := fun q => a3 q.symm
  simp [Op.lookupswitch.offset, a2, a3, b2, b3]
/-! the layout's steps -/
theorem sh_fin {P : Nat → Nat → Prop} [∀ a b, Decidable (P a b)] {c k : Nat} (h : (List.range 91).all (fun k => decide (P k c) || !(LC k == c)) = true) (hc : c < 99) (hk : LC k = c) : P k c := by
  have hN : k < 91 := by
    rcases Nat.lt_or_ge k 91 with q | q
    · exact q
    · exfalso
      have : LC k = 99 := by
        unfold LC
        rw [List.getD_eq_getElem?_getD, List.getElem?_eq_none (by simpa using q)]
        rfl
      omega
  have := List.all_eq_true.mp h k (List.mem_range.mpr hN)
  simp [hk] at this
  exact this
theorem nz0 : narrow .boolean (.int 0) = .int 0 := rfl
theorem nz1 : narrow .boolean (.int 1) = .int 1 := rfl
def imax (x y : Int32) : Int32 := if x < y then y else x
def imin (x y : Int32) : Int32 := if y < x then y else x
def iabs (x : Int32) : Int32 := if 0 ≤ x then x else 0 - x
def okX (own : String) (i : Nat) (y : MethodName) (cc : ByteArray) (n : Nat) : Prop := Cond.methodLink own i y ∈ gtb ∧ Cond.static y ∈ gtb ∧ Cond.initialized "java/lang/Math" ∈ gtb ∧ Cond.code y cc n (some .int) ∈ gtb
section GX
variable {p : Program} {l : Launch} {e : Env} {R : Room} {s : State} {m : MethodId} {args : Array Value} {below : List Frame} {meth : Method} {c : Code} {D : va_G} {ca : Nat → ClassId} {ad : Nat → Nat} {N : Nat} {L : Nat → Nat} {own : String} {cc : ByteArray} {nL : Nat} {Q : State → Prop} {pc : Nat} {ls : List (Nat × Value)} {st : List Value} {σ : St} {cs ss : Nat}
theorem gx_8 {n : Nat} (h : (st.map (fun v => v.category)).sum + 13 ≤ n) : ((st.map (tv ad)).map (fun v => v.category)).sum + 13 ≤ n := by
  rw [List.map_map, show ((fun v : Value => v.category) ∘ tv ad) = (fun v => v.category) from funext (fun v => tv_cat ad v)]
  exact h
theorem g_max {ret : Option FieldType} (C : gC p s m args meth c D ca ad N L own cc nL ret) {x y : Int32} {i : Nat} (q : okX own i Lib.Math.max.name Lib.Math.max.code 2) (hf : 1 ≤ R.frames) (hl8 : (st.map (fun v => v.category)).sum + 13 ≤ R.locals) (hcs : cs ≤ R.cells) (hss : ss ≤ R.slots) (hd : decode cc pc = .ok (.invokestatic i, 3)) (kk : GG p l e R s m args below meth c D ca ad N L nL cs ss Q (pc + 3) ls (.int (imax x y) :: st) σ) : GG p l e R s m args below meth c D ca ad N L nL cs ss Q pc ls (.int y :: .int x :: st) σ := by
  intro H locs la hP hS hl
  obtain ⟨hx, hb, hml, hown, hts, ⟨hK, hNw, hAO⟩, hI, hlk, hr⟩ := C
  obtain ⟨q1, q2, q3, q4⟩ := q
  exact va_mmax hx hb (by rw [hml]; exact hl.1.symm) hown (hts _ q1) (hts _ q2) (hts _ q3) (hts _ q4) hf (gx_8 hl8) hcs hss hd (kk H locs la hP hS hl)
theorem g_min {ret : Option FieldType} (C : gC p s m args meth c D ca ad N L own cc nL ret) {x y : Int32} {i : Nat} (q : okX own i Lib.Math.min.name Lib.Math.min.code 2) (hf : 1 ≤ R.frames) (hl8 : (st.map (fun v => v.category)).sum + 13 ≤ R.locals) (hcs : cs ≤ R.cells) (hss : ss ≤ R.slots) (hd : decode cc pc = .ok (.invokestatic i, 3)) (kk : GG p l e R s m args below meth c D ca ad N L nL cs ss Q (pc + 3) ls (.int (imin x y) :: st) σ) : GG p l e R s m args below meth c D ca ad N L nL cs ss Q pc ls (.int y :: .int x :: st) σ := by
  intro H locs la hP hS hl
  obtain ⟨hx, hb, hml, hown, hts, ⟨hK, hNw, hAO⟩, hI, hlk, hr⟩ := C
  obtain ⟨q1, q2, q3, q4⟩ := q
  exact va_mmin hx hb (by rw [hml]; exact hl.1.symm) hown (hts _ q1) (hts _ q2) (hts _ q3) (hts _ q4) hf (gx_8 hl8) hcs hss hd (kk H locs la hP hS hl)
theorem g_abs {ret : Option FieldType} (C : gC p s m args meth c D ca ad N L own cc nL ret) {x : Int32} {i : Nat} (q : okX own i Lib.Math.abs.name Lib.Math.abs.code 1) (hf : 1 ≤ R.frames) (hl8 : (st.map (fun v => v.category)).sum + 13 ≤ R.locals) (hcs : cs ≤ R.cells) (hss : ss ≤ R.slots) (hd : decode cc pc = .ok (.invokestatic i, 3)) (kk : GG p l e R s m args below meth c D ca ad N L nL cs ss Q (pc + 3) ls (.int (iabs x) :: st) σ) : GG p l e R s m args below meth c D ca ad N L nL cs ss Q pc ls (.int x :: st) σ := by
  intro H locs la hP hS hl
  obtain ⟨hx, hb, hml, hown, hts, ⟨hK, hNw, hAO⟩, hI, hlk, hr⟩ := C
  obtain ⟨q1, q2, q3, q4⟩ := q
  exact va_mabs hx hb (by rw [hml]; exact hl.1.symm) hown (hts _ q1) (hts _ q2) (hts _ q3) (hts _ q4) hf (gx_8 hl8) hcs hss hd (kk H locs la hP hS hl)
end GX
