/-! THE WORLD OF NUMBERED CELLS. After its constructor the system's cells and references never change: only numbers do. A layout says of cell k by a code what it is; St holds the numbers. -/
abbrev St : Type := (Nat → Nat → Int32) × (Nat → Nat → Int64)
def up1 (σ : St) (k j : Nat) (v : Int32) : St := (fun a b => if a = k ∧ b = j then v else σ.1 a b, σ.2)
def up2 (σ : St) (k j : Nat) (v : Int64) : St := (σ.1, fun a b => if a = k ∧ b = j then v else σ.2 a b)
def rw1 (σ : St) (k : Nat) (f : Nat → Int32) : St := (fun a b => if a = k then f b else σ.1 a b, σ.2)
def rw2 (σ : St) (k : Nat) (f : Nat → Int64) : St := (σ.1, fun a b => if a = k then f b else σ.2 a b)
/-- fields of system c: kind (0 int, 1 long, 2 reference, 4 reference) and how far the referenced cell lies (of kind 4: its number) -/
def gtab : List (List (Nat × Nat)) := [
  [(4, 63), (2, 1), (0, 0), (2, 2), (2, 3), (2, 4), (2, 5), (2, 6), (0, 0), (2, 7), (2, 8), (2, 9), (2, 10)],
  [(0, 0), (0, 0), (0, 0), (2, 1), (2, 2)],
  [(2, 1), (2, 2)],
  [(0, 0), (0, 0), (0, 0), (2, 1)],
  [(2, 1), (0, 0), (0, 0), (0, 0), (0, 0), (2, 2)],
  [(0, 0), (2, 1), (2, 2), (0, 0), (2, 3), (2, 4)],
  [(0, 0), (0, 0), (0, 0), (2, 1), (2, 2), (2, 3), (2, 4)],
  [(2, 1), (2, 29), (0, 0), (2, 57), (2, 58), (2, 63), (2, 70), (2, 81), (0, 0), (2, 82), (0, 0), (1, 0), (0, 0)],
  [(0, 0), (2, 1), (2, 2), (0, 0), (2, 3), (2, 4), (2, 5), (2, 6), (2, 7), (2, 8), (0, 0), (2, 9), (1, 0), (0, 0), (2, 10), (2, 11), (2, 12), (2, 13), (2, 14), (0, 0), (0, 0), (2, 15), (0, 0), (0, 0), (0, 0), (2, 16), (2, 17), (0, 0), (2, 18), (2, 19), (2, 20), (2, 21), (2, 22), (1, 0), (2, 23), (2, 24), (2, 25)]]
/-- codes from 10 on: rows: their kind (0 ints, 1 longs, 2 bytes, 3 finds, 4 sheets; 10 + j finds, 20 + j sheets of which j are set) and length; codes from 100 on: objects of which not all references are set -/
def gatab : List (Nat × Nat) := [(0, 5), (0, 7), (0, 20), (0, 21), (0, 40), (0, 60), (0, 128), (1, 40), (1, 128), (1, 280), (1, 5120), (2, 200), (3, 7), (4, 4), (0, 35), (0, 49), (0, 260), (0, 4), (0, 240), (0, 200), (0, 2), (10, 7), (11, 7), (12, 7), (13, 7), (14, 7), (15, 7), (16, 7), (17, 7), (20, 4), (21, 4), (22, 4), (23, 4), (24, 4)]
def gnf (c : Nat) : Nat := (gtab.getD c []).length
def gfk (c j : Nat) : Nat := ((gtab.getD c []).getD j (0, 0)).1
def gfo (c j : Nat) : Nat := ((gtab.getD c []).getD j (0, 0)).2
def gat (c : Nat) : Nat := (gatab.getD (c - 10) (9, 0)).1
def gal (c : Nat) : Nat := (gatab.getD (c - 10) (9, 0)).2
/-- the layout of the system's cells, and of the reference's -/
def LC (k : Nat) : Nat := ([7, 5, 14, 13, 22, 2, 11, 11, 1, 10, 10, 1, 10, 10, 1, 10, 10, 1, 10, 10, 1, 10, 10, 1, 10, 10, 1, 10, 10, 5, 14, 13, 22, 2, 11, 11, 1, 10, 10, 1, 10, 10, 1, 10, 10, 1, 10, 10, 1, 10, 10, 1, 10, 10, 1, 10, 10, 23, 4, 21, 2, 11, 11, 6, 19, 11, 11, 2, 11, 11, 0, 11, 11, 11, 14, 14, 16, 18, 18, 20, 17, 12, 11, 3, 15, 3, 15, 3, 15, 3, 15] : List Nat).getD k 99
def LM (k : Nat) : Nat := ([8, 14, 13, 11, 11, 11, 24, 24, 25, 11, 26, 27, 27, 28, 29, 12, 25, 19, 16, 16, 18, 18, 18, 17, 30, 26] : List Nat).getD k 99
def gfv (ad : Nat → Nat) (c j k : Nat) (σ : St) : Value := match gfk c j with
  | 0 => .int (σ.1 k j)
  | 1 => .long (σ.2 k j)
  | 2 => .ref (ad (k + gfo c j))
  | _ => .ref (ad (gfo c j))
def gct (ad : Nat → Nat) (cd k : Nat) (σ : St) : (Nat → Int32) ⊕ (Nat → Int64) ⊕ (Nat → UInt32) ⊕ (Nat → UInt64) ⊕ (Nat → Option Nat) := match gat cd with
  | 0 => .inl (σ.1 k)
  | 1 => .inr (.inl (σ.2 k))
  | 2 => .inl (σ.1 k)
  | 3 => .inr (.inr (.inr (.inr (fun j => if j < 7 then some (ad (k + 4 + 3 * j)) else none))))
  | 4 => .inr (.inr (.inr (.inr (fun j => if j < 4 then some (ad (k + 26 + 2 * j)) else none))))
  | t => if t < 20 then .inr (.inr (.inr (.inr (fun j => if j < t - 10 then some (ad (k + 4 + 3 * j)) else none)))) else .inr (.inr (.inr (.inr (fun j => if j < t - 20 then some (ad (k + 26 + 2 * j)) else none))))
def gac (t : Nat) : Nat := if t < 5 then t else if t < 20 then 3 else 4
def gpc (cd : Nat) : Nat := (cd - 100) % 16
def gpm (cd : Nat) : Nat := (cd - 100) / 16
def gpv (ad : Nat → Nat) (c ms j k : Nat) (σ : St) : Value := if 2 ≤ gfk c j ∧ ms.testBit j = false then .null else gfv ad c j k σ
def gE (ad : Nat → Nat) (ca : Nat → ClassId) (cd k : Nat) (σ : St) : va_E := if cd < 10 then .inr (cd, (List.range (gnf cd)).map (fun j => gfv ad cd j k σ)) else if cd < 99 then .inl (ca (gac (gat cd)), gal cd, gct ad cd k σ) else .inr (gpc cd, (List.range (gnf (gpc cd))).map (fun j => gpv ad (gpc cd) (gpm cd) j k σ))
def gT (ca : Nat → ClassId) : List (ClassId × FieldType) := [(ca 0, .int), (ca 1, .long), (ca 2, .byte), (ca 3, .object "DatingTable$Find"), (ca 4, .object "DatingTable$Sheet")]
def gW (ad : Nat → Nat) (ca : Nat → ClassId) (N : Nat) (L : Nat → Nat) (σ : St) : va_W := (List.range N).map (fun k => (ad k, gE ad ca (L k) k σ))
def gA (ad : Nat → Nat) (N : Nat) : Nat → Prop := fun q => ∃ k, k < N ∧ q = ad k
def gI (ad : Nat → Nat) (N : Nat) (L : Nat → Nat) : Prop := (∀ i j, i < N → j < N → ad i = ad j → i = j) ∧ ∀ k, L k ≠ 99 → k < N
def tv (ad : Nat → Nat) : Value → Value
  | .ref k => .ref (ad k)
  | v => v
def tvp (ad : Nat → Nat) (q : Nat × Value) : Nat × Value := (q.1, tv ad q.2)
theorem tv_cat (ad : Nat → Nat) (v : Value) : (tv ad v).category = v.category := by cases v <;> rfl
theorem gE_congr {ad : Nat → Nat} {ca : Nat → ClassId} {cd k : Nat} {σ τ : St} (h1 : σ.1 k = τ.1 k) (h2 : σ.2 k = τ.2 k) : gE ad ca cd k σ = gE ad ca cd k τ := by
  unfold gE gct gpv gfv
  rw [h1, h2]
theorem gW_get {ad : Nat → Nat} {ca : Nat → ClassId} {N : Nat} {L : Nat → Nat} {σ : St} {k : Nat} (h : k < N) : (gW ad ca N L σ)[k]? = some (ad k, gE ad ca (L k) k σ) := by
  simp [gW, h]
theorem gW_set {ad : Nat → Nat} {ca : Nat → ClassId} {N : Nat} {L : Nat → Nat} {σ τ : St} {k : Nat} {x : va_E} (hx : x = gE ad ca (L k) k τ) (h : ∀ a, a ≠ k → τ.1 a = σ.1 a ∧ τ.2 a = σ.2 a) : (gW ad ca N L σ).set k (ad k, x) = gW ad ca N L τ := by
  subst hx
  apply List.ext_getElem?
  intro i
  by_cases hi : i < N
  · rw [gW_get hi, List.getElem?_set]
    by_cases e : k = i
    · subst e
      simp [gW, hi]
    · rw [if_neg e, gW_get hi, gE_congr (h i (fun q => e q.symm)).1.symm (h i (fun q => e q.symm)).2.symm]
  · have a1 : (gW ad ca N L τ)[i]? = none := by simp [gW]; omega
    have a2 : ((gW ad ca N L σ).set k (ad k, gE ad ca (L k) k τ))[i]? = none := by simp [gW]; omega
    rw [a1, a2]
theorem gW_D {ad : Nat → Nat} {ca : Nat → ClassId} {N : Nat} {L : Nat → Nat} {σ : St} (h : gI ad N L) : va_D (gA ad N) (gW ad ca N L σ) := by
  have key : ∀ (i : Nat) (p : Nat × va_E), (gW ad ca N L σ)[i]? = some p → i < N ∧ p.1 = ad i := by
    intro i p hp
    have hi : i < N := by
      have := (List.getElem?_eq_some_iff.mp hp).1
      simpa [gW] using this
    rw [gW_get hi] at hp
    cases hp
    exact ⟨hi, rfl⟩
  refine ⟨fun i j p q hp hq e => ?_, fun i p hp => ⟨i, (key i p hp).1, (key i p hp).2⟩⟩
  obtain ⟨a1, a2⟩ := key i p hp
  obtain ⟨b1, b2⟩ := key j q hq
  exact h.1 i j a1 b1 (by rw [← a2, ← b2, e])
theorem up1_off {σ : St} {k j : Nat} {v : Int32} (a : Nat) (h : a ≠ k) : (up1 σ k j v).1 a = σ.1 a ∧ (up1 σ k j v).2 a = σ.2 a := ⟨by funext b; simp [up1, h], rfl⟩
theorem up2_off {σ : St} {k j : Nat} {v : Int64} (a : Nat) (h : a ≠ k) : (up2 σ k j v).1 a = σ.1 a ∧ (up2 σ k j v).2 a = σ.2 a := ⟨rfl, by funext b; simp [up2, h]⟩
theorem rw1_off {σ : St} {k : Nat} {f : Nat → Int32} (a : Nat) (h : a ≠ k) : (rw1 σ k f).1 a = σ.1 a ∧ (rw1 σ k f).2 a = σ.2 a := ⟨by funext b; simp [rw1, h], rfl⟩
theorem rw2_off {σ : St} {k : Nat} {f : Nat → Int64} (a : Nat) (h : a ≠ k) : (rw2 σ k f).1 a = σ.1 a ∧ (rw2 σ k f).2 a = σ.2 a := ⟨rfl, by funext b; simp [rw2, h]⟩
theorem up1_row {σ : St} {k j : Nat} {v : Int32} : (up1 σ k j v).1 k = upd (σ.1 k) j v := by funext b; simp [up1, upd]
theorem up2_row {σ : St} {k j : Nat} {v : Int64} : (up2 σ k j v).2 k = vp_updL (σ.2 k) j v := by funext b; simp [up2, vp_updL]
theorem rw1_row {σ : St} {k : Nat} {f : Nat → Int32} : (rw1 σ k f).1 k = f := by funext b; simp [rw1]
theorem rw2_row {σ : St} {k : Nat} {f : Nat → Int64} : (rw2 σ k f).2 k = f := by funext b; simp [rw2]
theorem gfl_get {ad : Nat → Nat} {c j k : Nat} {σ : St} (h : j < gnf c) : ((List.range (gnf c)).map (fun j => gfv ad c j k σ))[j]? = some (gfv ad c j k σ) := by
  simp [h]
theorem gfl_set1 {ad : Nat → Nat} {c j k : Nat} {σ : St} {v : Int32} (h0 : gfk c j = 0) : ((List.range (gnf c)).map (fun i => gfv ad c i k σ)).set j (.int v) = (List.range (gnf c)).map (fun i => gfv ad c i k (up1 σ k j v)) := by
  apply List.ext_getElem?
  intro i
  rw [List.getElem?_set]
  by_cases e : j = i
  · subst e
    by_cases hj : j < gnf c
    · simp [hj, gfv, h0, up1]
    · simp [hj]
  · have e' : ¬ i = j := fun q => e q.symm
    rw [if_neg e]
    by_cases hj : i < gnf c
    · simp [hj, gfv, up1, e']
    · simp [hj]
theorem gfl_set2 {ad : Nat → Nat} {c j k : Nat} {σ : St} {v : Int64} (h0 : gfk c j = 1) : ((List.range (gnf c)).map (fun i => gfv ad c i k σ)).set j (.long v) = (List.range (gnf c)).map (fun i => gfv ad c i k (up2 σ k j v)) := by
  apply List.ext_getElem?
  intro i
  rw [List.getElem?_set]
  by_cases e : j = i
  · subst e
    by_cases hj : j < gnf c
    · simp [hj, gfv, h0, up2]
    · simp [hj]
  · have e' : ¬ i = j := fun q => e q.symm
    rw [if_neg e]
    by_cases hj : i < gnf c
    · simp [hj, gfv, up2, e']
    · simp [hj]
/-! words -/
def gtb : List Cond := lw_tbl.filter goodWord
theorem gi {w : Cond} (h : w ∈ lw_tbl) (g : goodWord w = true) : w ∈ gtb := List.mem_filter.mpr ⟨h, g⟩
theorem gtb_in {w : Cond} (h : w ∈ gtb) : w ∈ lw_tbl := (List.mem_filter.mp h).1
theorem gd_in {y : MethodName} {cc : ByteArray} {mL : Nat} {ret : Option FieldType} (h : Cond.code y cc mL ret ∈ gtb) : GoodIn gtb (Cond.code y cc mL ret :: gtb) := by
  intro w hw
  have hm : w ∈ gtb := (List.mem_cons.mp hw).elim (fun e => by rw [e]; exact h) id
  exact ⟨hm, good_of_word (List.mem_filter.mp hm).2⟩
/-- the nest mates' links -/
def gnest : Cond → Bool
  | .fieldLinkNest .. => true
  | _ => false
def gnb : List Cond := lw_tbl.filter gnest
theorem gin {w : Cond} (h : w ∈ lw_tbl) (g : gnest w = true) : w ∈ gnb := List.mem_filter.mpr ⟨h, g⟩
theorem gnb_tab {w : Cond} (h : w ∈ gnb) : w.onTables = true := by
  have := (List.mem_filter.mp h).2
  cases w <;> first | rfl | cases this
theorem gnb_warm {s U : State} (hW : s.WarmedH U.vm) (h : ∀ w ∈ gnb, va_Nw w s) : ∀ w ∈ gnb, va_Nw w U := by
  intro w hw
  have hq := h w hw
  have := (List.mem_filter.mp hw).2
  cases w <;> first | exact va_Nw.warmF hW hq | cases this
def gK (D : va_G) (ca : Nat → ClassId) (U : State) : Prop := va_K D vwCl (gT ca) U ∧ (∀ w ∈ gnb, va_Nw w U) ∧ va_AO "DatingTable$Find" U ∧ va_AO "DatingTable$Sheet" U
theorem gK_warm {D : va_G} {ca : Nat → ClassId} {s U : State} (hW : s.WarmedH U.vm) (h : gK D ca s) : gK D ca U := ⟨va_K.moved hW.alike h.1, gnb_warm hW h.2.1, h.2.2.1.moved hW.alike, h.2.2.2.moved hW.alike⟩
/-- what a field's place in a system's pool stands for -/
def gL (own : String) (idx cd j : Nat) : Prop := ∃ (C : String) (T : u_T) (Nf : Nat), vwCl[cd]? = some (C, T, Nf) ∧ j < Nf ∧ gnf cd = Nf ∧ cd < 10 ∧ (∀ w ∈ u_ws C T Nf, w ∈ gtb) ∧ (Cond.fieldLink own idx (T j).1 (T j).2.1 (T j).2.2.1 ∈ gtb ∨ ∃ host, Cond.fieldLinkNest own idx (T j).1 (T j).2.1 (T j).2.2.1 host ∈ gnb)
def gLp (own : String) (idx cd j : Nat) (ty : FieldType) : Prop := ∃ (C : String) (T : u_T) (Nf : Nat) (tyf : Nat → FieldType), vwCl[cd]? = some (C, T, Nf) ∧ j < Nf ∧ gnf cd = Nf ∧ cd < 10 ∧ (∀ w ∈ u_ws C T Nf, w ∈ gtb) ∧ (Cond.fieldLink own idx (T j).1 (T j).2.1 (T j).2.2.1 ∈ gtb ∨ ∃ host, Cond.fieldLinkNest own idx (T j).1 (T j).2.1 (T j).2.2.1 host ∈ gnb) ∧ (∀ k, k < Nf → parseFieldDescriptor (T k).2.2.1 = some (tyf k)) ∧ (∀ a, a < Nf → ∀ b, b < Nf → a ≠ b → (T a).2.1 ≠ (T b).2.1) ∧ (T j).2.2.2 = false ∧ parseFieldDescriptor (T j).2.2.1 = some ty
def okV (own : String) (idx : Nat) (C : String) (y : MethodName) (cc : ByteArray) (mL : Nat) (ret : Option FieldType) (n : Nat) : Prop := Cond.methodLink own idx y ∈ gtb ∧ Cond.instanceMethod y ∈ gtb ∧ Cond.selects C y y ∈ gtb ∧ Cond.initialized y.cls ∈ gtb ∧ Cond.code y cc mL ret ∈ gtb ∧ y.cls ≠ "java/lang/invoke/MethodHandle" ∧ y.cls ≠ "java/lang/invoke/VarHandle" ∧ (parseMethodDescriptor y.desc).map (fun d => d.parameters.length) = some n
def okS (own : String) (idx : Nat) (y : MethodName) (cc : ByteArray) (mL : Nat) (ret : Option FieldType) (n : Nat) : Prop := Cond.methodLink own idx y ∈ gtb ∧ Cond.static y ∈ gtb ∧ Cond.initialized y.cls ∈ gtb ∧ Cond.code y cc mL ret ∈ gtb ∧ y.cls ≠ "java/lang/invoke/MethodHandle" ∧ y.cls ≠ "java/lang/invoke/VarHandle" ∧ (parseMethodDescriptor y.desc).map (fun d => d.parameters.length) = some n
/-! THE JUDGEMENT over numbered cells -/
section GJ
variable {p : Program} {l : Launch} {e : Env} {R : Room} {s : State} {m : MethodId} {args : Array Value} {below : List Frame} {meth : Method} {c : Code} {D : va_G} {ca : Nat → ClassId} {ad : Nat → Nat} {N : Nat} {L : Nat → Nat} {own : String} {cc : ByteArray} {nL : Nat} {Q : State → Prop} {pc : Nat} {ls : List (Nat × Value)} {st : List Value} {σ : St} {cs ss : Nat}
def gC (p : Program) (s : State) (m : MethodId) (args : Array Value) (meth : Method) (c : Code) (D : va_G) (ca : Nat → ClassId) (ad : Nat → Nat) (N : Nat) (L : Nat → Nat) (own : String) (cc : ByteArray) (nL : Nat) (ret : Option FieldType) : Prop :=
  p.tables.exec = Jvm.exec ∧ c.code = cc ∧ c.maxLocals = nL ∧ s.vm.findClass own = some m.cls ∧ (∀ w ∈ gtb, w.before args s = true) ∧ gK D ca s ∧ gI ad N L ∧ meth.locks = false ∧ meth.sig.returnType = ret
def GG (p : Program) (l : Launch) (e : Env) (R : Room) (s : State) (m : MethodId) (args : Array Value) (below : List Frame) (meth : Method) (c : Code) (D : va_G) (ca : Nat → ClassId) (ad : Nat → Nat) (N : Nat) (L : Nat → Nat) (nL : Nat) (cs ss : Nat) (Q : State → Prop) (pc : Nat) (ls : List (Nat × Value)) (st : List Value) (σ : St) : Prop :=
  ∀ (H : Heap) (locs : List Loc) (la : Array Slot), va_P D vwCl (gW ad ca N L σ) H → va_S (gA ad N) s.heap H locs → lv_has la nL (ls.map (tvp ad)) → W p l e R s m args below meth c H locs cs ss Q (F0 m pc la (st.map (tv ad)))
abbrev G (p : Program) (l : Launch) (e : Env) (R : Room) (s : State) (m : MethodId) (args : Array Value) (below : List Frame) (meth : Method) (c : Code) (D : va_G) (ca : Nat → ClassId) (ad : Nat → Nat) (N : Nat) (L : Nat → Nat) (nL : Nat) (Q : State → Prop) (pc : Nat) (ls : List (Nat × Value)) (st : List Value) (σ : St) : Prop := GG p l e R s m args below meth c D ca ad N L nL 0 0 Q pc ls st σ
def gQ (D : va_G) (ca : Nat → ClassId) (ad : Nat → Nat) (N : Nat) (L : Nat → Nat) (rv : Option Value) (σ : St) : Array Value → State → Outcome → State → Prop := fun _ st oc t => oc = .returned rv ∧ va_P D vwCl (gW ad ca N L σ) t.heap ∧ va_F (gA ad N) st t
def gEnd (below : List Frame) (args : Array Value) (s : State) (D : va_G) (ca : Nat → ClassId) (ad : Nat → Nat) (N : Nat) (L : Nat → Nat) (rv : Option Value) (σ : St) : State → Prop := MQ below (gQ D ca ad N L rv σ) args s 0 0 (gA ad N)
def gPre (D : va_G) (ca : Nat → ClassId) (ad : Nat → Nat) (N : Nat) (L : Nat → Nat) (σ : St) (U : State) : Prop := va_P D vwCl (gW ad ca N L σ) U.heap ∧ gK D ca U ∧ gI ad N L
/-- a method's contract: from the numbers σ and the arguments av it answers rv and leaves the numbers τ -/
def gM (l : Launch) (D : va_G) (ca : Nat → ClassId) (ad : Nat → Nat) (N : Nat) (L : Nat → Nat) (y : MethodName) (cc : ByteArray) (mL : Nat) (ret : Option FieldType) (rm : Room) (av : List Value) (σ : St) (rv : Option Value) (τ : St) : Prop :=
  Met l y (Cond.code y cc mL ret :: gtb) rm (va_Pc (av.map (tv ad)) (gPre D ca ad N L σ)) (gQ D ca ad N L rv τ) 0 0 (gA ad N)
theorem gM_of {y : MethodName} {mL : Nat} {ret : Option FieldType} {rm : Room} {av : List Value} {rv : Option Value} {τ : St} (hy : plainName y.cls = true) (hl : (lg_sl av).length ≤ mL)
    (body : ∀ (p : Program) (e : Env) (s : State) (m : MethodId) (args : Array Value) (below : List Frame) (meth : Method) (c : Code), gC p s m args meth c D ca ad N L y.cls cc mL ret → G p l e rm s m args below meth c D ca ad N L mL (gEnd below args s D ca ad N L rv τ) 0 (lv_args 0 av) [] σ) : gM l D ca ad N L y cc mL ret rm av σ rv τ := by
  refine Met.ofW (cc := cc) (maxL := mL) (ret := ret) hy rfl ?_
  intro p e s m args below meth c s₁ B hml hv
  obtain ⟨rfl, hP, hK, hI⟩ := hv
  have hts := atoms_spec (ws := Cond.code y cc mL ret :: gtb) B.pre
  have C : gC p s m (av.map (tv ad)).toArray meth c D ca ad N L y.cls cc mL ret := ⟨B.exec, B.bytes, hml, findClass_of_methodNamed B.named, fun w hw => hts w (List.mem_cons_of_mem _ hw), hK, hI, B.notSynchronized, B.returns⟩
  have hlen : ∀ l : List Value, (lg_sl (l.map (tv ad))).length = (lg_sl l).length := by
    intro l
    induction l with
    | nil => rfl
    | cons v t ih =>
      simp only [lg_sl, List.map_cons, List.flatMap_cons, List.length_append, tv_cat] at ih ⊢
      rw [ih]
      by_cases h : v.category = 2 <;> simp [h]
  have hargs : ∀ (l : List Value) (i : Nat), lv_args i (l.map (tv ad)) = (lv_args i l).map (tvp ad) := by
    intro l
    induction l with
    | nil => intro i; rfl
    | cons v t ih =>
      intro i
      simp only [List.map_cons, lv_args, tv_cat]
      rw [ih]
      rfl
  have hle := lv_entry (av.map (tv ad)) (n := mL) (by rw [hlen]; exact hl)
  rw [hargs] at hle
  rw [lg_entry_eq]
  exact body p e s m _ below meth c C s.heap [] _ hP va_S.rf hle
theorem g_iconst {ret : Option FieldType} (C : gC p s m args meth c D ca ad N L own cc nL ret) {n : Int} (v : Int32) (hd : decode cc pc = .ok (.iconst n, 1)) (hv : Int32.ofInt n = v) (k : GG p l e R s m args below meth c D ca ad N L nL cs ss Q (pc + 1) ls (.int v :: st) σ) : GG p l e R s m args below meth c D ca ad N L nL cs ss Q pc ls st σ :=
  fun H locs la hP hS hl => lv_iconst C.1 C.2.1 hd hv (k H locs la hP hS hl)
theorem g_bipush {ret : Option FieldType} (C : gC p s m args meth c D ca ad N L own cc nL ret) {n : Int} (v : Int32) (hd : decode cc pc = .ok (.bipush n, 2)) (hv : (Int8.ofInt n).toInt32 = v) (k : GG p l e R s m args below meth c D ca ad N L nL cs ss Q (pc + 2) ls (.int v :: st) σ) : GG p l e R s m args below meth c D ca ad N L nL cs ss Q pc ls st σ :=
  fun H locs la hP hS hl => lv_bipush C.1 C.2.1 hd hv (k H locs la hP hS hl)
theorem g_sipush {ret : Option FieldType} (C : gC p s m args meth c D ca ad N L own cc nL ret) {n : Int} (v : Int32) (hd : decode cc pc = .ok (.sipush n, 3)) (hv : (Int16.ofInt n).toInt32 = v) (k : GG p l e R s m args below meth c D ca ad N L nL cs ss Q (pc + 3) ls (.int v :: st) σ) : GG p l e R s m args below meth c D ca ad N L nL cs ss Q pc ls st σ :=
  fun H locs la hP hS hl => lv_sipush C.1 C.2.1 hd hv (k H locs la hP hS hl)
theorem g_lconst {ret : Option FieldType} (C : gC p s m args meth c D ca ad N L own cc nL ret) {n : Fin 2} (v : Int64) (hd : decode cc pc = .ok (.lconst n, 1)) (hv : Int64.ofNat (n : Nat) = v) (k : GG p l e R s m args below meth c D ca ad N L nL cs ss Q (pc + 1) ls (.long v :: st) σ) : GG p l e R s m args below meth c D ca ad N L nL cs ss Q pc ls st σ :=
  fun H locs la hP hS hl => lv_lconst C.1 C.2.1 hd hv (k H locs la hP hS hl)
theorem g_ldc2 {ret : Option FieldType} (C : gC p s m args meth c D ca ad N L own cc nL ret) {i : Nat} (v : Int64) (hw : Cond.constantLong own i v ∈ gtb) (hd : decode cc pc = .ok (.ldc2_w i, 3)) (k : GG p l e R s m args below meth c D ca ad N L nL cs ss Q (pc + 3) ls (.long v :: st) σ) : GG p l e R s m args below meth c D ca ad N L nL cs ss Q pc ls st σ :=
  fun H locs la hP hS hl => lv_ldc2 C.1 C.2.1 C.2.2.2.1 (C.2.2.2.2.1 _ hw) hd (k H locs la hP hS hl)
theorem g_ldc {ret : Option FieldType} (C : gC p s m args meth c D ca ad N L own cc nL ret) {i : Nat} (v : Int32) (hw : Cond.constant own i v ∈ gtb) (hd : decode cc pc = .ok (.ldc i, 2)) (k : GG p l e R s m args below meth c D ca ad N L nL cs ss Q (pc + 2) ls (.int v :: st) σ) : GG p l e R s m args below meth c D ca ad N L nL cs ss Q pc ls st σ :=
  fun H locs la hP hS hl => lv_ldc C.1 C.2.1 C.2.2.2.1 (C.2.2.2.2.1 _ hw) hd (k H locs la hP hS hl)
theorem g_ldcw {ret : Option FieldType} (C : gC p s m args meth c D ca ad N L own cc nL ret) {i : Nat} (v : Int32) (hw : Cond.constant own i v ∈ gtb) (hd : decode cc pc = .ok (.ldc_w i, 3)) (k : GG p l e R s m args below meth c D ca ad N L nL cs ss Q (pc + 3) ls (.int v :: st) σ) : GG p l e R s m args below meth c D ca ad N L nL cs ss Q pc ls st σ :=
  fun H locs la hP hS hl => lv_ldcw C.1 C.2.1 C.2.2.2.1 (C.2.2.2.2.1 _ hw) hd (k H locs la hP hS hl)
theorem g_lat {la : Array Slot} {n i : Nat} {v : Value} (hl : lv_has la n (ls.map (tvp ad))) (pl : Nat) (h : ls[pl]? = some (i, v)) : la[i]? = some (.val (tv ad v)) := lv_at hl pl (by rw [List.getElem?_map, h]; rfl)
theorem g_iload_n {ret : Option FieldType} (C : gC p s m args meth c D ca ad N L own cc nL ret) {i : Fin 4} {x : Int32} (pl : Nat) (hd : decode cc pc = .ok (.iload_n i, 1)) (h : ls[pl]? = some (i.val, .int x)) (k : GG p l e R s m args below meth c D ca ad N L nL cs ss Q (pc + 1) ls (.int x :: st) σ) : GG p l e R s m args below meth c D ca ad N L nL cs ss Q pc ls st σ :=
  fun H locs la hP hS hl => lv_iload_n C.1 C.2.1 hd rfl (g_lat hl pl h) (k H locs la hP hS hl)
theorem g_iload {ret : Option FieldType} (C : gC p s m args meth c D ca ad N L own cc nL ret) {i : Nat} {x : Int32} (pl : Nat) (hd : decode cc pc = .ok (.iload i, 2)) (h : ls[pl]? = some (i, .int x)) (k : GG p l e R s m args below meth c D ca ad N L nL cs ss Q (pc + 2) ls (.int x :: st) σ) : GG p l e R s m args below meth c D ca ad N L nL cs ss Q pc ls st σ :=
  fun H locs la hP hS hl => lv_iload C.1 C.2.1 hd (g_lat hl pl h) (k H locs la hP hS hl)
theorem g_lload_n {ret : Option FieldType} (C : gC p s m args meth c D ca ad N L own cc nL ret) {i : Fin 4} {x : Int64} (pl : Nat) (hd : decode cc pc = .ok (.lload_n i, 1)) (h : ls[pl]? = some (i.val, .long x)) (k : GG p l e R s m args below meth c D ca ad N L nL cs ss Q (pc + 1) ls (.long x :: st) σ) : GG p l e R s m args below meth c D ca ad N L nL cs ss Q pc ls st σ :=
  fun H locs la hP hS hl => lv_lload_n C.1 C.2.1 hd rfl (g_lat hl pl h) (k H locs la hP hS hl)
theorem g_lload {ret : Option FieldType} (C : gC p s m args meth c D ca ad N L own cc nL ret) {i : Nat} {x : Int64} (pl : Nat) (hd : decode cc pc = .ok (.lload i, 2)) (h : ls[pl]? = some (i, .long x)) (k : GG p l e R s m args below meth c D ca ad N L nL cs ss Q (pc + 2) ls (.long x :: st) σ) : GG p l e R s m args below meth c D ca ad N L nL cs ss Q pc ls st σ :=
  fun H locs la hP hS hl => lv_lload C.1 C.2.1 hd (g_lat hl pl h) (k H locs la hP hS hl)
theorem g_aload_n {ret : Option FieldType} (C : gC p s m args meth c D ca ad N L own cc nL ret) {i : Fin 4} {x : Nat} (pl : Nat) (hd : decode cc pc = .ok (.aload_n i, 1)) (h : ls[pl]? = some (i.val, .ref x)) (k : GG p l e R s m args below meth c D ca ad N L nL cs ss Q (pc + 1) ls (.ref x :: st) σ) : GG p l e R s m args below meth c D ca ad N L nL cs ss Q pc ls st σ :=
  fun H locs la hP hS hl => lv_aload_n C.1 C.2.1 hd rfl (g_lat hl pl h) (k H locs la hP hS hl)
theorem g_aload {ret : Option FieldType} (C : gC p s m args meth c D ca ad N L own cc nL ret) {i : Nat} {x : Nat} (pl : Nat) (hd : decode cc pc = .ok (.aload i, 2)) (h : ls[pl]? = some (i, .ref x)) (k : GG p l e R s m args below meth c D ca ad N L nL cs ss Q (pc + 2) ls (.ref x :: st) σ) : GG p l e R s m args below meth c D ca ad N L nL cs ss Q pc ls st σ :=
  fun H locs la hP hS hl => lv_aload C.1 C.2.1 hd (g_lat hl pl h) (k H locs la hP hS hl)
def sf1 (i : Nat) (q : Nat × Value) : Bool := !(q.1 == i) && !(q.1 + 1 == i && q.2.category == 2)
def sf2 (i : Nat) (q : Nat × Value) : Bool := !(q.1 == i) && (!(q.1 == i + 1) && !(q.1 + 1 == i && q.2.category == 2))
theorem sf1_map (i : Nat) (v : Value) : (i, tv ad v) :: (ls.map (tvp ad)).filter (fun q => !(q.1 == i) && !(q.1 + 1 == i && q.2.category == 2)) = ((i, v) :: ls.filter (sf1 i)).map (tvp ad) := by
  rw [List.filter_map, List.map_cons]
  congr 2
  apply List.filter_congr
  intro q _
  simp [tvp, sf1, tv_cat]
theorem sf2_map (i : Nat) (v : Value) : (i, tv ad v) :: (ls.map (tvp ad)).filter (fun q => !(q.1 == i) && (!(q.1 == i + 1) && !(q.1 + 1 == i && q.2.category == 2))) = ((i, v) :: ls.filter (sf2 i)).map (tvp ad) := by
  rw [List.filter_map, List.map_cons]
  congr 2
  apply List.filter_congr
  intro q _
  simp [tvp, sf2, tv_cat]
theorem g_istore_n {ret : Option FieldType} (C : gC p s m args meth c D ca ad N L own cc nL ret) {i : Fin 4} {x : Int32} (ls' : List (Nat × Value)) (hd : decode cc pc = .ok (.istore_n i, 1)) (hn : i.val < nL) (he : (i.val, Value.int x) :: ls.filter (sf1 i.val) = ls') (k : GG p l e R s m args below meth c D ca ad N L nL cs ss Q (pc + 1) ls' st σ) : GG p l e R s m args below meth c D ca ad N L nL cs ss Q pc ls (.int x :: st) σ :=
  fun H locs la hP hS hl => lv_istore_n (lv' := ls'.map (tvp ad)) C.1 C.2.1 hd rfl hl hn (by rw [← he]; exact sf1_map i.val (.int x)) (fun la' hl' => k H locs la' hP hS hl')
theorem g_istore {ret : Option FieldType} (C : gC p s m args meth c D ca ad N L own cc nL ret) {i : Nat} {x : Int32} (ls' : List (Nat × Value)) (hd : decode cc pc = .ok (.istore i, 2)) (hn : i < nL) (he : (i, Value.int x) :: ls.filter (sf1 i) = ls') (k : GG p l e R s m args below meth c D ca ad N L nL cs ss Q (pc + 2) ls' st σ) : GG p l e R s m args below meth c D ca ad N L nL cs ss Q pc ls (.int x :: st) σ :=
  fun H locs la hP hS hl => lv_istore (lv' := ls'.map (tvp ad)) C.1 C.2.1 hd hl hn (by rw [← he]; exact sf1_map i (.int x)) (fun la' hl' => k H locs la' hP hS hl')
theorem g_astore_n {ret : Option FieldType} (C : gC p s m args meth c D ca ad N L own cc nL ret) {i : Fin 4} {x : Nat} (ls' : List (Nat × Value)) (hd : decode cc pc = .ok (.astore_n i, 1)) (hn : i.val < nL) (he : (i.val, Value.ref x) :: ls.filter (sf1 i.val) = ls') (k : GG p l e R s m args below meth c D ca ad N L nL cs ss Q (pc + 1) ls' st σ) : GG p l e R s m args below meth c D ca ad N L nL cs ss Q pc ls (.ref x :: st) σ :=
  fun H locs la hP hS hl => lv_astore_n (lv' := ls'.map (tvp ad)) C.1 C.2.1 hd rfl hl hn (by rw [← he]; exact sf1_map i.val (.ref x)) (fun la' hl' => k H locs la' hP hS hl')
theorem g_astore {ret : Option FieldType} (C : gC p s m args meth c D ca ad N L own cc nL ret) {i : Nat} {x : Nat} (ls' : List (Nat × Value)) (hd : decode cc pc = .ok (.astore i, 2)) (hn : i < nL) (he : (i, Value.ref x) :: ls.filter (sf1 i) = ls') (k : GG p l e R s m args below meth c D ca ad N L nL cs ss Q (pc + 2) ls' st σ) : GG p l e R s m args below meth c D ca ad N L nL cs ss Q pc ls (.ref x :: st) σ :=
  fun H locs la hP hS hl => lv_astore (lv' := ls'.map (tvp ad)) C.1 C.2.1 hd hl hn (by rw [← he]; exact sf1_map i (.ref x)) (fun la' hl' => k H locs la' hP hS hl')
theorem g_lstore_n {ret : Option FieldType} (C : gC p s m args meth c D ca ad N L own cc nL ret) {i : Fin 4} {x : Int64} (ls' : List (Nat × Value)) (hd : decode cc pc = .ok (.lstore_n i, 1)) (hn : i.val + 1 < nL) (he : (i.val, Value.long x) :: ls.filter (sf2 i.val) = ls') (k : GG p l e R s m args below meth c D ca ad N L nL cs ss Q (pc + 1) ls' st σ) : GG p l e R s m args below meth c D ca ad N L nL cs ss Q pc ls (.long x :: st) σ :=
  fun H locs la hP hS hl => lv_lstore_n (lv' := ls'.map (tvp ad)) C.1 C.2.1 hd rfl hl hn (by rw [← he]; exact sf2_map i.val (.long x)) (fun la' hl' => k H locs la' hP hS hl')
theorem g_lstore {ret : Option FieldType} (C : gC p s m args meth c D ca ad N L own cc nL ret) {i : Nat} {x : Int64} (ls' : List (Nat × Value)) (hd : decode cc pc = .ok (.lstore i, 2)) (hn : i + 1 < nL) (he : (i, Value.long x) :: ls.filter (sf2 i) = ls') (k : GG p l e R s m args below meth c D ca ad N L nL cs ss Q (pc + 2) ls' st σ) : GG p l e R s m args below meth c D ca ad N L nL cs ss Q pc ls (.long x :: st) σ :=
  fun H locs la hP hS hl => lv_lstore (lv' := ls'.map (tvp ad)) C.1 C.2.1 hd hl hn (by rw [← he]; exact sf2_map i (.long x)) (fun la' hl' => k H locs la' hP hS hl')
theorem g_iinc {ret : Option FieldType} (C : gC p s m args meth c D ca ad N L own cc nL ret) {i : Nat} {n : Int} {x v : Int32} (pl : Nat) (ls' : List (Nat × Value)) (hd : decode cc pc = .ok (.iinc i n, 3)) (h : ls[pl]? = some (i, .int x)) (hv : x + Int32.ofInt n = v) (hn : i < nL) (he : (i, Value.int v) :: ls.filter (sf1 i) = ls') (k : GG p l e R s m args below meth c D ca ad N L nL cs ss Q (pc + 3) ls' st σ) : GG p l e R s m args below meth c D ca ad N L nL cs ss Q pc ls st σ :=
  fun H locs la hP hS hl => lv_iinc (v := v) (lv' := ls'.map (tvp ad)) (k := pl) C.1 C.2.1 hd hl (by rw [List.getElem?_map, h]; rfl) hv hn (by rw [← he]; exact sf1_map i (.int v)) (fun la' hl' => k H locs la' hP hS hl')
end GJ
