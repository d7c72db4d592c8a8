theorem gW_set2 {ad : Nat → Nat} {ca : Nat → ClassId} {N : Nat} {L L' : Nat → Nat} {σ τ : St} {k : Nat} {x : va_E} (hx : x = gE ad ca (L' k) k τ) (hL : ∀ a, a ≠ k → L' a = L a) (h : ∀ a, a ≠ k → τ.1 a = σ.1 a ∧ τ.2 a = σ.2 a) : (gW ad ca N L σ).set k (ad k, x) = gW ad ca N L' τ := by
  subst hx
  apply List.ext_getElem?
  intro i
  by_cases hi : i < N
  · rw [gW_get hi, List.getElem?_set]
    by_cases e : k = i
    · subst e
      simp [gW, hi]
    · have e' : i ≠ k := fun q => e q.symm
      rw [if_neg e, gW_get hi, hL i e', gE_congr (h i e').1.symm (h i e').2.symm]
  · have a1 : (gW ad ca N L' τ)[i]? = none := by simp [gW]; omega
    have a2 : ((gW ad ca N L σ).set k (ad k, gE ad ca (L' k) k τ))[i]? = none := by simp [gW]; omega
    rw [a1, a2]
theorem ly_set_eq {l : List Nat} {k cd : Nat} (h : k < l.length) : ly (l.set k cd) k = cd := by
  unfold ly
  simp [List.getD_eq_getElem?_getD, h]
theorem ly_set_ne {l : List Nat} {k cd a : Nat} (h : a ≠ k) : ly (l.set k cd) a = ly l a := by
  unfold ly
  simp [List.getD_eq_getElem?_getD, List.getElem?_set, Ne.symm h]
theorem gI_set {ad : Nat → Nat} {N : Nat} {l : List Nat} {k cd : Nat} (hI : gI ad N (ly l)) (hk : ly l k ≠ 99) : gI ad N (ly (l.set k cd)) := by
  refine ⟨hI.1, fun a ha => ?_⟩
  by_cases e : a = k
  · subst e; exact hI.2 a hk
  · rw [ly_set_ne e] at ha
    exact hI.2 a ha
theorem gE_par {ad : Nat → Nat} {ca : Nat → ClassId} {cd k : Nat} {σ : St} (hc : 99 < cd) : gE ad ca cd k σ = .inr (gpc cd, (List.range (gnf (gpc cd))).map (fun j => gpv ad (gpc cd) (gpm cd) j k σ)) := by
  unfold gE
  rw [if_neg (by omega), if_neg (by omega)]
theorem gpl_set1 {ad : Nat → Nat} {c ms j k : Nat} {σ : St} {v : Int32} (h0 : gfk c j = 0) : ((List.range (gnf c)).map (fun i => gpv ad c ms i k σ)).set j (.int v) = (List.range (gnf c)).map (fun i => gpv ad c ms i k (up1 σ k j v)) := by
  apply List.ext_getElem?
  intro i
  rw [List.getElem?_set]
  by_cases e : j = i
  · subst e
    by_cases hj : j < gnf c
    · simp [hj, gpv, gfv, h0, up1]
    · simp [hj]
  · have e' : ¬ i = j := fun q => e q.symm
    rw [if_neg e]
    by_cases hj : i < gnf c
    · simp [hj, gpv, gfv, up1, e']
    · simp [hj]
theorem gpl_set2 {ad : Nat → Nat} {c ms j k : Nat} {σ : St} {v : Int64} (h0 : gfk c j = 1) : ((List.range (gnf c)).map (fun i => gpv ad c ms i k σ)).set j (.long v) = (List.range (gnf c)).map (fun i => gpv ad c ms i k (up2 σ k j v)) := by
  apply List.ext_getElem?
  intro i
  rw [List.getElem?_set]
  by_cases e : j = i
  · subst e
    by_cases hj : j < gnf c
    · simp [hj, gpv, gfv, h0, up2]
    · simp [hj]
  · have e' : ¬ i = j := fun q => e q.symm
    rw [if_neg e]
    by_cases hj : i < gnf c
    · simp [hj, gpv, gfv, up2, e']
    · simp [hj]
theorem gpl_setR {ad : Nat → Nat} {c ms ms' j k : Nat} {σ : St} {v : Value} (h2 : 2 ≤ gfk c j) (hv : gfv ad c j k σ = v) (hm : ∀ i, i < gnf c → ms'.testBit i = (ms.testBit i || decide (i = j))) : ((List.range (gnf c)).map (fun i => gpv ad c ms i k σ)).set j v = (List.range (gnf c)).map (fun i => gpv ad c ms' i k σ) := by
  apply List.ext_getElem?
  intro i
  rw [List.getElem?_set]
  by_cases hi : i < gnf c
  · by_cases e : j = i
    · subst e
      simp [hi, gpv, hm j hi, hv]
    · have e' : ¬ i = j := fun q => e q.symm
      rw [if_neg e]
      simp [hi, gpv, hm i hi, e']
  · by_cases e : j = i
    · subst e
      simp [hi]
    · rw [if_neg e]
      simp [hi]
/-- a final field of the system's own, set in its constructor -/
def gLf (own : String) (idx c j : Nat) (ty : FieldType) : Prop := ∃ (T : u_T) (Nf : Nat) (tyf : Nat → FieldType), vwCl[c]? = some (own, T, Nf) ∧ j < Nf ∧ gnf c = Nf ∧ c < 10 ∧ (∀ w ∈ u_ws own T Nf, w ∈ gtb) ∧ Cond.fieldLink own idx (T j).1 (T j).2.1 (T j).2.2.1 ∈ gtb ∧ (∀ k, k < Nf → parseFieldDescriptor (T k).2.2.1 = some (tyf k)) ∧ (∀ a, a < Nf → ∀ b, b < Nf → a ≠ b → (T a).2.1 ≠ (T b).2.1) ∧ (T j).2.2.2 = true ∧ (T j).1 = own ∧ parseFieldDescriptor (T j).2.2.1 = some ty
def okI (own : String) (idx : Nat) (y : MethodName) (cc : ByteArray) (mL : Nat) (n : Nat) : Prop := Cond.methodLink own idx y ∈ gtb ∧ Cond.instanceMethod y ∈ gtb ∧ Cond.initialized y.cls ∈ gtb ∧ Cond.code y cc mL none ∈ gtb ∧ y.name = "<init>" ∧ y.cls ≠ "java/lang/invoke/MethodHandle" ∧ y.cls ≠ "java/lang/invoke/VarHandle" ∧ (parseMethodDescriptor y.desc).map (fun d => d.parameters.length) = some n
def okO (own : String) (idx : Nat) : Prop := Cond.methodLink own idx Lib.objectInit ∈ gtb ∧ Cond.instanceMethod Lib.objectInit ∈ gtb ∧ Cond.code Lib.objectInit ⟨#[0xb1]⟩ 1 none ∈ gtb
section GO
variable {p : Program} {l : Launch} {e : Env} {R : Room} {s : State} {m : MethodId} {args : Array Value} {below : List Frame} {meth : Method} {c : Code} {D : va_G} {ca : Nat → ClassId} {ad : Nat → Nat} {own : String} {cc : ByteArray} {nL : Nat} {Q : State → Prop} {pc : Nat} {ls : List (Nat × Value)} {st : List Value} {σ : St} {cs ss : Nat} {ret : Option FieldType} {lx : List Nat} {N h0 hw : Nat} {L : Nat → Nat}
theorem g_objI (C : gC p s m args meth c D ca ad N L own cc nL ret) {k i : Nat} (q : okO own i) (hf : 1 ≤ R.frames) (hl8 : (st.map (fun v => v.category)).sum + 12 ≤ R.locals) (hd : decode cc pc = .ok (.invokespecial i, 3)) (kk : GG p l e R s m args below meth c D ca ad N L nL cs ss Q (pc + 3) ls st σ) : GG p l e R s m args below meth c D ca ad N L nL cs ss Q pc ls (.ref k :: st) σ := by
  intro H locs la hP hS hl
  obtain ⟨hx, hb, hml, hown, hts, ⟨hK, hNw, hAO⟩, hI, hlk, hr⟩ := C
  obtain ⟨q1, q2, q3⟩ := q
  have h8' : ((st.map (tv ad)).map (fun v => v.category)).sum + 12 ≤ R.locals := by
    rw [List.map_map, show ((fun v : Value => v.category) ∘ tv ad) = (fun v => v.category) from funext (fun v => tv_cat ad v)]
    exact hl8
  refine W.objInit hx hb hown (hts _ q1) (hts _ q2) (hts _ q3) rfl (by rw [hml]; exact hl.1) (a := ad k) (rest := st.map (tv ad)) rfl hd hf ?_ (kk H locs la hP hS hl)
  show 2 * 0 + _ + 12 ≤ _
  omega
theorem gW_par {k cd : Nat} (hk : L k = cd) (hc : 99 < cd) (hI : gI ad N L) : (gW ad ca N L σ)[k]? = some (ad k, .inr (gpc cd, (List.range (gnf (gpc cd))).map (fun j => gpv ad (gpc cd) (gpm cd) j k σ))) := by
  rw [gW_get (hI.2 k (by omega)), hk, gE_par hc]
theorem g_putP (C : gC p s m args meth c D ca ad N L own cc nL ret) {k cd i cn : Nat} {v : Value} {ty : FieldType} {τ : St} (j : Nat) (hk : L k = cd) (hc : 99 < cd) (hcn : gpc cd = cn) (hf : gLp own i cn j ty) (hn : narrow ty v = v) (hfit : fits ty v = true) (hset : ∀ ms, ((List.range (gnf cn)).map (fun i => gpv ad cn ms i k σ)).set j v = (List.range (gnf cn)).map (fun i => gpv ad cn ms i k τ)) (hoff : ∀ a, a ≠ k → τ.1 a = σ.1 a ∧ τ.2 a = σ.2 a) (htv : tv ad v = v) (hd : decode cc pc = .ok (.putfield i, 3)) (kk : GG p l e R s m args below meth c D ca ad N L nL cs ss Q (pc + 3) ls st τ) : GG p l e R s m args below meth c D ca ad N L nL cs ss Q pc ls (v :: .ref k :: st) σ := by
  intro H locs la hP hS hl
  obtain ⟨hx, hb, hml, hown, hts, ⟨hK, hNw, hAO⟩, hI, hlk, hr⟩ := C
  obtain ⟨Cn, T, Nf, tyf, h1, h2, h3, h4, h5, h6, h7, h8, h9, h10⟩ := hf
  have hg := gW_par (ca := ca) (σ := σ) hk hc hI
  rw [hcn] at hg
  have hw : (gW ad ca N L σ).set k (ad k, .inr (cn, ((List.range (gnf cn)).map (fun i => gpv ad cn (gpm cd) i k σ)).set j v)) = gW ad ca N L τ := gW_set2 (by rw [hset, hk, gE_par hc, hcn]) (fun _ _ => rfl) hoff
  show W p l e R s m args below meth c H locs cs ss Q (F0 m pc la (tv ad v :: .ref (ad k) :: st.map (tv ad)))
  rw [htv]
  rcases h6 with h6 | ⟨host, h6⟩
  · exact va_put (D := D) hx hb (fun w hw => hts w hw) h5 tyf h7 h8 hown hK hP (gW_D hI) hS k hg h1 j h2 (hts _ h6) (fun _ h9 => h9) h9 h10 hn hfit (by simp; omega) hd (fun H1 locs1 hP1 _ hS1 => kk H1 locs1 la (by rw [hw] at hP1; exact hP1) hS1 hl)
  · exact va_putN (D := D) hx hb (fun w hw => hts w hw) h5 tyf h7 h8 hown hK hP (gW_D hI) hS k hg h1 j h2 (va_Nw.use rfl (hNw _ h6)) (fun _ h9 => h9) h9 h10 hn hfit (by simp; omega) hd (fun H1 locs1 hP1 _ hS1 => kk H1 locs1 la (by rw [hw] at hP1; exact hP1) hS1 hl)
theorem g_putPI (C : gC p s m args meth c D ca ad N L own cc nL ret) {k cd i cn : Nat} {x : Int32} (j : Nat) (hk : L k = cd) (hc : 99 < cd) (hcn : gpc cd = cn) (hf : gLp own i cn j .int) (h0 : gfk cn j = 0) (hd : decode cc pc = .ok (.putfield i, 3)) (kk : GG p l e R s m args below meth c D ca ad N L nL cs ss Q (pc + 3) ls st (up1 σ k j x)) : GG p l e R s m args below meth c D ca ad N L nL cs ss Q pc ls (.int x :: .ref k :: st) σ :=
  g_putP C j hk hc hcn hf rfl rfl (fun _ => gpl_set1 h0) (fun a h => up1_off a h) rfl hd kk
theorem g_putPZ (C : gC p s m args meth c D ca ad N L own cc nL ret) {k cd i cn : Nat} {x : Int32} (j : Nat) (hk : L k = cd) (hc : 99 < cd) (hcn : gpc cd = cn) (hf : gLp own i cn j .boolean) (h0 : gfk cn j = 0) (hn : narrow .boolean (.int x) = .int x) (hfit : fits .boolean (.int x) = true) (hd : decode cc pc = .ok (.putfield i, 3)) (kk : GG p l e R s m args below meth c D ca ad N L nL cs ss Q (pc + 3) ls st (up1 σ k j x)) : GG p l e R s m args below meth c D ca ad N L nL cs ss Q pc ls (.int x :: .ref k :: st) σ :=
  g_putP C j hk hc hcn hf hn hfit (fun _ => gpl_set1 h0) (fun a h => up1_off a h) rfl hd kk
theorem g_putPL (C : gC p s m args meth c D ca ad N L own cc nL ret) {k cd i cn : Nat} {x : Int64} (j : Nat) (hk : L k = cd) (hc : 99 < cd) (hcn : gpc cd = cn) (hf : gLp own i cn j .long) (h0 : gfk cn j = 1) (hd : decode cc pc = .ok (.putfield i, 3)) (kk : GG p l e R s m args below meth c D ca ad N L nL cs ss Q (pc + 3) ls st (up2 σ k j x)) : GG p l e R s m args below meth c D ca ad N L nL cs ss Q pc ls (.long x :: .ref k :: st) σ :=
  g_putP C j hk hc hcn hf rfl rfl (fun _ => gpl_set2 h0) (fun a h => up2_off a h) rfl hd kk
theorem g_putPR (C : gC p s m args meth c D ca ad N (ly lx) own cc nL ret) {k k2 cd i cn : Nat} {ty : FieldType} (j cd' : Nat) (hin : meth.name = "<init>") (hk : ly lx k = cd) (hc : 99 < cd) (hc' : 99 < cd') (hcn : gpc cd = cn) (hcn' : gpc cd' = cn) (hf : gLf own i cn j ty) (hn : ∀ a, narrow ty (.ref a) = .ref a) (hfit : ∀ a, fits ty (.ref a) = true) (h2 : 2 ≤ gfk cn j) (hv : (if gfk cn j = 2 then k + gfo cn j else gfo cn j) = k2) (hm : (List.range (gnf cn)).all (fun i => (gpm cd').testBit i == ((gpm cd).testBit i || decide (i = j))) = true) (hd : decode cc pc = .ok (.putfield i, 3)) (kk : gC p s m args meth c D ca ad N (ly (lx.set k cd')) own cc nL ret → GG p l e R s m args below meth c D ca ad N (ly (lx.set k cd')) nL cs ss Q (pc + 3) ls st σ) : GG p l e R s m args below meth c D ca ad N (ly lx) nL cs ss Q pc ls (.ref k2 :: .ref k :: st) σ := by
  intro H locs la hP hS hl
  have hI := C.2.2.2.2.2.2.1
  have hI' : gI ad N (ly (lx.set k cd')) := gI_set hI (by omega)
  have kk := kk (gC_re C hI')
  obtain ⟨hx, hb, hml, hown, hts, ⟨hK, hNw, hAO⟩, hI, hlk, hr⟩ := C
  obtain ⟨T, Nf, tyf, h1, h2', h3, h4, h5, h6, h7, h8, h9, h10, h11⟩ := hf
  have hg := gW_par (ca := ca) (σ := σ) hk hc hI
  rw [hcn] at hg
  have hv2 : gfv ad cn j k σ = .ref (ad k2) := by
    unfold gfv
    rw [← hv]
    split
    · rename_i e; omega
    · rename_i e; omega
    · rename_i e; rw [if_pos e]
    · rename_i e1 e2 e3; rw [if_neg e3]
  have hset := gpl_setR (ad := ad) (ms := gpm cd) (ms' := gpm cd') (σ := σ) h2 hv2 (fun i hi => by simpa using List.all_eq_true.mp hm i (List.mem_range.mpr hi))
  have hw : (gW ad ca N (ly lx) σ).set k (ad k, .inr (cn, ((List.range (gnf cn)).map (fun i => gpv ad cn (gpm cd) i k σ)).set j (.ref (ad k2)))) = gW ad ca N (ly (lx.set k cd')) σ := gW_set2 (by rw [hset, ly_set_eq (ly_out (by omega)), gE_par hc', hcn']) (fun a ha => ly_set_ne ha) (fun _ _ => ⟨rfl, rfl⟩)
  exact va_putF (D := D) (v := .ref (ad k2)) hx hb (fun w hw => hts w hw) h5 tyf h7 h8 hown hK hP (gW_D hI) hS k hg h1 j h2' (hts _ h6) (fun _ h9 => h9) h9 hin h10 h11 (hn _) (hfit _) (by simp; omega) hd (fun H1 locs1 hP1 _ hS1 => kk H1 locs1 la (by rw [hw] at hP1; exact hP1) hS1 hl)
theorem g_getP (C : gC p s m args meth c D ca ad N L own cc nL ret) {k cd i cn : Nat} (j k2 : Nat) (hk : L k = cd) (hc : 99 < cd) (hcn : gpc cd = cn) (hf : gL own i cn j) (h0 : gfk cn j = 2) (hm : (gpm cd).testBit j = true) (h2 : k + gfo cn j = k2) (hd : decode cc pc = .ok (.getfield i, 3)) (kk : GG p l e R s m args below meth c D ca ad N L nL cs ss Q (pc + 3) ls (.ref k2 :: st) σ) : GG p l e R s m args below meth c D ca ad N L nL cs ss Q pc ls (.ref k :: st) σ := by
  intro H locs la hP hS hl
  obtain ⟨hx, hb, hml, hown, hts, ⟨hK, hNw, hAO⟩, hI, hlk, hr⟩ := C
  obtain ⟨Cn, T, Nf, h1, h3, h4, h5, h6, h7⟩ := hf
  have hg := gW_par (ca := ca) (σ := σ) hk hc hI
  rw [hcn] at hg
  have hv2 : ((List.range (gnf cn)).map (fun j => gpv ad cn (gpm cd) j k σ))[j]? = some (.ref (ad k2)) := by
    have : j < gnf cn := by omega
    simp [this, gpv, hm, gfv, h0, h2]
  rcases h7 with h7 | ⟨host, h7⟩
  · exact va_get (D := D) hx hb (fun w hw => hts w hw) h6 hown hK hP k hg h1 j h3 (hts _ h7) (fun _ h9 => h9) hv2 hd (kk H locs la hP hS hl)
  · exact va_getN (D := D) hx hb (fun w hw => hts w hw) h6 hown hK hP k hg h1 j h3 (va_Nw.use rfl (hNw _ h7)) (fun _ h9 => h9) hv2 hd (kk H locs la hP hS hl)
theorem g_recode (C : gC p s m args meth c D ca ad N (ly lx) own cc nL ret) (k cd' : Nat) (hk : ly lx k ≠ 99) (h : ∀ (ad : Nat → Nat) (ca : Nat → ClassId) (σ : St), gE ad ca (ly lx k) k σ = gE ad ca cd' k σ) (kk : gC p s m args meth c D ca ad N (ly (lx.set k cd')) own cc nL ret → GG p l e R s m args below meth c D ca ad N (ly (lx.set k cd')) nL cs ss Q pc ls st σ) : GG p l e R s m args below meth c D ca ad N (ly lx) nL cs ss Q pc ls st σ := by
  intro H locs la hP hS hl
  have hI := C.2.2.2.2.2.2.1
  refine kk (gC_re C (gI_set hI hk)) H locs la ?_ hS hl
  apply gW_mem
  intro a ha
  have hx := hP a _ (gW_get ha)
  by_cases e : a = k
  · subst e
    rw [ly_set_eq (ly_out hk), ← h]
    exact hx
  · rw [ly_set_ne e]
    exact hx
theorem g_full {c0 ms k : Nat} (h1 : c0 < 10) (hm : (List.range (gnf c0)).all (fun j => decide (gfk c0 j < 2) || ms.testBit j) = true) (ad : Nat → Nat) (ca : Nat → ClassId) (σ : St) : gE ad ca (100 + 16 * ms + c0) k σ = gE ad ca c0 k σ := by
  have e1 : gpc (100 + 16 * ms + c0) = c0 := by unfold gpc; omega
  have e2 : gpm (100 + 16 * ms + c0) = ms := by unfold gpm; omega
  rw [gE_par (by omega), e1, e2]
  unfold gE
  rw [if_pos h1]
  congr 2
  apply List.map_congr_left
  intro j hj
  have := List.all_eq_true.mp hm j hj
  unfold gpv
  rw [if_neg]
  intro q
  simp [q.2] at this
  omega
theorem g_aast (C : gC p s m args meth c D ca ad N (ly lx) own cc nL ret) {k cd k2 : Nat} {i : Int32} (t0 n j cd' cn : Nat) (hk : ly lx k = cd) (ho1 : ¬ cd < 10) (ho2 : cd < 99) (ho1' : ¬ cd' < 10) (ho2' : cd' < 99) (hac : gac (gat cd) = t0) (hac' : gac (gat cd') = t0) (hal : gal cd = n) (hal' : gal cd' = n) (hf : ∀ (ad : Nat → Nat) (σ : St), ∃ f, gct ad cd k σ = .inr (.inr (.inr (.inr f))) ∧ gct ad cd' k σ = .inr (.inr (.inr (.inr (va_up f j (some (ad k2))))))) {Cn : String} {T : u_T} {Nf : Nat} (hcn : vwCl[cn]? = some (Cn, T, Nf)) (htt : ∀ ca : Nat → ClassId, (gT ca)[t0]? = some (ca t0, .object Cn)) (hk2 : ly lx k2 = cn) (hcn10 : cn < 10) (hi : i.toNatClampNeg = j) (hin : vp_in i n) (hd : decode cc pc = .ok (.aastore, 1)) (kk : gC p s m args meth c D ca ad N (ly (lx.set k cd')) own cc nL ret → GG p l e R s m args below meth c D ca ad N (ly (lx.set k cd')) nL cs ss Q (pc + 1) ls st σ) : GG p l e R s m args below meth c D ca ad N (ly lx) nL cs ss Q pc ls (.ref k2 :: .int i :: .ref k :: st) σ := by
  intro H locs la hP hS hl
  have hI := C.2.2.2.2.2.2.1
  have kk := kk (gC_re C (gI_set hI (by omega)))
  obtain ⟨hx, hb, hml, hown, hts, ⟨hK, hNw, hAO⟩, hI, hlk, hr⟩ := C
  obtain ⟨f, f1, f2⟩ := hf ad σ
  have hg := gW_arr (ca := ca) (σ := σ) hk ho1 ho2 hI
  rw [f1, hac, hal] at hg
  have hg2 := gW_obj (ca := ca) (σ := σ) hk2 hcn10 hI
  have hw : (gW ad ca N (ly lx) σ).set k (ad k, .inl (ca t0, n, .inr (.inr (.inr (.inr (va_up f j (some (ad k2)))))))) = gW ad ca N (ly (lx.set k cd')) σ := gW_set2 (by rw [ly_set_eq (ly_out (by omega))]; unfold gE; rw [if_neg ho1', if_pos ho2', hac', hal', f2]) (fun a ha => ly_set_ne ha) (fun _ _ => ⟨rfl, rfl⟩)
  subst hi
  exact va_astq (D := D) (v := ad k2) hx hb hK hP (gW_D hI) hS k t0 k2 cn (r := (Cn, T, Nf)) hg (htt ca) hg2 hcn hin hd (fun H1 locs1 hP1 _ hS1 => kk H1 locs1 la (by rw [hw] at hP1; exact hP1) hS1 hl)
/-- a constructor's contract: one half-made cell h0 becomes the cells of lf, numbers ρ -/
def gQi (D : va_G) (ca : Nat → ClassId) (h0 hw : Nat) (lf : List Nat) (ρ : St) : Array Value → State → Outcome → State → Prop := fun _ st oc t => oc = .returned none ∧ (∃ ad : Nat → Nat, gI ad lf.length (ly lf) ∧ gF h0 hw st ad lf.length ∧ va_P D vwCl (gW ad ca lf.length (ly lf) ρ) t.heap) ∧ va_F (fun q => q = h0 ∨ st.heap.size ≤ q) st t
def gMi (l : Launch) (D : va_G) (ca : Nat → ClassId) (y : MethodName) (cc : ByteArray) (mL : Nat) (rm : Room) (c0 : Nat) (ex : List Value) (hw : Nat) (lf : List Nat) (ρ : St) (mc ms : Nat) : Prop := ∀ h0 sz : Nat, Met l y (Cond.code y cc mL none :: gtb) rm (va_Pc (.ref h0 :: ex) (fun U => U.heap.size = sz ∧ va_P D vwCl [(h0, gE (fun _ => h0) ca (100 + c0) 0 zst)] U.heap ∧ gK D ca U)) (gQi D ca h0 hw lf ρ) mc ms (fun q => q = h0 ∨ sz ≤ q)
theorem gMi_of {y : MethodName} {mL : Nat} {rm : Room} {c0 : Nat} {exa ex : List Value} {lf : List Nat} {ρ : St} {mc ms : Nat} (hy : plainName y.cls = true) (hyn : y.name = "<init>") (hc0 : c0 < 10) (hl : (lg_sl (.ref 0 :: exa)).length ≤ mL) (hex : ∀ ad : Nat → Nat, ad 63 = hw → exa.map (tv ad) = ex)
    (body : ∀ (h0 : Nat) (p : Program) (e : Env) (s : State) (m : MethodId) (args : Array Value) (below : List Frame) (meth : Method) (c : Code) (ad : Nat → Nat), gC p s m args meth c D ca ad 1 (ly [100 + c0]) y.cls cc mL none → gF h0 hw s ad 1 → meth.name = "<init>" → GG p l e rm s m args below meth c D ca ad 1 (ly [100 + c0]) mL 0 0 (MQ below (gQi D ca h0 hw lf ρ) args s mc ms (fun q => q = h0 ∨ s.heap.size ≤ q)) 0 (lv_args 0 (.ref 0 :: exa)) [] zst) : gMi l D ca y cc mL rm c0 ex hw lf ρ mc ms := by
  intro h0 sz
  refine Met.ofW (cc := cc) (maxL := mL) (ret := none) hy rfl ?_
  intro p e s m args below meth c s₁ B hml hv
  obtain ⟨rfl, hsz, hP, hK⟩ := hv
  subst hsz
  have hts := atoms_spec (ws := Cond.code y cc mL none :: gtb) B.pre
  obtain ⟨ad, a0, a63⟩ : ∃ ad : Nat → Nat, ad 0 = h0 ∧ ad 63 = hw := ⟨fun k => if k = 63 then hw else h0, rfl, rfl⟩
  have hI : gI ad 1 (ly [100 + c0]) := ⟨fun i j hi hj _ => by omega, fun k hk => by simpa using ly_out hk⟩
  have C : gC p s m (Value.ref h0 :: ex).toArray meth c D ca ad 1 (ly [100 + c0]) y.cls cc mL none := ⟨B.exec, B.bytes, hml, findClass_of_methodNamed B.named, fun w hw => hts w (List.mem_cons_of_mem _ hw), hK, hI, B.notSynchronized, B.returns⟩
  have hx : (Value.ref h0 :: ex) = (Value.ref 0 :: exa).map (tv ad) := by rw [List.map_cons, hex ad a63]; simp [tv, a0]
  have hP' : va_P D vwCl (gW ad ca 1 (ly [100 + c0]) zst) s.heap := by
    apply gW_mem
    intro k hk
    obtain rfl : k = 0 := by omega
    have h1 := hP 0 _ rfl
    rw [a0]
    have : gE ad ca (100 + c0) 0 zst = gE (fun _ => h0) ca (100 + c0) 0 zst := by
      have e1 : gpc (100 + c0) = c0 := by unfold gpc; omega
      have e2 : gpm (100 + c0) = 0 := by unfold gpm; omega
      apply gE_ad
      intro t ht
      exfalso
      unfold gtg at ht
      rw [if_neg (by omega), if_neg (by omega), e1, e2] at ht
      obtain ⟨j, hj, ht⟩ := List.mem_flatMap.mp ht
      by_cases h : 2 ≤ gfk c0 j
      · rw [if_pos ⟨h, Nat.zero_testBit j⟩] at ht
        cases ht
      · rw [if_neg (fun q => h q.1)] at ht
        unfold gtf at ht
        split at ht
        · cases ht
        · cases ht
        · rename_i e; omega
        · rename_i e3 e4 e5
          have e3 : ¬ gfk c0 j = 0 := e3
          have e4 : ¬ gfk c0 j = 1 := e4
          omega
    show va_at D vwCl (h0, gE ad ca (100 + c0) 0 zst) s.heap
    rw [this]
    exact h1
  have hlen : ∀ l : List Value, (lg_sl (l.map (tv ad))).length = (lg_sl l).length := by
    intro l
    induction l with
    | nil => rfl
    | cons v t ih =>
      simp only [lg_sl, List.map_cons, List.flatMap_cons, List.length_append, tv_cat] at ih ⊢
      rw [ih]
      by_cases h : v.category = 2 <;> simp [h]
  have hargs : ∀ (l : List Value) (i : Nat), lv_args i (l.map (tv ad)) = (lv_args i l).map (tvp ad) := by
    intro l
    induction l with
    | nil => intro i; rfl
    | cons v t ih =>
      intro i
      simp only [List.map_cons, lv_args, tv_cat]
      rw [ih]
      rfl
  rw [hx]
  have hle := lv_entry ((Value.ref 0 :: exa).map (tv ad)) (n := mL) (by rw [hlen]; exact hl)
  rw [hargs] at hle
  rw [lg_entry_eq]
  rw [hx] at C
  exact body h0 p e s m _ below meth c ad C ⟨by omega, a0, fun _ => a63, fun k k1 k2 => by omega⟩ ((name_of_methodNamed B.named B.method).1.trans hyn) s.heap [] _ hP' va_S.rf hle
theorem g_done (C : gC p s m args meth c D ca ad N (ly lx) own cc nL none) (F : gF h0 hw s ad N) (hN : lx.length = N) (hd : decode cc pc = .ok (.return_, 1)) : GG p l e R s m args below meth c D ca ad N (ly lx) nL cs ss (MQ below (gQi D ca h0 hw lx σ) args s cs ss (fun q => q = h0 ∨ s.heap.size ≤ q)) pc ls [] σ := by
  subst hN
  have hA : ∀ q, gA ad lx.length q → q = h0 ∨ s.heap.size ≤ q := by
    rintro q ⟨k, k1, k2⟩
    rcases Nat.eq_zero_or_pos k with e | e
    · subst e; exact Or.inl (k2.trans F.2.1)
    · exact Or.inr (by rw [k2]; exact F.2.2.2 k e k1)
  exact fun H locs la hP hS hl => W.vret C.1 C.2.1 C.2.2.2.2.2.2.2.2 (fun t ht hW => ⟨rfl, ⟨ad, C.2.2.2.2.2.2.1, F, by rw [ht]; exact hP⟩, ⟨by rw [ht]; exact hS.1, fun q h1 h2 => by rw [ht]; exact hS.2.1 q h1 (fun h => h2 (hA q h))⟩⟩) (fun q hq => hA _ (hS.2.2 q hq)) hd C.2.2.2.2.2.2.2.1
end GO
theorem gfk4 {c j : Nat} (h : 3 ≤ gfk c j) : c = 0 ∧ gfo c j = 63 := by
  by_cases hc : c < 9
  · by_cases hj : j < 37
    · have := (by decide +kernel : (List.range 9).all (fun c => (List.range 37).all (fun j => decide (3 ≤ gfk c j → c = 0 ∧ gfo c j = 63))) = true)
      have := List.all_eq_true.mp (List.all_eq_true.mp this c (List.mem_range.mpr hc)) j (List.mem_range.mpr hj)
      simp only [decide_eq_true_eq] at this
      exact this h
    · exfalso
      have hl : ∀ c, c < 9 → (gtab.getD c []).length ≤ 37 := by decide +kernel
      unfold gfk at h
      rw [List.getD_eq_getElem?_getD (l := gtab.getD c []), List.getElem?_eq_none (by have := hl c hc; omega)] at h
      simp at h
  · exfalso
    unfold gfk at h
    have : gtab.getD c [] = [] := by
      rw [List.getD_eq_getElem?_getD, List.getElem?_eq_none (by simp [gtab]; omega)]
      rfl
    rw [this] at h
    simp at h
section GP
variable {p : Program} {l : Launch} {e : Env} {R : Room} {s : State} {m : MethodId} {args : Array Value} {below : List Frame} {meth : Method} {c : Code} {D : va_G} {ca : Nat → ClassId} {ad : Nat → Nat} {own : String} {cc : ByteArray} {nL : Nat} {Q : State → Prop} {pc : Nat} {ls : List (Nat × Value)} {st : List Value} {σ : St} {cs ss : Nat} {ret : Option FieldType} {h0 hw c0 : Nat}
/-- the world behind a constructor's call: the callee's cells stand behind the others -/
theorem g_join {lp lc : List Nat} {M c0 hw2 : Nat} {ρ : St} {H H1 : Heap} {locs : List Loc} {ad2 : Nat → Nat} (hM0 : lp.length = M) (hM1 : 0 < M) (hI : gI ad (M + 1) (ly (lp ++ [100 + c0]))) (F : gF h0 hw s ad (M + 1)) (hP : va_P D vwCl (gW ad ca (M + 1) (ly (lp ++ [100 + c0])) σ) H) (hS : va_S (gA ad (M + 1)) s.heap H locs)
    (hI2 : gI ad2 lc.length (ly lc)) (hlc : 0 < lc.length) (z0 : ad2 0 = ad M) (z63 : lc.length ≤ 63 → ad2 63 = hw2) (zf : ∀ k, 0 < k → k < lc.length → H.size ≤ ad2 k) (hP2 : va_P D vwCl (gW ad2 ca lc.length (ly lc) ρ) H1) (hz : H.size ≤ H1.size) (hk : ∀ q : Nat, q < H.size → ¬ (q = ad M ∨ H.size ≤ q) → H1[q]? = H[q]?)
    (hcl : gcl lp M = true) (hcr : gcr lc lc.length = true) (h4 : lc.all (fun cd => decide (0 < cd) && decide (cd < 99)) = true ∨ (63 < M ∧ lc.length ≤ 63 ∧ hw2 = ad 63 ∧ lc.all (fun cd => decide (cd < 99)) = true)) :
    ∃ ad' : Nat → Nat, (∀ k, k < M + 1 → ad k = ad' k) ∧ gI ad' (M + lc.length) (ly (lp ++ lc)) ∧ gF h0 hw s ad' (M + lc.length) ∧ va_P D vwCl (gW ad' ca (M + lc.length) (ly (lp ++ lc)) (jn σ M ρ)) H1 ∧ va_S (gA ad' (M + lc.length)) s.heap H1 locs := by
  have hsz := hS.1
  have hlt : ∀ k, k < M + 1 → ad k < H.size := fun k h => va_at.lt (hP k _ (gW_get h))
  obtain ⟨ad', hA⟩ : ∃ ad' : Nat → Nat, ad' = fun k => if k < M then ad k else if k < M + lc.length then ad2 (k - M) else ad k := ⟨_, rfl⟩
  have e1 : ∀ k, k < M → ad' k = ad k := fun k h => by rw [hA]; simp [h]
  have e2 : ∀ x, x < lc.length → ad' (M + x) = ad2 x := fun x h => by
    rw [hA]
    simp only [show ¬ M + x < M by omega, show M + x < M + lc.length by omega, if_true, if_false, Nat.add_sub_cancel_left]
  have e3 : ∀ k, M + lc.length ≤ k → ad' k = ad k := fun k h => by
    rw [hA]
    simp only [show ¬ k < M by omega, show ¬ k < M + lc.length by omega, if_false]
  have e4 : ∀ k, k < M + 1 → ad k = ad' k := fun k h => by
    rcases Nat.lt_or_ge k M with q | q
    · rw [e1 k q]
    · have hkM : k = M := by omega
      have h9 := e2 0 hlc
      rw [Nat.add_zero, z0] at h9
      rw [hkM, h9]
  have hdis : ∀ k x, k < M → x < lc.length → ad k ≠ ad2 x := fun k x h1 h2 e => by
    rcases Nat.eq_zero_or_pos x with q | q
    · subst q
      rw [z0] at e
      exact absurd (hI.1 k M (by omega) (by omega) e) (by omega)
    · have := zf x q h2
      have := hlt k (by omega)
      omega
  refine ⟨ad', e4, ⟨fun i j hi hj e => ?_, fun k hk => ?_⟩, ⟨by omega, ?_, ?_, ?_⟩, ?_, ?_⟩
  · rcases Nat.lt_or_ge i M with i1 | i1 <;> rcases Nat.lt_or_ge j M with j1 | j1
    · rw [e1 i i1, e1 j j1] at e
      exact hI.1 i j (by omega) (by omega) e
    · obtain ⟨x, rfl⟩ : ∃ x, j = M + x := ⟨j - M, by omega⟩
      rw [e1 i i1, e2 x (by omega)] at e
      exact absurd e (hdis i x i1 (by omega))
    · obtain ⟨x, rfl⟩ : ∃ x, i = M + x := ⟨i - M, by omega⟩
      rw [e1 j j1, e2 x (by omega)] at e
      exact absurd e.symm (hdis j x j1 (by omega))
    · obtain ⟨x, rfl⟩ : ∃ x, i = M + x := ⟨i - M, by omega⟩
      obtain ⟨z, rfl⟩ : ∃ z, j = M + z := ⟨j - M, by omega⟩
      rw [e2 x (by omega), e2 z (by omega)] at e
      rw [hI2.1 x z (by omega) (by omega) e]
  · have := ly_out hk
    simp [hM0] at this
    omega
  · rw [e1 0 hM1]; exact F.2.1
  · intro h
    rw [e3 63 (by omega)]
    exact F.2.2.1 (by omega)
  · intro k k1 k2
    rcases Nat.lt_or_ge k M with i1 | i1
    · rw [e1 k i1]; exact F.2.2.2 k k1 (by omega)
    · obtain ⟨x, rfl⟩ : ∃ x, k = M + x := ⟨k - M, by omega⟩
      rw [e2 x (by omega)]
      rcases Nat.eq_zero_or_pos x with q | q
      · subst q
        rw [z0]; exact F.2.2.2 M hM1 (by omega)
      · exact Nat.le_trans hsz (zf x q (by omega))
  · apply gW_mem
    intro k hk2
    rcases Nat.lt_or_ge k M with i1 | i1
    · have hx := hP k _ (gW_get (by omega))
      rw [ly_lt (by omega)] at hx
      rw [e1 k i1, ly_lt (by omega), gE_congr (σ := jn σ M ρ) (τ := σ) (by funext b; simp [jn, i1]) (by funext b; simp [jn, i1]), ← gE_ad (ad := ad) (fun t ht => (e1 t (gcl_at hcl (by omega) ht)).symm)]
      refine hx.kept (hk _ (hlt k (by omega)) ?_)
      rintro (q | q)
      · exact absurd (hI.1 k M (by omega) (by omega) q) (by omega)
      · have := hlt k (by omega)
        exact absurd q (by show ¬ H.size ≤ ad k; omega)
    · obtain ⟨x, rfl⟩ : ∃ x, k = M + x := ⟨k - M, by omega⟩
      have hx := hP2 x _ (gW_get (by omega))
      have hl : ly (lp ++ lc) (M + x) = ly lc x := by rw [← hM0]; exact ly_ge x
      rw [e2 x (by omega), hl, gE_mv (ad := ad2) (n := lc.length) (ρ := ρ) e2 ?_ ?_ (by funext b; simp [jn]; intro h; omega) (by funext b; simp [jn]; intro h; omega)]
      · exact hx
      · intro t ht
        have := List.all_eq_true.mp hcr x (List.mem_range.mpr (by omega))
        simpa using List.all_eq_true.mp this t ht
      · intro c j h3 hc
        obtain ⟨c0, c63⟩ := gfk4 h3
        have hxl : ly lc x ∈ lc := by
          unfold ly
          rw [List.getD_eq_getElem?_getD, List.getElem?_eq_getElem (by omega), Option.getD_some]
          exact List.getElem_mem _
        rcases h4 with h4 | ⟨g2, g3, g4, g5⟩
        · have := List.all_eq_true.mp h4 _ hxl
          simp at this
          rcases hc with ⟨hc, _⟩ | hc
          · omega
          · omega
        · rw [c63, e1 63 g2, z63 g3, g4]
  · refine ⟨Nat.le_trans hsz hz, fun q q1 q2 => ?_, fun y hy => ?_⟩
    · have hn : ¬ q = ad M := fun h => q2 ⟨M + 0, by omega, by rw [e2 0 hlc, z0]; exact h⟩
      rw [hk q (by omega) (by rintro (h | h); exact hn h; omega)]
      refine hS.2.1 q q1 ?_
      rintro ⟨k, k1, k2⟩
      exact q2 ⟨k, by omega, by rw [← e4 k k1]; exact k2⟩
    · obtain ⟨k, k1, k2⟩ := hS.2.2 y hy
      exact ⟨k, by omega, by rw [← e4 k k1]; exact k2⟩
theorem g_init {lp : List Nat} {M : Nat} (C : gC p s m args meth c D ca ad (M + 1) (ly (lp ++ [100 + c0])) own cc nL ret) (F : gF h0 hw s ad (M + 1)) {y : MethodName} {bytes : ByteArray} {mL n i : Nat} {rm : Room} {st0 : List Value} (exa : List Value) (lc : List Nat) (ρ : St) (mc ms hw2 : Nat) (hM0 : lp.length = M) (hM1 : 0 < M) (q : okI own i y bytes mL n) (hM : gMi l D ca y bytes mL rm c0 (exa.map (tv ad)) hw2 lc ρ mc ms) (hc0 : c0 < 10) (hz1 : σ.1 M = fun _ => 0) (hz2 : σ.2 M = fun _ => 0) (hst : st0 = exa.reverse ++ .ref M :: st) (hn : exa.length = n) (hrm : rm.cells = mc ∧ rm.slots = ms) (hR : rm.frames + 1 ≤ R.frames ∧ 8 + (mL + 11) + rm.locals ≤ R.locals) (h8 : (st.map (fun v => v.category)).sum ≤ 8) (hlc : 0 < lc.length) (hcl : gcl lp M = true) (hcr : gcr lc lc.length = true) (h4 : lc.all (fun cd => decide (0 < cd) && decide (cd < 99)) = true ∨ (63 < M ∧ lc.length ≤ 63 ∧ hw2 = ad 63 ∧ lc.all (fun cd => decide (cd < 99)) = true)) (hls : ls.all (fun q => rfr (M + 1) q.2) = true) (hsx : st.all (rfr (M + 1)) = true) (hcs : cs + mc ≤ R.cells) (hss : ss + ms ≤ R.slots) (hd : decode cc pc = .ok (.invokespecial i, 3))
    (kk : ∀ ad' : Nat → Nat, gC p s m args meth c D ca ad' (M + lc.length) (ly (lp ++ lc)) own cc nL ret → gF h0 hw s ad' (M + lc.length) → GG p l e R s m args below meth c D ca ad' (M + lc.length) (ly (lp ++ lc)) nL (cs + mc) (ss + ms) Q (pc + 3) ls st (jn σ M ρ)) : GG p l e R s m args below meth c D ca ad (M + 1) (ly (lp ++ [100 + c0])) nL cs ss Q pc ls st0 σ := by
  intro H locs la hP hS hl
  subst hst
  obtain ⟨q1, q2, q3, q4, q5, q6, q7, q8⟩ := q
  have hts := C.2.2.2.2.1
  have hI := C.2.2.2.2.2.2.1
  have hK := C.2.2.2.2.2.1
  have h8' : ((st.map (tv ad)).map (fun v => v.category)).sum ≤ 8 := by
    rw [List.map_map, show ((fun v : Value => v.category) ∘ tv ad) = (fun v => v.category) from funext (fun v => tv_cat ad v)]
    exact h8
  have hx := hP M _ (gW_get (by omega))
  have hcM : ly (lp ++ [100 + c0]) M = 100 + c0 := by rw [← hM0]; exact ly_ge (l := lp) (lc := [100 + c0]) 0
  have hx0 : va_P D vwCl [(ad M, gE (fun _ => ad M) ca (100 + c0) 0 zst)] H := by
    intro k z hk
    have hk1 : k < 1 := (List.getElem?_eq_some_iff.mp hk).1
    obtain rfl : k = 0 := by omega
    cases hk
    rw [hcM] at hx
    have e1 : gpc (100 + c0) = c0 := by unfold gpc; omega
    have e2 : gpm (100 + c0) = 0 := by unfold gpm; omega
    have : gE ad ca (100 + c0) M σ = gE (fun _ => ad M) ca (100 + c0) 0 zst := by
      rw [gE_par (by omega), gE_par (by omega), e1, e2]
      congr 2
      apply List.map_congr_left
      intro j hj
      rw [gpv_0 hz1 hz2]
      unfold gpv
      by_cases h : 2 ≤ gfk c0 j
      · rw [if_pos ⟨h, Nat.zero_testBit j⟩, if_pos ⟨h, Nat.zero_testBit j⟩]
      · rw [if_neg (fun q => h q.1), if_neg (fun q => h q.1)]
        unfold gfv
        split
        · rfl
        · rfl
        · rename_i e; omega
        · rename_i e3 e4 e5
          have e3 : ¬ gfk c0 j = 0 := e3
          have e4 : ¬ gfk c0 j = 1 := e4
          omega
    rw [this] at hx
    exact hx
  have hrun := va_runI (y := y) (As := exa.map (tv ad)) (rest := st.map (tv ad)) (b := ad M) (index := i) (n := n) (bytes := bytes) (maxL := mL) (H := H) (g := F0 m pc la ((exa.reverse ++ Value.ref M :: st).map (tv ad))) (p := p) (l := l) (e := e) (R := R) (s := s) (m := m) (args := args) (below := below) (meth := meth) (c := c) (locs := locs) (cells := cs) (slots := ss) ⟨C.1, C.2.1, C.2.2.1, C.2.2.2.1, hts⟩ (hM (ad M) H.size) ⟨callB_of n hts (gd_in q4) rfl hrm.1 hrm.2 (hts _ q3) (hts _ q1) ⟨q6, q7, q8⟩ hR, q5, hts _ q2⟩ ⟨fun a U g mk z => by
      obtain ⟨z0, z1, z2, z3⟩ := z
      exact ⟨z0, z1, z2, ⟨va_K.moved (u := U) (U := U.calling g mk a) (Vm.Alike.refl U.vm) z3.1, fun w hw => va_Nw.same (u := U) (U := U.calling g mk a) (gnb_tab hw) rfl (z3.2.1 w hw), va_AO.moved (u := U) (U := U.calling g mk a) (Vm.Alike.refl U.vm) z3.2.2.1, va_AO.moved (u := U) (U := U.calling g mk a) (Vm.Alike.refl U.vm) z3.2.2.2⟩⟩, fun U hU hW => ⟨rfl, by rw [hU], by rw [hU]; exact hx0, gK_warm hW hK⟩⟩ rfl (by rw [List.length_map]; exact hn) hl.1 (by simp; rfl) (lv_room h8') hd ⟨hcs, hss⟩
  intro T hT X
  obtain ⟨v, st₀, t, T', Lc, z0, X', hL, e1, e2, ⟨h5, ⟨ad2, b1, b2, b3⟩, b4⟩, stp⟩ := hrun T hT X
  obtain rfl : v = none := by cases h5; rfl
  obtain ⟨w0, w1, w2, w3⟩ := b2
  rw [z0] at w3
  obtain ⟨y1, y2⟩ := b4
  rw [z0] at y1 y2
  obtain ⟨ad', a1, a2, a3, a4, a5⟩ := g_join (c0 := c0) (hw2 := hw2) (H1 := T'.heap) hM0 hM1 hI F hP hS b1 hlc w1 w2 w3 (by rw [e1]; exact b3) (by rw [e1]; exact y1) (fun q q1 q2 => by rw [e1]; exact y2 q q1 q2) hcl hcr h4
  have hk := kk ad' (gC_re C a2) a3 T'.heap locs la a4 a5 (by rw [← rfr_ls a1 hls]; exact hl)
  rw [← rfr_st a1 hsx] at hk
  have hfor : ∀ y ∈ Lc, s.heap.size ≤ y.base := fun y hy => by
    rcases hL y hy with h | h
    · rw [h]; exact F.2.2.2 M hM1 (by omega)
    · exact Nat.le_trans hS.1 h
  obtain ⟨t2, c1, c2⟩ := W.forget hfor hk T' rfl X'
  exact ⟨t2, stp t2 c1, c2⟩
end GP
