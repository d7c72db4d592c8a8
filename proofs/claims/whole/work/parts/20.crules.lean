/-! MAKING CELLS: a world that grows -/
def ly (l : List Nat) (k : Nat) : Nat := l.getD k 99
def ext (ad : Nat → Nat) (N q : Nat) : Nat → Nat := fun k => if k = N then q else ad k
def clr (σ : St) (N : Nat) : St := (fun a b => if a = N then 0 else σ.1 a b, fun a b => if a = N then 0 else σ.2 a b)
def zst : St := (fun _ _ => 0, fun _ _ => 0)
def jn (σ : St) (M : Nat) (ρ : St) : St := (fun a b => if a < M then σ.1 a b else ρ.1 (a - M) b, fun a b => if a < M then σ.2 a b else ρ.2 (a - M) b)
/-- the cells that a cell refers to -/
def gtf (c k j : Nat) : List Nat := match gfk c j with
  | 0 => []
  | 1 => []
  | 2 => [k + gfo c j]
  | _ => [gfo c j]
def gtg (cd k : Nat) : List Nat := if cd < 10 then (List.range (gnf cd)).flatMap (fun j => gtf cd k j) else if cd < 99 then (match gat cd with
  | 0 => []
  | 1 => []
  | 2 => []
  | 3 => (List.range 7).map (fun j => k + 4 + 3 * j)
  | 4 => (List.range 4).map (fun j => k + 26 + 2 * j)
  | t => if t < 20 then (List.range (t - 10)).map (fun j => k + 4 + 3 * j) else (List.range (t - 20)).map (fun j => k + 26 + 2 * j)) else (List.range (gnf (gpc cd))).flatMap (fun j => if 2 ≤ gfk (gpc cd) j ∧ (gpm cd).testBit j = false then [] else gtf (gpc cd) k j)
theorem gfv_ad {ad ad' : Nat → Nat} {c j k : Nat} {σ : St} (h : ∀ t ∈ gtf c k j, ad t = ad' t) : gfv ad c j k σ = gfv ad' c j k σ := by
  unfold gfv
  unfold gtf at h
  split
  · rfl
  · rfl
  · rename_i e
    rw [e] at h
    rw [h _ (by simp)]
  · rename_i e1 e2 e3
    split at h
    · rename_i e; exact absurd e e1
    · rename_i e; exact absurd e e2
    · rename_i e; exact absurd e e3
    · rw [h _ (by simp)]
theorem gE_ad {ad ad' : Nat → Nat} {ca : Nat → ClassId} {cd k : Nat} {σ : St} (h : ∀ t ∈ gtg cd k, ad t = ad' t) : gE ad ca cd k σ = gE ad' ca cd k σ := by
  unfold gtg at h
  unfold gE
  by_cases h1 : cd < 10
  · rw [if_pos h1] at h ⊢
    rw [if_pos h1]
    congr 2
    apply List.map_congr_left
    intro j hj
    exact gfv_ad (fun t ht => h t (List.mem_flatMap.mpr ⟨j, hj, ht⟩))
  · rw [if_neg h1] at h ⊢
    rw [if_neg h1]
    by_cases h2 : cd < 99
    · rw [if_pos h2] at h ⊢
      rw [if_pos h2]
      congr 3
      unfold gct
      split
      · rfl
      · rfl
      · rfl
      · rename_i e
        rw [e] at h
        congr 4
        funext j
        by_cases hj : j < 7
        · rw [if_pos hj, if_pos hj, h _ (List.mem_map.mpr ⟨j, List.mem_range.mpr hj, rfl⟩)]
        · rw [if_neg hj, if_neg hj]
      · rename_i e
        rw [e] at h
        congr 4
        funext j
        by_cases hj : j < 4
        · rw [if_pos hj, if_pos hj, h _ (List.mem_map.mpr ⟨j, List.mem_range.mpr hj, rfl⟩)]
        · rw [if_neg hj, if_neg hj]
      · rename_i e0 e1 e2 e3 e4
        split at h
        · rename_i e; exact absurd e e0
        · rename_i e; exact absurd e e1
        · rename_i e; exact absurd e e2
        · rename_i e; exact absurd e e3
        · rename_i e; exact absurd e e4
        · by_cases h3 : gat cd < 20
          · rw [if_pos h3] at h
            rw [if_pos h3, if_pos h3]
            congr 4
            funext j
            by_cases hj : j < gat cd - 10
            · rw [if_pos hj, if_pos hj, h _ (List.mem_map.mpr ⟨j, List.mem_range.mpr hj, rfl⟩)]
            · rw [if_neg hj, if_neg hj]
          · rw [if_neg h3] at h
            rw [if_neg h3, if_neg h3]
            congr 4
            funext j
            by_cases hj : j < gat cd - 20
            · rw [if_pos hj, if_pos hj, h _ (List.mem_map.mpr ⟨j, List.mem_range.mpr hj, rfl⟩)]
            · rw [if_neg hj, if_neg hj]
    · rw [if_neg h2] at h ⊢
      rw [if_neg h2]
      congr 2
      apply List.map_congr_left
      intro j hj
      unfold gpv
      by_cases h3 : 2 ≤ gfk (gpc cd) j ∧ (gpm cd).testBit j = false
      · rw [if_pos h3, if_pos h3]
      · rw [if_neg h3, if_neg h3]
        exact gfv_ad (fun t ht => h t (List.mem_flatMap.mpr ⟨j, hj, by rw [if_neg h3]; exact ht⟩))
/-- the same, but those given by their number -/
def gtf2 (c k j : Nat) : List Nat := match gfk c j with
  | 0 => []
  | 1 => []
  | 2 => [k + gfo c j]
  | _ => []
def gtg2 (cd k : Nat) : List Nat := if cd < 10 then (List.range (gnf cd)).flatMap (fun j => gtf2 cd k j) else if cd < 99 then gtg cd k else (List.range (gnf (gpc cd))).flatMap (fun j => if 2 ≤ gfk (gpc cd) j ∧ (gpm cd).testBit j = false then [] else gtf2 (gpc cd) k j)
theorem gfv_mv {ad ad' : Nat → Nat} {c j k M n : Nat} {σ ρ : St} (ha : ∀ x, x < n → ad' (M + x) = ad x) (hr : ∀ t ∈ gtf2 c k j, t < n) (h4 : 3 ≤ gfk c j → ad' (gfo c j) = ad (gfo c j)) (h1 : σ.1 (M + k) = ρ.1 k) (h2 : σ.2 (M + k) = ρ.2 k) : gfv ad' c j (M + k) σ = gfv ad c j k ρ := by
  unfold gfv
  unfold gtf2 at hr
  split
  · rw [h1]
  · rw [h2]
  · rename_i e
    rw [e] at hr
    rw [Nat.add_assoc, ha _ (hr _ (by simp))]
  · rename_i e1 e2 e3
    have e1 : ¬ gfk c j = 0 := e1
    have e2 : ¬ gfk c j = 1 := e2
    have e3 : ¬ gfk c j = 2 := e3
    rw [h4 (by omega)]
/-- a cell moved by M places -/
theorem gE_mv {ad ad' : Nat → Nat} {ca : Nat → ClassId} {cd k M n : Nat} {σ ρ : St} (ha : ∀ x, x < n → ad' (M + x) = ad x) (hr : ∀ t ∈ gtg2 cd k, t < n) (h4 : ∀ c j, 3 ≤ gfk c j → ((c = cd ∧ cd < 10) ∨ ¬ cd < 99) → ad' (gfo c j) = ad (gfo c j)) (h1 : σ.1 (M + k) = ρ.1 k) (h2 : σ.2 (M + k) = ρ.2 k) : gE ad' ca cd (M + k) σ = gE ad ca cd k ρ := by
  unfold gtg2 at hr
  unfold gE
  by_cases c1 : cd < 10
  · rw [if_pos c1] at hr ⊢
    rw [if_pos c1]
    congr 2
    apply List.map_congr_left
    intro j hj
    exact gfv_mv ha (fun t ht => hr t (List.mem_flatMap.mpr ⟨j, hj, ht⟩)) (fun q => h4 cd j q (Or.inl ⟨rfl, c1⟩)) h1 h2
  · rw [if_neg c1] at hr ⊢
    rw [if_neg c1]
    by_cases c2 : cd < 99
    · rw [if_pos c2] at hr ⊢
      rw [if_pos c2]
      congr 3
      unfold gtg at hr
      rw [if_neg c1, if_pos c2] at hr
      unfold gct
      rw [h1, h2]
      split
      · rfl
      · rfl
      · rfl
      · rename_i e
        rw [e] at hr
        congr 4
        funext j
        by_cases hj : j < 7
        · rw [if_pos hj, if_pos hj, ← ha _ (hr _ (List.mem_map.mpr ⟨j, List.mem_range.mpr hj, rfl⟩))]
          congr 2
          omega
        · rw [if_neg hj, if_neg hj]
      · rename_i e
        rw [e] at hr
        congr 4
        funext j
        by_cases hj : j < 4
        · rw [if_pos hj, if_pos hj, ← ha _ (hr _ (List.mem_map.mpr ⟨j, List.mem_range.mpr hj, rfl⟩))]
          congr 2
          omega
        · rw [if_neg hj, if_neg hj]
      · rename_i e0 e1 e2 e3 e4
        split at hr
        · rename_i e; exact absurd e e0
        · rename_i e; exact absurd e e1
        · rename_i e; exact absurd e e2
        · rename_i e; exact absurd e e3
        · rename_i e; exact absurd e e4
        · by_cases h3 : gat cd < 20
          · rw [if_pos h3] at hr
            rw [if_pos h3, if_pos h3]
            congr 4
            funext j
            by_cases hj : j < gat cd - 10
            · rw [if_pos hj, if_pos hj, ← ha _ (hr _ (List.mem_map.mpr ⟨j, List.mem_range.mpr hj, rfl⟩))]
              congr 2
              omega
            · rw [if_neg hj, if_neg hj]
          · rw [if_neg h3] at hr
            rw [if_neg h3, if_neg h3]
            congr 4
            funext j
            by_cases hj : j < gat cd - 20
            · rw [if_pos hj, if_pos hj, ← ha _ (hr _ (List.mem_map.mpr ⟨j, List.mem_range.mpr hj, rfl⟩))]
              congr 2
              omega
            · rw [if_neg hj, if_neg hj]
    · rw [if_neg c2] at hr ⊢
      rw [if_neg c2]
      congr 2
      apply List.map_congr_left
      intro j hj
      unfold gpv
      by_cases h3 : 2 ≤ gfk (gpc cd) j ∧ (gpm cd).testBit j = false
      · rw [if_pos h3, if_pos h3]
      · rw [if_neg h3, if_neg h3]
        exact gfv_mv ha (fun t ht => hr t (List.mem_flatMap.mpr ⟨j, hj, by rw [if_neg h3]; exact ht⟩)) (fun q => h4 (gpc cd) j q (Or.inr c2)) h1 h2
def gcr (l : List Nat) (N : Nat) : Bool := (List.range l.length).all (fun k => (gtg2 (ly l k) k).all (fun t => decide (t < N)))
theorem ly_lt {l : List Nat} {k : Nat} (h : k < l.length) (cd : List Nat) : ly (l ++ cd) k = ly l k := by
  unfold ly
  simp [List.getD_eq_getElem?_getD, List.getElem?_append_left h]
theorem ly_ge {l lc : List Nat} (i : Nat) : ly (l ++ lc) (l.length + i) = ly lc i := by
  unfold ly
  simp [List.getD_eq_getElem?_getD, List.getElem?_append_right]
theorem ly_out {l : List Nat} {k : Nat} (h : ly l k ≠ 99) : k < l.length := by
  rcases Nat.lt_or_ge k l.length with q | q
  · exact q
  · exfalso
    apply h
    unfold ly
    rw [List.getD_eq_getElem?_getD, List.getElem?_eq_none q]
    rfl
theorem gW_mem {D : va_G} {ad : Nat → Nat} {ca : Nat → ClassId} {N : Nat} {L : Nat → Nat} {σ : St} {H : Heap} (h : ∀ k, k < N → va_at D vwCl (ad k, gE ad ca (L k) k σ) H) : va_P D vwCl (gW ad ca N L σ) H := by
  intro k q hk
  have hN : k < N := by
    have := (List.getElem?_eq_some_iff.mp hk).1
    simpa [gW] using this
  rw [gW_get hN] at hk
  cases hk
  exact h k hN
def gcl (l : List Nat) (N : Nat) : Bool := (List.range l.length).all (fun k => (gtg (ly l k) k).all (fun t => decide (t < N)))
theorem gcl_at {l : List Nat} {N : Nat} (h : gcl l N = true) {k t : Nat} (hk : k < l.length) (ht : t ∈ gtg (ly l k) k) : t < N := by
  have := List.all_eq_true.mp h k (List.mem_range.mpr hk)
  simpa using List.all_eq_true.mp this t ht
def rfr (N : Nat) (v : Value) : Bool := match v with
  | .ref k => decide (k < N)
  | _ => true
theorem rfr_tv {N : Nat} {ad ad' : Nat → Nat} (h : ∀ k, k < N → ad k = ad' k) {v : Value} (hv : rfr N v = true) : tv ad v = tv ad' v := by
  cases v <;> first | rfl | (show Value.ref _ = Value.ref _; rw [h _ (by simpa [rfr] using hv)])
theorem rfr_ls {N : Nat} {ad ad' : Nat → Nat} (h : ∀ k, k < N → ad k = ad' k) {ls : List (Nat × Value)} (hv : ls.all (fun q => rfr N q.2) = true) : ls.map (tvp ad) = ls.map (tvp ad') := by
  apply List.map_congr_left
  intro q hq
  unfold tvp
  rw [rfr_tv h (List.all_eq_true.mp hv q hq)]
theorem rfr_st {N : Nat} {ad ad' : Nat → Nat} (h : ∀ k, k < N → ad k = ad' k) {st : List Value} (hv : st.all (rfr N) = true) : st.map (tv ad) = st.map (tv ad') := by
  apply List.map_congr_left
  intro q hq
  exact rfr_tv h (List.all_eq_true.mp hv q hq)
def rfn (N : Nat) (v : Value) : Bool := match v with
  | .ref k => decide (k ≠ N)
  | _ => true
theorem rfn_tv {N : Nat} {ad ad' : Nat → Nat} (h : ∀ k, k ≠ N → ad k = ad' k) {v : Value} (hv : rfn N v = true) : tv ad v = tv ad' v := by
  cases v <;> first | rfl | (show Value.ref _ = Value.ref _; rw [h _ (by simpa [rfn] using hv)])
theorem rfn_ls {N : Nat} {ad ad' : Nat → Nat} (h : ∀ k, k ≠ N → ad k = ad' k) {ls : List (Nat × Value)} (hv : ls.all (fun q => rfn N q.2) = true) : ls.map (tvp ad) = ls.map (tvp ad') := by
  apply List.map_congr_left
  intro q hq
  unfold tvp
  rw [rfn_tv h (List.all_eq_true.mp hv q hq)]
theorem rfn_st {N : Nat} {ad ad' : Nat → Nat} (h : ∀ k, k ≠ N → ad k = ad' k) {st : List Value} (hv : st.all (rfn N) = true) : st.map (tv ad) = st.map (tv ad') := by
  apply List.map_congr_left
  intro q hq
  exact rfn_tv h (List.all_eq_true.mp hv q hq)
def gF (h0 hw : Nat) (s : State) (ad : Nat → Nat) (N : Nat) : Prop := 0 < N ∧ ad 0 = h0 ∧ (N ≤ 63 → ad 63 = hw) ∧ ∀ k, 0 < k → k < N → s.heap.size ≤ ad k
section GN
variable {p : Program} {l : Launch} {e : Env} {R : Room} {s : State} {m : MethodId} {args : Array Value} {below : List Frame} {meth : Method} {c : Code} {D : va_G} {ca : Nat → ClassId} {ad : Nat → Nat} {own : String} {cc : ByteArray} {nL : Nat} {Q : State → Prop} {pc : Nat} {ls : List (Nat × Value)} {st : List Value} {σ : St} {cs ss : Nat} {ret : Option FieldType} {lx : List Nat} {N h0 hw : Nat}
def gB (ad : Nat → Nat) (N : Nat) (s : State) : Nat → Prop := fun q => gA ad N q ∨ s.heap.size ≤ q
theorem gC_re {ad' : Nat → Nat} {N' : Nat} {L L' : Nat → Nat} (C : gC p s m args meth c D ca ad N L own cc nL ret) (hI : gI ad' N' L') : gC p s m args meth c D ca ad' N' L' own cc nL ret := ⟨C.1, C.2.1, C.2.2.1, C.2.2.2.1, C.2.2.2.2.1, C.2.2.2.2.2.1, hI, C.2.2.2.2.2.2.2⟩
theorem g_grow {cd q : Nat} {E : va_E} {H H1 : Heap} {locs : List Loc} (hN : lx.length = N) (hI : gI ad N (ly lx)) (F : gF h0 hw s ad N) (hS : va_S (gA ad N) s.heap H locs) (hP1 : va_P D vwCl (gW ad ca N (ly lx) σ ++ [(q, E)]) H1) (hD1 : va_D (gB ad N s) (gW ad ca N (ly lx) σ ++ [(q, E)])) (hS1 : va_S (gB ad N s) s.heap H1 locs) (hE : E = gE (ext ad N q) ca cd N (clr σ N)) (hcl : gcl lx N = true) :
    gI (ext ad N q) (N + 1) (ly (lx ++ [cd])) ∧ gF h0 hw s (ext ad N q) (N + 1) ∧ va_P D vwCl (gW (ext ad N q) ca (N + 1) (ly (lx ++ [cd])) (clr σ N)) H1 ∧ va_S (gA (ext ad N q) (N + 1)) s.heap H1 locs := by
  have hlen : (gW ad ca N (ly lx) σ).length = N := by simp [gW]
  have eold : ∀ k, k < N → ad k = ext ad N q k := fun k hk => by simp [ext, Nat.ne_of_lt hk]
  have enew : ext ad N q N = q := by simp [ext]
  have hq : (gW ad ca N (ly lx) σ ++ [(q, E)])[N]? = some (q, E) := by
    rw [List.getElem?_append_right (by omega), hlen]
    simp
  have hold : ∀ k, k < N → (gW ad ca N (ly lx) σ ++ [(q, E)])[k]? = some (ad k, gE ad ca (ly lx k) k σ) := fun k hk => by
    rw [List.getElem?_append_left (by omega)]
    exact gW_get hk
  have hne : ∀ k, k < N → ad k ≠ q := fun k hk e => absurd (hD1.1 k N _ _ (hold k hk) hq e) (Nat.ne_of_lt hk)
  have hsz : s.heap.size ≤ q := by
    rcases hD1.2 N _ hq with ⟨k, k1, k2⟩ | h
    · exact absurd k2.symm (hne k k1)
    · exact h
  refine ⟨⟨fun i j hi hj e => ?_, fun k hk => ?_⟩, ⟨by omega, ?_, ?_, ?_⟩, ?_, ?_⟩
  · rcases Nat.lt_or_ge i N with i1 | i1 <;> rcases Nat.lt_or_ge j N with j1 | j1
    · rw [← eold i i1, ← eold j j1] at e
      exact hI.1 i j i1 j1 e
    · have : j = N := by omega
      subst this
      rw [← eold i i1, enew] at e
      exact absurd e (hne i i1)
    · have : i = N := by omega
      subst this
      rw [← eold j j1, enew] at e
      exact absurd e.symm (hne j j1)
    · omega
  · have := ly_out hk
    simp [hN] at this
    omega
  · rw [← eold 0 F.1]; exact F.2.1
  · intro h
    rw [show ext ad N q 63 = ad 63 by simp [ext]; omega]
    exact F.2.2.1 (by omega)
  · intro k k1 k2
    rcases Nat.lt_or_ge k N with i1 | i1
    · rw [← eold k i1]; exact F.2.2.2 k k1 i1
    · have : k = N := by omega
      subst this
      rw [enew]; exact hsz
  · apply gW_mem
    intro k hk
    rcases Nat.lt_or_ge k N with i1 | i1
    · have hx := hP1 k _ (hold k i1)
      rw [← eold k i1, ly_lt (by omega), gE_congr (σ := clr σ N) (τ := σ) (by funext b; simp [clr, Nat.ne_of_lt i1]) (by funext b; simp [clr, Nat.ne_of_lt i1]), ← gE_ad (ad := ad) (fun t ht => eold t (gcl_at hcl (by omega) ht))]
      exact hx
    · have : k = N := by omega
      subst this
      have hx := hP1 _ _ hq
      rw [enew, show ly (lx ++ [cd]) k = cd by rw [← hN]; exact ly_ge (l := lx) (lc := [cd]) 0, ← hE]
      exact hx
  · refine ⟨hS1.1, fun x x1 x2 => hS1.2.1 x x1 ?_, fun y hy => ?_⟩
    · rintro (⟨k, k1, k2⟩ | h)
      · exact x2 ⟨k, by omega, by rw [← eold k k1]; exact k2⟩
      · omega
    · obtain ⟨k, k1, k2⟩ := hS.2.2 y hy
      exact ⟨k, by omega, by rw [← eold k k1]; exact k2⟩
theorem gB_D {L : Nat → Nat} (hI : gI ad N L) : va_D (gB ad N s) (gW ad ca N L σ) := (gW_D hI).weaken (fun _ _ _ h => Or.inl h)
theorem gB_S {H : Heap} {locs : List Loc} (hS : va_S (gA ad N) s.heap H locs) : va_S (gB ad N s) s.heap H locs := ⟨hS.1, fun q h1 h2 => hS.2.1 q h1 (fun h => h2 (Or.inl h)), fun y hy => Or.inl (hS.2.2 y hy)⟩
/-- what 'new' of system number cn wants -/
def okN (own : String) (i cn : Nat) (nf : Nat) : Prop := ∃ (Cn : String) (T : u_T) (tyf : Nat → FieldType), vwCl[cn]? = some (Cn, T, nf) ∧ cn < 10 ∧ gnf cn = nf ∧ (∀ w ∈ u_ws Cn T nf, w ∈ gtb) ∧ (∀ k, k < nf → parseFieldDescriptor (T k).2.2.1 = some (tyf k)) ∧ Cond.classLink own i Cn ∈ gtb ∧ Cond.instantiable Cn nf ∈ gtb ∧ Cond.initialized Cn ∈ gtb ∧ ∀ (k j : Nat) (ad : Nat → Nat), j < nf → defaultValue (tyf j) = gpv ad cn 0 j k zst
theorem gpv_0 {ad : Nat → Nat} {cn j k : Nat} {σ : St} (h1 : σ.1 k = fun _ => 0) (h2 : σ.2 k = fun _ => 0) : gpv ad cn 0 j k σ = gpv ad cn 0 j k zst := by
  unfold gpv
  by_cases h : 2 ≤ gfk cn j ∧ Nat.testBit 0 j = false
  · rw [if_pos h, if_pos h]
  · rw [if_neg h, if_neg h]
    unfold gfv
    rw [h1, h2]
    split
    · rfl
    · rfl
    · rename_i e
      exact absurd ⟨by rw [e]; exact Nat.le_refl _, Nat.zero_testBit j⟩ h
    · rename_i e1 e2 e3
      have e1 : ¬ gfk cn j = 0 := e1
      have e2 : ¬ gfk cn j = 1 := e2
      exact absurd ⟨by omega, Nat.zero_testBit j⟩ h
theorem g_new (C : gC p s m args meth c D ca ad N (ly lx) own cc nL ret) (F : gF h0 hw s ad N) {i : Nat} (cn nf : Nat) (hN : lx.length = N) (q : okN own i cn nf) (hcl : gcl lx N = true) (hls : ls.all (fun q => rfn N q.2) = true) (hst : st.all (rfn N) = true) (hcs : cs + 1 ≤ R.cells) (hss : ss + nf ≤ R.slots) (hd : decode cc pc = .ok (.new i, 3)) (kk : ∀ ad' : Nat → Nat, gC p s m args meth c D ca ad' (N + 1) (ly (lx ++ [100 + cn])) own cc nL ret → gF h0 hw s ad' (N + 1) → GG p l e R s m args below meth c D ca ad' (N + 1) (ly (lx ++ [100 + cn])) nL (cs + 1) (ss + nf) Q (pc + 3) ls (.ref N :: st) (clr σ N)) : GG p l e R s m args below meth c D ca ad N (ly lx) nL cs ss Q pc ls st σ := by
  intro H locs la hP hS hl
  obtain ⟨Cn, T, tyf, q1, q2, q3, q4, q5, q6, q7, q8, q9⟩ := q
  have hts := C.2.2.2.2.1
  have hI := C.2.2.2.2.2.2.1
  have hD := gB_D (s := s) (ca := ca) (σ := σ) hI
  refine va_new (A := gB ad N s) (H0 := s.heap) (D := D) (ci := cn) (fs := (List.range (gnf cn)).map (fun j => gpv ad cn 0 j N (clr σ N))) C.1 C.2.1 hts q4 tyf q5 C.2.2.2.1 (hts _ q6) (hts _ q7) (hts _ q8) C.2.2.2.2.2.1.1 hP hD (gB_S hS) (fun q h => Or.inr h) q1 ?_ hcs hss hd ?_
  · intro j hj
    rw [q9 N j ad hj]
    simp [vp_V, q3, hj, gpv_0 (σ := clr σ N) (k := N) (ad := ad) (cn := cn) (j := j) (by funext b; simp [clr]) (by funext b; simp [clr])]
  · intro q H1 hP1 hD1 hS1
    have hE : (Sum.inr (cn, (List.range (gnf cn)).map (fun j => gpv ad cn 0 j N (clr σ N))) : va_E) = gE (ext ad N q) ca (100 + cn) N (clr σ N) := by
      have e1 : gpc (100 + cn) = cn := by unfold gpc; omega
      have e2 : gpm (100 + cn) = 0 := by unfold gpm; omega
      unfold gE
      rw [if_neg (by omega), if_neg (by omega), e1, e2]
      congr 2
      apply List.map_congr_left
      intro j hj
      rw [gpv_0 (σ := clr σ N) (by funext b; simp [clr]) (by funext b; simp [clr]), gpv_0 (σ := clr σ N) (ad := ext ad N q) (by funext b; simp [clr]) (by funext b; simp [clr])]
      rw [← q9 N j ad (by rw [← q3]; exact List.mem_range.mp hj), ← q9 N j (ext ad N q) (by rw [← q3]; exact List.mem_range.mp hj)]
    obtain ⟨a2, a3, a4, a5⟩ := g_grow (cd := 100 + cn) hN hI F hS hP1 hD1 hS1 hE hcl
    have a1 : ∀ k, k ≠ N → ad k = ext ad N q k := fun k hk => by simp [ext, hk]
    have hk := kk (ext ad N q) (gC_re C a2) a3 H1 locs la a4 a5 (by rw [← rfn_ls a1 hls]; exact hl)
    rw [List.map_cons, ← rfn_st a1 hst, show tv (ext ad N q) (.ref N) = .ref q by simp [tv, ext]] at hk
    exact hk
theorem gT_nm {t : Nat} {ty : FieldType} {cA : ClassId} (hK : gK D ca s) (h : va_K D vwCl (gT ca ++ [(cA, ty)]) s) (ht : (gT ca)[t]? = some (ca t, ty)) (hu : ∀ a b : ClassId, va_RA s a ty → va_RA s b ty → a = b) : cA = ca t := by
  have h1 := (h.2 (gT ca).length (cA, ty) (by simp)).2
  have h2 := (hK.1.2 t (ca t, ty) ht).2
  exact hu _ _ h1 h2
theorem g_newa (C : gC p s m args meth c D ca ad N (ly lx) own cc nL ret) (F : gF h0 hw s ad N) {atype : ArrayType} {n : Int32} (t cd nn : Nat) (hN : lx.length = N) (ty : FieldType) (hty : newarray.typeOf atype = ty) (hw0 : Cond.arrayClass ty ∈ gtb) (ho : gok cd t nn) (ht3 : t < 3) (htt : ∀ ca : Nat → ClassId, (gT ca)[t]? = some (ca t, ty)) (hu : ∀ a b : ClassId, va_RA s a ty → va_RA s b ty → a = b) (hdef : ∀ (cA : ClassId) (ad : Nat → Nat) (k : Nat), vp_cell cA (nn, gct ad cd k zst) = arrV cA nn (fun _ => defaultValue ty)) (hn : ¬ n < 0) (hnn : n.toNatClampNeg = nn) (hby : nn * componentBytes ty ≤ 536870912) (hcl : gcl lx N = true) (hls : ls.all (fun q => rfn N q.2) = true) (hst : st.all (rfn N) = true) (hcs : cs + 1 ≤ R.cells) (hss : ss + nn ≤ R.slots) (hd : decode cc pc = .ok (.newarray atype, 2)) (kk : ∀ ad' : Nat → Nat, gC p s m args meth c D ca ad' (N + 1) (ly (lx ++ [cd])) own cc nL ret → gF h0 hw s ad' (N + 1) → GG p l e R s m args below meth c D ca ad' (N + 1) (ly (lx ++ [cd])) nL (cs + 1) (ss + nn) Q (pc + 2) ls (.ref N :: st) (clr σ N)) : GG p l e R s m args below meth c D ca ad N (ly lx) nL cs ss Q pc ls (.int n :: st) σ := by
  intro H locs la hP hS hl
  have hts := C.2.2.2.2.1
  have hI := C.2.2.2.2.2.2.1
  have hD := gB_D (s := s) (ca := ca) (σ := σ) hI
  refine va_newa (A := gB ad N s) (H0 := s.heap) (D := D) (N' := nn) (a0 := (nn, gct ad cd N zst)) C.1 C.2.1 (by rw [hty]; exact hts _ hw0) hty C.2.2.2.2.2.1.1 hP hD (gB_S hS) (fun q h => Or.inr h) (fun cA => hdef cA ad N) hn hnn hby hcs hss hd ?_
  intro q cA H1 hK1 hP1 hD1 hS1
  have hcA := gT_nm C.2.2.2.2.2.1 hK1 (htt ca) hu
  subst hcA
  have hg : gac t = t := by unfold gac; rw [if_pos (by omega)]
  have hE : (Sum.inl (ca t, nn, gct ad cd N zst) : va_E) = gE (ext ad N q) ca cd N (clr σ N) := by
    unfold gE
    rw [if_neg ho.1, if_pos ho.2.1, ho.2.2.1, ho.2.2.2, hg]
    congr 3
    unfold gct
    rw [ho.2.2.1, show (clr σ N).1 N = zst.1 N by funext b; simp [clr, zst], show (clr σ N).2 N = zst.2 N by funext b; simp [clr, zst]]
    match t, ht3 with
    | 0, _ => rfl
    | 1, _ => rfl
    | 2, _ => rfl
  obtain ⟨a2, a3, a4, a5⟩ := g_grow (cd := cd) hN hI F hS hP1 hD1 hS1 hE hcl
  have a1 : ∀ k, k ≠ N → ad k = ext ad N q k := fun k hk => by simp [ext, hk]
  have hk := kk (ext ad N q) (gC_re C a2) a3 H1 locs la a4 a5 (by rw [← rfn_ls a1 hls]; exact hl)
  rw [List.map_cons, ← rfn_st a1 hst, show tv (ext ad N q) (.ref N) = .ref q by simp [tv, ext]] at hk
  exact hk
theorem g_newq (C : gC p s m args meth c D ca ad N (ly lx) own cc nL ret) (F : gF h0 hw s ad N) {i : Nat} {n : Int32} (t cd nn : Nat) (Cn : String) (hN : lx.length = N) (hAO : va_AO Cn s) (hcl0 : Cond.classLink own i Cn ∈ gtb) (ho1 : ¬ cd < 10) (ho2 : cd < 99) (ho3 : gac (gat cd) = t) (ho4 : gal cd = nn) (htt : ∀ ca : Nat → ClassId, (gT ca)[t]? = some (ca t, .object Cn)) (hu : ∀ a b : ClassId, va_RA s a (.object Cn) → va_RA s b (.object Cn) → a = b) (hdef : ∀ (ad : Nat → Nat) (k : Nat) (σ : St), gct ad cd k σ = .inr (.inr (.inr (.inr (fun _ => none))))) (hn : ¬ n < 0) (hnn : n.toNatClampNeg = nn) (hby : nn * 4 ≤ 536870912) (hcl : gcl lx N = true) (hls : ls.all (fun q => rfn N q.2) = true) (hst : st.all (rfn N) = true) (hcs : cs + 1 ≤ R.cells) (hss : ss + nn ≤ R.slots) (hd : decode cc pc = .ok (.anewarray i, 3)) (kk : ∀ ad' : Nat → Nat, gC p s m args meth c D ca ad' (N + 1) (ly (lx ++ [cd])) own cc nL ret → gF h0 hw s ad' (N + 1) → GG p l e R s m args below meth c D ca ad' (N + 1) (ly (lx ++ [cd])) nL (cs + 1) (ss + nn) Q (pc + 3) ls (.ref N :: st) (clr σ N)) : GG p l e R s m args below meth c D ca ad N (ly lx) nL cs ss Q pc ls (.int n :: st) σ := by
  intro H locs la hP hS hl
  have hts := C.2.2.2.2.1
  have hI := C.2.2.2.2.2.2.1
  have hD := gB_D (s := s) (ca := ca) (σ := σ) hI
  refine va_newq (A := gB ad N s) (H0 := s.heap) (D := D) (N' := nn) C.1 C.2.1 C.2.2.2.1 (hts _ hcl0) hAO C.2.2.2.2.2.1.1 hP hD (gB_S hS) (fun q h => Or.inr h) hn hnn hby hcs hss hd ?_
  intro q cA H1 hK1 hP1 hD1 hS1
  have hcA := gT_nm C.2.2.2.2.2.1 hK1 (htt ca) hu
  subst hcA
  have hE : (Sum.inl (ca t, nn, .inr (.inr (.inr (.inr (fun _ => none))))) : va_E) = gE (ext ad N q) ca cd N (clr σ N) := by
    unfold gE
    rw [if_neg ho1, if_pos ho2, ho3, ho4, hdef]
  obtain ⟨a2, a3, a4, a5⟩ := g_grow (cd := cd) hN hI F hS hP1 hD1 hS1 hE hcl
  have a1 : ∀ k, k ≠ N → ad k = ext ad N q k := fun k hk => by simp [ext, hk]
  have hk := kk (ext ad N q) (gC_re C a2) a3 H1 locs la a4 a5 (by rw [← rfn_ls a1 hls]; exact hl)
  rw [List.map_cons, ← rfn_st a1 hst, show tv (ext ad N q) (.ref N) = .ref q by simp [tv, ext]] at hk
  exact hk
theorem raI (a b : ClassId) (h1 : va_RA s a .int) (h2 : va_RA s b .int) : a = b := Option.some.inj (h1.symm.trans h2)
theorem raJ (a b : ClassId) (h1 : va_RA s a .long) (h2 : va_RA s b .long) : a = b := Option.some.inj (h1.symm.trans h2)
theorem raB (a b : ClassId) (h1 : va_RA s a .byte) (h2 : va_RA s b .byte) : a = b := Option.some.inj (h1.symm.trans h2)
theorem raO {Cn : String} (a b : ClassId) (h1 : va_RA s a (.object Cn)) (h2 : va_RA s b (.object Cn)) : a = b := by
  obtain ⟨_, _, _, _, _, e1⟩ := h1
  obtain ⟨_, _, _, _, _, e2⟩ := h2
  exact Option.some.inj (e1.symm.trans e2)
end GN
