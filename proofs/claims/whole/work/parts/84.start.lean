theorem qz_n7 : okN RL 7 7 13 := ⟨RX7, TX7, tyX7, rfl, by decide, rfl, inX7, tyX7_ok, gi (List.mem_of_getElem? (i := 68) (by decide +kernel)) rfl, gi (List.mem_of_getElem? (i := 69) (by decide +kernel)) rfl, gi (List.mem_of_getElem? (i := 55) (by decide +kernel)) rfl, by intro k j ad hj; match j, hj with | 0, _ => rfl | 1, _ => rfl | 2, _ => rfl | 3, _ => rfl | 4, _ => rfl | 5, _ => rfl | 6, _ => rfl | 7, _ => rfl | 8, _ => rfl | 9, _ => rfl | 10, _ => rfl | 11, _ => rfl | 12, _ => rfl | j + 13, hj => omega⟩
theorem qz_n8 : okN RL 10 8 37 := ⟨RX8, TX8, tyX8, rfl, by decide, rfl, inX8, tyX8_ok, gi (List.mem_of_getElem? (i := 772) (by decide +kernel)) rfl, gi (List.mem_of_getElem? (i := 773) (by decide +kernel)) rfl, gi (List.mem_of_getElem? (i := 64) (by decide +kernel)) rfl, by intro k j ad hj; match j, hj with | 0, _ => rfl | 1, _ => rfl | 2, _ => rfl | 3, _ => rfl | 4, _ => rfl | 5, _ => rfl | 6, _ => rfl | 7, _ => rfl | 8, _ => rfl | 9, _ => rfl | 10, _ => rfl | 11, _ => rfl | 12, _ => rfl | 13, _ => rfl | 14, _ => rfl | 15, _ => rfl | 16, _ => rfl | 17, _ => rfl | 18, _ => rfl | 19, _ => rfl | 20, _ => rfl | 21, _ => rfl | 22, _ => rfl | 23, _ => rfl | 24, _ => rfl | 25, _ => rfl | 26, _ => rfl | 27, _ => rfl | 28, _ => rfl | 29, _ => rfl | 30, _ => rfl | 31, _ => rfl | 32, _ => rfl | 33, _ => rfl | 34, _ => rfl | 35, _ => rfl | 36, _ => rfl | j + 37, hj => omega⟩
theorem qz_i7 : okI RL 9 yX7_init cX7_init 2 0 := ⟨gi (List.mem_of_getElem? (i := 70) (by decide +kernel)) rfl, gi (List.mem_of_getElem? (i := 71) (by decide +kernel)) rfl, gi (List.mem_of_getElem? (i := 55) (by decide +kernel)) rfl, gi (List.mem_of_getElem? (i := 72) (by decide +kernel)) rfl, rfl, by decide, by decide, by decide +kernel⟩
theorem qz_i8 : okI RL 12 yX8_init cX8_init 2 0 := ⟨gi (List.mem_of_getElem? (i := 774) (by decide +kernel)) rfl, gi (List.mem_of_getElem? (i := 775) (by decide +kernel)) rfl, gi (List.mem_of_getElem? (i := 64) (by decide +kernel)) rfl, gi (List.mem_of_getElem? (i := 776) (by decide +kernel)) rfl, rfl, by decide, by decide, by decide +kernel⟩
set_option maxHeartbeats 4000000 in
theorem l_make {p : Program} {l : Launch} {e : Env} {s : State} {m : MethodId} {below : List Frame} {meth : Method} {c : Code} {D : va_G} {ca : Nat → ClassId} {b L : Nat} {xs : Nat → Int32} {pc : Nat} {Q : State → Prop} (C0 : lw_At p s m meth c b L xs) (hK : gK D ca s) {y : MethodName} {bytes : ByteArray} {mL : Nat} {rm : Room} {i j cn nf mc ms : Nat} {lf : List Nat} {ρ : St} (qn : okN RL i cn nf) (qi : okI RL j y bytes mL 0) (hM : gMi l D ca y bytes mL rm cn [] 0 lf ρ mc ms) (hlf : 0 < lf.length)
    {H : Heap} {locs : List Loc} {cells slots : Nat} {la : Array Slot} {st : List Value} {ws : va_W} (hP : va_P D vwCl ws H) (hD : va_D (fun q : Nat => s.heap.size ≤ q) ws) (hS : va_S (fun q : Nat => s.heap.size ≤ q) s.heap H locs) (hla : la.size = 4) (hc : cells + 1 + mc ≤ room_1.cells) (hs : slots + nf + ms ≤ room_1.slots) (hrm : rm.cells = mc ∧ rm.slots = ms) (hR : rm.frames + 1 ≤ room_1.frames ∧ 8 + (mL + 11) + rm.locals ≤ room_1.locals) (h8 : (st.map (fun v => v.category)).sum + 1 ≤ 8) (d0 : decode code pc = .ok (.new i, 3)) (d1 : decode code (pc + 3) = .ok (.dup, 1)) (d2 : decode code (pc + 3 + 1) = .ok (.invokespecial j, 3))
    (kk : ∀ (ad : Nat → Nat) (H1 : Heap) (locs1 : List Loc), gI ad lf.length (ly lf) → (∀ k, k < lf.length → s.heap.size ≤ ad k) → (∀ (k a : Nat) (z : Nat × va_E), k < lf.length → ws[a]? = some z → z.1 ≠ ad k) → va_P D vwCl (gW ad ca lf.length (ly lf) ρ) H1 → va_P D vwCl ws H1 → va_S (fun q : Nat => s.heap.size ≤ q) s.heap H1 locs1 → W p l e room_1 s m #[Value.ref b] below meth c H1 locs1 (cells + 1 + mc) (slots + nf + ms) Q (F0 m (pc + 3 + 1 + 3) la (.ref (ad 0) :: st))) : W p l e room_1 s m #[Value.ref b] below meth c H locs cells slots Q (F0 m pc la st) := by
  obtain ⟨hx, hb, hr, hml, hown, hts, hX, hbl, hlocks, hgv⟩ := C0
  have hown : s.vm.findClass RL = some m.cls := hown
  have htg : ∀ w ∈ gtb, w.before #[Value.ref b] s = true := fun w h => hts w (gtb_in h)
  obtain ⟨Cn, T, tyf, q1, q2, q3, q4, q5, q6, q7, q8, q9⟩ := qn
  obtain ⟨i1, i2, i3, i4, i5, i6, i7, i8⟩ := qi
  have hfs : ∀ q : Nat, (Sum.inr (cn, (List.range (gnf cn)).map (fun j => gpv (fun _ => 0) cn 0 j 0 zst)) : va_E) = gE (fun _ => q) ca (100 + cn) 0 zst := by
    intro q
    have e1 : gpc (100 + cn) = cn := by unfold gpc; omega
    have e2 : gpm (100 + cn) = 0 := by unfold gpm; omega
    rw [gE_par (by omega), e1, e2]
    refine congrArg Sum.inr (congrArg (Prod.mk cn) (List.map_congr_left ?_))
    intro j hj
    rw [← q9 0 j (fun _ => 0) (by rw [← q3]; exact List.mem_range.mp hj), ← q9 0 j (fun _ => q) (by rw [← q3]; exact List.mem_range.mp hj)]
  refine va_new (D := D) (A := fun q : Nat => s.heap.size ≤ q) (H0 := s.heap) (ci := cn) (fs := (List.range (gnf cn)).map (fun j => gpv (fun _ => 0) cn 0 j 0 zst)) hx hb htg q4 tyf q5 hown (htg _ q6) (htg _ q7) (htg _ q8) hK.1 hP hD hS (fun _ h => h) q1 (fun j hj => by rw [q9 0 j (fun _ => 0) hj]; simp [vp_V, q3, hj]) (by omega) (by omega) d0 (fun q H1 hP1 hD1 hS1 => ?_)
  rw [hfs q] at hP1 hD1
  refine lv_dup hx hb d1 rfl ?_
  have hlen : (ws ++ [(q, gE (fun _ => q) ca (100 + cn) 0 zst)])[ws.length]? = some (q, gE (fun _ => q) ca (100 + cn) 0 zst) := by simp
  have hpq := hP1 _ _ hlen
  have hqz : s.heap.size ≤ q := hD1.2 _ _ hlen
  have hx0 : va_P D vwCl [(q, gE (fun _ => q) ca (100 + cn) 0 zst)] H1 := by
    intro k z hk
    have hk1 : k < 1 := (List.getElem?_eq_some_iff.mp hk).1
    obtain rfl : k = 0 := by omega
    cases hk
    exact hpq
  have hrun := va_runI (y := y) (As := []) (rest := .ref q :: st) (b := q) (index := j) (n := 0) (bytes := bytes) (maxL := mL) (H := H1) (g := F0 m (pc + 3 + 1) la (.ref q :: .ref q :: st)) (p := p) (l := l) (e := e) (R := room_1) (s := s) (m := m) (args := #[Value.ref b]) (below := below) (meth := meth) (c := c) (locs := locs) (cells := cells + 1) (slots := slots + nf) ⟨hx, hb, hml, hown, htg⟩ (hM q H1.size) ⟨callB_of 0 htg (gd_in i4) rfl hrm.1 hrm.2 (htg _ i3) (htg _ i1) ⟨i6, i7, i8⟩ hR, i5, htg _ i2⟩ ⟨fun a U g mk z => by
      obtain ⟨z0, z1, z2, z3⟩ := z
      exact ⟨z0, z1, z2, ⟨va_K.moved (u := U) (U := U.calling g mk a) (Vm.Alike.refl U.vm) z3.1, fun w hw => va_Nw.same (u := U) (U := U.calling g mk a) (gnb_tab hw) rfl (z3.2.1 w hw), va_AO.moved (u := U) (U := U.calling g mk a) (Vm.Alike.refl U.vm) z3.2.2.1, va_AO.moved (u := U) (U := U.calling g mk a) (Vm.Alike.refl U.vm) z3.2.2.2⟩⟩, fun U hU hW => ⟨rfl, by rw [hU], by rw [hU]; exact hx0, gK_warm hW hK⟩⟩ rfl rfl hla rfl (lv_room (by show 1 + (st.map (fun v => v.category)).sum ≤ 8; omega)) d2 ⟨by omega, by omega⟩
  intro T2 hT X
  obtain ⟨v, st₀, t, T', Lc, z0, X', hL, e1, e2, ⟨h5, ⟨ad, b1, b2, b3⟩, b4⟩, stp⟩ := hrun T2 hT X
  obtain rfl : v = none := by cases h5; rfl
  obtain ⟨y1, y2⟩ := b4
  rw [z0] at y1 y2
  obtain ⟨w0, w1, w2, w3⟩ := b2
  rw [z0] at w3
  have hgeH : s.heap.size ≤ H1.size := hS1.1
  have hge : ∀ k, k < lf.length → s.heap.size ≤ ad k := fun k hk => by
    rcases Nat.eq_zero_or_pos k with h | h
    · subst h; rw [w1]; exact hqz
    · exact Nat.le_trans hgeH (w3 k h hk)
  have hwlt : ∀ (a : Nat) (z : Nat × va_E), ws[a]? = some z → z.1 < H1.size ∧ z.1 ≠ q := fun a z hz => by
    have hz' : (ws ++ [(q, gE (fun _ => q) ca (100 + cn) 0 zst)])[a]? = some z := by
      rw [List.getElem?_append_left (List.getElem?_eq_some_iff.mp hz).1]; exact hz
    refine ⟨va_at.lt (hP1 a z hz'), fun h => ?_⟩
    have := hD1.1 a ws.length z _ hz' hlen h
    have := (List.getElem?_eq_some_iff.mp hz).1
    omega
  have hk := kk ad T'.heap (locs ++ Lc) b1 hge (fun k a z hk2 hz h => by
      obtain ⟨a1, a2⟩ := hwlt a z hz
      rcases Nat.eq_zero_or_pos k with h3 | h3
      · subst h3; rw [w1] at h; exact a2 h
      · have := w3 k h3 hk2
        omega) (by rw [e1]; exact b3) (fun a z hz => by
      obtain ⟨a1, a2⟩ := hwlt a z hz
      have hz' : (ws ++ [(q, gE (fun _ => q) ca (100 + cn) 0 zst)])[a]? = some z := by
        rw [List.getElem?_append_left (List.getElem?_eq_some_iff.mp hz).1]; exact hz
      exact (hP1 a z hz').kept (by rw [e1]; exact y2 z.1 a1 (by rintro (h | h); exact a2 h; omega))) ⟨Nat.le_trans hgeH (by rw [e1]; exact y1), fun z z1 z2 => by
      rw [e1, y2 z (Nat.lt_of_lt_of_le z1 hgeH) (by rintro (h | h); exact z2 (by rw [h]; exact hqz); omega)]
      exact hS1.2.1 z z1 z2, fun z hz => by
      rcases List.mem_append.mp hz with h | h
      · exact hS1.2.2 z h
      · rcases hL z h with h2 | h2
        · show s.heap.size ≤ z.base
          rw [h2]; exact hqz
        · exact Nat.le_trans hgeH h2⟩
  rw [w1] at hk
  obtain ⟨t2, c1, c2⟩ := hk T' rfl X'
  exact ⟨t2, stp t2 c1, c2⟩
set_option maxHeartbeats 4000000 in
set_option maxRecDepth 100000 in
/-- THE LAW, from its entry, over a relation of the two sides that every call keeps -/
theorem whole_rel {Rel : St → St → Prop} (AG : AllAgree Rel) (h00 : Rel rho_X7_init rho_X8_init) {p : Program} {e : Env} {s : State} {m : MethodId} {below : List Frame} {meth : Method} {c : Code} (l : Launch) {b L : Nat} {xs : Nat → Int32} (hL : L ≤ 3072) (C0 : lw_At p s m meth c b L xs) : W p l e room_1 s m #[Value.ref b] below meth c s.heap [] 0 0 (lw_Z below #[Value.ref b] s) (entryFrame m ([Value.ref b] : List Value).toArray 4) := by
  obtain ⟨hx, hb, hr, hml, hown, hts, hX, hbl, hlocks, hgv⟩ := id C0
  obtain ⟨c0, iS0, hKn0⟩ := u_known (C := RX0) (T := TX0) (N := 13) (n := 13) hts (fun w h => gtb_in (inX0 w h)) (hts (.instantiable RX0 13) (List.mem_of_getElem? (i := 231) (by decide +kernel)))
  obtain ⟨c1, iS1, hKn1⟩ := u_known (C := RX1) (T := TX1) (N := 5) (n := 5) hts (fun w h => gtb_in (inX1 w h)) (hts (.instantiable RX1 5) (List.mem_of_getElem? (i := 103) (by decide +kernel)))
  obtain ⟨c2, iS2, hKn2⟩ := u_known (C := RX2) (T := TX2) (N := 2) (n := 2) hts (fun w h => gtb_in (inX2 w h)) (hts (.instantiable RX2 2) (List.mem_of_getElem? (i := 85) (by decide +kernel)))
  obtain ⟨c3, iS3, hKn3⟩ := u_known (C := RX3) (T := TX3) (N := 4) (n := 4) hts (fun w h => gtb_in (inX3 w h)) (hts (.instantiable RX3 4) (List.mem_of_getElem? (i := 277) (by decide +kernel)))
  obtain ⟨c4, iS4, hKn4⟩ := u_known (C := RX4) (T := TX4) (N := 6) (n := 6) hts (fun w h => gtb_in (inX4 w h)) (hts (.instantiable RX4 6) (List.mem_of_getElem? (i := 164) (by decide +kernel)))
  obtain ⟨c5, iS5, hKn5⟩ := u_known (C := RX5) (T := TX5) (N := 6) (n := 6) hts (fun w h => gtb_in (inX5 w h)) (hts (.instantiable RX5 6) (List.mem_of_getElem? (i := 77) (by decide +kernel)))
  obtain ⟨c6, iS6, hKn6⟩ := u_known (C := RX6) (T := TX6) (N := 7) (n := 7) hts (fun w h => gtb_in (inX6 w h)) (hts (.instantiable RX6 7) (List.mem_of_getElem? (i := 195) (by decide +kernel)))
  obtain ⟨c7, iS7, hKn7⟩ := u_known (C := RX7) (T := TX7) (N := 13) (n := 13) hts (fun w h => gtb_in (inX7 w h)) (hts (.instantiable RX7 13) (List.mem_of_getElem? (i := 69) (by decide +kernel)))
  obtain ⟨c8, iS8, hKn8⟩ := u_known (C := RX8) (T := TX8) (N := 37) (n := 37) hts (fun w h => gtb_in (inX8 w h)) (hts (.instantiable RX8 37) (List.mem_of_getElem? (i := 773) (by decide +kernel)))
  obtain ⟨dC, dI, hKc⟩ : ∃ (dC : Nat → ClassId) (dI : Nat → Nat → Nat), ∀ (k : Nat) (q : vw_C), vwCl[k]? = some q → u_Kn s q.1 q.2.1 q.2.2 (dC k) (dI k) := by
    refine ⟨fun k => if k = 0 then c0 else if k = 1 then c1 else if k = 2 then c2 else if k = 3 then c3 else if k = 4 then c4 else if k = 5 then c5 else if k = 6 then c6 else if k = 7 then c7 else c8, fun k => if k = 0 then iS0 else if k = 1 then iS1 else if k = 2 then iS2 else if k = 3 then iS3 else if k = 4 then iS4 else if k = 5 then iS5 else if k = 6 then iS6 else if k = 7 then iS7 else iS8, ?_⟩
    intro k q hq
    match k, hq with
    | 0, hq => cases hq; exact hKn0
    | 1, hq => cases hq; exact hKn1
    | 2, hq => cases hq; exact hKn2
    | 3, hq => cases hq; exact hKn3
    | 4, hq => cases hq; exact hKn4
    | 5, hq => cases hq; exact hKn5
    | 6, hq => cases hq; exact hKn6
    | 7, hq => cases hq; exact hKn7
    | 8, hq => cases hq; exact hKn8
    | k + 9, hq => simp [vwCl] at hq
  obtain ⟨a0, k0, p0, f0, g0, e0⟩ := Cond.arrayClass_spec (show (Cond.arrayClass .int).holds #[Value.ref b] s none s [] = true from hts (.arrayClass .int) (List.mem_of_getElem? (i := 99) (by decide +kernel)))
  obtain ⟨a1, k1, p1, f1, g1, e1⟩ := Cond.arrayClass_spec (show (Cond.arrayClass .long).holds #[Value.ref b] s none s [] = true from hts (.arrayClass .long) (List.mem_of_getElem? (i := 229) (by decide +kernel)))
  obtain ⟨a2, k2, p2, f2, g2, e2⟩ := Cond.arrayClass_spec (show (Cond.arrayClass .byte).holds #[Value.ref b] s none s [] = true from hts (.arrayClass .byte) (List.mem_of_getElem? (i := 193) (by decide +kernel)))
  have hAO3 : va_AO "DatingTable$Find" s := va_AO.of (hts (.arrayOver (.object "DatingTable$Find")) (List.mem_of_getElem? (i := 83) (by decide +kernel)))
  obtain ⟨p3, a3, k3, m3, n3, g3, e3, f3⟩ := Cond.arrayOver_spec hAO3
  have hAO4 : va_AO "DatingTable$Sheet" s := va_AO.of (hts (.arrayOver (.object "DatingTable$Sheet")) (List.mem_of_getElem? (i := 162) (by decide +kernel)))
  obtain ⟨p4, a4, k4, m4, n4, g4, e4, f4⟩ := Cond.arrayOver_spec hAO4
  obtain ⟨ca, hca⟩ : ∃ ca : Nat → ClassId, ca = fun k => if k = 0 then a0 else if k = 1 then a1 else if k = 2 then a2 else if k = 3 then a3 else a4 := ⟨_, rfl⟩
  have hK : gK (dC, dI) ca s := by
    refine ⟨⟨hKc, fun k q hq => ?_⟩, fun w hw => va_Nw.of (gnb_tab hw) (hts w (List.mem_filter.mp hw).1), hAO3, hAO4⟩
    subst hca
    match k, hq with
    | 0, hq => cases hq; exact ⟨fun n z => ⟨fun k h => (by cases h), k0, g0, p0, e0⟩, f0⟩
    | 1, hq => cases hq; exact ⟨fun n z => ⟨fun k h => (by cases h), k1, g1, p1, e1⟩, f1⟩
    | 2, hq => cases hq; exact ⟨fun n z => ⟨fun k h => (by cases h), k2, g2, p2, e2⟩, f2⟩
    | 3, hq => cases hq; exact ⟨fun n z => ⟨fun k h => (by cases h), k3, g3, p3, e3⟩, k3, p3, g3, e3, m3, f3⟩
    | 4, hq => cases hq; exact ⟨fun n z => ⟨fun k h => (by cases h), k4, g4, p4, e4⟩, k4, p4, g4, e4, m4, f4⟩
    | k + 5, hq => simp [gT] at hq
  have hl := lv_entry ([.ref b]) (n := 4) (Nat.le_of_ble_eq_true rfl)
  rw [lg_entry_eq]
  generalize (lg_sl ([.ref b]) ++ List.replicate (4 - (lg_sl ([.ref b])).length) Slot.unset).toArray = la at hl ⊢
  have hl : lv_has la 4 [(0, .ref b)] := hl
  refine l_make C0 hK qz_n7 qz_i7 (m_X7_init 0) (by decide) (ws := []) (fun k q h => by simp at h) ⟨fun i j p q h => by simp at h, fun k q h => by simp at h⟩ va_S.rf hl.1 (Nat.le_of_ble_eq_true rfl) (Nat.le_of_ble_eq_true rfl) ⟨rfl, rfl⟩ ⟨by decide, by decide⟩ (by decide) dL_law_0 dL_law_3 dL_law_4 (fun ad0 H locs hI0 hge0 _ hP0 _ hS => ?_)
  have hI0 : gI ad0 91 LC := hI0
  have hge0 : ∀ k, k < 91 → s.heap.size ≤ ad0 k := hge0
  have hP0 : va_P (dC, dI) vwCl (gW ad0 ca 91 LC rho_X7_init) H := hP0
  refine lv_astore_n (lv' := [(1, .ref (ad0 0)), (0, .ref b)]) hx hb dL_law_7 rfl hl (by decide) rfl (fun la hl => ?_)
  have hD0 : va_D (fun q : Nat => s.heap.size ≤ q) (gW ad0 ca 91 LC rho_X7_init) := (gW_D hI0).weaken (fun k q hq ⟨z, z1, z2⟩ => by rw [z2]; exact hge0 z z1)
  refine l_make C0 hK qz_n8 qz_i8 (m_X8_init 0) (by decide) (ws := gW ad0 ca 91 LC rho_X7_init) hP0 hD0 hS hl.1 (Nat.le_of_ble_eq_true rfl) (Nat.le_of_ble_eq_true rfl) ⟨rfl, rfl⟩ ⟨by decide, by decide⟩ (by decide) dL_law_8 dL_law_11 dL_law_12 (fun ad1 H locs hI1 hge1 hne hP1 hP0 hS => ?_)
  have hI1 : gI ad1 26 LM := hI1
  have hge1 : ∀ k, k < 26 → s.heap.size ≤ ad1 k := hge1
  have hP1 : va_P (dC, dI) vwCl (gW ad1 ca 26 LM rho_X8_init) H := hP1
  refine lv_astore_n (lv' := [(2, .ref (ad1 0)), (1, .ref (ad0 0)), (0, .ref b)]) hx hb dL_law_15 rfl hl (by decide) rfl (fun la hl => ?_)
  refine lv_iconst (v := 0) hx hb dL_law_16 (by decide) ?_
  refine lv_istore_n (lv' := [(3, .int 0), (2, .ref (ad1 0)), (1, .ref (ad0 0)), (0, .ref b)]) hx hb dL_law_17 rfl hl (by decide) rfl (fun la hl => ?_)
  refine W.widen (k := 600000) (n := 7302250) (Nat.le_of_ble_eq_true rfl) (Nat.le_of_ble_eq_true rfl) ?_
  exact law_loop AG hL ⟨C0, hK, hI0, hI1, fun i j hi hj => hne j i _ hj (gW_get hi), hge0, hge1⟩ (L + 1) 0 0 _ _ (Nat.zero_le L) (by omega) nI_0.symm h00 H locs la hP0 hP1 hS (lv_sub hl [3, 2, 1, 0] rfl)
