/-! the ranks -/
def mk (l : List Nat) : Nat := msk (fun k => decide (k ∈ l)) 7
theorem mk_lt (l : List Nat) : mk l < 128 := msk_lt _ 7
theorem mk_bit (l : List Nat) (k : Nat) : (mk l).testBit k = (decide (k < 7) && decide (k ∈ l)) := msk_bit _ 7 k
theorem sub0 {a b : Nat} (ha : a < 128) (hb : b < 128) : nI (a &&& (127 - b)) = 0 ↔ ∀ j, a.testBit j = true → b.testBit j = true := by
  have e : (a &&& (127 - b)) = rst a b := rfl
  rw [e]
  have hl : rst a b < 128 := Nat.lt_of_le_of_lt Nat.and_le_left ha
  constructor
  · intro h j hj
    have h0 : rst a b = 0 := by
      rcases Nat.eq_zero_or_pos (rst a b) with z | z
      · exact z
      · exact absurd h (nI_ne0 z (by omega))
    have h7 := bit128 ha hj
    have t := rst_bit a ha b hb j h7
    rw [h0, hj] at t
    simp at t
    exact t.symm ▸ rfl
  · intro h
    have h0 : rst a b = 0 := Nat.eq_of_testBit_eq (fun j => by
      rw [Nat.zero_testBit]
      by_cases q : (rst a b).testBit j = true
      · have h7 := bit128 hl q
        rw [rst_bit a ha b hb j h7] at q
        simp at q
        have := h j q.1
        rw [q.2] at this
        exact absurd this (by decide)
      · simpa using q)
    rw [h0]; rfl
theorem topo_nodup {A : Rl} : ∀ {l : List Nat}, Topo A l → l.Nodup
  | [], _ => List.nodup_nil
  | _ :: _, h => List.nodup_cons.mpr ⟨h.2.1, topo_nodup h.2.2⟩
theorem nodup_len : ∀ (n : Nat) (l : List Nat), l.Nodup → (∀ x, x ∈ l → x < n) → l.length ≤ n
  | 0, l, _, h => by
    cases l with
    | nil => simp
    | cons a t => have := h a (by simp); omega
  | n + 1, l, hd, h => by
    by_cases e : n ∈ l
    · have := nodup_len n (l.erase n) (hd.erase n) (fun x hx => by
        have h1 := (List.Nodup.mem_erase_iff hd).mp hx
        have := h x h1.2
        have := h1.1
        omega)
      rw [List.length_erase_of_mem e] at this
      omega
    · have := nodup_len n l hd (fun x hx => by
        have := h x hx
        have : x ≠ n := fun q => e (q ▸ hx)
        omega)
      omega
def RkS (σ : St) (rl : List Nat) : Prop := σ.1 70 2 = nI rl.length ∧ ∀ r, r < rl.length → σ.1 71 r = nI (rl.getD r 0)
def RkP (G : Wg) (rl : List Nat) : Prop := Topo (wA G) rl.reverse ∧ ∀ k, k ∈ rl → wm G k = true
theorem RkP_len {G : Wg} (ho : Okw G) {rl : List Nat} (h : RkP G rl) : rl.length ≤ 7 := by
  refine nodup_len 7 rl ?_ (fun x hx => by have := ho.2.2.1 x (h.2 x hx); have := ho.2.1; omega)
  have := topo_nodup h.1
  exact List.pairwise_reverse.mp this |>.imp (fun h => Ne.symm h)
theorem RkP_add {G : Wg} {rl : List Nat} {i : Nat} (h : RkP G rl) (hm : wm G i = true) (hn : i ∉ rl) (hA : ∀ j, wA G j i → j ∈ rl) : RkP G (rl ++ [i]) := by
  refine ⟨?_, fun k hk => ?_⟩
  · rw [List.reverse_append]
    exact ⟨fun j hj => List.mem_reverse.mpr (hA j hj), fun q => hn (List.mem_reverse.mp q), h.1⟩
  · rcases List.mem_append.mp hk with q | q
    · exact h.2 k q
    · rw [List.mem_singleton.mp q]; exact hm
theorem rk_in {G : Wg} (ho : Okw G) (rl : List Nat) (kk : Int32 → Int32 → Int32 → St → Option (Int32 × St)) (x2 x3 : Int32) : ∀ (fu i : Nat) (ext : List Nat) (σ : St), RkP G (rl ++ ext) → RkS σ (rl ++ ext) → WgC σ G → (ext = [] → ∀ k, k < i → wm G k = true → k ∉ rl → ∃ j, wA G j k ∧ j ∉ rl) → i ≤ wf G → wf G - i < fu → ∃ σ' ext', f_X0_rankFinds_31 kk fu (nI (mk (rl ++ ext))) x2 x3 (nI i) σ = kk (nI (mk (rl ++ ext'))) x2 x3 σ' ∧ RkP G (rl ++ ext') ∧ RkS σ' (rl ++ ext') ∧ (ext' = [] → ∀ k, k < wf G → wm G k = true → k ∉ rl → ∃ j, wA G j k ∧ j ∉ rl) ∧ (∀ c, (c ≠ 70 ∧ c ≠ 71) → σ'.1 c = σ.1 c) ∧ σ'.2 = σ.2 := by
  have hf := ho.2.1
  intro fu
  induction fu with
  | zero => intro i ext σ _ _ _ _ _ h; omega
  | succ fu ih =>
    intro i ext σ hP hS H hz hi hfu
    rw [f_X0_rankFinds_31, H.1.2.1]
    rcases Nat.lt_or_ge i (wf G) with q | q
    · have ci := ix_nI (show i < 7 by omega) (by decide)
      have cl := nI_clamp (show i < 2 ^ 31 by omega)
      rw [if_neg (nI_ge q (by omega)), isMember_eq H (by omega), bS]
      have skip : (ext = [] → ∀ k, k < i + 1 → wm G k = true → k ∉ rl → ∃ j, wA G j k ∧ j ∉ rl) → ∃ σ' ext', f_X0_rankFinds_31 kk fu (nI (mk (rl ++ ext))) x2 x3 (nI i + 1) σ = kk (nI (mk (rl ++ ext'))) x2 x3 σ' ∧ RkP G (rl ++ ext') ∧ RkS σ' (rl ++ ext') ∧ (ext' = [] → ∀ k, k < wf G → wm G k = true → k ∉ rl → ∃ j, wA G j k ∧ j ∉ rl) ∧ (∀ c, (c ≠ 70 ∧ c ≠ 71) → σ'.1 c = σ.1 c) ∧ σ'.2 = σ.2 := fun hz' => by
        rw [nI_1]
        exact ih (i + 1) ext σ hP hS H hz' (by omega) (by omega)
      by_cases c : wm G i = true
      · rw [if_pos c, if_neg one_ne]
        have tb := bT (mk (rl ++ ext)) (mk_lt _) i (by omega)
        rw [mk_bit] at tb
        by_cases d : i ∈ rl ++ ext
        · rw [if_neg (fun e => by have := tb.mp e; simp [d] at this; omega)]
          unfold f_X0_rankFinds_68 f_X0_rankFinds_69 f_X0_rankFinds_124
          rw [if_pos rfl]
          refine skip (fun he k hk hm hn => ?_)
          by_cases e : k = i
          · subst e; subst he; rw [List.append_nil] at d; exact absurd d hn
          · exact hz he k (by omega) hm hn
        · rw [if_pos (tb.mpr (by simp [d]))]
          unfold f_X0_rankFinds_69 f_X0_rankFinds_124
          rw [if_neg one_ne, cI_t ci, cl, (H.2.2.2 i (by omega)).1, bNot _ (msk_lt _ 7) _ (mk_lt _)]
          have s0 := sub0 (msk_lt (fun j => wh G j i == 1) 7) (mk_lt (rl ++ ext))
          by_cases e : ∀ j, wA G j i → j ∈ rl ++ ext
          · have hj : ∀ j, (msk (fun j => wh G j i == 1) 7).testBit j = true → (mk (rl ++ ext)).testBit j = true := fun j hj => by
              rw [msk_bit] at hj
              simp at hj
              rw [mk_bit]
              simp only [hj.1, e j hj.2, decide_true, Bool.and_self]
            rw [if_pos (s0.mpr hj)]
            have hP' := RkP_add hP c d e
            have hl := RkP_len ho hP'
            rw [List.length_append] at hl
            have hl : (rl ++ ext).length < 7 := by simp at hl ⊢; omega
            rw [hS.1, cI_t (ix_nI hl (by decide)), nI_clamp (by omega), ap, ap, ap, bO _ (mk_lt _) i (by omega)]
            have em : mk (rl ++ ext) ||| 2 ^ i = mk (rl ++ (ext ++ [i])) := by
              unfold mk
              rw [msk_set (by omega)]
              apply msk_congr
              intro k _
              rw [← List.append_assoc]
              simp [List.mem_append, Bool.or_assoc]
            rw [em, nI_1]
            rw [List.append_assoc] at hP'
            have hS1 : (up1 σ 71 (rl ++ ext).length (nI i)).1 70 2 = nI (rl ++ ext).length := by rw [up1_r (by omega)]; exact hS.1
            rw [hS1, nI_1]
            have hSn : RkS (up1 (up1 σ 71 (rl ++ ext).length (nI i)) 70 2 (nI ((rl ++ ext).length + 1))) (rl ++ (ext ++ [i])) := by
              refine ⟨by rw [up1_eq]; congr 1; simp; omega, fun r hr => ?_⟩
              rw [up1_r (by omega)]
              rw [← List.append_assoc] at hr ⊢
              by_cases er : r = (rl ++ ext).length
              · subst er
                rw [up1_eq]
                simp [List.getD]
              · have hr2 : r < (rl ++ ext).length := by simp at hr er ⊢; omega
                rw [up1_ne (by omega), hS.2 r hr2]
                congr 1
                simp only [List.getD_eq_getElem?_getD, List.getElem?_append_left hr2]
            obtain ⟨σ', ext', r1, r2, r3, r4, r5, r6⟩ := ih (i + 1) (ext ++ [i]) (up1 (up1 σ 71 (rl ++ ext).length (nI i)) 70 2 (nI ((rl ++ ext).length + 1))) hP' hSn (WgC_fr H (fun c c1 c2 => by rw [up1_r (by omega), up1_r (by omega)]) rfl) (fun he => by simp at he) (by omega) (by omega)
            exact ⟨σ', ext', r1, r2, r3, r4, fun c hc => by rw [r5 c hc, up1_r hc.1, up1_r hc.2], r6⟩
          · rw [if_neg (fun h => e (fun j hj => by
              have := s0.mp h j (by rw [msk_bit]; have := (ho.2.2.2.2.2.2 j i (by unfold wA at hj; omega)).1; have := ho.2.2.1 j this; simp [show j < 7 by omega]; exact hj)
              rw [mk_bit] at this
              simp only [Bool.and_eq_true, decide_eq_true_eq] at this
              exact this.2))]
            refine skip (fun he k hk hm hn => ?_)
            by_cases ek : k = i
            · subst ek
              subst he
              rw [List.append_nil] at e
              apply Classical.byContradiction
              intro t
              exact e (fun j hj => Classical.byContradiction (fun u => t ⟨j, hj, u⟩))
            · exact hz he k (by omega) hm hn
      · rw [if_neg c, if_pos rfl]
        unfold f_X0_rankFinds_68 f_X0_rankFinds_69 f_X0_rankFinds_124
        rw [if_pos rfl]
        refine skip (fun he k hk hm hn => ?_)
        by_cases e : k = i
        · subst e; exact absurd hm c
        · exact hz he k (by omega) hm hn
    · obtain rfl : i = wf G := by omega
      rw [if_pos (by rw [I_le]; omega)]
      exact ⟨σ, ext, rfl, hP, hS, hz, fun _ _ => rfl, rfl⟩
def Ring (G : Wg) : Prop := ∃ l : List Nat, (∃ k, wm G k = true ∧ k ∉ l) ∧ ∀ k, wm G k = true → k ∉ l → ∃ j, wA G j k ∧ j ∉ l
theorem mk_all {G : Wg} (ho : Okw G) {rl : List Nat} (h : ∀ k, k ∈ rl → wm G k = true) : mk rl = wM G ↔ ∀ k, wm G k = true → k ∈ rl := by
  have hf := ho.2.1
  constructor
  · intro e k hk
    have h7 := ho.2.2.1 k hk
    have : (mk rl).testBit k = true := by rw [e]; unfold wM; rw [msk_bit]; simp [hk, show k < 7 by omega]
    rw [mk_bit] at this
    simp only [Bool.and_eq_true, decide_eq_true_eq] at this
    exact this.2
  · intro e
    unfold mk wM
    apply msk_congr
    intro k _
    by_cases c : wm G k = true
    · simp [c, e k c]
    · simp [c]
      exact fun q => c (h k q)
theorem rk_out {G : Wg} (ho : Okw G) : ∀ (fu r : Nat) (rl : List Nat) (σ : St), RkP G rl → RkS σ rl → WgC σ G → r ≤ rl.length → 7 - r < fu → ∃ σ', ((Ring G ∧ f_X0_rankFinds_9 f_X0_rankFinds_143 fu (nI (mk rl)) (nI r) σ = some (0, σ')) ∨ ∃ rl', f_X0_rankFinds_9 f_X0_rankFinds_143 fu (nI (mk rl)) (nI r) σ = some (1, σ') ∧ RkP G rl' ∧ RkS σ' rl' ∧ ∀ k, wm G k = true → k ∈ rl') ∧ (∀ c, (c ≠ 70 ∧ c ≠ 71) → σ'.1 c = σ.1 c) ∧ σ'.2 = σ.2 := by
  have hf := ho.2.1
  have hM : wM G < 128 := msk_lt _ 7
  intro fu
  induction fu with
  | zero => intro r rl σ _ _ _ _ h; omega
  | succ fu ih =>
    intro r rl σ hP hS H hr hfu
    have hl := RkP_len ho hP
    rw [f_X0_rankFinds_9, H.1.2.2]
    have done : mk rl = wM G → ∃ σ', ((Ring G ∧ f_X0_rankFinds_143 (nI (mk rl)) σ = some (0, σ')) ∨ ∃ rl', f_X0_rankFinds_143 (nI (mk rl)) σ = some (1, σ') ∧ RkP G rl' ∧ RkS σ' rl' ∧ ∀ k, wm G k = true → k ∈ rl') ∧ (∀ c, (c ≠ 70 ∧ c ≠ 71) → σ'.1 c = σ.1 c) ∧ σ'.2 = σ.2 := fun e => by
      unfold f_X0_rankFinds_143
      rw [H.1.2.2, e, if_pos rfl]
      exact ⟨σ, Or.inr ⟨rl, rfl, hP, hS, (mk_all ho hP.2).mp e⟩, fun _ _ => rfl, rfl⟩
    rcases Nat.lt_or_ge r 7 with q | q
    · rw [if_neg (show ¬ (7 : Int32) ≤ nI r from nI_ge (b := 7) q (by decide))]
      by_cases e : mk rl = wM G
      · rw [if_pos (by rw [e])]
        exact done e
      · rw [if_neg (fun x => e (nI_inj (by have := mk_lt rl; omega) (by omega) x))]
        obtain ⟨σ1, ext, r1, r2, r3, r4, r5, r6⟩ := rk_in ho rl (f_X0_rankFinds_130 (f_X0_rankFinds_9 f_X0_rankFinds_143 fu)) (nI r) (nI (mk rl)) FU 0 [] σ (by rw [List.append_nil]; exact hP) (by rw [List.append_nil]; exact hS) H (fun _ k hk => by omega) (by omega) (FU_big (by omega))
        rw [List.append_nil] at r1
        have r1' : f_X0_rankFinds_31 (f_X0_rankFinds_130 (f_X0_rankFinds_9 f_X0_rankFinds_143 fu)) FU (nI (mk rl)) (nI r) (nI (mk rl)) 0 σ = _ := r1
        rw [r1']
        unfold f_X0_rankFinds_130
        by_cases ee : ext = []
        · subst ee
          rw [List.append_nil, if_pos rfl]
          refine ⟨σ1, Or.inl ⟨⟨rl, ?_, fun k hk hn => r4 rfl k (ho.2.2.1 k hk) hk hn⟩, rfl⟩, r5, r6⟩
          apply Classical.byContradiction
          intro t
          exact e ((mk_all ho hP.2).mpr (fun k hk => Classical.byContradiction (fun u => t ⟨k, hk, u⟩)))
        · have ne : ¬ mk (rl ++ ext) = mk rl := fun x => by
            obtain ⟨a, t, rfl⟩ : ∃ a t, ext = a :: t := by
              cases ext with
              | nil => exact absurd rfl ee
              | cons a t => exact ⟨a, t, rfl⟩
            have ha := r2.2 a (by simp)
            have := ho.2.2.1 a ha
            have b1 := mk_bit (rl ++ a :: t) a
            rw [x, mk_bit] at b1
            have nd : (rl ++ a :: t).Nodup := (List.pairwise_reverse.mp (topo_nodup r2.1)).imp (fun h => Ne.symm h)
            have hn : a ∉ rl := fun u => (List.nodup_append.mp nd).2.2 a u a (by simp) rfl
            simp [hn, show a < 7 by omega] at b1
          rw [if_neg (fun x => ne (nI_inj (by have := mk_lt (rl ++ ext); omega) (by have := mk_lt rl; omega) x)), nI_1]
          obtain ⟨σ2, o, p5, p6⟩ := ih (r + 1) (rl ++ ext) σ1 r2 r3 (WgC_fr H (fun c c1 c2 => r5 c (by omega)) (by rw [r6])) (by
            have : 0 < ext.length := List.length_pos_iff.mpr ee
            rw [List.length_append]; omega) (by omega)
          exact ⟨σ2, o, fun c hc => (p5 c hc).trans (r5 c hc), p6.trans r6⟩
    · rw [if_pos (show (7 : Int32) ≤ nI r from nI_le (a := 7) q (by omega))]
      refine done ((mk_all ho hP.2).mpr (fun k hk => ?_))
      apply Classical.byContradiction
      intro u
      have hk7 := ho.2.2.1 k hk
      have := nodup_len 7 (k :: rl) (List.nodup_cons.mpr ⟨u, (List.pairwise_reverse.mp (topo_nodup hP.1)).imp (fun h => Ne.symm h)⟩) (fun x hx => by
        rcases List.mem_cons.mp hx with t | t
        · omega
        · have := ho.2.2.1 x (hP.2 x t); omega)
      simp at this
      omega
theorem ring_zero {G : Wg} (ho : Okw G) (h : Ring G) : CC (wn G) (wf G) (wm G) (wA G) (wN G) (we G) = 0 := by
  obtain ⟨l, ⟨k0, m0, n0⟩, h⟩ := h
  unfold CC
  refine gs_zero (fun g _ => ?_)
  rw [ind_f, Nat.mul_zero]
  intro ok
  have : ∀ b k, g k ≤ b → wm G k = true → k ∉ l → False := by
    intro b
    induction b with
    | zero =>
      intro k hk hm hn
      obtain ⟨j, hj, _⟩ := h k hm hn
      have := (ok j k).1 hj
      omega
    | succ b ih =>
      intro k hk hm hn
      obtain ⟨j, hj, jn⟩ := h k hm hn
      have := (ok j k).1 hj
      exact ih j (by omega) (ho.2.2.2.2.2.2 j k (by unfold wA at hj; omega)).1 jn
  exact this _ k0 (Nat.le_refl _) m0 n0
theorem nil_zero {G : Wg} (ho : Okw G) (h : ∃ j, wm G j = true ∧ ∀ y, y < wn G → we G j y = 0) : CC (wn G) (wf G) (wm G) (wA G) (wN G) (we G) = 0 := by
  obtain ⟨j, hj, hz⟩ := h
  unfold CC
  refine gs_zero (fun g hg => ?_)
  rw [pr_zero (ho.2.2.1 j hj), Nat.zero_mul]
  unfold coef
  rw [if_pos hj]
  exact hz _ (hg j (ho.2.2.1 j hj))
