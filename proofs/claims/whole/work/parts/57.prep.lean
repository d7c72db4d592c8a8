/-! what is made ready for a count -/
def bgn (l : List Nat) (fa : Nat → Nat) (y : Nat) : Nat := msk (fun k => decide (k ∈ l) && decide (fa k ≤ y)) 7
theorem bgn_lt (l : List Nat) (fa : Nat → Nat) (y : Nat) : bgn l fa y < 128 := msk_lt _ 7
theorem bgn_bit (l : List Nat) (fa : Nat → Nat) (y k : Nat) : (bgn l fa y).testBit k = true ↔ k < 7 ∧ k ∈ l ∧ fa k ≤ y := by
  unfold bgn
  rw [msk_bit]
  simp
def PrC (σ : St) (G : Wg) (rl : List Nat) (fa fb : Nat → Nat) (ol : List Nat) : Prop := WgC σ G ∧ RkS σ rl ∧ (∀ y, y < wn G → σ.1 74 y = nI (bgn rl fa y) ∧ σ.1 75 y = nI (bgn rl fb y)) ∧ (σ.1 70 8 = nI ol.length ∧ ∀ o, o < ol.length → σ.1 76 o = nI (ol.getD o 0))
def PrP (G : Wg) (rl : List Nat) (fa fb : Nat → Nat) (ol : List Nat) : Prop := RkP G rl ∧ (∀ k, wm G k = true → k ∈ rl) ∧ (∀ k, k < wf G → FLp G k (wn G) (fa k) (fb k)) ∧ (∀ S, S ∈ ol ↔ S ≤ wM G ∧ opn (wN G) S) ∧ ol.length ≤ 128
theorem take_succ' {l : List Nat} {r : Nat} (h : r < l.length) : l.take (r + 1) = l.take r ++ [l.getD r 0] := by
  rw [List.take_succ, List.getD_eq_getElem?_getD, List.getElem?_eq_getElem h]
  rfl
theorem getD_mem {l : List Nat} {r : Nat} (h : r < l.length) : l.getD r 0 ∈ l := by
  rw [List.getD_eq_getElem?_getD, List.getElem?_eq_getElem h]
  exact List.getElem_mem h
theorem bgn_add {l : List Nat} {fa : Nat → Nat} {y i : Nat} (hi : i < 7) : nI (bgn (l ++ [i]) fa y) = nI (bgn l fa y) ||| (if fa i ≤ y then (1 : Int32) <<< (nI i &&& 31) else 0) := by
  by_cases c : fa i ≤ y
  · rw [if_pos c, bO _ (bgn_lt _ _ _) i hi]
    unfold bgn
    rw [msk_set hi]
    congr 1
    apply msk_congr
    intro k _
    by_cases e : k = i
    · subst e; simp [c]
    · simp [e]
  · rw [if_neg c, Int32.or_zero]
    unfold bgn
    congr 1
    apply msk_congr
    intro k _
    by_cases e : k = i
    · subst e; simp [c]
    · simp [e]
theorem pp_in {G : Wg} (ho : Okw G) {rl : List Nat} (hP : RkP G rl) {fa fb : Nat → Nat} (hF : ∀ k, k < wf G → fa k ≤ 40 ∧ fb k ≤ 40) {y : Nat} (hy : y < 40) (kk : Int32 → St → Option (Int32 × St)) : ∀ (fu r : Nat) (σ : St), RkS σ rl → (∀ k, k < wf G → σ.1 72 k = nI (fa k) ∧ σ.1 73 k = nI (fb k) - 1) → σ.1 74 y = nI (bgn (rl.take r) fa y) → σ.1 75 y = nI (bgn (rl.take r) fb y) → r ≤ rl.length → rl.length - r < fu → ∃ σ', f_X0_prepare_45 kk fu (nI y) (nI r) σ = kk (nI y) σ' ∧ σ'.1 74 y = nI (bgn rl fa y) ∧ σ'.1 75 y = nI (bgn rl fb y) ∧ (∀ z, z ≠ y → σ'.1 74 z = σ.1 74 z ∧ σ'.1 75 z = σ.1 75 z) ∧ (∀ c, (c ≠ 74 ∧ c ≠ 75) → σ'.1 c = σ.1 c) ∧ σ'.2 = σ.2 := by
  have hf := ho.2.1
  have hl := RkP_len ho hP
  intro fu
  induction fu with
  | zero => intro r σ _ _ _ _ _ h; omega
  | succ fu ih =>
    intro r σ hS h7 h74 h75 hr hfu
    rw [f_X0_prepare_45, hS.1]
    rcases Nat.lt_or_ge r rl.length with q | q
    · have hi := ho.2.2.1 _ (hP.2 _ (getD_mem q))
      have hR := hS.2 r q
      have tk := take_succ' q
      generalize hg : rl.getD r 0 = i at hi hR tk
      obtain ⟨f1, f2⟩ := hF i hi
      obtain ⟨g1, g2⟩ := h7 i hi
      have cy := ix_nI hy (by decide : (40 : Nat) < 2 ^ 31)
      have ci := ix_nI (show i < 7 by omega) (by decide)
      have e84 : ∀ x : Int32, (if nI y < σ.1 72 (nI i).toNatClampNeg then f_X0_prepare_84 (f_X0_prepare_45 kk fu) (nI y) (nI r) (nI i) 0 (σ.1 74 (nI y).toNatClampNeg) (nI y) σ else f_X0_prepare_84 (f_X0_prepare_45 kk fu) (nI y) (nI r) (nI i) ((1 : Int32) <<< (nI i &&& 31)) (σ.1 74 (nI y).toNatClampNeg) (nI y) σ) = f_X0_prepare_45 kk fu (nI y) (nI r + 1) (up1 (up1 σ 74 y (nI (bgn (rl.take (r + 1)) fa y))) 75 y (nI (bgn (rl.take (r + 1)) fb y))) := fun _ => by
        rw [nI_clamp (show i < 2 ^ 31 by omega), nI_clamp (show y < 2 ^ 31 by omega), g1, h74]
        have one : ∀ xs0 : Int32, xs0 = (if fa i ≤ y then (1 : Int32) <<< (nI i &&& 31) else 0) → f_X0_prepare_84 (f_X0_prepare_45 kk fu) (nI y) (nI r) (nI i) xs0 (nI (bgn (rl.take r) fa y)) (nI y) σ = f_X0_prepare_45 kk fu (nI y) (nI r + 1) (up1 (up1 σ 74 y (nI (bgn (rl.take (r + 1)) fa y))) 75 y (nI (bgn (rl.take (r + 1)) fb y))) := fun xs0 hx => by
          unfold f_X0_prepare_84
          rw [cI_t cy, hx, ← bgn_add (by omega), nI_clamp (show y < 2 ^ 31 by omega), ap, cI_t cy, cI_t ci, nI_clamp (show i < 2 ^ 31 by omega), up1_r (show 73 ≠ 74 by omega), up1_r (show 75 ≠ 74 by omega), g2, h75]
          have two : ∀ xs : Int32, xs = (if fb i ≤ y then (1 : Int32) <<< (nI i &&& 31) else 0) → f_X0_prepare_110 (f_X0_prepare_45 kk fu) (nI y) (nI r) xs (nI (bgn (rl.take r) fb y)) (nI y) (up1 σ 74 y (nI (bgn (rl.take r ++ [i]) fa y))) = f_X0_prepare_45 kk fu (nI y) (nI r + 1) (up1 (up1 σ 74 y (nI (bgn (rl.take (r + 1)) fa y))) 75 y (nI (bgn (rl.take (r + 1)) fb y))) := fun xs hx => by
            unfold f_X0_prepare_110
            rw [cI_t cy, hx, ← bgn_add (by omega), nI_clamp (show y < 2 ^ 31 by omega), ap, tk]
          by_cases c : fb i ≤ y
          · rw [if_neg (fun h => by have := (m1_le (by omega) (by omega)).mp h; omega)]
            exact two _ (by rw [if_pos c])
          · rw [if_pos ((m1_le (by omega) (by omega)).mpr (by omega))]
            exact two _ (by rw [if_neg c])
        by_cases c : fa i ≤ y
        · rw [if_neg (nI_nlt c (by omega))]
          exact one _ (by rw [if_pos c])
        · rw [if_pos (nI_lt (by omega) (by omega))]
          exact one _ (by rw [if_neg c])
      rw [if_neg (nI_ge q (by omega)), cI_t (ix_nI (show r < 7 by omega) (by decide)), nI_clamp (show r < 2 ^ 31 by omega), hR, ap, cI_t cy, cI_t ci, e84 0, nI_1]
      obtain ⟨σ', r1, r2, r3, r4, r5, r6⟩ := ih (r + 1) (up1 (up1 σ 74 y (nI (bgn (rl.take (r + 1)) fa y))) 75 y (nI (bgn (rl.take (r + 1)) fb y))) ⟨by rw [up1_r (by omega), up1_r (by omega)]; exact hS.1, fun r hr => by rw [up1_r (by omega), up1_r (by omega)]; exact hS.2 r hr⟩ (fun k hk => by rw [up1_r (by omega), up1_r (by omega), up1_r (by omega), up1_r (by omega)]; exact h7 k hk) (by rw [up1_r (by omega), up1_eq]) (by rw [up1_eq]) (by omega) (by omega)
      refine ⟨σ', r1, r2, r3, fun z hz => ?_, fun c hc => by rw [r5 c hc, up1_r hc.2, up1_r hc.1], r6⟩
      rw [(r4 z hz).1, (r4 z hz).2, up1_r (by omega), up1_ne (by omega), up1_ne (by omega), up1_r (by omega)]
      exact ⟨rfl, rfl⟩
    · obtain rfl : r = rl.length := by omega
      rw [if_pos (by rw [I_le]; omega)]
      rw [List.take_length] at h74 h75
      exact ⟨σ, rfl, h74, h75, fun _ _ => ⟨rfl, rfl⟩, fun _ _ => rfl, rfl⟩
theorem pp_out {G : Wg} (ho : Okw G) {rl : List Nat} (hP : RkP G rl) {fa fb : Nat → Nat} (hF : ∀ k, k < wf G → fa k ≤ 40 ∧ fb k ≤ 40) (kk : St → Option (Int32 × St)) : ∀ (fu y : Nat) (σ : St), WgC σ G → RkS σ rl → (∀ k, k < wf G → σ.1 72 k = nI (fa k) ∧ σ.1 73 k = nI (fb k) - 1) → y ≤ wn G → wn G - y < fu → ∃ σ', f_X0_prepare_18 kk fu (nI y) σ = kk σ' ∧ (∀ z, z < y → σ'.1 74 z = σ.1 74 z ∧ σ'.1 75 z = σ.1 75 z) ∧ (∀ z, y ≤ z → z < wn G → σ'.1 74 z = nI (bgn rl fa z) ∧ σ'.1 75 z = nI (bgn rl fb z)) ∧ (∀ c, (c ≠ 74 ∧ c ≠ 75) → σ'.1 c = σ.1 c) ∧ σ'.2 = σ.2 := by
  have hn := ho.1.2
  have hl := RkP_len ho hP
  intro fu
  induction fu with
  | zero => intro y σ _ _ _ _ h; omega
  | succ fu ih =>
    intro y σ H hS h7 hy hfu
    rw [f_X0_prepare_18, H.1.1]
    rcases Nat.lt_or_ge y (wn G) with q | q
    · have cy := ix_nI (show y < 40 by omega) (by decide)
      rw [if_neg (nI_ge q (by omega)), cI_t cy, ap, cI_t cy, ap, nI_clamp (show y < 2 ^ 31 by omega)]
      obtain ⟨σ1, r1, r2, r3, r4, r5, r6⟩ := pp_in ho hP hF (show y < 40 by omega) (f_X0_prepare_118 (f_X0_prepare_18 kk fu)) FU 0 (up1 (up1 σ 74 y 0) 75 y 0) ⟨by rw [up1_r (by omega), up1_r (by omega)]; exact hS.1, fun r hr => by rw [up1_r (by omega), up1_r (by omega)]; exact hS.2 r hr⟩ (fun k hk => by rw [up1_r (by omega), up1_r (by omega), up1_r (by omega), up1_r (by omega)]; exact h7 k hk) (by rw [up1_r (by omega), up1_eq]; simp [bgn]; rfl) (by rw [up1_eq]; simp [bgn]; rfl) (by omega) (FU_big (by omega))
      have r1' : f_X0_prepare_45 (f_X0_prepare_118 (f_X0_prepare_18 kk fu)) FU (nI y) 0 (up1 (up1 σ 74 y 0) 75 y 0) = _ := r1
      rw [r1']
      unfold f_X0_prepare_118
      rw [nI_1]
      have h4 : ∀ z, z ≠ y → σ1.1 74 z = σ.1 74 z ∧ σ1.1 75 z = σ.1 75 z := fun z hz => by
        rw [(r4 z hz).1, (r4 z hz).2, up1_r (by omega), up1_ne (by omega), up1_ne (by omega), up1_r (by omega)]
        exact ⟨rfl, rfl⟩
      have h5 : ∀ c, (c ≠ 74 ∧ c ≠ 75) → σ1.1 c = σ.1 c := fun c hc => by rw [r5 c hc, up1_r hc.2, up1_r hc.1]
      obtain ⟨σ2, p1, p2, p3, p4, p5⟩ := ih (y + 1) σ1 (WgC_fr H (fun c c1 c2 => h5 c (by omega)) (by rw [r6]; rfl)) ⟨by rw [h5 70 (by omega)]; exact hS.1, fun r hr => by rw [h5 71 (by omega)]; exact hS.2 r hr⟩ (fun k hk => by rw [h5 72 (by omega), h5 73 (by omega)]; exact h7 k hk) (by omega) (by omega)
      refine ⟨σ2, p1, fun z hz => ?_, fun z z1 z2 => ?_, fun c hc => (p4 c hc).trans (h5 c hc), p5.trans r6⟩
      · rw [(p2 z (by omega)).1, (p2 z (by omega)).2]
        exact h4 z (by omega)
      · by_cases e : z = y
        · subst e
          rw [(p2 z (by omega)).1, (p2 z (by omega)).2]
          exact ⟨r2, r3⟩
        · exact p3 z (by omega) z2
    · obtain rfl : y = wn G := by omega
      rw [if_pos (by rw [I_le]; omega)]
      exact ⟨σ, rfl, fun _ _ => ⟨rfl, rfl⟩, fun z z1 z2 => by omega, fun _ _ => rfl, rfl⟩
/-! sets that no year may end with -/
def ndr (G : Wg) (S : Nat) (rl : List Nat) : Nat → Nat
  | 0 => 0
  | r + 1 => ndr G S rl r ||| (if S.testBit (rl.getD r 0) = true then msk (fun j => wh G j (rl.getD r 0) == 2) 7 else 0)
theorem ndr_lt (G : Wg) (S : Nat) (rl : List Nat) : ∀ r, ndr G S rl r < 128
  | 0 => show 0 < 128 by decide
  | r + 1 => by
    unfold ndr
    refine Nat.or_lt_two_pow (n := 7) (ndr_lt G S rl r) ?_
    by_cases c : S.testBit (rl.getD r 0) = true
    · rw [if_pos c]; exact msk_lt _ 7
    · rw [if_neg c]; decide
theorem ndr_bit (G : Wg) (S : Nat) (rl : List Nat) (j : Nat) : ∀ r, (ndr G S rl r).testBit j = true ↔ ∃ q, q < r ∧ S.testBit (rl.getD q 0) = true ∧ j < 7 ∧ wN G j (rl.getD q 0)
  | 0 => by simp [ndr]
  | r + 1 => by
    unfold ndr
    rw [Nat.testBit_or, Bool.or_eq_true, ndr_bit G S rl j r]
    constructor
    · rintro (⟨q, h1, h2⟩ | h)
      · exact ⟨q, by omega, h2⟩
      · by_cases c : S.testBit (rl.getD r 0) = true
        · rw [if_pos c, msk_bit] at h
          simp at h
          exact ⟨r, by omega, c, h.1, by unfold wN; simpa using h.2⟩
        · rw [if_neg c] at h
          simp at h
    · rintro ⟨q, h1, h2, h3, h4⟩
      by_cases e : q = r
      · subst e
        right
        rw [if_pos h2, msk_bit]
        unfold wN at h4
        simp only [h3, h4, decide_true, Bool.true_and]
        rfl
      · exact Or.inl ⟨q, by omega, h2, h3, h4⟩
theorem ndr_opn {G : Wg} (ho : Okw G) {rl : List Nat} (hall : ∀ k, wm G k = true → k ∈ rl) {S : Nat} (hS : S < 128) : nI (ndr G S rl rl.length &&& (127 - S)) = 0 ↔ ¬ opn (wN G) S := by
  rw [sub0 (ndr_lt _ _ _ _) hS]
  constructor
  · rintro h ⟨k, j, h1, h2, h3⟩
    have hm := ho.2.2.2.2.2.2 j k (by unfold wN at h2; omega)
    have hj := ho.2.2.1 j hm.1
    have hf := ho.2.1
    obtain ⟨q, q1, q2⟩ := List.getElem_of_mem (hall k hm.2.1)
    have : rl.getD q 0 = k := by rw [List.getD_eq_getElem?_getD, List.getElem?_eq_getElem q1]; exact q2
    have := h j ((ndr_bit G S rl j _).mpr ⟨q, q1, by rw [this]; exact h1, by omega, by rw [this]; exact h2⟩)
    rw [h3] at this
    exact absurd this (by decide)
  · intro h j hj
    obtain ⟨q, q1, q2, q3, q4⟩ := (ndr_bit G S rl j _).mp hj
    apply Classical.byContradiction
    intro t
    exact h ⟨_, j, q2, q4, by simpa using t⟩
theorem lo_in {G : Wg} (ho : Okw G) {rl : List Nat} (hP : RkP G rl) {σ : St} (H : WgC σ G) (hS : RkS σ rl) (kk : Int32 → Int32 → St → Option St) {S : Nat} (hS7 : S < 128) : ∀ (fu r : Nat), r ≤ rl.length → rl.length - r < fu → f_X0_listOpenSets_22 kk fu (nI S) (nI (ndr G S rl r)) (nI r) σ = kk (nI S) (nI (ndr G S rl rl.length)) σ := by
  have hf := ho.2.1
  have hl := RkP_len ho hP
  intro fu
  induction fu with
  | zero => intro r _ h; omega
  | succ fu ih =>
    intro r hr hfu
    rw [f_X0_listOpenSets_22, hS.1]
    rcases Nat.lt_or_ge r rl.length with q | q
    · have hi := ho.2.2.1 _ (hP.2 _ (getD_mem q))
      have nx := ih (r + 1) (by omega) (by omega)
      rw [if_neg (nI_ge q (by omega)), cI_t (ix_nI (show r < 7 by omega) (by decide)), nI_clamp (show r < 2 ^ 31 by omega), hS.2 r q, ap]
      rw [show ndr G S rl (r + 1) = ndr G S rl r ||| (if S.testBit (rl.getD r 0) = true then msk (fun j => wh G j (rl.getD r 0) == 2) 7 else 0) from rfl] at nx
      have hN := (H.2.2.2 (rl.getD r 0) (by omega)).2
      have tb := bT S hS7 (rl.getD r 0) (by omega)
      by_cases c : S.testBit (rl.getD r 0) = true
      · rw [if_neg (fun e => by rw [tb.mp e] at c; exact absurd c (by decide)), cI_t (ix_nI (show rl.getD r 0 < 7 by omega) (by decide)), nI_clamp (show rl.getD r 0 < 2 ^ 31 by omega), hN]
        unfold f_X0_listOpenSets_65
        rw [bOr _ (ndr_lt _ _ _ _) _ (msk_lt _ 7), nI_1]
        rw [if_pos c] at nx
        exact nx
      · rw [if_pos (tb.mpr (by simpa using c))]
        unfold f_X0_listOpenSets_65
        rw [if_neg c, Nat.or_zero] at nx
        rw [Int32.or_zero, nI_1]
        exact nx
    · obtain rfl : r = rl.length := by omega
      rw [if_pos (by rw [I_le]; omega)]
theorem lo_out {G : Wg} (ho : Okw G) {rl : List Nat} (hP : RkP G rl) (hall : ∀ k, wm G k = true → k ∈ rl) : ∀ (fu x : Nat) (ol : List Nat) (σ : St), WgC σ G → RkS σ rl → (∀ S, S ∈ ol ↔ S < x ∧ opn (wN G) S) → ol.length ≤ x → σ.1 70 8 = nI ol.length → (∀ o, o < ol.length → σ.1 76 o = nI (ol.getD o 0)) → x ≤ wM G + 1 → wM G + 1 - x < fu → ∃ (σ' : St) (ol' : List Nat), f_X0_listOpenSets_7 fu (nI x) σ = some σ' ∧ (∀ S, S ∈ ol' ↔ S < wM G + 1 ∧ opn (wN G) S) ∧ ol'.length ≤ wM G + 1 ∧ σ'.1 70 8 = nI ol'.length ∧ (∀ o, o < ol'.length → σ'.1 76 o = nI (ol'.getD o 0)) ∧ RkS σ' rl ∧ (∀ c, (c ≠ 70 ∧ c ≠ 76) → σ'.1 c = σ.1 c) ∧ σ'.2 = σ.2 := by
  have hM : wM G < 128 := msk_lt _ 7
  have hl := RkP_len ho hP
  intro fu
  induction fu with
  | zero => intro x ol σ _ _ _ _ _ _ _ h; omega
  | succ fu ih =>
    intro x ol σ H hS h1 h2 h3 h4 hx hfu
    rw [f_X0_listOpenSets_7, H.1.2.2]
    rcases Nat.lt_or_ge (wM G) x with q | q
    · obtain rfl : x = wM G + 1 := by omega
      rw [if_pos (nI_lt (by omega) (by omega))]
      exact ⟨σ, ol, rfl, h1, h2, h3, h4, hS, fun _ _ => rfl, rfl⟩
    · rw [if_neg (nI_nlt q (by omega))]
      have := lo_in ho hP H hS (f_X0_listOpenSets_73 (f_X0_listOpenSets_7 fu)) (show x < 128 by omega) FU 0 (by omega) (FU_big (by omega))
      have this' : f_X0_listOpenSets_22 (f_X0_listOpenSets_73 (f_X0_listOpenSets_7 fu)) FU (nI x) 0 0 σ = _ := this
      rw [this']
      unfold f_X0_listOpenSets_73 f_X0_listOpenSets_101
      rw [bNot _ (ndr_lt _ _ _ _) _ (show x < 128 by omega), nI_1]
      have oc := ndr_opn ho hall (show x < 128 by omega)
      by_cases c : opn (wN G) x
      · rw [if_neg (fun e => (oc.mp e) c), h3, cI_t (ix_nI (show ol.length < 128 by omega) (by decide)), nI_clamp (show ol.length < 2 ^ 31 by omega), ap, ap, up1_r (show 70 ≠ 76 by omega), h3, nI_1]
        have hn4 : ∀ o, o < (ol ++ [x]).length → (up1 (up1 σ 76 ol.length (nI x)) 70 8 (nI (ol.length + 1))).1 76 o = nI ((ol ++ [x]).getD o 0) := fun o hoo => by
          rw [up1_r (by omega)]
          by_cases e : o = ol.length
          · subst e
            rw [up1_eq]
            simp [List.getD]
          · have hr2 : o < ol.length := by simp at hoo; omega
            rw [up1_ne (by omega), h4 o hr2]
            simp only [List.getD_eq_getElem?_getD, List.getElem?_append_left hr2]
        obtain ⟨σ', ol', r1, r2, r3, r4, r5, r6, r7, r8⟩ := ih (x + 1) (ol ++ [x]) (up1 (up1 σ 76 ol.length (nI x)) 70 8 (nI (ol.length + 1))) (WgC_fr H (fun c c1 c2 => by rw [up1_r (by omega), up1_r (by omega)]) rfl) ⟨by rw [up1_ne (by omega), up1_r (by omega)]; exact hS.1, fun r hr => by rw [up1_r (by omega), up1_r (by omega)]; exact hS.2 r hr⟩ (fun S => by
          rw [List.mem_append, List.mem_singleton, h1 S]
          constructor
          · rintro (⟨a, b⟩ | rfl)
            · exact ⟨by omega, b⟩
            · exact ⟨by omega, c⟩
          · rintro ⟨a, b⟩
            by_cases e : S = x
            · exact Or.inr e
            · exact Or.inl ⟨by omega, b⟩) (by simp; omega) (by rw [up1_eq]; simp) hn4 (by omega) (by omega)
        exact ⟨σ', ol', r1, r2, r3, r4, r5, r6, fun c hc => by rw [r7 c hc, up1_r hc.1, up1_r hc.2], r8⟩
      · rw [if_pos (oc.mpr c)]
        exact ih (x + 1) ol σ H hS (fun S => by
          rw [h1 S]
          constructor
          · rintro ⟨a, b⟩; exact ⟨by omega, b⟩
          · rintro ⟨a, b⟩
            by_cases e : S = x
            · subst e; exact absurd b c
            · exact ⟨by omega, b⟩) (by omega) h3 h4 (by omega) (by omega)
theorem skol {P : Nat → Nat → Nat → Prop} {f : Nat} (H : ∀ k, k < f → ∃ a b, P k a b) : ∃ fa fb : Nat → Nat, ∀ k, k < f → P k (fa k) (fb k) :=
  ⟨fun k => if h : k < f then (H k h).choose else 0, fun k => if h : k < f then (H k h).choose_spec.choose else 0, fun k hk => by
    simp only [dif_pos hk]
    exact (H k hk).choose_spec.choose_spec⟩
theorem prepare_eq {G : Wg} (ho : Okw G) {σ : St} (H : WgC σ G) : ∃ σ', ((f_X0_prepare σ = some (0, σ') ∧ ((∃ j, wm G j = true ∧ ∀ y, y < wn G → we G j y = 0) ∨ Ring G)) ∨ ∃ rl fa fb ol, f_X0_prepare σ = some (1, σ') ∧ PrC σ' G rl fa fb ol ∧ PrP G rl fa fb ol) ∧ (∀ c, (c < 70 ∨ 76 < c) → σ'.1 c = σ.1 c) ∧ σ'.2 = σ.2 := by
  have hn := ho.1.2
  have hf := ho.2.1
  obtain ⟨σ1, o1, f1, g1⟩ := fy_out ho FU 0 σ H (by omega) (FU_big (by omega))
  unfold f_X0_prepare f_X0_findYearsThatWeigh
  rcases o1 with ⟨z, o1⟩ | ⟨o1, -, o3⟩
  · rw [show f_X0_findYearsThatWeigh_2 FU 0 σ = some (0, σ1) from o1, bS, if_pos rfl]
    exact ⟨σ1, Or.inl ⟨rfl, Or.inl z⟩, fun c hc => f1 c (by omega), g1⟩
  · rw [show f_X0_findYearsThatWeigh_2 FU 0 σ = some (1, σ1) from o1, bS, if_neg one_ne]
    obtain ⟨fa, fb, hF⟩ := skol (fun k hk => o3 k (by omega) hk)
    have H1 : WgC σ1 G := WgC_fr H (fun c c1 c2 => f1 c (by omega)) (by rw [g1])
    unfold f_X0_rankFinds
    rw [ap]
    obtain ⟨σ2, o2, f2, g2⟩ := rk_out ho FU 0 [] (up1 σ1 70 2 0) ⟨trivial, fun k hk => by simp at hk⟩ ⟨by rw [up1_eq]; rfl, fun r hr => by simp at hr⟩ (WgC_fr H1 (fun c c1 c2 => by rw [up1_r (by omega)]) rfl) (by simp) (FU_big (by omega))
    have f2' : ∀ c, (c ≠ 70 ∧ c ≠ 71) → σ2.1 c = σ1.1 c := fun c hc => by rw [f2 c hc, up1_r hc.1]
    have ee : nI (mk []) = 0 := by decide
    rw [ee] at o2
    rcases o2 with ⟨z, o2⟩ | ⟨rl, o2, hP, hS, hall⟩
    · rw [show f_X0_rankFinds_9 f_X0_rankFinds_143 FU 0 0 (up1 σ1 70 2 0) = some (0, σ2) from o2, bS, if_pos rfl]
      exact ⟨σ2, Or.inl ⟨rfl, Or.inr z⟩, fun c hc => by rw [f2' c (by omega), f1 c (by omega)], g2.trans g1⟩
    · rw [show f_X0_rankFinds_9 f_X0_rankFinds_143 FU 0 0 (up1 σ1 70 2 0) = some (1, σ2) from o2, bS, if_neg one_ne]
      have H2 : WgC σ2 G := WgC_fr H1 (fun c c1 c2 => f2' c (by omega)) (by rw [g2]; rfl)
      obtain ⟨σ3, p1, p2, p3, p4, p5⟩ := pp_out ho hP (fa := fa) (fb := fb) (fun k hk => by have := hF k hk; have h1 := this.2.2.1; have h2 := this.2.2.2.1; omega) f_X0_prepare_124 FU 0 σ2 H2 hS (fun k hk => by rw [f2' 72 (by omega), f2' 73 (by omega)]; exact ⟨(hF k hk).1, (hF k hk).2.1⟩) (by omega) (FU_big (by omega))
      rw [show f_X0_prepare_18 f_X0_prepare_124 FU 0 σ2 = _ from p1]
      unfold f_X0_prepare_124 f_X0_listOpenSets
      rw [ap]
      have hS3 : RkS σ3 rl := ⟨by rw [p4 70 (by omega)]; exact hS.1, fun r hr => by rw [p4 71 (by omega)]; exact hS.2 r hr⟩
      have H3 : WgC σ3 G := WgC_fr H2 (fun c c1 c2 => p4 c (by omega)) (by rw [p5])
      have hM : wM G < 128 := msk_lt _ 7
      obtain ⟨σ4, ol, q1, q2, q3, q4, q5, q6, q7, q8⟩ := lo_out ho hP hall FU 0 [] (up1 σ3 70 8 0) (WgC_fr H3 (fun c c1 c2 => by rw [up1_r (by omega)]) rfl) ⟨by rw [up1_ne (by omega)]; exact hS3.1, fun r hr => by rw [up1_r (by omega)]; exact hS3.2 r hr⟩ (fun S => by simp) (by simp) (by rw [up1_eq]; rfl) (fun o h => by simp at h) (by omega) (FU_big (by omega))
      rw [show f_X0_listOpenSets_7 FU 0 (up1 σ3 70 8 0) = some σ4 from q1, bS]
      have q7' : ∀ c, (c ≠ 70 ∧ c ≠ 76) → σ4.1 c = σ3.1 c := fun c hc => by rw [q7 c hc, up1_r hc.1]
      refine ⟨σ4, Or.inr ⟨rl, fa, fb, ol, rfl, ⟨WgC_fr H3 (fun c c1 c2 => q7' c (by omega)) (by rw [q8]; rfl), q6, fun y hy => ?_, q4, q5⟩, hP, hall, fun k hk => (hF k hk).2.2, fun S => by rw [q2 S]; constructor <;> (rintro ⟨a, b⟩; exact ⟨by omega, b⟩), by omega⟩, fun c hc => ?_, ?_⟩
      · rw [q7' 74 (by omega), q7' 75 (by omega)]
        exact p3 y (by omega) hy
      · rw [q7' c (by omega), p4 c (by omega), f2' c (by omega), f1 c (by omega)]
      · rw [q8]; exact p5.trans (g2.trans g1)
