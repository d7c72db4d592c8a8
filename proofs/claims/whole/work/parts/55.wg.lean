/-! WHAT IS TO BE COUNTED: (years, finds), members, weights, limits, pairs -/
abbrev Wg : Type := (Nat × Nat) × (Nat → Bool) × Wt × (Nat → Nat) × (Nat → Nat) × (Nat → Nat → Nat)
def wn (G : Wg) : Nat := G.1.1
def wf (G : Wg) : Nat := G.1.2
def wm (G : Wg) : Nat → Bool := G.2.1
def wv (G : Wg) : Wt := G.2.2.1
def wlo (G : Wg) : Nat → Nat := G.2.2.2.1
def whi (G : Wg) : Nat → Nat := G.2.2.2.2.1
def wh (G : Wg) : Nat → Nat → Nat := G.2.2.2.2.2
def we (G : Wg) : Wt := fun i y => if wlo G i ≤ y ∧ y < whi G i then wv G i y else 0
def wA (G : Wg) : Rl := fun j k => wh G j k = 1
def wN (G : Wg) : Rl := fun j k => wh G j k = 2
def wM (G : Wg) : Nat := msk (wm G) 7
def Okw (G : Wg) : Prop := (0 < wn G ∧ wn G ≤ 40) ∧ wf G ≤ 7 ∧ (∀ k, wm G k = true → k < wf G) ∧ (∀ i y, wv G i y < 2 ^ 62) ∧ (∀ i, wlo G i < 2 ^ 29 ∧ whi G i < 2 ^ 29) ∧ (∀ i k, wh G i k ≤ 2) ∧ (∀ i k, wh G i k ≠ 0 → wm G i = true ∧ wm G k = true ∧ i ≠ k)
def WgC (σ : St) (G : Wg) : Prop := (σ.1 63 0 = nI (wn G) ∧ σ.1 63 1 = nI (wf G) ∧ σ.1 63 2 = nI (wM G)) ∧ (∀ i, i < wf G → ∀ y, y < wn G → σ.2 64 (40 * i + y) = lN (wv G i y)) ∧ (∀ i, i < wf G → σ.1 65 i = nI (wlo G i) ∧ σ.1 66 i = nI (whi G i) - 1) ∧ PairC (σ.1 68) (σ.1 69) (wh G)
theorem WgC_fr {σ σ' : St} {G : Wg} (H : WgC σ G) (h1 : ∀ a, 63 ≤ a → a ≤ 69 → σ'.1 a = σ.1 a) (h2 : σ'.2 64 = σ.2 64) : WgC σ' G := by
  unfold WgC
  rw [h1 63 (by omega) (by omega), h1 65 (by omega) (by omega), h1 66 (by omega) (by omega), h1 68 (by omega) (by omega), h1 69 (by omega) (by omega), h2]
  exact H
theorem Okw_mem {G : Wg} (h : Okw G) : Mem (wf G) (wm G) (wA G) (wN G) :=
  ⟨h.2.1, h.2.2.1, fun j k e => h.2.2.2.2.2.2 j k (by unfold wA at e; omega), fun j k e => by have := h.2.2.2.2.2.2 j k (by unfold wN at e; omega); exact ⟨this.1, this.2.1⟩⟩
theorem we_lt {G : Wg} (h : Okw G) (i y : Nat) : we G i y < 2 ^ 62 := by
  unfold we
  by_cases c : wlo G i ≤ y ∧ y < whi G i
  · rw [if_pos c]; exact h.2.2.2.1 i y
  · rw [if_neg c]; decide
theorem lN_0 {a : Nat} (h : a < 2 ^ 63) : lN a = (0 : Int64) ↔ a = 0 := pk_lEQ (b := 0) h (by decide)
theorem mul40 (i y : Nat) : nI i * (40 : Int32) + nI y = nI (40 * i + y) := by
  rw [show (40 : Int32) = nI 40 from rfl, pk_mul, nI_add, Nat.mul_comm]
theorem m1_le {a b : Nat} (ha : a < 2 ^ 29) (hb : b < 2 ^ 29) : nI a ≤ nI b - 1 ↔ a < b := by
  rw [I_le, show (1 : Int32) = nI 1 from rfl, pk_sub_toInt (by omega) (by omega), nI_toInt (by omega)]
  omega
theorem weightAt_eq {σ : St} {G : Wg} (H : WgC σ G) (ho : Okw G) {i y : Nat} (hi : i < wf G) (hy : y < wn G) : f_X6_weightAt (nI i) (nI y) σ = some (lN (we G i y), σ) := by
  have hf := ho.2.1
  have hn := ho.1.2
  have ci := ix_nI (show i < 7 by omega) (by decide)
  obtain ⟨l1, l2⟩ := H.2.2.1 i hi
  obtain ⟨b1, b2⟩ := ho.2.2.2.2.1 i
  unfold f_X6_weightAt we
  rw [cI_t ci, nI_clamp (show i < 2 ^ 31 by omega), l1]
  by_cases c : wlo G i ≤ y
  · rw [if_neg (nI_nlt c (by omega)), cI_t ci, l2]
    by_cases d : y < whi G i
    · rw [if_pos ((m1_le (by omega) b2).mpr d), if_pos ⟨c, d⟩, mul40, cI_t (ix_nI (show 40 * i + y < 280 by omega) (by decide)), nI_clamp (by omega), H.2.1 i hi y hy]
    · rw [if_neg (fun q => d ((m1_le (by omega) b2).mp q)), if_neg (fun q => d q.2)]; rfl
  · rw [if_pos (nI_lt (by omega) (by omega)), if_neg (fun q => c q.1)]; rfl
theorem isMember_eq {σ : St} {G : Wg} (H : WgC σ G) {i : Nat} (hi : i < 7) : f_X6_isMember (nI i) σ = some (if wm G i = true then 1 else 0, σ) := by
  unfold f_X6_isMember
  rw [H.1.2.2]
  have := bT (wM G) (msk_lt _ 7) i hi
  have e : (wM G).testBit i = wm G i := by unfold wM; rw [msk_bit]; simp [hi]
  rw [e] at this
  by_cases c : wm G i = true
  · rw [if_neg (fun q => by rw [this.mp q] at c; exact absurd c (by decide)), if_pos c]
  · rw [if_pos (this.mpr (by simpa using c)), if_neg c]
/-- a find's first and last year that weigh -/
def FLp (G : Wg) (i n a b : Nat) : Prop := a ≤ 40 ∧ b ≤ n ∧ (∀ y, y < n → we G i y ≠ 0 → a ≤ y ∧ y < b) ∧ (b = 0 → ∀ y, y < n → we G i y = 0)
theorem imin_eq {a b : Nat} (ha : a < 2 ^ 31) (hb : b < 2 ^ 31) : imin (nI a) (nI b) = nI (min a b) := by
  unfold imin
  by_cases c : b < a
  · rw [if_pos (nI_lt c ha)]; congr 1; omega
  · rw [if_neg (nI_nlt (by omega) hb)]; congr 1; omega
theorem fy_in {G : Wg} (ho : Okw G) {i : Nat} (hi : i < wf G) (kk : Int32 → St → Option (Int32 × St)) : ∀ (fu y a b : Nat) (σ : St), WgC σ G → σ.1 72 i = nI a → σ.1 73 i = nI b - 1 → FLp G i y a b → y ≤ wn G → wn G - y < fu → ∃ σ' a' b', f_X0_findYearsThatWeigh_30 kk fu (nI i) (nI y) σ = kk (nI i) σ' ∧ σ'.1 72 i = nI a' ∧ σ'.1 73 i = nI b' - 1 ∧ FLp G i (wn G) a' b' ∧ (∀ j, j ≠ i → σ'.1 72 j = σ.1 72 j ∧ σ'.1 73 j = σ.1 73 j) ∧ (∀ c, (c ≠ 72 ∧ c ≠ 73) → σ'.1 c = σ.1 c) ∧ σ'.2 = σ.2 := by
  have hf := ho.2.1
  have hn := ho.1.2
  have ci := ix_nI (show i < 7 by omega) (by decide)
  have cl := nI_clamp (show i < 2 ^ 31 by omega)
  intro fu
  induction fu with
  | zero => intro y a b σ _ _ _ _ _ h; omega
  | succ fu ih =>
    intro y a b σ H h72 h73 hP hy hfu
    rw [f_X0_findYearsThatWeigh_30, H.1.1]
    rcases Nat.lt_or_ge y (wn G) with q | q
    · rw [if_neg (nI_ge q (by omega)), weightAt_eq H ho hi q, bS]
      have hl := we_lt ho i y
      by_cases z : we G i y = 0
      · rw [z, if_pos (by rfl)]
        unfold f_X0_findYearsThatWeigh_78
        rw [nI_1]
        refine ih (y + 1) a b σ H h72 h73 ⟨hP.1, by have := hP.2.1; omega, fun y' h1 h2 => ?_, fun e y' h1 => ?_⟩ (by omega) (by omega)
        · by_cases e : y' = y
          · subst e; exact absurd z h2
          · exact hP.2.2.1 y' (by omega) h2
        · by_cases e2 : y' = y
          · subst e2; exact z
          · exact hP.2.2.2 e y' (by omega)
      · rw [if_neg (fun e => z ((lN_0 (by omega)).mp e)), cI_t ci, cI_t ci, cl, h72, imin_eq (by have := hP.1; omega) (by omega)]
        rw [ap, cI_t ci, ap]
        unfold f_X0_findYearsThatWeigh_78
        rw [nI_1]
        have hW : WgC (up1 (up1 σ 72 i (nI (min a y))) 73 i (nI y)) G := WgC_fr H (fun c c1 c2 => by rw [up1_r (by omega), up1_r (by omega)]) rfl
        have hP2 : FLp G i (y + 1) (min a y) (y + 1) := by
          refine ⟨by have := hP.1; omega, by omega, fun y' h1 h2 => ?_, fun e => by omega⟩
          by_cases e : y' = y
          · subst e; omega
          · have := hP.2.2.1 y' (by omega) h2
            omega
        obtain ⟨σ', a', b', e1, e2, e3, e4, e5, e6, e7⟩ := ih (y + 1) (min a y) (y + 1) _ hW (by rw [up1_r (by omega), up1_eq]) (by rw [up1_eq, nI_pred]) hP2 (by omega) (by omega)
        refine ⟨σ', a', b', e1, e2, e3, e4, fun j hj => ?_, fun c hc => ?_, e7⟩
        · rw [(e5 j hj).1, (e5 j hj).2, up1_r (by omega), up1_ne (by omega), up1_ne (by omega), up1_r (by omega)]
          exact ⟨rfl, rfl⟩
        · rw [e6 c hc, up1_r hc.2, up1_r hc.1]
    · obtain rfl : y = wn G := by omega
      rw [if_pos (by rw [I_le]; omega)]
      exact ⟨σ, a, b, rfl, h72, h73, hP, fun _ _ => ⟨rfl, rfl⟩, fun _ _ => rfl, rfl⟩
theorem fy_out {G : Wg} (ho : Okw G) : ∀ (fu i : Nat) (σ : St), WgC σ G → i ≤ wf G → wf G - i < fu → ∃ σ', ((∃ j, wm G j = true ∧ ∀ y, y < wn G → we G j y = 0) ∧ f_X0_findYearsThatWeigh_2 fu (nI i) σ = some (0, σ') ∨ f_X0_findYearsThatWeigh_2 fu (nI i) σ = some (1, σ') ∧ (∀ k, k < i → σ'.1 72 k = σ.1 72 k ∧ σ'.1 73 k = σ.1 73 k) ∧ ∀ k, i ≤ k → k < wf G → ∃ a b, σ'.1 72 k = nI a ∧ σ'.1 73 k = nI b - 1 ∧ FLp G k (wn G) a b) ∧ (∀ c, (c ≠ 72 ∧ c ≠ 73) → σ'.1 c = σ.1 c) ∧ σ'.2 = σ.2 := by
  have hf := ho.2.1
  have hn := ho.1.2
  intro fu
  induction fu with
  | zero => intro i σ _ _ h; omega
  | succ fu ih =>
    intro i σ H hi hfu
    rw [f_X0_findYearsThatWeigh_2, H.1.2.1]
    rcases Nat.lt_or_ge i (wf G) with q | q
    · have ci := ix_nI (show i < 7 by omega) (by decide)
      have cl := nI_clamp (show i < 2 ^ 31 by omega)
      rw [if_neg (nI_ge q (by omega)), cI_t ci, ap, cI_t ci, ap, cl]
      have hW : WgC (up1 (up1 σ 72 i 40) 73 i (-1)) G := WgC_fr H (fun c c1 c2 => by rw [up1_r (by omega), up1_r (by omega)]) rfl
      obtain ⟨σ1, a, b, e1, e2, e3, e4, e5, e6, e7⟩ := fy_in ho q (f_X0_findYearsThatWeigh_84 (f_X0_findYearsThatWeigh_2 fu)) FU 0 40 0 _ hW (by rw [up1_r (by omega), up1_eq]; rfl) (by rw [up1_eq]; rfl) ⟨by omega, by omega, fun y h => by omega, fun _ y h => by omega⟩ (by omega) (FU_big (by omega))
      have h5 : ∀ j, j ≠ i → σ1.1 72 j = σ.1 72 j ∧ σ1.1 73 j = σ.1 73 j := fun j hj => by
        rw [(e5 j hj).1, (e5 j hj).2, up1_r (by omega), up1_ne (by omega), up1_ne (by omega), up1_r (by omega)]
        exact ⟨rfl, rfl⟩
      have h6 : ∀ c, (c ≠ 72 ∧ c ≠ 73) → σ1.1 c = σ.1 c := fun c hc => by rw [e6 c hc, up1_r hc.2, up1_r hc.1]
      have hW1 : WgC σ1 G := WgC_fr H (fun c c1 c2 => h6 c (by omega)) (by rw [e7]; rfl)
      have e1' : f_X0_findYearsThatWeigh_30 (f_X0_findYearsThatWeigh_84 (f_X0_findYearsThatWeigh_2 fu)) FU (nI i) 0 (up1 (up1 σ 72 i 40) 73 i (-1)) = f_X0_findYearsThatWeigh_84 (f_X0_findYearsThatWeigh_2 fu) (nI i) σ1 := e1
      rw [e1']
      unfold f_X0_findYearsThatWeigh_84 f_X0_findYearsThatWeigh_106
      rw [isMember_eq hW1 (by omega), bS, nI_1]
      have nxt := ih (i + 1) σ1 hW1 (by omega) (by omega)
      have fin : ∃ σ', ((∃ j, wm G j = true ∧ ∀ y, y < wn G → we G j y = 0) ∧ f_X0_findYearsThatWeigh_2 fu (nI (i + 1)) σ1 = some (0, σ') ∨ f_X0_findYearsThatWeigh_2 fu (nI (i + 1)) σ1 = some (1, σ') ∧ (∀ k, k < i → σ'.1 72 k = σ.1 72 k ∧ σ'.1 73 k = σ.1 73 k) ∧ ∀ k, i ≤ k → k < wf G → ∃ a b, σ'.1 72 k = nI a ∧ σ'.1 73 k = nI b - 1 ∧ FLp G k (wn G) a b) ∧ (∀ c, (c ≠ 72 ∧ c ≠ 73) → σ'.1 c = σ.1 c) ∧ σ'.2 = σ.2 := by
        obtain ⟨σ2, o, r1, r2⟩ := nxt
        refine ⟨σ2, ?_, fun c hc => (r1 c hc).trans (h6 c hc), r2.trans e7⟩
        rcases o with o | ⟨o1, o2, o3⟩
        · exact Or.inl o
        · refine Or.inr ⟨o1, fun k hk => ?_, fun k k1 k2 => ?_⟩
          · rw [(o2 k (by omega)).1, (o2 k (by omega)).2]
            exact h5 k (by omega)
          · by_cases e : k = i
            · subst e
              exact ⟨a, b, by rw [(o2 k (by omega)).1]; exact e2, by rw [(o2 k (by omega)).2]; exact e3, e4⟩
            · exact o3 k (by omega) k2
      by_cases c : wm G i = true
      · rw [if_pos c, if_neg one_ne, cI_t ci, cl, e3]
        by_cases z : b = 0
        · rw [if_neg (fun h => by have := (m1_le (a := 0) (by decide) (by have := e4.2.1; omega)).mp h; omega)]
          exact ⟨σ1, Or.inl ⟨⟨i, c, e4.2.2.2 z⟩, rfl⟩, h6, e7⟩
        · rw [if_pos (show (0 : Int32) ≤ nI b - 1 from (m1_le (a := 0) (b := b) (by decide) (by have := e4.2.1; omega)).mpr (by omega))]
          exact fin
      · rw [if_neg c, if_pos rfl]
        exact fin
    · obtain rfl : i = wf G := by omega
      rw [if_pos (by rw [I_le]; omega)]
      exact ⟨σ, Or.inr ⟨rfl, fun _ _ => ⟨rfl, rfl⟩, fun k k1 k2 => by omega⟩, fun _ _ => rfl, rfl⟩
