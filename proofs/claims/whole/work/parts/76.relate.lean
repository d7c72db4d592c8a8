/-! two groups are told of -/
def rl (L R v : Nat) (h : Nat → Nat → Nat) (i0 k0 : Nat) : Nat → Nat → Nat := fun a b => if (a < i0 ∨ (a = i0 ∧ b < k0)) ∧ a ≠ b ∧ L.testBit a = true ∧ R.testBit b = true then v else h a b
theorem rl_skip {L R v : Nat} {h : Nat → Nat → Nat} {i k : Nat} (hs : i = k ∨ L.testBit i = false ∨ R.testBit k = false) : rl L R v h i (k + 1) = rl L R v h i k := by
  funext a b
  unfold rl
  by_cases c : (a < i ∨ (a = i ∧ b < k)) ∧ a ≠ b ∧ L.testBit a = true ∧ R.testBit b = true
  · rw [if_pos c, if_pos ⟨by omega, c.2⟩]
  · rw [if_neg c, if_neg (fun q => ?_)]
    refine c ⟨?_, q.2⟩
    rcases q.1 with z | ⟨z1, z2⟩
    · exact Or.inl z
    · refine Or.inr ⟨z1, ?_⟩
      by_cases e : b = k
      · subst e
        subst z1
        rcases hs with t | t | t
        · exact absurd t q.2.1
        · rw [q.2.2.1] at t; cases t
        · rw [q.2.2.2] at t; cases t
      · omega
theorem rl_put {L R v : Nat} {h : Nat → Nat → Nat} {i k : Nat} (h1 : i ≠ k) (h2 : L.testBit i = true) (h3 : R.testBit k = true) : rl L R v h i (k + 1) = setH (rl L R v h i k) i k v := by
  funext a b
  unfold setH
  by_cases e : a = i ∧ b = k
  · rw [if_pos e]
    obtain ⟨rfl, rfl⟩ := e
    unfold rl
    rw [if_pos ⟨Or.inr ⟨rfl, by omega⟩, h1, h2, h3⟩]
  · rw [if_neg e]
    unfold rl
    by_cases c : (a < i ∨ (a = i ∧ b < k)) ∧ a ≠ b ∧ L.testBit a = true ∧ R.testBit b = true
    · rw [if_pos c, if_pos ⟨by omega, c.2⟩]
    · rw [if_neg c, if_neg (fun q => c ⟨by omega, q.2⟩)]
theorem rl_next {L R v f : Nat} {h : Nat → Nat → Nat} {i : Nat} (hR : ∀ j, R.testBit j = true → j < f) : rl L R v h i f = rl L R v h (i + 1) 0 := by
  funext a b
  unfold rl
  by_cases c : (a < i ∨ (a = i ∧ b < f)) ∧ a ≠ b ∧ L.testBit a = true ∧ R.testBit b = true
  · rw [if_pos c, if_pos ⟨by omega, c.2⟩]
  · rw [if_neg c, if_neg (fun q => c ⟨by have := hR b q.2.2.2; omega, q.2⟩)]
theorem rl_end {L R v f : Nat} {h : Nat → Nat → Nat} (hf : f ≤ 7) (hL : ∀ j, L.testBit j = true → j < f) : rl L R v h f 0 = rl L R v h 7 0 := by
  funext a b
  unfold rl
  by_cases c : (a < f ∨ (a = f ∧ b < 0)) ∧ a ≠ b ∧ L.testBit a = true ∧ R.testBit b = true
  · rw [if_pos c, if_pos ⟨by omega, c.2⟩]
  · rw [if_neg c, if_neg (fun q => c ⟨by have := hL a q.2.2.1; omega, q.2⟩)]
theorem rl_0 {L R v : Nat} {h : Nat → Nat → Nat} : rl L R v h 0 0 = h := by
  funext a b
  unfold rl
  rw [if_neg (fun q => by omega)]
theorem PxC_put {σ0 σ : St} {f n p : Nat} {b : Nat → Nat} {h : Nat → Nat → Nat} (C : PxC σ0 f n b σ p h) {i k v : Nat} (hi : i < 7) (hk : k < 7) (hv : v ≤ 2) : ∃ σ', f_X2_put 60 (nI i) (nI k) (nI v) σ = some σ' ∧ PxC σ0 f n b σ' p (setH h i k v) ∧ σ'.1 58 = σ.1 58 := by
  obtain ⟨σ', r1, r2, r3, r4⟩ := put_eq (k0 := 60) C.2.2.1 hi hk hv
  exact ⟨σ', r1, ⟨by rw [r4 58 (by omega)]; exact C.1, by rw [r4 59 (by omega)]; exact C.2.1, r2, fun a ha => by rw [r4 a (by omega)]; exact C.2.2.2.1 a ha, by rw [r3]; exact C.2.2.2.2⟩, r4 58 (by omega)⟩
theorem PxM_put {τ0 τ : St} {f n p : Nat} {b : Nat → Nat} {h : Nat → Nat → Nat} {wr : Int32} (M : PxM τ0 f n b τ p h wr) {i k v : Nat} (hi : i < 7) (hk : k < 7) : PxM τ0 f n b (up1 τ 16 (7 * i + k) (nI v)) p (setH h i k v) wr := by
  refine ⟨by rw [up1_r (by omega)]; exact M.1, by rw [up1_r (by omega)]; exact M.2.1, fun a c ha hc => ?_, fun a ha => by rw [up1_r (by omega)]; exact M.2.2.2.1 a ha, fun j hj => by rw [up1_r (by omega)]; exact M.2.2.2.2.1 j hj, M.2.2.2.2.2⟩
  unfold setH
  by_cases e : a = i ∧ c = k
  · obtain ⟨rfl, rfl⟩ := e
    rw [up1_eq, if_pos ⟨rfl, rfl⟩]
  · rw [up1_ne (by omega), if_neg e]; exact M.2.2.1 a c ha hc
theorem relC_in {σ0 : St} {f n p L R v i : Nat} {b : Nat → Nat} {h : Nat → Nat → Nat} (hf : f ≤ 7) (hL : L < 128) (hR : R < 128) (hv : v ≤ 2) (hi : i < f) (kk : Int32 → Int32 → Int32 → St → Option St) : ∀ (fu k : Nat) (σ : St), PxC σ0 f n b σ p (rl L R v h i k) → σ.1 58 4 = nI R → k ≤ f → f - k < fu → ∃ σ', f_X4_relate_13 kk fu (nI L) (nI v) (nI i) (nI k) σ = kk (nI L) (nI v) (nI i) σ' ∧ PxC σ0 f n b σ' p (rl L R v h i f) ∧ σ'.1 58 4 = nI R := by
  intro fu
  induction fu with
  | zero => intro k σ _ _ _ h; omega
  | succ fu ih =>
    intro k σ C hg hk hfu
    rw [f_X4_relate_13, C.1.2.2]
    rcases Nat.lt_or_ge k f with q | q
    · rw [if_neg (nI_ge q (by omega))]
      unfold f_X4_relate_59
      rw [nI_1]
      have t1 := bT L hL i (by omega)
      have t2 := bT R hR k (by omega)
      by_cases e : i = k
      · rw [if_pos (by rw [e])]
        exact ih (k + 1) σ (by rw [rl_skip (Or.inl e)]; exact C) hg (by omega) (by omega)
      · rw [if_neg (fun z => e (nI_inj (by omega) (by omega) z))]
        by_cases c1 : L.testBit i = false
        · rw [if_pos (t1.mpr c1)]
          exact ih (k + 1) σ (by rw [rl_skip (Or.inr (Or.inl c1))]; exact C) hg (by omega) (by omega)
        · rw [if_neg (fun z => c1 (t1.mp z)), hg]
          by_cases c2 : R.testBit k = false
          · rw [if_pos (t2.mpr c2)]
            exact ih (k + 1) σ (by rw [rl_skip (Or.inr (Or.inr c2))]; exact C) hg (by omega) (by omega)
          · obtain ⟨σ1, r1, r2, r3⟩ := PxC_put C (i := i) (k := k) (v := v) (by omega) (by omega) hv
            rw [if_neg (fun z => c2 (t2.mp z)), r1, bS]
            rw [← rl_put e (by simpa using c1) (by simpa using c2)] at r2
            exact ih (k + 1) σ1 r2 (by rw [r3]; exact hg) (by omega) (by omega)
    · obtain rfl : k = f := by omega
      rw [if_pos (nI_le q (by omega))]
      exact ⟨σ, rfl, C, hg⟩
theorem relC_out {σ0 : St} {f n p L R v : Nat} {b : Nat → Nat} {h : Nat → Nat → Nat} (hf : f ≤ 7) (hL : L < 128) (hR : R < 128) (hR2 : ∀ j, R.testBit j = true → j < f) (hv : v ≤ 2) : ∀ (fu i : Nat) (σ : St), PxC σ0 f n b σ p (rl L R v h i 0) → σ.1 58 4 = nI R → i ≤ f → f - i < fu → ∃ σ', f_X4_relate_2 fu (nI L) (nI v) (nI i) σ = some σ' ∧ PxC σ0 f n b σ' p (rl L R v h f 0) ∧ σ'.1 58 4 = nI R := by
  intro fu
  induction fu with
  | zero => intro i σ _ _ _ h; omega
  | succ fu ih =>
    intro i σ C hg hi hfu
    rw [f_X4_relate_2, C.1.2.2]
    rcases Nat.lt_or_ge i f with q | q
    · obtain ⟨σ1, r1, r2, r3⟩ := relC_in hf hL hR hv q (f_X4_relate_65 (f_X4_relate_2 fu)) FU 0 σ C hg (Nat.zero_le _) (FU_big (by omega))
      rw [if_neg (nI_ge q (by omega)), show f_X4_relate_13 (f_X4_relate_65 (f_X4_relate_2 fu)) FU (nI L) (nI v) (nI i) 0 σ = _ from r1]
      unfold f_X4_relate_65
      rw [nI_1]
      rw [rl_next hR2] at r2
      exact ih (i + 1) σ1 r2 r3 (by omega) (by omega)
    · obtain rfl : i = f := by omega
      rw [if_pos (nI_le q (by omega))]
      exact ⟨σ, rfl, C, hg⟩
theorem relM_in {τ0 : St} {f n p L R v i : Nat} {b : Nat → Nat} {h : Nat → Nat → Nat} (hL : L < 128) (hR : R < 128) (hi : i < 7) (kk : Int32 → Int32 → Int32 → Int32 → St → Option St) : ∀ (fu k : Nat) (τ : St), PxM τ0 f n b τ p (rl L R v h i k) 0 → k ≤ 7 → 7 - k < fu → ∃ τ', f_X8_chain_90 kk fu (nI L) (nI v) (nI R) (nI i) (nI k) τ = kk (nI L) (nI v) (nI R) (nI i) τ' ∧ PxM τ0 f n b τ' p (rl L R v h i 7) 0 := by
  intro fu
  induction fu with
  | zero => intro k τ _ _ h; omega
  | succ fu ih =>
    intro k τ M hk hfu
    rw [f_X8_chain_90]
    rcases Nat.lt_or_ge k 7 with q | q
    · rw [if_neg (show ¬ (7 : Int32) ≤ nI k from nI_ge (b := 7) q (by decide))]
      unfold f_X8_chain_138
      rw [nI_1]
      have t1 := bT1 L hL i hi
      have t2 := bT1 R hR k q
      by_cases e : i = k
      · rw [if_pos (by rw [e])]
        exact ih (k + 1) τ (by rw [rl_skip (Or.inl e)]; exact M) (by omega) (by omega)
      · rw [if_neg (fun z => e (nI_inj (by omega) (by omega) z))]
        by_cases c1 : L.testBit i = true
        · rw [if_pos (t1.mpr c1)]
          by_cases c2 : R.testBit k = true
          · have M2 := PxM_put M (i := i) (k := k) (v := v) hi q
            rw [← rl_put e c1 c2] at M2
            rw [if_pos (t2.mpr c2), mul7, cI_t (ix_nI (show 7 * i + k < 49 by omega) (by decide)), nI_clamp (show 7 * i + k < 2 ^ 31 by omega), ap]
            exact ih (k + 1) _ M2 (by omega) (by omega)
          · rw [if_neg (fun z => c2 (t2.mp z))]
            exact ih (k + 1) τ (by rw [rl_skip (Or.inr (Or.inr (by simpa using c2)))]; exact M) (by omega) (by omega)
        · rw [if_neg (fun z => c1 (t1.mp z))]
          exact ih (k + 1) τ (by rw [rl_skip (Or.inr (Or.inl (by simpa using c1)))]; exact M) (by omega) (by omega)
    · obtain rfl : k = 7 := by omega
      rw [if_pos (show (7 : Int32) ≤ nI 7 by decide)]
      exact ⟨τ, rfl, M⟩
theorem relM_out {τ0 : St} {f n p L R v : Nat} {b : Nat → Nat} {h : Nat → Nat → Nat} (hL : L < 128) (hR : R < 128) (kk : Int32 → St → Option St) : ∀ (fu i : Nat) (τ : St), PxM τ0 f n b τ p (rl L R v h i 0) 0 → i ≤ 7 → 7 - i < fu → ∃ τ', f_X8_chain_73 kk fu (nI L) (nI v) (nI R) (nI i) τ = kk (nI R) τ' ∧ PxM τ0 f n b τ' p (rl L R v h 7 0) 0 := by
  have hR7 : ∀ j, R.testBit j = true → j < 7 := fun j hj => bit128 hR hj
  intro fu
  induction fu with
  | zero => intro i τ _ _ h; omega
  | succ fu ih =>
    intro i τ M hi hfu
    rw [f_X8_chain_73, if_pos (show τ.1 0 24 = 0 from M.1.2.2.1)]
    rcases Nat.lt_or_ge i 7 with q | q
    · obtain ⟨τ1, r1, r2⟩ := relM_in hL hR q (f_X8_chain_144 (f_X8_chain_73 kk fu)) FU 0 τ M (Nat.zero_le _) (FU_big (by omega))
      rw [if_neg (show ¬ (7 : Int32) ≤ nI i from nI_ge (b := 7) q (by decide)), show f_X8_chain_90 (f_X8_chain_144 (f_X8_chain_73 kk fu)) FU (nI L) (nI v) (nI R) (nI i) 0 τ = _ from r1]
      unfold f_X8_chain_144
      rw [nI_1]
      rw [rl_next hR7] at r2
      exact ih (i + 1) τ1 r2 (by omega) (by omega)
    · obtain rfl : i = 7 := by omega
      rw [if_pos (show (7 : Int32) ≤ nI 7 by decide)]
      exact ⟨τ, rfl, M⟩
def Hok (f : Nat) (h : Nat → Nat → Nat) : Prop := (∀ i k, h i k ≤ 2) ∧ ∀ i k, (f ≤ i ∨ f ≤ k ∨ i = k) → h i k = 0
theorem Hok_rl {f L R v : Nat} {h : Nat → Nat → Nat} (H : Hok f h) (hv : v ≤ 2) (hL : ∀ j, L.testBit j = true → j < f) (hR : ∀ j, R.testBit j = true → j < f) (i k : Nat) : Hok f (rl L R v h i k) := by
  refine ⟨fun a b => ?_, fun a b hab => ?_⟩
  · unfold rl
    by_cases c : (a < i ∨ (a = i ∧ b < k)) ∧ a ≠ b ∧ L.testBit a = true ∧ R.testBit b = true
    · rw [if_pos c]; exact hv
    · rw [if_neg c]; exact H.1 a b
  · unfold rl
    rw [if_neg (fun q => by have := hL a q.2.2.1; have := hR b q.2.2.2; have := q.2.1; omega)]
    exact H.2 a b hab
