/-! sums -/
def sm (f : Nat → Nat) : Nat → Nat
  | 0 => 0
  | n + 1 => sm f n + f n
theorem sm_congr {f g : Nat → Nat} : ∀ {n : Nat}, (∀ i, i < n → f i = g i) → sm f n = sm g n
  | 0, _ => rfl
  | n + 1, h => by
    unfold sm
    rw [sm_congr (fun i hi => h i (by omega)), h n (by omega)]
theorem sm_add (f g : Nat → Nat) : ∀ n, sm (fun i => f i + g i) n = sm f n + sm g n
  | 0 => rfl
  | n + 1 => by
    unfold sm
    rw [sm_add f g n]
    omega
theorem sm_zero : ∀ {f : Nat → Nat} {n : Nat}, (∀ i, i < n → f i = 0) → sm f n = 0
  | _, 0, _ => rfl
  | f, n + 1, h => by
    unfold sm
    rw [sm_zero (fun i hi => h i (by omega)), h n (by omega)]
theorem sm_swap (f : Nat → Nat → Nat) (m : Nat) : ∀ n, sm (fun i => sm (fun j => f i j) m) n = sm (fun j => sm (fun i => f i j) n) m
  | 0 => by
    show 0 = _
    rw [sm_zero]
    intro i _; rfl
  | n + 1 => by
    show sm (fun i => sm (fun j => f i j) m) n + sm (fun j => f n j) m = _
    rw [sm_swap f m n, ← sm_add]
    rfl
theorem sm_ext {f : Nat → Nat} {n m : Nat} (h : n ≤ m) (hz : ∀ i, n ≤ i → i < m → f i = 0) : sm f m = sm f n := by
  induction m with
  | zero => obtain rfl : n = 0 := by omega
            rfl
  | succ m ih =>
    rcases Nat.lt_or_ge n (m + 1) with q | q
    · show sm f m + f m = _
      rw [ih (by omega) (fun i a b => hz i a (by omega)), hz m (by omega) (by omega), Nat.add_zero]
    · obtain rfl : n = m + 1 := by omega
      rfl
theorem sm_le {f : Nat → Nat} {c : Nat} : ∀ {n : Nat}, (∀ i, i < n → f i ≤ c) → sm f n ≤ n * c
  | 0, _ => by simp [sm]
  | n + 1, h => by
    have := sm_le (n := n) (fun i hi => h i (by omega))
    have := h n (by omega)
    unfold sm
    rw [Nat.succ_mul]
    omega
theorem pop7_msk (f : Nat → Bool) : pop7 (msk f 7) = sm (fun i => if f i then 1 else 0) 7 := by
  unfold pop7
  simp only [msk_bit]
  simp [sm]
/-- how many pairs -/
def hmany (h : Nat → Nat → Nat) (n : Nat) : Nat := sm (fun i => sm (fun k => if 0 < h i k then 1 else 0) n) n
theorem hmany_7 {h : Nat → Nat → Nat} (h2 : ∀ i k, h i k ≤ 2) : sm (fun k => pop7 (msk (fun i => h i k == 1) 7) + pop7 (msk (fun i => h i k == 2) 7)) 7 = hmany h 7 := by
  unfold hmany
  rw [sm_swap]
  apply sm_congr
  intro k _
  rw [pop7_msk, pop7_msk, ← sm_add]
  apply sm_congr
  intro i _
  have := h2 i k
  rcases (show h i k = 0 ∨ h i k = 1 ∨ h i k = 2 by omega) with e | e | e <;> simp [e]
theorem hmany_f {h : Nat → Nat → Nat} {f : Nat} (hf : f ≤ 7) (hz : ∀ i k, (f ≤ i ∨ f ≤ k ∨ i = k) → h i k = 0) : hmany h 7 = hmany h f := by
  unfold hmany
  rw [sm_ext hf (fun i a _ => sm_zero (fun k _ => by simp [hz i k (Or.inl a)]))]
  apply sm_congr
  intro i _
  exact sm_ext hf (fun k a _ => by simp [hz i k (Or.inr (Or.inl a))])
theorem howMany_loop {k0 : Nat} {σ : St} {h : Nat → Nat → Nat} (H : PairC (σ.1 (k0 + 1)) (σ.1 (k0 + 2)) h) : ∀ (fu k : Nat), k ≤ 7 → 7 - k < fu → f_X2_howMany_4 fu k0 (nI (sm (fun k => pop7 (msk (fun i => h i k == 1) 7) + pop7 (msk (fun i => h i k == 2) 7)) k)) (nI k) σ = some (nI (sm (fun k => pop7 (msk (fun i => h i k == 1) 7) + pop7 (msk (fun i => h i k == 2) 7)) 7), σ) := by
  intro fu
  induction fu with
  | zero => intro k _ h2; omega
  | succ fu ih =>
    intro k hk hf
    rw [f_X2_howMany_4]
    rcases Nat.lt_or_ge k 7 with q | q
    · have g : ¬ (7 : Int32) ≤ nI k := nI_ge (b := 7) q (by decide)
      obtain ⟨a1, a2⟩ := H k q
      rw [if_neg g, cI_t (ix_nI q (by decide)), nI_clamp (by omega), bitCount_eq, bS, cI_t (ix_nI q (by decide)), a1, a2, bitCount_eq, bS, bcE_eq _ (msk_lt _ 7), bcE_eq _ (msk_lt _ 7), nI_1, nI_add, nI_add]
      exact ih (k + 1) (by omega) (by omega)
    · obtain rfl : k = 7 := by omega
      rw [if_pos (by decide)]
theorem howMany_eq {k0 : Nat} {σ : St} {T : Tl} (H : PairC (σ.1 (k0 + 1)) (σ.1 (k0 + 2)) (th T)) (ho : Okt T) : f_X2_howMany k0 σ = some (nI (hmany (th T) (tf T)), σ) := by
  have := howMany_loop H FU 0 (by omega) (by show 7 - 0 < 100000; omega)
  rw [hmany_7 ho.2.2.2.2.2.1, hmany_f ho.2.1 ho.2.2.2.2.2.2] at this
  exact this
theorem mul7 (s i : Nat) : (7 : Int32) * nI s + nI i = nI (7 * s + i) := by
  rw [show (7 : Int32) = nI 7 from rfl, pk_mul, nI_add]
theorem pairMany_in {τ : St} {T : Tl} (ho : Okt T) (H : TelM τ.1 T) (kk : Int32 → Int32 → St → Option (Int32 × St)) (i a : Nat) (hi : i < tf T) : ∀ (fu k : Nat), k ≤ tf T → tf T - k < fu → f_X8_pairMany_14 kk fu (nI (a + sm (fun k => if 0 < th T i k then 1 else 0) k)) (nI i) (nI k) τ = kk (nI (a + sm (fun k => if 0 < th T i k then 1 else 0) (tf T))) (nI i) τ := by
  have hf := ho.2.1
  intro fu
  induction fu with
  | zero => intro k _ h2; omega
  | succ fu ih =>
    intro k hk hfu
    rw [f_X8_pairMany_14, H.1.2]
    rcases Nat.lt_or_ge k (tf T) with q | q
    · rw [if_neg (nI_ge q (by omega)), mul7, cI_t (ix_nI (show 7 * i + k < 49 by omega) (by decide)), nI_clamp (by omega), H.2.2.2.2 i k hi q]
      have h2 := ho.2.2.2.2.2.1 i k
      have hs : sm (fun k => if 0 < th T i k then 1 else 0) (k + 1) = sm (fun k => if 0 < th T i k then 1 else 0) k + (if 0 < th T i k then 1 else 0) := rfl
      by_cases e : 0 < th T i k
      · rw [if_neg (nI_nle e (by omega))]
        rw [if_pos e] at hs
        simp only [f_X8_pairMany_42, nI_1]
        rw [Nat.add_assoc, ← hs]
        exact ih (k + 1) (by omega) (by omega)
      · rw [show th T i k = 0 by omega, if_pos (by decide)]
        rw [if_neg e] at hs
        have hs := hs.trans (Nat.add_zero _)
        simp only [f_X8_pairMany_42, nI_1, Int32.add_zero]
        rw [← hs]
        exact ih (k + 1) (by omega) (by omega)
    · obtain rfl : k = tf T := by omega
      rw [if_pos (by rw [I_le]; omega)]
theorem pairMany_out {τ : St} {T : Tl} (ho : Okt T) (H : TelM τ.1 T) : ∀ (fu i : Nat), i ≤ tf T → tf T - i < fu → f_X8_pairMany_4 fu (nI (sm (fun i => sm (fun k => if 0 < th T i k then 1 else 0) (tf T)) i)) (nI i) τ = some (nI (hmany (th T) (tf T)), τ) := by
  have hf := ho.2.1
  intro fu
  induction fu with
  | zero => intro k _ h2; omega
  | succ fu ih =>
    intro i hi hfu
    rw [f_X8_pairMany_4, H.1.2]
    rcases Nat.lt_or_ge i (tf T) with q | q
    · rw [if_neg (nI_ge q (by omega))]
      have := pairMany_in ho H (f_X8_pairMany_50 (f_X8_pairMany_4 fu)) i (sm (fun i => sm (fun k => if 0 < th T i k then 1 else 0) (tf T)) i) q FU 0 (by omega) (by show _ < 100000; omega)
      rw [nI_0] at this
      have e0 : sm (fun k => if 0 < th T i k then 1 else 0) 0 = 0 := rfl
      rw [e0, Nat.add_zero] at this
      rw [this]
      simp only [f_X8_pairMany_50, nI_1]
      exact ih (i + 1) (by omega) (by omega)
    · obtain rfl : i = tf T := by omega
      rw [if_pos (by rw [I_le]; omega)]
      rfl
theorem pairMany_eq {τ : St} {T : Tl} (ho : Okt T) (H : TelM τ.1 T) : f_X8_pairMany τ = some (nI (hmany (th T) (tf T)), τ) := by
  have := pairMany_out ho H FU 0 (by omega) (by have := ho.2.1; show _ < 100000; omega)
  exact this
theorem ag_count : Ag_count Rel := by
  rintro a0 σ τ ⟨T, H⟩
  by_cases c0 : a0 = 0
  · exact ⟨nI (tf T), σ, τ, by simp [f_X7_count, c0, H.2.1.1.2], by simp [f_X8_count_, c0, H.2.2.1.1.2], T, H⟩
  · by_cases c1 : a0 = 1
    · exact ⟨nI (tn T), σ, τ, by simp [f_X7_count, c1, H.2.1.1.1], by simp [f_X8_count_, c1, H.2.2.1.1.1], T, H⟩
    · by_cases c2 : a0 = 2
      · subst c2
        refine ⟨nI (hmany (th T) (tf T)), σ, τ, ?_, ?_, T, H⟩
        · rw [f_X7_count, if_neg (by decide), if_neg (by decide), if_pos rfl, howMany_eq H.2.1.2.2.2.2 H.1, bS]
        · rw [f_X8_count_, if_neg (by decide), if_neg (by decide), if_pos rfl, pairMany_eq H.1 H.2.2.1, bS]
      · by_cases c3 : a0 = 3
        · obtain ⟨n, n1, n2, n3, n4⟩ := H.2.2.2.2.2.2.1
          exact ⟨nI n, σ, τ, by simp [f_X7_count, c3, n2], by simp [f_X8_count_, c3, n3], T, H⟩
        · by_cases c4 : a0 = 4
          · exact ⟨τ.1 0 22, σ, τ, by simp [f_X7_count, c4, H.2.2.2.2.2.2.2.2.2], by simp [f_X8_count_, c4], T, H⟩
          · exact ⟨-2, σ, τ, by simp [f_X7_count, c0, c1, c2, c3, c4], by simp [f_X8_count_, c0, c1, c2, c3, c4], T, H⟩
theorem ag_pair : Ag_pair Rel := by
  rintro a0 a1 a2 σ τ ⟨T, H⟩
  rcases isFind_c (x := a0) H.1.2.1 H.2.1.1.2 H.2.2.1.1.2 with ⟨e1, e2⟩ | ⟨i, hi, rfl, e1, e2⟩
  · exact ⟨-2, σ, τ, by simp [f_X7_pair, e1], by simp [f_X8_pair, e2], T, H⟩
  · rcases isFind_c (x := a1) H.1.2.1 H.2.1.1.2 H.2.2.1.1.2 with ⟨g1, g2⟩ | ⟨k, hk, rfl, g1, g2⟩
    · exact ⟨-2, σ, τ, by simp [f_X7_pair, e1, g1], by simp [f_X8_pair, e2, g2], T, H⟩
    · have hf := H.1.2.1
      by_cases eik : i = k
      · subst eik
        exact ⟨-2, σ, τ, by simp [f_X7_pair, e1], by simp [f_X8_pair, e2], T, H⟩
      · have nik : ¬ nI i = nI k := fun q => eik (nI_inj (by omega) (by omega) q)
        rcases rng3 a2 0 2 3 0 2 rfl rfl rfl (by decide) (by decide) with d1 | ⟨d1, d2, d3, d4, -⟩ | ⟨v, hv, rfl, d1, d2, d3, d4, -⟩
        · exact ⟨-2, σ, τ, by simp [f_X7_pair, e1, g1, nik, d1], by simp [f_X8_pair, e2, g2, nik, isIn_f τ (Or.inl d1)], T, H⟩
        · exact ⟨-2, σ, τ, by simp [f_X7_pair, e1, g1, nik, d1, d4], by simp [f_X8_pair, e2, g2, nik, isIn_f τ (Or.inr d2)], T, H⟩
        · obtain ⟨⟨k1, k2⟩, k3, k4, k5, k6⟩ := H.2.1
          obtain ⟨⟨m1, m2⟩, m3, m4, m5, m6⟩ := H.2.2.1
          have hw := howOf_eq (k0 := 5) k6 H.1.2.2.2.2.2.1 (show i < 7 by omega) (show k < 7 by omega)
          obtain ⟨σ', p1, p2, p3, p4⟩ := put_eq (k0 := 5) k6 (i := i) (k := k) (v := v) (by omega) (by omega) (by omega)
          have ci := ix_nI (show 7 * i + k < 49 by omega) (by decide)
          have cl := nI_clamp (show 7 * i + k < 2 ^ 31 by omega)
          refine ⟨nI (th T i k), σ', up1 τ 8 (7 * i + k) (nI v), ?_, ?_, (T.1, T.2.1, T.2.2.1, T.2.2.2.1, T.2.2.2.2.1, setH (th T) i k v), ?_⟩
          · simp only [f_X7_pair, e1, g1, bS, one_ne, if_false, nik, d1, d4, if_true, hw, p1]
          · simp only [f_X8_pair, e2, g2, bS, one_ne, if_false, nik, isIn_t τ d1 d2, mul7, cI_t ci, cl, ap, m6 i k hi hk]
          · refine RelT_tel H ⟨H.1.1, H.1.2.1, H.1.2.2.1, H.1.2.2.2.1, H.1.2.2.2.2.1, fun a b => ?_, fun a b hab => ?_⟩ ⟨⟨by rw [p4 _ (by omega)]; exact k1, by rw [p4 _ (by omega)]; exact k2⟩, by rw [p4 _ (by omega)]; exact k3, by rw [p4 _ (by omega)]; exact k4, fun j hj => by rw [p4 _ (by omega), p4 _ (by omega), p4 _ (by omega)]; exact k5 j hj, p2⟩ ⟨⟨by rw [up1_r (by omega)]; exact m1, by rw [up1_r (by omega)]; exact m2⟩, by rw [up1_r (by omega)]; exact m3, by rw [up1_r (by omega)]; exact m4, fun j hj => TelM_find0 _ (fun a a1 a2 => up1_r (by omega)) (m5 j hj), fun a b ha hb => ?_⟩ rfl (fun a ha => p4 a (by omega)) p3 (fun j hj => by rw [up1_r (by omega)]) (fun a ha => up1_r (by omega)) rfl
            · show setH (th T) i k v a b ≤ 2
              unfold setH
              by_cases q : a = i ∧ b = k
              · rw [if_pos q]; omega
              · rw [if_neg q]; exact H.1.2.2.2.2.2.1 a b
            · show setH (th T) i k v a b = 0
              have hab : tf T ≤ a ∨ tf T ≤ b ∨ a = b := hab
              unfold setH
              rw [if_neg (by omega)]
              exact H.1.2.2.2.2.2.2 a b hab
            · have ha : a < tf T := ha
              have hb : b < tf T := hb
              show (up1 τ 8 (7 * i + k) (nI v)).1 8 (7 * a + b) = nI (setH (th T) i k v a b)
              unfold setH
              by_cases q : a = i ∧ b = k
              · rw [if_pos q, q.1, q.2, up1_eq]
              · rw [if_neg q, up1_ne (by omega)]; exact m6 a b ha hb
