/-! the system loads what is to be counted -/
def allm (T : Tl) : Nat → Bool := fun k => decide (k < tf T)
def wq (T : Tl) : Wt := fun i y => if i < tf T then wgt T i y else 0
def G0 (T : Tl) : Wg := ((tn T, tf T), allm T, wq T, (fun _ => 0), (fun _ => tn T), th T)
theorem Okw_G0 {T : Tl} (ho : Okt T) : Okw (G0 T) := by
  have hn := ho.1
  refine ⟨⟨by show 0 < tn T; omega, ho.1.2⟩, ho.2.1, fun k hk => ?_, fun i y => ?_, fun i => ⟨by show 0 < 2 ^ 29; decide, by show tn T < 2 ^ 29; omega⟩, ho.2.2.2.2.2.1, fun i k h => ?_⟩
  · have : decide (k < tf T) = true := hk
    exact of_decide_eq_true this
  · show (if i < tf T then wgt T i y else 0) < 2 ^ 62
    by_cases c : i < tf T
    · rw [if_pos c]; have := wgt_le ho c y; omega
    · rw [if_neg c]; decide
  · have hz := ho.2.2.2.2.2.2 i k
    refine ⟨decide_eq_true (Classical.byContradiction (fun q => h (hz (Or.inl (by omega))))), decide_eq_true (Classical.byContradiction (fun q => h (hz (Or.inr (Or.inl (by omega)))))), fun e => h (hz (Or.inr (Or.inr e)))⟩
theorem msk_alls : ∀ f, f < 8 → ((1 : Int32) <<< (nI f &&& 31)) - 1 = nI (msk (fun k => decide (k < f)) 7) := by decide +kernel
theorem limit_raw {σ : St} {i : Nat} (hi : i < 7) (x2 x3 : Int32) : f_X6_limit (nI i) x2 x3 σ = some (up1 (up1 σ 65 i x2) 66 i x3) := by
  unfold f_X6_limit
  rw [cI_t (ix_nI hi (by decide)), ap, cI_t (ix_nI hi (by decide)), ap, nI_clamp (by omega)]
theorem load66 {T : Tl} (ho : Okt T) {t i K : Nat} (hi : i < tf T) (hK : K = t + 7 + 3 * i) (kk : Nat → Int32 → St → Option St) : ∀ (fu y : Nat) (σ : St), TelC t σ.1 T → σ.1 63 0 = nI (tn T) → y ≤ tn T → tn T - y < fu → ∃ σ', f_X6_load_66 kk fu t (nI i) K (nI (meanv T i)) (nI y) σ = kk t (nI i) σ' ∧ σ'.1 = σ.1 ∧ (∀ c, c ≠ 64 → σ'.2 c = σ.2 c) ∧ (∀ z, y ≤ z → z < tn T → σ'.2 64 (40 * i + z) = lN (wgt T i z)) ∧ ∀ j, (j < 40 * i + y ∨ 40 * i + 40 ≤ j) → σ'.2 64 j = σ.2 64 j := by
  have hn := ho.1.2
  have hf := ho.2.1
  intro fu
  induction fu with
  | zero => intro y σ _ _ _ h; omega
  | succ fu ih =>
    intro y σ H h0 hy hfu
    rw [f_X6_load_66, h0]
    rcases Nat.lt_or_ge y (tn T) with q | q
    · have hF := FindC_at H hi hK
      have hw := wgt_le ho hi y
      rw [if_neg (nI_ge q (by omega)), plainAt_eq ho H hi hF (by omega), bS, weightFrom_eq ho hi hF y, bS, mul40, cI_t (ix_nI (show 40 * i + y < 280 by omega) (by decide)), nI_clamp (show 40 * i + y < 2 ^ 31 by omega), ap, nI_1, nI_l (by omega)]
      obtain ⟨σ', r1, r2, r3, r4, r5⟩ := ih (y + 1) (up2 σ 64 (40 * i + y) (lN (wgt T i y))) H h0 (by omega) (by omega)
      refine ⟨σ', r1, r2, fun c hc => by rw [r3 c hc, up2_r hc], fun z z1 z2 => ?_, fun j hj => ?_⟩
      · by_cases e : z = y
        · subst e; rw [r5 _ (by omega), up2_eq]
        · exact r4 z (by omega) z2
      · rw [r5 j (by omega), up2_ne (by omega)]
    · obtain rfl : y = tn T := by omega
      rw [if_pos (by rw [I_le]; omega)]
      exact ⟨σ, rfl, rfl, fun _ _ => rfl, fun z z1 z2 => by omega, fun _ _ => rfl⟩
theorem load41 {T : Tl} (ho : Okt T) {t : Nat} (ht : t ≤ 29) : ∀ (fu i : Nat) (σ : St), TelC t σ.1 T → σ.1 63 0 = nI (tn T) → σ.1 63 1 = nI (tf T) → (∀ j, j < i → ∀ z, z < tn T → σ.2 64 (40 * j + z) = lN (wgt T j z)) → (∀ j, j < i → σ.1 65 j = 0 ∧ σ.1 66 j = nI (tn T) - 1) → i ≤ tf T → tf T - i < fu → ∃ σ', f_X6_load_41 fu t (nI i) σ = some σ' ∧ (∀ c, (c ≠ 65 ∧ c ≠ 66) → σ'.1 c = σ.1 c) ∧ (∀ c, c ≠ 64 → σ'.2 c = σ.2 c) ∧ (∀ j, j < tf T → ∀ z, z < tn T → σ'.2 64 (40 * j + z) = lN (wgt T j z)) ∧ ∀ j, j < tf T → σ'.1 65 j = 0 ∧ σ'.1 66 j = nI (tn T) - 1 := by
  have hn := ho.1.2
  have hf := ho.2.1
  intro fu
  induction fu with
  | zero => intro i σ _ _ _ _ _ _ h; omega
  | succ fu ih =>
    intro i σ H h0 h1 hW hL hi hfu
    rw [f_X6_load_41, h1]
    rcases Nat.lt_or_ge i (tf T) with q | q
    · have hF := FindC_at H q (K := (t + 3) + 4 + 3 * i) (by omega)
      rw [if_neg (nI_ge q (by omega)), cI_t (ix_nI (show i < 7 by omega) (by decide)), nI_clamp (show i < 2 ^ 31 by omega), meanPlain_eq ho H q hF, bS]
      obtain ⟨σ1, r1, r2, r3, r4, r5⟩ := load66 ho q (K := (t + 3) + 4 + 3 * i) (by omega) (f_X6_load_107 (f_X6_load_41 fu)) FU 0 σ H h0 (by omega) (FU_big (by omega))
      rw [show f_X6_load_66 (f_X6_load_107 (f_X6_load_41 fu)) FU t (nI i) ((t + 3) + 4 + 3 * i) (nI (meanv T i)) 0 σ = _ from r1]
      unfold f_X6_load_107
      rw [r2, h0, limit_raw (by omega), bS, nI_1]
      have u1 : ∀ c, (c ≠ 65 ∧ c ≠ 66) → (up1 (up1 σ1 65 i 0) 66 i (nI (tn T) - 1)).1 c = σ.1 c := fun c hc => by rw [up1_r hc.2, up1_r hc.1, r2]
      have u2 : (up1 (up1 σ1 65 i 0) 66 i (nI (tn T) - 1)).2 = σ1.2 := rfl
      have u3 : ∀ j, j < i + 1 → (up1 (up1 σ1 65 i 0) 66 i (nI (tn T) - 1)).1 65 j = 0 ∧ (up1 (up1 σ1 65 i 0) 66 i (nI (tn T) - 1)).1 66 j = nI (tn T) - 1 := fun j hj => by
        by_cases e : j = i
        · subst e
          rw [up1_eq, up1_r (by omega), up1_eq]
          exact ⟨rfl, rfl⟩
        · exact ⟨by rw [up1_r (by omega), up1_ne (by omega), r2]; exact (hL j (by omega)).1, by rw [up1_ne (by omega), up1_r (by omega), r2]; exact (hL j (by omega)).2⟩
      generalize up1 (up1 σ1 65 i 0) 66 i (nI (tn T) - 1) = σ2 at u1 u2 u3 ⊢
      obtain ⟨σ3, p1, p2, p3, p4, p5⟩ := ih (i + 1) σ2 (TelC_congr hf (fun a a1 a2 => u1 a (by omega)) H) (by rw [u1 63 (by omega)]; exact h0) (by rw [u1 63 (by omega)]; exact h1) (fun j hj z hz => by
        rw [u2]
        by_cases e : j = i
        · subst e; exact r4 z (by omega) hz
        · rw [r5 _ (by omega)]; exact hW j (by omega) z hz) u3 (by omega) (by omega)
      exact ⟨σ3, p1, fun c hc => (p2 c hc).trans (u1 c hc), fun c hc => by rw [p3 c hc, u2, r3 c hc], p4, p5⟩
    · obtain rfl : i = tf T := by omega
      rw [if_pos (by rw [I_le]; omega)]
      exact ⟨σ, rfl, fun _ _ => rfl, fun _ _ => rfl, hW, hL⟩
theorem load_eq {T : Tl} {t : Nat} {σ : St} (ho : Okt T) (ht : t ≤ 29) (H : TelC t σ.1 T) : ∃ σ', f_X6_load t σ = some σ' ∧ WgC σ' (G0 T) ∧ (∀ c, (c < 63 ∨ 69 < c) → σ'.1 c = σ.1 c) ∧ ∀ c, c ≠ 64 → σ'.2 c = σ.2 c := by
  have hn := ho.1.2
  have hf := ho.2.1
  obtain ⟨⟨h1, h2⟩, h3, h4, h5, h6⟩ := H
  unfold f_X6_load
  rw [ap, h1, up1_r (show t ≠ 63 by omega), h2, ap, up1_eq, msk_alls _ (by omega), ap]
  have a0 : (up1 (up1 (up1 σ 63 0 (nI (tn T))) 63 1 (nI (tf T))) 63 2 (nI (msk (fun k => decide (k < tf T)) 7))).1 63 0 = nI (tn T) := by rw [up1_ne (by omega), up1_ne (by omega), up1_eq]
  have a1 : (up1 (up1 (up1 σ 63 0 (nI (tn T))) 63 1 (nI (tf T))) 63 2 (nI (msk (fun k => decide (k < tf T)) 7))).1 63 1 = nI (tf T) := by rw [up1_ne (by omega), up1_eq]
  have a2 : (up1 (up1 (up1 σ 63 0 (nI (tn T))) 63 1 (nI (tf T))) 63 2 (nI (msk (fun k => decide (k < tf T)) 7))).1 63 2 = nI (msk (fun k => decide (k < tf T)) 7) := up1_eq
  have a3 : ∀ c, c ≠ 63 → (up1 (up1 (up1 σ 63 0 (nI (tn T))) 63 1 (nI (tf T))) 63 2 (nI (msk (fun k => decide (k < tf T)) 7))).1 c = σ.1 c := fun c hc => by rw [up1_r hc, up1_r hc, up1_r hc]
  have a4 : (up1 (up1 (up1 σ 63 0 (nI (tn T))) 63 1 (nI (tf T))) 63 2 (nI (msk (fun k => decide (k < tf T)) 7))).2 = σ.2 := rfl
  generalize up1 (up1 (up1 σ 63 0 (nI (tn T))) 63 1 (nI (tf T))) 63 2 (nI (msk (fun k => decide (k < tf T)) 7)) = σ0 at a0 a1 a2 a3 a4 ⊢
  obtain ⟨σ1, b1, b2, b3, b4⟩ := cpP (a := 67) (b := t + 4) (σ := σ0) (by omega)
  rw [b1, bS]
  have f1 : ∀ c, (c ≠ 63 ∧ c ≠ 68 ∧ c ≠ 69) → σ1.1 c = σ.1 c := fun c hc => by rw [b4 c (by omega), a3 c hc.1]
  obtain ⟨σ2, c1, c2, c3, c4, c5⟩ := load41 ho ht FU 0 σ1 (TelC_congr hf (fun a x1 x2 => f1 a (by omega)) ⟨⟨h1, h2⟩, h3, h4, h5, h6⟩) (by rw [b4 63 (by omega)]; exact a0) (by rw [b4 63 (by omega)]; exact a1) (fun j hj => by omega) (fun j hj => by omega) (by omega) (FU_big (by omega))
  refine ⟨σ2, c1, ⟨⟨by rw [c2 63 (by omega), b4 63 (by omega)]; exact a0, by rw [c2 63 (by omega), b4 63 (by omega)]; exact a1, by rw [c2 63 (by omega), b4 63 (by omega)]; exact a2⟩, fun i hi y hy => ?_, fun i hi => c5 i hi, fun k hk => ?_⟩, fun c hc => by rw [c2 c (by omega), f1 c (by omega)], fun c hc => by rw [c3 c hc, b3, a4]⟩
  · have hi' : i < tf T := hi
    rw [c4 i hi y hy]
    show _ = lN (if i < tf T then wgt T i y else 0)
    rw [if_pos hi']
  · rw [c2 68 (by omega), c2 69 (by omega), (b2 k hk).1, (b2 k hk).2, a3 (t + 4 + 1) (by omega), a3 (t + 4 + 2) (by omega)]
    exact h6 k hk
/-! limits and other changes of what is to be counted -/
def gLim (G : Wg) (i a b : Nat) : Wg := (G.1, G.2.1, G.2.2.1, (fun k => if k = i then a else wlo G k), (fun k => if k = i then b else whi G k), G.2.2.2.2.2)
def gRow (G : Wg) (i : Nat) (r : Nat → Nat) : Wg := (G.1, G.2.1, ur (wv G) i r, G.2.2.2)
def gHow (G : Wg) (h : Nat → Nat → Nat) : Wg := (G.1, G.2.1, G.2.2.1, G.2.2.2.1, G.2.2.2.2.1, h)
theorem Okw_lim {G : Wg} (ho : Okw G) {i a b : Nat} (ha : a < 2 ^ 29) (hb : b < 2 ^ 29) : Okw (gLim G i a b) := by
  refine ⟨ho.1, ho.2.1, ho.2.2.1, ho.2.2.2.1, fun k => ?_, ho.2.2.2.2.2⟩
  show (if k = i then a else wlo G k) < 2 ^ 29 ∧ (if k = i then b else whi G k) < 2 ^ 29
  by_cases e : k = i
  · rw [if_pos e, if_pos e]; exact ⟨ha, hb⟩
  · rw [if_neg e, if_neg e]; exact ho.2.2.2.2.1 k
theorem Okw_row {G : Wg} (ho : Okw G) {i : Nat} {r : Nat → Nat} (hr : ∀ y, r y < 2 ^ 62) : Okw (gRow G i r) := by
  refine ⟨ho.1, ho.2.1, ho.2.2.1, fun k y => ?_, ho.2.2.2.2⟩
  show ur (wv G) i r k y < 2 ^ 62
  by_cases e : k = i
  · subst e; rw [ur_eq]; exact hr y
  · rw [ur_ne e]; exact ho.2.2.2.1 k y
theorem limit_eq {σ : St} {G : Wg} (H : WgC σ G) {i a b : Nat} (hi : i < 7) {x2 x3 : Int32} (e2 : x2 = nI a) (e3 : x3 = nI b - 1) : ∃ σ', f_X6_limit (nI i) x2 x3 σ = some σ' ∧ WgC σ' (gLim G i a b) ∧ (∀ c, (c ≠ 65 ∧ c ≠ 66) → σ'.1 c = σ.1 c) ∧ σ'.2 = σ.2 := by
  refine ⟨_, limit_raw hi x2 x3, ⟨⟨?_, ?_, ?_⟩, H.2.1, fun k hk => ?_, ?_⟩, fun c hc => by rw [up1_r hc.2, up1_r hc.1], rfl⟩
  · rw [up1_r (by omega), up1_r (by omega)]; exact H.1.1
  · rw [up1_r (by omega), up1_r (by omega)]; exact H.1.2.1
  · rw [up1_r (by omega), up1_r (by omega)]; exact H.1.2.2
  · show _ = nI (if k = i then a else wlo G k) ∧ _ = nI (if k = i then b else whi G k) - 1
    by_cases e : k = i
    · subst e
      rw [if_pos rfl, if_pos rfl, up1_eq, up1_r (by omega), up1_eq]
      exact ⟨e2, e3⟩
    · rw [if_neg e, if_neg e, up1_r (by omega), up1_ne (by omega), up1_ne (by omega), up1_r (by omega)]
      exact H.2.2.1 k hk
  · rw [up1_r (by omega), up1_r (by omega), up1_r (by omega), up1_r (by omega)]; exact H.2.2.2
