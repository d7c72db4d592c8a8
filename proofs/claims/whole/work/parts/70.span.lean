/-! span: the search in plain numbers -/
def sin_ (gd : Nat → Bool) : Nat → Nat → Option Nat
  | 0, _ => none
  | k + 1, s => if gd s = true then some s else sin_ gd k (s + 1)
def sgd (F : Nat → Nat) (P : Nat) (l s : Nat) : Bool := decide (P ≤ (sm F (s + l) - sm F s) * 1000)
theorem sm_mono {F : Nat → Nat} {a : Nat} : ∀ {b : Nat}, a ≤ b → sm F a ≤ sm F b
  | 0, h => by
    obtain rfl : a = 0 := by omega
    exact Nat.le_refl _
  | b + 1, h => by
    by_cases e : a = b + 1
    · subst e; exact Nat.le_refl _
    · exact Nat.le_trans (sm_mono (b := b) (by omega)) (Nat.le_add_right _ _)
/-- the reference's inner sum -/
theorem sp72 {n l s : Nat} {F : Nat → Nat} {τ : St} (hn : n ≤ 40) (hs : s + l ≤ n) (h : ∀ y, y < n → τ.2 23 y = lN (F y)) (x2 : Int32) (kk : Int32 → Int32 → Int32 → Int64 → St → Option (Int32 × St)) : ∀ (fu y : Nat), s ≤ y → y ≤ s + l → s + l - y < fu → f_X8_span_72 kk fu x2 (nI l) (nI s) (lN (sm F y - sm F s)) (nI y) τ = kk x2 (nI l) (nI s) (lN (sm F (s + l) - sm F s)) τ := by
  intro fu
  induction fu with
  | zero => intro y _ _ h; omega
  | succ fu ih =>
    intro y h1 h2 hfu
    rw [f_X8_span_72, nI_add]
    rcases Nat.lt_or_ge y (s + l) with q | q
    · have hm := sm_mono (F := F) h1
      have e : sm F y - sm F s + F y = sm F (y + 1) - sm F s := by
        show _ = sm F y + F y - sm F s
        omega
      rw [if_neg (nI_ge q (by omega)), cI_t (ix_nI (show y < 40 by omega) (by decide)), ap, nI_clamp (show y < 2 ^ 31 by omega), h y (by omega), lN_add, nI_1, e]
      exact ih (y + 1) (by omega) (by omega) (by omega)
    · obtain rfl : y = s + l := by omega
      rw [if_pos (nI_le q (by omega))]
theorem sp_lt {F : Nat → Nat} {n p W a b : Nat} (hF : sm F n ≤ 4000000000000000) (hb : b ≤ n) (hp : p ≤ 1000) (hW : W ≤ 4000000000000000) : lN (sm F b - sm F a) * 1000 < lN (p * W) ↔ ¬ p * W ≤ (sm F b - sm F a) * 1000 := by
  have h1 := sm_mono (F := F) hb
  have h2 : p * W ≤ 1000 * 4000000000000000 := Nat.mul_le_mul hp hW
  have h3 : (sm F b - sm F a) * 1000 ≤ 4000000000000000 * 1000 := Nat.mul_le_mul_right _ (by omega)
  rw [show (1000 : Int64) = lN 1000 from rfl, lN_mul, pk_lLT (by omega) (by omega)]
  omega
theorem sp53 {n l p W : Nat} {F : Nat → Nat} {τ : St} (hn : n ≤ 40) (hl : l ≤ n) (hp : p ≤ 1000) (hW : W ≤ 4000000000000000) (hF : sm F n ≤ 4000000000000000) (h0 : τ.1 0 0 = nI n) (hw : τ.2 0 33 = lN W) (h : ∀ y, y < n → τ.2 23 y = lN (F y)) (k1 k2 : Int32 → Int32 → St → Option (Int32 × St)) : ∀ (k fu s : Nat), s + k = n + 1 - l → k < fu → f_X8_span_53 k1 k2 fu (nI p) (nI l) (nI s) τ = match sin_ (sgd F (p * W) l) k s with | some s' => k1 (nI l) (nI s') τ | none => k2 (nI p) (nI l) τ := by
  intro k
  induction k with
  | zero =>
    intro fu s hs hfu
    obtain ⟨fu, rfl⟩ : ∃ m, fu = m + 1 := ⟨fu - 1, by omega⟩
    rw [f_X8_span_53, h0, nI_add, if_pos (nI_lt (by omega) (by omega))]
    rfl
  | succ k ih =>
    intro fu s hs hfu
    obtain ⟨fu, rfl⟩ : ∃ m, fu = m + 1 := ⟨fu - 1, by omega⟩
    have e := sp72 hn (show s + l ≤ n by omega) h (nI p) (f_X8_span_100 (f_X8_span_53 k1 k2 fu) k1) FU s (Nat.le_refl _) (by omega) (FU_big (by omega))
    rw [Nat.sub_self] at e
    rw [f_X8_span_53, h0, nI_add, if_neg (nI_nlt (show s + l ≤ n by omega) (by omega)), show f_X8_span_72 (f_X8_span_100 (f_X8_span_53 k1 k2 fu) k1) FU (nI p) (nI l) (nI s) 0 (nI s) τ = _ from e]
    unfold f_X8_span_100
    rw [hw, nI_l (by omega), lN_mul]
    unfold sin_
    by_cases c : p * W ≤ (sm F (s + l) - sm F s) * 1000
    · rw [if_neg (fun q => (sp_lt hF (by omega) hp hW).mp q c), if_pos (show sgd F (p * W) l s = true from decide_eq_true c)]
    · rw [if_pos ((sp_lt hF (by omega) hp hW).mpr c), if_neg (show ¬ sgd F (p * W) l s = true from fun q => c (of_decide_eq_true q)), nI_1]
      exact ih fu (s + 1) (by omega) (by omega)
theorem subp1 (y l : Nat) : nI y - nI l + 1 = nI (y + 1) - nI l := by
  rw [← nI_1, Int32.sub_eq_add_neg, Int32.sub_eq_add_neg, Int32.add_assoc, Int32.add_comm (-nI l), ← Int32.add_assoc]
/-- the system's sliding sum -/
theorem sp19 {n l p W : Nat} {F : Nat → Nat} {σ : St} (hn : n ≤ 40) (hl : l ≤ n) (hl0 : 0 < l) (hp : p ≤ 1000) (hW : W ≤ 4000000000000000) (hF : sm F n ≤ 4000000000000000) (h0 : σ.1 1 0 = nI n) (h : ∀ y, y < n → σ.2 80 y = lN (F y)) (k2 : Int64 → Int32 → St → Option (Int32 × St)) : ∀ (k fu s : Nat), s + k = n + 1 - l → k < fu → f_X7_shortestRow_19 k2 fu (lN (p * W)) (nI l) (lN (sm F (s + l - 1) - sm F (s - 1))) (nI (s + l - 1)) σ = match sin_ (sgd F (p * W) l) k s with | some s' => some (nI (100 * s' + (s' + l - 1)), σ) | none => k2 (lN (p * W)) (nI l) σ := by
  intro k
  induction k with
  | zero =>
    intro fu s hs hfu
    obtain ⟨fu, rfl⟩ : ∃ m, fu = m + 1 := ⟨fu - 1, by omega⟩
    rw [f_X7_shortestRow_19, h0, if_pos (nI_le (by omega) (by omega))]
    rfl
  | succ k ih =>
    intro fu s hs hfu
    obtain ⟨fu, rfl⟩ : ∃ m, fu = m + 1 := ⟨fu - 1, by omega⟩
    have z4 : nI (s + l - 1) - nI l + 1 = nI s := by
      by_cases c : s = 0
      · subst c
        rw [subp1, show 0 + l - 1 + 1 = l by omega, pk_sub (Nat.le_refl l), Nat.sub_self]
      · rw [pk_sub (show l ≤ s + l - 1 by omega), nI_1]
        congr 1
        omega
    have fin : ∀ x : Nat, x = sm F (s + l) - sm F s → f_X7_shortestRow_76 (f_X7_shortestRow_19 k2 fu) (lN (p * W)) (nI l) (lN x) (nI (s + l - 1)) (nI s) σ = match sin_ (sgd F (p * W) l) (k + 1) s with | some s' => some (nI (100 * s' + (s' + l - 1)), σ) | none => k2 (lN (p * W)) (nI l) σ := fun x hx => by
      unfold f_X7_shortestRow_76 f_X7_shortestRow_101 sin_
      rw [if_neg (nI_pos (show s < 2 ^ 31 by omega)), hx]
      by_cases c : p * W ≤ (sm F (s + l) - sm F s) * 1000
      · rw [if_neg (fun q => (sp_lt hF (by omega) hp hW).mp q c), if_pos (show sgd F (p * W) l s = true from decide_eq_true c), show (100 : Int32) = nI 100 from rfl, pk_mul, nI_add]
      · rw [if_pos ((sp_lt hF (by omega) hp hW).mpr c), if_neg (show ¬ sgd F (p * W) l s = true from fun q => c (of_decide_eq_true q)), nI_1]
        have e := ih fu (s + 1) (by omega) (by omega)
        rw [show s + 1 + l - 1 = s + l by omega, show s + 1 - 1 = s by omega] at e
        rw [show s + l - 1 + 1 = s + l by omega]
        exact e
    have e1 : sm F (s + l - 1) + F (s + l - 1) = sm F (s + l) := by
      obtain ⟨m, hm⟩ : ∃ m, s + l = m + 1 := ⟨s + l - 1, by omega⟩
      rw [hm, show m + 1 - 1 = m by omega]
      rfl
    have m1 := sm_mono (F := F) (show s - 1 ≤ s + l - 1 by omega)
    rw [f_X7_shortestRow_19, h0, if_neg (nI_ge (show s + l - 1 < n by omega) (by omega)), cI_t (ix_nI (show s + l - 1 < 40 by omega) (by decide)), ap, nI_clamp (show s + l - 1 < 2 ^ 31 by omega), h (s + l - 1) (by omega), lN_add, ap, z4]
    by_cases c : s = 0
    · subst c
      rw [if_pos (show nI 0 ≤ 0 by decide)]
      refine fin _ ?_
      rw [show sm F (0 - 1) = 0 from rfl, Nat.sub_zero, e1]
      rfl
    · obtain ⟨m, rfl⟩ : ∃ m, s = m + 1 := ⟨s - 1, by omega⟩
      have m2 := sm_mono (F := F) (show m + 1 ≤ m + 1 + l by omega)
      have m3 : sm F (m + 1) = sm F m + F m := rfl
      rw [show m + 1 - 1 = m by omega] at m1 ⊢
      rw [if_neg (nI_nle (by omega) (by omega)), nI_pred, cI_t (ix_nI (show m < 40 by omega) (by decide)), ap, nI_clamp (show m < 2 ^ 31 by omega), h m (by omega), lN_sub (by omega)]
      exact fin _ (by omega)
/-- before the row is full -/
theorem sp19a {n l p W : Nat} {F : Nat → Nat} {σ : St} (hn : n ≤ 40) (hl : l ≤ n) (hl0 : 0 < l) (hp : p ≤ 1000) (hW : W ≤ 4000000000000000) (hF : sm F n ≤ 4000000000000000) (h0 : σ.1 1 0 = nI n) (h : ∀ y, y < n → σ.2 80 y = lN (F y)) (k2 : Int64 → Int32 → St → Option (Int32 × St)) : ∀ (d fu y : Nat), y + d = l - 1 → n + 1 - l + d < fu → f_X7_shortestRow_19 k2 fu (lN (p * W)) (nI l) (lN (sm F y)) (nI y) σ = match sin_ (sgd F (p * W) l) (n + 1 - l) 0 with | some s' => some (nI (100 * s' + (s' + l - 1)), σ) | none => k2 (lN (p * W)) (nI l) σ := by
  intro d
  induction d with
  | zero =>
    intro fu y hy hfu
    have e := sp19 hn hl hl0 hp hW hF h0 h k2 (n + 1 - l) fu 0 (by omega) (by omega)
    rw [show 0 + l - 1 = y by omega, show sm F (0 - 1) = 0 from rfl, Nat.sub_zero] at e
    exact e
  | succ d ih =>
    intro fu y hy hfu
    obtain ⟨fu, rfl⟩ : ∃ m, fu = m + 1 := ⟨fu - 1, by omega⟩
    have zi : (nI y - nI l + 1).toInt = (y : Int) - l + 1 := by
      rw [subp1, pk_sub_toInt (by omega) (by omega)]
      omega
    have z0 : (0 : Int32).toInt = 0 := rfl
    rw [f_X7_shortestRow_19, h0, if_neg (nI_ge (show y < n by omega) (by omega)), cI_t (ix_nI (show y < 40 by omega) (by decide)), ap, nI_clamp (show y < 2 ^ 31 by omega), h y (by omega), lN_add, ap, if_pos (show nI y - nI l + 1 ≤ 0 by rw [I_le, zi, z0]; omega)]
    unfold f_X7_shortestRow_76 f_X7_shortestRow_101
    rw [if_pos (show nI y - nI l + 1 < 0 by rw [I_lt, zi, z0]; omega), nI_1]
    exact ih fu (y + 1) (by omega) (by omega)
theorem sin_le {gd : Nat → Bool} : ∀ {k s s' : Nat}, sin_ gd k s = some s' → s ≤ s' ∧ s' < s + k
  | 0, _, _, h => by unfold sin_ at h; cases h
  | k + 1, s, s', h => by
    unfold sin_ at h
    by_cases c : gd s = true
    · rw [if_pos c] at h
      cases h
      omega
    · rw [if_neg c] at h
      have := sin_le h
      omega
theorem sp_both {n p W : Nat} {F : Nat → Nat} {σ τ : St} (hn : n ≤ 40) (hn0 : 0 < n) (hp : p ≤ 1000) (hW : W ≤ 4000000000000000) (hF : sm F n = W) (c0 : σ.1 1 0 = nI n) (hc : ∀ y, y < n → σ.2 80 y = lN (F y)) (m0 : τ.1 0 0 = nI n) (hw : τ.2 0 33 = lN W) (hm : ∀ y, y < n → τ.2 23 y = lN (F y)) : ∀ (d fu l : Nat), 0 < l → l + d = n → d + 1 < fu → ∃ r, f_X7_shortestRow_2 fu (lN (p * W)) (nI l) σ = some (r, σ) ∧ f_X8_span_41 f_X8_span_117 fu (nI p) (nI l) τ = some (r, τ) := by
  intro d
  induction d with
  | zero =>
    intro fu l hl0 hl hfu
    obtain rfl : l = n := by omega
    obtain ⟨fu, rfl⟩ : ∃ m, fu = m + 1 := ⟨fu - 1, by omega⟩
    have e := sp19a hn (Nat.le_refl l) hl0 hp hW (by omega) c0 hc (f_X7_shortestRow_107 (f_X7_shortestRow_2 fu)) (l - 1) FU 0 (by omega) (FU_big (by omega))
    have g : sgd F (p * W) l 0 = true := by
      unfold sgd
      refine decide_eq_true ?_
      rw [Nat.zero_add, hF, show sm F 0 = 0 from rfl, Nat.sub_zero, Nat.mul_comm]
      exact Nat.mul_le_mul_left _ hp
    rw [show l + 1 - l = 0 + 1 by omega, show sin_ (sgd F (p * W) l) (0 + 1) 0 = some 0 by unfold sin_; rw [if_pos g]] at e
    refine ⟨nI (l - 1), ?_, ?_⟩
    · rw [f_X7_shortestRow_2, c0, if_neg (nI_nlt (Nat.le_refl _) (by omega)), show f_X7_shortestRow_19 (f_X7_shortestRow_107 (f_X7_shortestRow_2 fu)) FU (lN (p * W)) (nI l) 0 0 σ = _ from e]
      show some (nI (100 * 0 + (0 + l - 1)), σ) = _
      rw [show 100 * 0 + (0 + l - 1) = l - 1 by omega]
    · rw [f_X8_span_41, m0, if_pos (nI_le (Nat.le_refl _) (by omega))]
      obtain ⟨m, rfl⟩ : ∃ m, l = m + 1 := ⟨l - 1, by omega⟩
      rw [nI_pred]
      rfl
  | succ d ih =>
    intro fu l hl0 hl hfu
    obtain ⟨fu, rfl⟩ : ∃ m, fu = m + 1 := ⟨fu - 1, by omega⟩
    have e := sp19a hn (show l ≤ n by omega) hl0 hp hW (by omega) c0 hc (f_X7_shortestRow_107 (f_X7_shortestRow_2 fu)) (l - 1) FU 0 (by omega) (FU_big (by omega))
    have e2 := sp53 hn (show l ≤ n by omega) hp hW (by omega) m0 hw hm f_X8_span_117 (f_X8_span_137 (f_X8_span_41 f_X8_span_117 fu)) (n + 1 - l) FU 0 (by omega) (FU_big (by omega))
    rw [f_X7_shortestRow_2, c0, if_neg (nI_nlt (show l ≤ n by omega) (by omega)), show f_X7_shortestRow_19 (f_X7_shortestRow_107 (f_X7_shortestRow_2 fu)) FU (lN (p * W)) (nI l) 0 0 σ = _ from e, f_X8_span_41, m0, if_neg (nI_ge (show l < n by omega) (by omega)), show f_X8_span_53 f_X8_span_117 (f_X8_span_137 (f_X8_span_41 f_X8_span_117 fu)) FU (nI p) (nI l) 0 τ = _ from e2]
    cases hs : sin_ (sgd F (p * W) l) (n + 1 - l) 0 with
    | some s' =>
      have hb := sin_le hs
      refine ⟨nI (100 * s' + (s' + l - 1)), rfl, ?_⟩
      show f_X8_span_117 (nI l) (nI s') τ = _
      unfold f_X8_span_117
      obtain ⟨m, rfl⟩ : ∃ m, l = m + 1 := ⟨l - 1, by omega⟩
      rw [show (100 : Int32) = nI 100 from rfl, pk_mul, nI_add, nI_add, ← Nat.add_assoc, nI_pred]
      congr 3
      omega
    | none =>
      show ∃ r, f_X7_shortestRow_107 (f_X7_shortestRow_2 fu) (lN (p * W)) (nI l) σ = some (r, σ) ∧ f_X8_span_137 (f_X8_span_41 f_X8_span_117 fu) (nI p) (nI l) τ = some (r, τ)
      unfold f_X7_shortestRow_107 f_X8_span_137
      rw [nI_1]
      exact ih fu (l + 1) (by omega) (by omega) (by omega)
theorem ag_span : Ag_span Rel := by
  rintro a0 a1 σ τ ⟨T, H⟩
  unfold f_X7_span f_X8_span
  rcases isFind_c (x := a0) H.1.2.1 H.2.1.1.2 H.2.2.1.1.2 with ⟨e1, e2⟩ | ⟨i, hi, rfl, e1, e2⟩
  · rw [e1, e2]
    exact ⟨-2, σ, τ, rfl, rfl, T, H⟩
  · rw [e1, e2, bS, bS, if_neg one_ne, if_neg one_ne]
    have hn := H.1.1
    rcases rng3 a1 1 1000 1001 1 1000 rfl rfl rfl (by decide) (by decide) with c | ⟨c, c2, c3, c4, c5⟩ | ⟨p, ⟨p1, p2⟩, rfl, c1, c2, c3, c4, c5⟩
    · rw [if_pos c, isIn_f τ (Or.inl c)]
      exact ⟨-2, σ, τ, rfl, rfl, T, H⟩
    · rw [if_neg c, if_neg c4, isIn_f τ (Or.inr c2)]
      exact ⟨-2, σ, τ, rfl, rfl, T, H⟩
    · rw [if_neg c1, if_pos c4, isIn_t τ c1 c2, bS, if_neg one_ne]
      refine share_coreI H (fun w s => (f_X0_countEachYear (nI i) s).bind (fun q7 => (f_X7_shortestRow ((nI p).toInt64 * w) q7).bind (fun q8 => some (q8.1, q8.2)))) (fun s => (f_X8_tellYears (nI i) s).bind (fun q7 => (f_X8_span_41 (f_X8_span_117) FU) (nI p) (1 : Int32) q7)) (fun h0 hle σ1 τ1 hc hm => ?_)
      obtain ⟨σ2, τ2, g1, g2, g3, g4, g5, g6⟩ := each_both H hc hm hi
      obtain ⟨r, b1, b2⟩ := sp_both (n := tn T) (p := p) (W := TT T) (F := Cy T i) hn.2 (by omega) p2 hle (Cy_sum hi) (g5.2.2.tel H.1.2.1 (by decide) H.2.1).1.1 g3 (g6.2.1.tel H.2.2.1).1.1 g6.2.2 g4 (tn T - 1) FU 1 (by omega) (by omega) (FU_big (by omega))
      rw [g1, g2, bS, bS, nI_l (by omega), lN_mul]
      unfold f_X7_shortestRow
      rw [show f_X7_shortestRow_2 FU (lN (p * TT T)) 1 σ2 = _ from b1, bS]
      exact ⟨r, σ2, τ2, rfl, b2, T, RelT_same g5.2.2.C g6.2.1.M H⟩
