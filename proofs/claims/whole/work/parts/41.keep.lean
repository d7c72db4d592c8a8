theorem FU_big {n : Nat} (h : n < 10000) : n < FU := Nat.lt_trans h (by decide)
theorem z_0 : (0 : Int32).toNatClampNeg = 0 := by decide
theorem z_1 : (1 : Int32).toNatClampNeg = 1 := by decide
theorem cpy_in {α : Type} {f g : Nat → α} {n j : Nat} (h : j < n) : va_cpy f g 0 0 n j = f j := by
  rw [pk_cpy_in (by omega) (by omega)]
  congr 1
  omega
theorem cpF {a b : Nat} {σ : St} (hab : a + 2 < b ∨ b + 2 < a) : ∃ σ', f_X1_copyFrom a b σ = some σ' ∧ (σ'.1 a 0 = σ.1 b 0 ∧ σ'.1 a 1 = σ.1 b 1 ∧ σ'.1 a 2 = σ.1 b 2) ∧ (∀ j, j < 5 → σ'.1 (a + 1) j = σ.1 (b + 1) j ∧ σ'.1 (a + 2) j = σ.1 (b + 2) j) ∧ σ'.2 = σ.2 ∧ ∀ c, (c < a ∨ a + 3 ≤ c) → σ'.1 c = σ.1 c := by
  have c5 : cpk 0 0 5 5 5 = true := by decide
  have l5 : (5 : Int32).toNatClampNeg = 5 := by decide
  unfold f_X1_copyFrom
  simp only [ap, cI_t c5, z_0, l5]
  refine ⟨_, rfl, ⟨?_, ?_, ?_⟩, fun j hj => ⟨?_, ?_⟩, rfl, fun c hc => ?_⟩
  · rw [rw1_r (by omega), rw1_r (by omega), up1_ne (by omega), up1_ne (by omega), up1_eq]
  · rw [rw1_r (by omega), rw1_r (by omega), up1_ne (by omega), up1_eq, up1_r (by omega)]
  · rw [rw1_r (by omega), rw1_r (by omega), up1_eq, up1_r (by omega), up1_r (by omega)]
  · rw [rw1_r (by omega), rw1_row, cpy_in hj, up1_r (by omega), up1_r (by omega), up1_r (by omega)]
  · rw [rw1_row, cpy_in hj, rw1_r (by omega), up1_r (by omega), up1_r (by omega), up1_r (by omega)]
  · rw [rw1_r (by omega), rw1_r (by omega), up1_r (by omega), up1_r (by omega), up1_r (by omega)]
theorem cpP {a b : Nat} {σ : St} (hab : a + 2 < b ∨ b + 2 < a) : ∃ σ', f_X2_copyFrom a b σ = some σ' ∧ (∀ j, j < 7 → σ'.1 (a + 1) j = σ.1 (b + 1) j ∧ σ'.1 (a + 2) j = σ.1 (b + 2) j) ∧ σ'.2 = σ.2 ∧ ∀ c, (c ≠ a + 1 ∧ c ≠ a + 2) → σ'.1 c = σ.1 c := by
  have c5 : cpk 0 0 7 7 7 = true := by decide
  have l5 : (7 : Int32).toNatClampNeg = 7 := by decide
  unfold f_X2_copyFrom
  simp only [ap, cI_t c5, z_0, l5]
  refine ⟨_, rfl, fun j hj => ⟨?_, ?_⟩, rfl, fun c hc => ?_⟩
  · rw [rw1_r (by omega), rw1_row, cpy_in hj]
  · rw [rw1_row, cpy_in hj, rw1_r (by omega)]
  · rw [rw1_r (by omega), rw1_r (by omega)]
theorem cpLoop {t s f : Nat} (hts : (t = 29 ∧ s = 1) ∨ (t = 1 ∧ s = 29)) (hf : f ≤ 7) (kk : Nat → Nat → St → Option St) : ∀ (fu i : Nat) (σ : St), σ.1 s 3 = nI f → i ≤ f → f - i < fu → ∃ σ', f_X5_copyFrom_48 kk fu t s (nI i) σ = kk t s σ' ∧ (∀ k, i ≤ k → k < f → (σ'.1 (t + 7 + 3 * k) 0 = σ.1 (s + 7 + 3 * k) 0 ∧ σ'.1 (t + 7 + 3 * k) 1 = σ.1 (s + 7 + 3 * k) 1 ∧ σ'.1 (t + 7 + 3 * k) 2 = σ.1 (s + 7 + 3 * k) 2) ∧ ∀ j, j < 5 → σ'.1 (t + 8 + 3 * k) j = σ.1 (s + 8 + 3 * k) j ∧ σ'.1 (t + 9 + 3 * k) j = σ.1 (s + 9 + 3 * k) j) ∧ σ'.2 = σ.2 ∧ ∀ c, (c < t + 7 + 3 * i ∨ t + 28 ≤ c) → σ'.1 c = σ.1 c := by
  intro fu
  induction fu with
  | zero => intro i σ _ _ h; omega
  | succ fu ih =>
    intro i σ hs hi hfu
    rw [f_X5_copyFrom_48, hs]
    rcases Nat.lt_or_ge i f with q | q
    · have ci := ix_nI (show i < 7 by omega) (by decide)
      obtain ⟨σ1, p1, p2, p3, p4, p5⟩ := cpF (a := t + 3 + 4 + 3 * i) (b := s + 3 + 4 + 3 * i) (σ := σ) (by omega)
      rw [if_neg (nI_ge q (by omega)), cI_t ci, cI_t ci, nI_clamp (by omega), p1, bS, nI_1]
      obtain ⟨σ2, r1, r2, r3, r4⟩ := ih (i + 1) σ1 (by rw [p5 s (by omega)]; exact hs) (by omega) (by omega)
      refine ⟨σ2, r1, fun k hk1 hk2 => ?_, r3.trans p4, fun c hc => by rw [r4 c (by omega), p5 c (by omega)]⟩
      by_cases e : k = i
      · subst e
        rw [r4 (t + 7 + 3 * k) (by omega), r4 (t + 8 + 3 * k) (by omega), r4 (t + 9 + 3 * k) (by omega)]
        rw [show t + 3 + 4 + 3 * k = t + 7 + 3 * k by omega, show s + 3 + 4 + 3 * k = s + 7 + 3 * k by omega] at p2 p3
        rw [show t + 7 + 3 * k + 1 = t + 8 + 3 * k by omega, show t + 7 + 3 * k + 2 = t + 9 + 3 * k by omega, show s + 7 + 3 * k + 1 = s + 8 + 3 * k by omega, show s + 7 + 3 * k + 2 = s + 9 + 3 * k by omega] at p3
        exact ⟨p2, p3⟩
      · have := r2 k (by omega) hk2
        rw [p5 (s + 7 + 3 * k) (by omega), p5 (s + 8 + 3 * k) (by omega), p5 (s + 9 + 3 * k) (by omega)] at this
        exact this
    · obtain rfl : i = f := by omega
      rw [if_pos (by rw [I_le]; omega)]
      exact ⟨σ, rfl, fun k h1 h2 => by omega, rfl, fun _ _ => rfl⟩
theorem copy_eq {t s : Nat} (hts : (t = 29 ∧ s = 1) ∨ (t = 1 ∧ s = 29)) {σ : St} {T : Tl} (ho : Okt T) (H : TelC s σ.1 T) : ∃ σ', f_X5_copyFrom t s σ = some σ' ∧ TelC t σ'.1 T ∧ σ'.2 = σ.2 ∧ ∀ a, (a < t ∨ t + 28 ≤ a) → σ'.1 a = σ.1 a := by
  have hf := ho.2.1
  obtain ⟨⟨k1, k2⟩, k3, k4, k5, k6⟩ := H
  have c40 : cpk 0 0 40 40 40 = true := by decide
  have l40 : (40 : Int32).toNatClampNeg = 40 := by decide
  have c21 : cpk 0 0 21 21 21 = true := by decide
  have l21 : (21 : Int32).toNatClampNeg = 21 := by decide
  have hb : 1000 < FU := FU_big (by omega)
  unfold f_X5_copyFrom
  generalize FU = fu at hb ⊢
  rw [ap, cI_t c40, ap, cI_t c21, ap, ap, z_0, l40, l21]
  generalize hσ1 : up1 (rw1 (rw1 (up1 σ t 0 (σ.1 s 0)) (t + 1) (va_cpy ((up1 σ t 0 (σ.1 s 0)).1 (s + 1)) ((up1 σ t 0 (σ.1 s 0)).1 (t + 1)) 0 0 40)) (t + 2) (va_cpy ((rw1 (up1 σ t 0 (σ.1 s 0)) (t + 1) (va_cpy ((up1 σ t 0 (σ.1 s 0)).1 (s + 1)) ((up1 σ t 0 (σ.1 s 0)).1 (t + 1)) 0 0 40)).1 (s + 2)) ((rw1 (up1 σ t 0 (σ.1 s 0)) (t + 1) (va_cpy ((up1 σ t 0 (σ.1 s 0)).1 (s + 1)) ((up1 σ t 0 (σ.1 s 0)).1 (t + 1)) 0 0 40)).1 (t + 2)) 0 0 21)) t 3 ((rw1 (rw1 (up1 σ t 0 (σ.1 s 0)) (t + 1) (va_cpy ((up1 σ t 0 (σ.1 s 0)).1 (s + 1)) ((up1 σ t 0 (σ.1 s 0)).1 (t + 1)) 0 0 40)) (t + 2) (va_cpy ((rw1 (up1 σ t 0 (σ.1 s 0)) (t + 1) (va_cpy ((up1 σ t 0 (σ.1 s 0)).1 (s + 1)) ((up1 σ t 0 (σ.1 s 0)).1 (t + 1)) 0 0 40)).1 (s + 2)) ((rw1 (up1 σ t 0 (σ.1 s 0)) (t + 1) (va_cpy ((up1 σ t 0 (σ.1 s 0)).1 (s + 1)) ((up1 σ t 0 (σ.1 s 0)).1 (t + 1)) 0 0 40)).1 (t + 2)) 0 0 21)).1 s 3) = σ1
  have g0 : σ1.1 t 0 = σ.1 s 0 := by rw [← hσ1, up1_ne (by omega), rw1_r (by omega), rw1_r (by omega), up1_eq]
  have g3 : σ1.1 t 3 = σ.1 s 3 := by rw [← hσ1, up1_eq, rw1_r (by omega), rw1_r (by omega), up1_r (by omega)]
  have gA : ∀ j, j < 40 → σ1.1 (t + 1) j = σ.1 (s + 1) j := fun j hj => by rw [← hσ1, up1_r (by omega), rw1_r (by omega), rw1_row, cpy_in hj, up1_r (by omega)]
  have gB : ∀ j, j < 21 → σ1.1 (t + 2) j = σ.1 (s + 2) j := fun j hj => by rw [← hσ1, up1_r (by omega), rw1_row, cpy_in hj, rw1_r (by omega), up1_r (by omega)]
  have gO : ∀ a, (a < t ∨ t + 3 ≤ a) → σ1.1 a = σ.1 a := fun a ha => by rw [← hσ1, up1_r (by omega), rw1_r (by omega), rw1_r (by omega), up1_r (by omega)]
  have g2 : σ1.2 = σ.2 := by rw [← hσ1]; rfl
  obtain ⟨σ2, r1, r2, r3, r4⟩ := cpLoop hts hf f_X5_copyFrom_77 fu 0 σ1 (by rw [gO s (by omega)]; exact k2) (by omega) (by omega)
  rw [nI_0] at r1
  obtain ⟨σ3, p1, p2, p3, p4⟩ := cpP (a := t + 4) (b := s + 4) (σ := σ2) (by omega)
  refine ⟨σ3, ?_, ⟨⟨?_, ?_⟩, fun j hj => ?_, fun j hj => ?_, fun i hi => ?_, fun k hk => ?_⟩, p3.trans (r3.trans g2), fun a ha => ?_⟩
  · rw [r1]
    unfold f_X5_copyFrom_77
    rw [p1, bS]
  · rw [p4 _ (by omega), r4 _ (by omega), g0]; exact k1
  · rw [p4 _ (by omega), r4 _ (by omega), g3]; exact k2
  · rw [p4 _ (by omega), r4 _ (by omega), gA j hj]; exact k3 j hj
  · rw [p4 _ (by omega), r4 _ (by omega), gB j hj]; exact k4 j hj
  · obtain ⟨q1, q2⟩ := r2 i (by omega) hi
    rw [gO (s + 7 + 3 * i) (by omega)] at q1
    rw [gO (s + 8 + 3 * i) (by omega), gO (s + 9 + 3 * i) (by omega)] at q2
    have qq := k5 i hi
    have o3 := (ho.2.2.2.2.1 i hi).2.2.1
    unfold FindC at qq ⊢
    rw [p4 _ (by omega), p4 _ (by omega), p4 _ (by omega), q1.1, q1.2.1, q1.2.2]
    exact ⟨qq.1, qq.2.1, qq.2.2.1, fun j hj => by rw [(q2 j (by omega)).1, (q2 j (by omega)).2]; exact qq.2.2.2 j hj⟩
  · have e := p2 k hk
    rw [show t + 4 + 1 = t + 5 by omega, show t + 4 + 2 = t + 6 by omega, show s + 4 + 1 = s + 5 by omega, show s + 4 + 2 = s + 6 by omega] at e
    rw [e.1, e.2, r4 (s + 5) (by omega), r4 (s + 6) (by omega), gO (s + 5) (by omega), gO (s + 6) (by omega)]
    exact k6 k hk
  · rw [p4 a (by omega), r4 a (by omega), gO a (by omega)]
/-! the reference's carrying -/
theorem carry0 (k1 n1 n at0 : Nat) (hk : k1 ≠ 10) (hn : n ≤ n1) (hn1 : n1 < 1000) (ha : at0 + n ≤ 260) : ∀ (fu i : Nat) (τ : St), i ≤ n → n - i < fu → ∃ τ', f_X8_carry_3 fu k1 n1 (nI n) (nI at0) 0 (nI i) τ = some (nI (at0 + n), τ') ∧ (∀ p, τ'.1 10 p = if at0 + i ≤ p ∧ p < at0 + n then τ.1 k1 (p - at0) else τ.1 10 p) ∧ τ'.2 = τ.2 ∧ ∀ a, a ≠ 10 → τ'.1 a = τ.1 a := by
  intro fu
  induction fu with
  | zero => intro i τ _ h; omega
  | succ fu ih =>
    intro i τ hi hfu
    rw [f_X8_carry_3]
    rcases Nat.lt_or_ge i n with q | q
    · rw [if_neg (nI_ge q (by omega)), if_pos rfl, cI_t (ix_nI (show i < n1 by omega) (by omega)), nI_add, cI_t (ix_nI (show at0 + i < 260 by omega) (by decide)), ap, nI_clamp (by omega), nI_clamp (by omega)]
      unfold f_X8_carry_43
      rw [nI_1]
      obtain ⟨τ', r1, r2, r3, r4⟩ := ih (i + 1) (up1 τ 10 (at0 + i) (τ.1 k1 i)) (by omega) (by omega)
      refine ⟨τ', r1, fun p => ?_, r3, fun a h => by rw [r4 a h, up1_r h]⟩
      rw [r2 p, up1_r hk]
      by_cases e : p = at0 + i
      · subst e
        rw [if_neg (by omega), if_pos (by omega), up1_eq, Nat.add_sub_cancel_left]
      · by_cases e2 : at0 + (i + 1) ≤ p ∧ p < at0 + n
        · rw [if_pos e2, if_pos (by omega)]
        · rw [if_neg e2, if_neg (by omega), up1_ne (by omega)]
    · obtain rfl : i = n := by omega
      rw [if_pos (by rw [I_le]; omega), nI_add]
      exact ⟨τ, rfl, fun p => by rw [if_neg (by omega)], rfl, fun _ _ => rfl⟩
theorem carry1 (k1 n1 n at0 : Nat) (hk : k1 ≠ 10) (hn : n ≤ n1) (hn1 : n1 < 1000) (ha : at0 + n ≤ 260) : ∀ (fu i : Nat) (τ : St), i ≤ n → n - i < fu → ∃ τ', f_X8_carry_3 fu k1 n1 (nI n) (nI at0) 1 (nI i) τ = some (nI (at0 + n), τ') ∧ (∀ p, τ'.1 k1 p = if i ≤ p ∧ p < n then τ.1 10 (at0 + p) else τ.1 k1 p) ∧ τ'.2 = τ.2 ∧ ∀ a, a ≠ k1 → τ'.1 a = τ.1 a := by
  intro fu
  induction fu with
  | zero => intro i τ _ h; omega
  | succ fu ih =>
    intro i τ hi hfu
    rw [f_X8_carry_3]
    rcases Nat.lt_or_ge i n with q | q
    · rw [if_neg (nI_ge q (by omega)), if_neg one_ne, nI_add, cI_t (ix_nI (show at0 + i < 260 by omega) (by decide)), cI_t (ix_nI (show i < n1 by omega) (by omega)), ap, nI_clamp (by omega), nI_clamp (by omega)]
      unfold f_X8_carry_43
      rw [nI_1]
      obtain ⟨τ', r1, r2, r3, r4⟩ := ih (i + 1) (up1 τ k1 i (τ.1 10 (at0 + i))) (by omega) (by omega)
      refine ⟨τ', r1, fun p => ?_, r3, fun a h => by rw [r4 a h, up1_r h]⟩
      rw [r2 p, up1_r (fun h => hk h.symm)]
      by_cases e : p = i
      · subst e
        rw [if_neg (by omega), if_pos (by omega), up1_eq]
      · by_cases e2 : i + 1 ≤ p ∧ p < n
        · rw [if_pos e2, if_pos (by omega)]
        · rw [if_neg e2, if_neg (by omega), up1_ne (by omega)]
    · obtain rfl : i = n := by omega
      rw [if_pos (by rw [I_le]; omega), nI_add]
      exact ⟨τ, rfl, fun p => by rw [if_neg (by omega)], rfl, fun _ _ => rfl⟩
theorem carry0' {k1 n1 n at0 : Nat} {τ : St} (x2 x3 : Int32) (e2 : x2 = nI n) (e3 : x3 = nI at0) (hk : k1 ≠ 10) (hn : n ≤ n1) (hn1 : n1 < 1000) (ha : at0 + n ≤ 260) : ∃ τ', f_X8_carry k1 n1 x2 x3 0 τ = some (nI (at0 + n), τ') ∧ (∀ p, τ'.1 10 p = if at0 ≤ p ∧ p < at0 + n then τ.1 k1 (p - at0) else τ.1 10 p) ∧ τ'.2 = τ.2 ∧ ∀ a, a ≠ 10 → τ'.1 a = τ.1 a := by
  subst e2; subst e3
  exact carry0 k1 n1 n at0 hk hn hn1 ha FU 0 τ (by omega) (FU_big (by omega))
theorem carry1' {k1 n1 n at0 : Nat} {τ : St} (x2 x3 : Int32) (e2 : x2 = nI n) (e3 : x3 = nI at0) (hk : k1 ≠ 10) (hn : n ≤ n1) (hn1 : n1 < 1000) (ha : at0 + n ≤ 260) : ∃ τ', f_X8_carry k1 n1 x2 x3 1 τ = some (nI (at0 + n), τ') ∧ (∀ p, p < n → τ'.1 k1 p = τ.1 10 (at0 + p)) ∧ τ'.2 = τ.2 ∧ ∀ a, a ≠ k1 → τ'.1 a = τ.1 a := by
  subst e2; subst e3
  obtain ⟨τ', r1, r2, r3, r4⟩ := carry1 k1 n1 n at0 hk hn hn1 ha FU 0 τ (by omega) (FU_big (by omega))
  exact ⟨τ', r1, fun p hp => by rw [r2 p, if_pos (by omega)], r3, r4⟩
/-- all is carried to what is kept -/
theorem save_eq {τ : St} : ∃ τ', f_X8_carryAll 0 τ = some τ' ∧ (τ'.1 10 0 = τ.1 0 0 ∧ τ'.1 10 1 = τ.1 0 3) ∧ (∀ j, j < 40 → τ'.1 10 (2 + j) = τ.1 1 j) ∧ (∀ j, j < 21 → τ'.1 10 (42 + j) = τ.1 2 j) ∧ (∀ j, j < 7 → τ'.1 10 (63 + j) = τ.1 3 j ∧ τ'.1 10 (70 + j) = τ.1 4 j ∧ τ'.1 10 (77 + j) = τ.1 5 j) ∧ (∀ j, j < 35 → τ'.1 10 (84 + j) = τ.1 6 j ∧ τ'.1 10 (119 + j) = τ.1 7 j) ∧ (∀ j, j < 49 → τ'.1 10 (154 + j) = τ.1 8 j) ∧ τ'.2 = τ.2 ∧ ∀ a, (a ≠ 10 ∧ a ≠ 24) → τ'.1 a = τ.1 a := by
  have c0 : ix 0 2 = true := by decide
  have c1 : ix 1 2 = true := by decide
  obtain ⟨τ0, h0⟩ : ∃ z, z = up1 (up1 τ 24 0 (τ.1 0 0)) 24 1 (τ.1 0 3) := ⟨_, rfl⟩
  have f0 : ∀ a, a ≠ 24 → τ0.1 a = τ.1 a := fun a ha => by rw [h0, up1_r ha, up1_r ha]
  have v0 : τ0.1 24 0 = τ.1 0 0 := by rw [h0, up1_ne (by omega), up1_eq]
  have v1 : τ0.1 24 1 = τ.1 0 3 := by rw [h0, up1_eq]
  obtain ⟨t1, p1, q1, s1, r1⟩ := carry0' (k1 := 24) (n1 := 2) (n := 2) (at0 := 0) (τ := τ0) 2 0 rfl rfl (by omega) (by omega) (by omega) (by omega)
  obtain ⟨t2, p2, q2, s2, r2⟩ := carry0' (k1 := 1) (n1 := 40) (n := 40) (at0 := 2) (τ := t1) 40 (nI 2) rfl rfl (by omega) (by omega) (by omega) (by omega)
  obtain ⟨t3, p3, q3, s3, r3⟩ := carry0' (k1 := 2) (n1 := 21) (n := 21) (at0 := 42) (τ := t2) 21 (nI 42) rfl rfl (by omega) (by omega) (by omega) (by omega)
  obtain ⟨t4, p4, q4, s4, r4⟩ := carry0' (k1 := 3) (n1 := 7) (n := 7) (at0 := 63) (τ := t3) 7 (nI 63) rfl rfl (by omega) (by omega) (by omega) (by omega)
  obtain ⟨t5, p5, q5, s5, r5⟩ := carry0' (k1 := 4) (n1 := 7) (n := 7) (at0 := 70) (τ := t4) 7 (nI 70) rfl rfl (by omega) (by omega) (by omega) (by omega)
  obtain ⟨t6, p6, q6, s6, r6⟩ := carry0' (k1 := 5) (n1 := 7) (n := 7) (at0 := 77) (τ := t5) 7 (nI 77) rfl rfl (by omega) (by omega) (by omega) (by omega)
  obtain ⟨t7, p7, q7, s7, r7⟩ := carry0' (k1 := 6) (n1 := 35) (n := 35) (at0 := 84) (τ := t6) 35 (nI 84) rfl rfl (by omega) (by omega) (by omega) (by omega)
  obtain ⟨t8, p8, q8, s8, r8⟩ := carry0' (k1 := 7) (n1 := 35) (n := 35) (at0 := 119) (τ := t7) 35 (nI 119) rfl rfl (by omega) (by omega) (by omega) (by omega)
  obtain ⟨t9, p9, q9, s9, r9⟩ := carry0' (k1 := 8) (n1 := 49) (n := 49) (at0 := 154) (τ := t8) 49 (nI 154) rfl rfl (by omega) (by omega) (by omega) (by omega)
  have R : ∀ a, a ≠ 10 → t9.1 a = τ0.1 a := fun a ha => by rw [r9 a ha, r8 a ha, r7 a ha, r6 a ha, r5 a ha, r4 a ha, r3 a ha, r2 a ha, r1 a ha]
  have w : ∀ p, (up1 (up1 t9 0 0 (t9.1 24 0)) 0 3 ((up1 t9 0 0 (t9.1 24 0)).1 24 1)).1 10 p = t9.1 10 p := fun p => by rw [up1_r (by omega), up1_r (by omega)]
  refine ⟨up1 (up1 t9 0 0 (t9.1 24 0)) 0 3 ((up1 t9 0 0 (t9.1 24 0)).1 24 1), ?_, ⟨?_, ?_⟩, fun j hj => ?_, fun j hj => ?_, fun j hj => ⟨?_, ?_, ?_⟩, fun j hj => ⟨?_, ?_⟩, fun j hj => ?_, ?_, fun a ha => ?_⟩
  · unfold f_X8_carryAll
    rw [cI_t c0, ap, z_0, cI_t c1, ap, z_1, show (up1 τ 24 0 (τ.1 0 0)).1 0 3 = τ.1 0 3 from by rw [up1_r (by omega)], ← h0, p1, bS, p2, bS, p3, bS, p4, bS, p5, bS, p6, bS, p7, bS, p8, bS, p9, bS, cI_t c0, ap, cI_t c1, ap]
  · rw [w, q9, if_neg (by omega), q8, if_neg (by omega), q7, if_neg (by omega), q6, if_neg (by omega), q5, if_neg (by omega), q4, if_neg (by omega), q3, if_neg (by omega), q2, if_neg (by omega), q1, if_pos (by omega)]
    exact v0
  · rw [w, q9, if_neg (by omega), q8, if_neg (by omega), q7, if_neg (by omega), q6, if_neg (by omega), q5, if_neg (by omega), q4, if_neg (by omega), q3, if_neg (by omega), q2, if_neg (by omega), q1, if_pos (by omega)]
    exact v1
  · rw [w, q9, if_neg (by omega), q8, if_neg (by omega), q7, if_neg (by omega), q6, if_neg (by omega), q5, if_neg (by omega), q4, if_neg (by omega), q3, if_neg (by omega), q2, if_pos (by omega), r1 1 (by omega), f0 1 (by omega), Nat.add_sub_cancel_left]
  · rw [w, q9, if_neg (by omega), q8, if_neg (by omega), q7, if_neg (by omega), q6, if_neg (by omega), q5, if_neg (by omega), q4, if_neg (by omega), q3, if_pos (by omega), r2 2 (by omega), r1 2 (by omega), f0 2 (by omega), Nat.add_sub_cancel_left]
  · rw [w, q9, if_neg (by omega), q8, if_neg (by omega), q7, if_neg (by omega), q6, if_neg (by omega), q5, if_neg (by omega), q4, if_pos (by omega), r3 3 (by omega), r2 3 (by omega), r1 3 (by omega), f0 3 (by omega), Nat.add_sub_cancel_left]
  · rw [w, q9, if_neg (by omega), q8, if_neg (by omega), q7, if_neg (by omega), q6, if_neg (by omega), q5, if_pos (by omega), r4 4 (by omega), r3 4 (by omega), r2 4 (by omega), r1 4 (by omega), f0 4 (by omega), Nat.add_sub_cancel_left]
  · rw [w, q9, if_neg (by omega), q8, if_neg (by omega), q7, if_neg (by omega), q6, if_pos (by omega), r5 5 (by omega), r4 5 (by omega), r3 5 (by omega), r2 5 (by omega), r1 5 (by omega), f0 5 (by omega), Nat.add_sub_cancel_left]
  · rw [w, q9, if_neg (by omega), q8, if_neg (by omega), q7, if_pos (by omega), r6 6 (by omega), r5 6 (by omega), r4 6 (by omega), r3 6 (by omega), r2 6 (by omega), r1 6 (by omega), f0 6 (by omega), Nat.add_sub_cancel_left]
  · rw [w, q9, if_neg (by omega), q8, if_pos (by omega), r7 7 (by omega), r6 7 (by omega), r5 7 (by omega), r4 7 (by omega), r3 7 (by omega), r2 7 (by omega), r1 7 (by omega), f0 7 (by omega), Nat.add_sub_cancel_left]
  · rw [w, q9, if_pos (by omega), r8 8 (by omega), r7 8 (by omega), r6 8 (by omega), r5 8 (by omega), r4 8 (by omega), r3 8 (by omega), r2 8 (by omega), r1 8 (by omega), f0 8 (by omega), Nat.add_sub_cancel_left]
  · show t9.2 = τ.2
    rw [s9, s8, s7, s6, s5, s4, s3, s2, s1, h0]; rfl
  · by_cases e : a = 0
    · subst e
      funext j
      by_cases e3 : j = 3
      · subst e3
        rw [up1_eq, up1_r (by omega), R 24 (by omega), v1]
      · rw [up1_ne (by omega)]
        by_cases e0 : j = 0
        · subst e0
          rw [up1_eq, R 24 (by omega), v0]
        · rw [up1_ne (by omega), R 0 (by omega), f0 0 (by omega)]
    · rw [up1_r e, up1_r e, R a ha.1, f0 a ha.2]
theorem ag_keep : Ag_keep Rel := by
  rintro σ τ ⟨T, H⟩
  obtain ⟨h1, h2, h3, h4, h5, h6, h7, h8, h9, h10⟩ := H
  obtain ⟨σ1, p1, p2, p3, p4⟩ := copy_eq (t := 29) (s := 1) (Or.inl ⟨rfl, rfl⟩) h1 h2
  obtain ⟨τ1, q1, ⟨q2, q3⟩, q4, q5, q6, q7, q8, q9, q10⟩ := save_eq (τ := τ)
  have hf := h1.2.1
  obtain ⟨⟨m1, m2⟩, m3, m4, m5, m6⟩ := h3
  refine ⟨nI (tf T), up1 σ1 0 2 1, up1 τ1 0 13 1, ?_, ?_, T, h1, ?_, ?_, Or.inr ⟨up1_eq, up1_eq, T, h1, ?_, ?_⟩, ?_, ?_, ?_, ?_, ?_, ?_⟩
  · unfold f_X7_keep
    rw [p1, bS, ap, up1_r (by omega), p4 1 (by omega), h2.1.2]
  · unfold f_X8_keep
    rw [q1, bS, ap, up1_ne (by omega), q10 0 (by omega), m2]
  · exact TelC_congr hf (fun a a1 a2 => by rw [up1_r (by omega), p4 a (by omega)]) h2
  · exact TelM_congr (by rw [up1_ne (by omega), q10 0 (by omega)]) (by rw [up1_ne (by omega), q10 0 (by omega)]) (fun a a1 a2 => by rw [up1_r (by omega), q10 a (by omega)]) ⟨⟨m1, m2⟩, m3, m4, m5, m6⟩
  · exact TelC_congr hf (fun a a1 a2 => by rw [up1_r (by omega)]) p2
  · rw [up1_r (by omega)]
    refine ⟨⟨by rw [q2]; exact m1, by rw [q3]; exact m2⟩, fun j hj => by rw [q4 j hj]; exact m3 j hj, fun j hj => by rw [q5 j hj]; exact m4 j hj, fun i hi => ?_, fun i k hi hk => by rw [q8 _ (by omega)]; exact m6 i k hi hk⟩
    have o3 := (h1.2.2.2.2.1 i hi).2.2.1
    obtain ⟨g1, g2, g3, g4⟩ := m5 i hi
    obtain ⟨z1, z2, z3⟩ := q6 i (by omega)
    exact ⟨by rw [z1]; exact g1, by rw [z2]; exact g2, by rw [z3]; exact g3, fun j hj => ⟨by rw [(q7 (5 * i + j) (by omega)).1]; exact (g4 j hj).1, by rw [(q7 (5 * i + j) (by omega)).2]; exact (g4 j hj).2⟩⟩
  · exact SheetsR_congr (fun a a1 a2 => by rw [up1_r (by omega), p4 a (by omega)]) (by rw [up1_r (by omega), q10 _ (by omega)]) (by rw [up1_r (by omega), q10 _ (by omega)]) (by rw [up1_r (by omega), q10 _ (by omega)]) h5
  · exact TapeR_congr (by rw [up1_r (by omega), p4 _ (by omega)]) (by rw [up1_r (by omega), p4 _ (by omega)]) (by rw [up1_ne (by omega), q10 _ (by omega)]) (by rw [up1_r (by omega), q10 _ (by omega)]) h6
  · exact WaitR_congr (by rw [up1_ne (by omega), p4 _ (by omega)]) (by rw [up1_r (by omega), p4 _ (by omega)]) (by rw [up1_ne (by omega), q10 _ (by omega)]) (by rw [up1_r (by omega), q10 _ (by omega)]) h7
  · exact DrawR_congr (by rw [up1_ne (by omega), p4 _ (by omega)]) (by rw [up1_r (by omega), p4 _ (by omega)]) (by rw [up1_ne (by omega), q10 _ (by omega)]) (by rw [up1_r (by omega), q10 _ (by omega)]) h8
  · show σ1.2 0 11 = τ1.2 0 12
    rw [p3, q9]; exact h9
  · rw [up1_ne (by omega), p4 0 (by omega), up1_ne (by omega), q10 0 (by omega)]; exact h10
