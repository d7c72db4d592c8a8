theorem missOf_eq {τ : St} {T : Tl} (ho : Okt T) (H : TelM τ.1 T) {a y : Nat} (ha : a ≤ 2000) (hy : y < 40) : f_X8_missOf (nI a) (nI y) τ = some (nI (mis T a y), τ) := by
  obtain ⟨⟨m1, m2⟩, m3, m4, m5, m6⟩ := H
  have b := ho.2.2.1 y hy
  have ci := ix_nI hy (by decide : (40 : Nat) < 2 ^ 31)
  have key : f_X8_missOf_29 (nI (dst a (tc T y))) τ = some (nI (mis T a y), τ) := by
    have hd : dst a (tc T y) ≤ 4000 := by unfold dst; omega
    unfold f_X8_missOf_29 mis
    rcases Nat.lt_or_ge 20 (dst a (tc T y)) with q | q
    · have g : (21 : Int32) ≤ nI (dst a (tc T y)) := nI_le (a := 21) (by omega) (by omega)
      rw [if_pos g, if_neg (by omega)]; rfl
    · have g : ¬ (21 : Int32) ≤ nI (dst a (tc T y)) := nI_ge (b := 21) (by omega) (by decide)
      rw [if_neg g, if_pos q, cI_t (ix_nI (show dst a (tc T y) < 21 by omega) (by decide)), nI_clamp (by omega), m4 _ (by omega)]
  unfold f_X8_missOf
  rw [cI_t ci, nI_clamp (by omega), m3 y hy, cI_t ci]
  rcases Nat.lt_or_ge (tc T y) a with q | q
  · rw [if_neg (nI_ge q (by omega)), cI_t ci, pk_sub (by omega)]
    have : dst a (tc T y) = a - tc T y := by unfold dst; omega
    rw [this] at key; exact key
  · rw [if_pos (nI_le q (by omega)), pk_sub q]
    have : dst a (tc T y) = tc T y - a := by unfold dst; omega
    rw [this] at key; exact key
theorem plain43 {τ : St} {T : Tl} (ho : Okt T) (H : TelM τ.1 T) {i y : Nat} (hi : i < tf T) (hy : y < 40) : ∀ (fu j : Nat), j ≤ ta T i → ta T i - j < fu → f_X8_plain_43 fu (nI i) (nI y) (lN (pr (ffa T i y) j)) (nI j) τ = some (lN (pr (ffa T i y) (ta T i)), τ) := by
  have hf := ho.2.1
  obtain ⟨o0, o1, o2, o3, o4, o5, o6⟩ := ho.2.2.2.2.1 i hi
  obtain ⟨f0, f1, f2, f3⟩ := H.2.2.2.1 i hi
  have ci := ix_nI (show i < 7 by omega) (by decide)
  have hn := ho.1
  intro fu
  induction fu with
  | zero => intro j _ h; omega
  | succ fu ih =>
    intro j hj hfu
    rw [f_X8_plain_43, cI_t ci, nI_clamp (show i < 2 ^ 31 by omega), f2]
    rcases Nat.lt_or_ge j (ta T i) with q | q
    · obtain ⟨g1, g2⟩ := f3 j (Or.inr q)
      obtain ⟨b1, b2⟩ := o5 j (Or.inr q)
      have c35 := ix_nI (show 5 * i + j < 35 by omega) (by decide)
      rw [if_neg (nI_ge q (by omega)), mul5, cI_t c35, nI_clamp (show 5 * i + j < 2 ^ 31 by omega), g2, nI_add, ap, H.1.1]
      rcases Nat.lt_or_ge (y + tp T i j) (tn T) with hq | hq
      · have hff : ffa T i y j = mis T (tg T i j) (y + tp T i j) := by unfold ffa; rw [if_pos hq]
        have hm := mis_le ho (tg T i j) (y + tp T i j)
        rw [if_neg (nI_ge hq (by omega)), cI_t c35, g1, missOf_eq ho H b1 (by omega), bS]
        unfold f_X8_plain_101
        rw [nI_l (by omega), lN_mul, ← hff, nI_1]
        exact ih (j + 1) (by omega) (by omega)
      · have hz : ffa T i y j = 0 := by unfold ffa; rw [if_neg (by omega)]
        rw [if_pos (nI_le hq (by omega))]
        unfold f_X8_plain_101
        rw [show (0 : Int64) = lN (ffa T i y j) by rw [hz]; rfl, lN_mul, nI_1]
        exact ih (j + 1) (by omega) (by omega)
    · obtain rfl : j = ta T i := by omega
      rw [if_pos (by rw [I_le]; omega)]
theorem plain_eq {τ : St} {T : Tl} (ho : Okt T) (H : TelM τ.1 T) {i y : Nat} (hi : i < tf T) (hy : y < 40) : f_X8_plain (nI i) (nI y) τ = some (lN (plainv T i y), τ) := by
  have hf := ho.2.1
  obtain ⟨o0, o1, o2, o3, o4, o5, o6⟩ := ho.2.2.2.2.1 i hi
  obtain ⟨f0, f1, f2, f3⟩ := H.2.2.2.1 i hi
  have ci := ix_nI (show i < 7 by omega) (by decide)
  unfold f_X8_plain plainv
  rw [cI_t ci, nI_clamp (show i < 2 ^ 31 by omega), f0]
  rcases Nat.lt_or_ge (tk T i) 2 with h | h
  · have g : nI (tk T i) < 2 := nI_lt (b := 2) h (by decide)
    have := plain43 ho H hi hy FU 0 (by omega) (FU_big (by omega))
    rw [if_pos g, if_neg (by omega), if_neg (by omega)]
    exact this
  · have g : ¬ nI (tk T i) < 2 := nI_nlt (b := 2) h (by omega)
    rw [if_neg g, cI_t ci]
    by_cases h2 : tk T i = 2
    · rw [h2, if_pos (by decide), if_pos rfl]; rfl
    · have n2 : ¬ nI (tk T i) = 2 := fun q => h2 (nI_inj (b := 2) (by omega) (by decide) q)
      have g0 := (f3 0 (Or.inl rfl)).1
      have b := (o5 0 (Or.inl rfl)).1
      rw [Nat.add_zero] at g0
      rw [if_neg n2, if_neg h2, if_pos (show tk T i = 3 by omega), mul5', cI_t (ix_nI (show 5 * i < 35 by omega) (by decide)), nI_clamp (show 5 * i < 2 ^ 31 by omega), g0]
      by_cases e : tg T i 0 = y
      · rw [e, if_pos rfl, if_pos rfl]; rfl
      · rw [if_neg (fun q => e (nI_inj (by omega) (by omega) q)), if_neg e]; rfl
theorem meanOf_eq {τ : St} {T : Tl} (ho : Okt T) (H : TelM τ.1 T) {i : Nat} (hi : i < tf T) : f_X8_meanOf (nI i) τ = some (lN (meanv T i), τ) := by
  have hn := ho.1
  have hs : sm (plainv T i) (tn T) ≤ tn T * 59049 := sm_le (fun y _ => plainv_le ho hi y)
  have hs2 : tn T * 59049 ≤ 40 * 59049 := Nat.mul_le_mul_right _ (by omega)
  have key : ∀ (fu y : Nat), y ≤ tn T → tn T - y < fu → f_X8_meanOf_5 fu (nI i) (lN (sm (plainv T i) y)) (nI y) τ = some (lN (meanv T i), τ) := by
    intro fu
    induction fu with
    | zero => intro y _ h; omega
    | succ fu ih =>
      intro y hy hfu
      rw [f_X8_meanOf_5, H.1.1]
      rcases Nat.lt_or_ge y (tn T) with q | q
      · rw [if_neg (nI_ge q (by omega)), plain_eq ho H hi (by omega), bS, lN_add, nI_1]
        exact ih (y + 1) (by omega) (by omega)
      · obtain rfl : y = tn T := by omega
        have ne : ¬ lN (tn T) = 0 := fun h => by
          have := (pk_lEQ (a := tn T) (b := 0) (by omega) (by decide)).mp h
          omega
        rw [if_pos (by rw [I_le]; omega), nI_l (by omega), cI_t (by simp [ne]), pk_lDiv (by omega) (by omega) (by omega)]
        rfl
  exact key FU 0 (by omega) (FU_big (by omega))
theorem weightOf_eq {τ : St} {T : Tl} (ho : Okt T) (H : TelM τ.1 T) {i y : Nat} (hi : i < tf T) (hy : y < 40) : f_X8_weightOf (nI i) (nI y) τ = some (lN (wgt T i y), τ) := by
  have hf := ho.2.1
  obtain ⟨o0, o1, o2, o3, o4, o5, o6⟩ := ho.2.2.2.2.1 i hi
  obtain ⟨f0, f1, f2, f3⟩ := H.2.2.2.1 i hi
  have ci := ix_nI (show i < 7 by omega) (by decide)
  unfold f_X8_weightOf wgt
  rw [cI_t ci, nI_clamp (show i < 2 ^ 31 by omega), f1]
  by_cases h : to_ T i = 0
  · rw [h, if_pos (by decide), if_pos rfl, plain_eq ho H hi hy, bS]
  · rw [if_neg (nI_ne0 (by omega) (by omega)), if_neg h, plain_eq ho H hi hy, bS, meanOf_eq ho H hi, bS, show (10 : Int32) = nI 10 from rfl, pk_sub (by omega), nI_l (by omega), nI_l (by omega), lN_mul, lN_mul, lN_add]
theorem isYear_c {x : Int32} {σ τ : St} {n : Nat} (hn : n ≤ 40) (hc : σ.1 1 0 = nI n) (hm : τ.1 0 0 = nI n) : (f_X7_isYear x σ = some (0, σ) ∧ f_X8_isYear x τ = some (0, τ)) ∨ ∃ i : Nat, i < n ∧ x = nI i ∧ f_X7_isYear x σ = some (1, σ) ∧ f_X8_isYear x τ = some (1, τ) := by
  unfold f_X7_isYear f_X8_isYear
  rw [hc, hm]
  by_cases c1 : x < 0
  · simp [c1]
  · by_cases c2 : nI n ≤ x
    · simp [c1, c2]
    · right
      rw [I_lt] at c1
      rw [I_le, nI_toInt (by omega)] at c2
      have e0 : (0 : Int32).toInt = 0 := rfl
      refine ⟨x.toInt.toNat, by omega, ?_, ?_, ?_⟩
      · apply Int32.toInt_inj.mp
        rw [nI_toInt (by omega)]
        omega
      · rw [if_neg (by rw [I_lt]; omega), if_neg (by rw [I_le, nI_toInt (by omega)]; omega)]
      · rw [if_neg (by rw [I_lt]; omega), if_neg (by rw [I_le, nI_toInt (by omega)]; omega)]
theorem FindC_at {t i : Nat} {r : Nat → Nat → Int32} {T : Tl} (H : TelC t r T) (hi : i < tf T) {K : Nat} (hK : K = t + 7 + 3 * i) : FindC (r K) (r (K + 1)) (r (K + 2)) T i := by
  subst hK
  have := H.2.2.2.1 i hi
  rw [show t + 8 + 3 * i = t + 7 + 3 * i + 1 by omega, show t + 9 + 3 * i = t + 7 + 3 * i + 2 by omega] at this
  exact this
theorem ag_weight : Ag_weight Rel := by
  rintro a0 a1 σ τ ⟨T, H⟩
  rcases isFind_c (x := a0) H.1.2.1 H.2.1.1.2 H.2.2.1.1.2 with ⟨e1, e2⟩ | ⟨i, hi, rfl, e1, e2⟩
  · exact ⟨-2, σ, τ, by simp [f_X7_weight, e1], by simp [f_X8_weight, e2], T, H⟩
  · rcases isYear_c (x := a1) H.1.1.2 H.2.1.1.1 H.2.2.1.1.1 with ⟨g1, g2⟩ | ⟨y, hy, rfl, g1, g2⟩
    · exact ⟨-2, σ, τ, by simp [f_X7_weight, e1, g1], by simp [f_X8_weight, e2, g2], T, H⟩
    · have hf := H.1.2.1
      have hn := H.1.1.2
      have ci := ix_nI (show i < 7 by omega) (by decide)
      have hF := FindC_at H.2.1 hi (show 8 + 3 * i = 1 + 7 + 3 * i by omega)
      refine ⟨nI (wgt T i y), σ, τ, ?_, ?_, T, H⟩
      · unfold f_X7_weight
        rw [e1, bS, if_neg one_ne, g1, bS, if_neg one_ne, cI_t ci, nI_clamp (by omega), fl_id, plainAt_eq H.1 H.2.1 hi hF (by omega), bS, meanPlain_eq H.1 H.2.1 hi hF, bS, weightFrom_eq H.1 hi hF, bS]
      · unfold f_X8_weight
        rw [e2, bS, if_neg one_ne, g2, bS, if_neg one_ne, weightOf_eq H.1 H.2.2.1 hi (by omega), bS, lN_i]
theorem ytw_loop {t K i : Nat} {σ : St} {T : Tl} (ho : Okt T) (H : TelC t σ.1 T) (hi : i < tf T) (hF : FindC (σ.1 K) (σ.1 (K + 1)) (σ.1 (K + 2)) T i) : ∀ (fu y : Nat), y ≤ tn T → tn T - y < fu → f_X5_yearsThatWeigh_11 fu t K (nI (meanv T i)) (nI (sm (fun y => if 0 < wgt T i y then 1 else 0) y)) (nI y) σ = some (nI (sm (fun y => if 0 < wgt T i y then 1 else 0) (tn T)), σ) := by
  have hn := ho.1
  intro fu
  induction fu with
  | zero => intro y _ h; omega
  | succ fu ih =>
    intro y hy hfu
    rw [f_X5_yearsThatWeigh_11, H.1.1]
    rcases Nat.lt_or_ge y (tn T) with q | q
    · have hw := wgt_le ho hi y
      rw [if_neg (nI_ge q (by omega)), plainAt_eq ho H hi hF (by omega), bS, weightFrom_eq ho hi hF, bS]
      have hs : sm (fun y => if 0 < wgt T i y then 1 else 0) (y + 1) = sm (fun y => if 0 < wgt T i y then 1 else 0) y + (if 0 < wgt T i y then 1 else 0) := rfl
      by_cases e : 0 < wgt T i y
      · rw [if_pos e] at hs
        rw [if_neg (nI_nle e (by omega))]
        unfold f_X5_yearsThatWeigh_38
        rw [nI_1, nI_1, ← hs]
        exact ih (y + 1) (by omega) (by omega)
      · rw [if_neg e] at hs
        have hs := hs.trans (Nat.add_zero _)
        rw [show wgt T i y = 0 by omega, if_pos (show nI 0 ≤ (0:Int32) by decide)]
        unfold f_X5_yearsThatWeigh_38
        rw [nI_1, ← hs]
        exact ih (y + 1) (by omega) (by omega)
    · obtain rfl : y = tn T := by omega
      rw [if_pos (by rw [I_le]; omega)]
theorem of98 {τ : St} {T : Tl} (ho : Okt T) (H : TelM τ.1 T) {i : Nat} (hi : i < tf T) : ∀ (fu y : Nat), y ≤ tn T → tn T - y < fu → f_X8_of_98 fu (nI i) (nI (sm (fun y => if 0 < wgt T i y then 1 else 0) y)) (nI y) τ = some (nI (sm (fun y => if 0 < wgt T i y then 1 else 0) (tn T)), τ) := by
  have hn := ho.1
  intro fu
  induction fu with
  | zero => intro y _ h; omega
  | succ fu ih =>
    intro y hy hfu
    rw [f_X8_of_98, H.1.1]
    rcases Nat.lt_or_ge y (tn T) with q | q
    · have hw := wgt_le ho hi y
      rw [if_neg (nI_ge q (by omega)), weightOf_eq ho H hi (by omega), bS]
      have hs : sm (fun y => if 0 < wgt T i y then 1 else 0) (y + 1) = sm (fun y => if 0 < wgt T i y then 1 else 0) y + (if 0 < wgt T i y then 1 else 0) := rfl
      by_cases e : 0 < wgt T i y
      · have g : ¬ lN (wgt T i y) ≤ 0 := fun h => by have := (pk_lLE (a := wgt T i y) (b := 0) (by omega) (by decide)).mp h; omega
        rw [if_pos e] at hs
        rw [if_neg g]
        unfold f_X8_of_125
        rw [nI_1, nI_1, ← hs]
        exact ih (y + 1) (by omega) (by omega)
      · rw [if_neg e] at hs
        have hs := hs.trans (Nat.add_zero _)
        rw [show wgt T i y = 0 by omega, if_pos (show lN 0 ≤ (0:Int64) by decide)]
        unfold f_X8_of_125
        rw [nI_1, Int32.add_zero, ← hs]
        exact ih (y + 1) (by omega) (by omega)
    · obtain rfl : y = tn T := by omega
      rw [if_pos (by rw [I_le]; omega)]
theorem ag_of : Ag_of Rel := by
  rintro a0 a1 σ τ ⟨T, H⟩
  rcases isFind_c (x := a0) H.1.2.1 H.2.1.1.2 H.2.2.1.1.2 with ⟨e1, e2⟩ | ⟨i, hi, rfl, e1, e2⟩
  · exact ⟨-2, σ, τ, by simp [f_X7_of, e1], by simp [f_X8_of, e2], T, H⟩
  · have hf := H.1.2.1
    have ci := ix_nI (show i < 7 by omega) (by decide)
    have cl := nI_clamp (show i < 2 ^ 31 by omega)
    have hF := FindC_at H.2.1 hi (show 8 + 3 * i = 1 + 7 + 3 * i by omega)
    obtain ⟨f0, f1, f2, f3⟩ := hF
    obtain ⟨m0, m1, m2, m3⟩ := H.2.2.1.2.2.2.1 i hi
    have hF : FindC (σ.1 (8 + 3 * i)) (σ.1 (8 + 3 * i + 1)) (σ.1 (8 + 3 * i + 2)) T i := ⟨f0, f1, f2, f3⟩
    have bad : (a1 < 0 ∨ 5 < a1) → ∃ (r : Int32) (σ' τ' : St), f_X7_of (nI i) a1 σ = some (r, σ') ∧ f_X8_of (nI i) a1 τ = some (r, τ') ∧ Rel σ' τ' := by
      intro h
      have nn : ∀ k : Nat, k ≤ 5 → ¬ a1 = nI k := fun k hk e => by
        subst e
        rcases h with h | h
        · exact absurd h (nI_pos (by omega))
        · exact absurd h (nI_nlt (a := 5) (b := k) hk (by decide))
      refine ⟨-2, σ, τ, ?_, ?_, T, H⟩
      · unfold f_X7_of
        rw [e1, bS, if_neg one_ne, cI_t ci, if_neg (show ¬ a1 = (0:Int32) from nn 0 (by omega)), if_neg (show ¬ a1 = (1:Int32) from nn 1 (by omega)), if_neg (show ¬ a1 = (2:Int32) from nn 2 (by omega)), if_neg (show ¬ a1 = (3:Int32) from nn 3 (by omega)), if_neg (show ¬ a1 = (4:Int32) from nn 4 (by omega)), if_neg (show ¬ a1 = (5:Int32) from nn 5 (by omega))]
      · unfold f_X8_of
        rw [e2, bS, if_neg one_ne, isIn_f τ h, bS, if_pos rfl]
    rcases rng3 a1 0 5 6 0 5 rfl rfl rfl (by decide) (by decide) with c1 | ⟨c1, c2, -⟩ | ⟨k, hk, rfl, c1, c2, -⟩
    · exact bad (Or.inl c1)
    · exact bad (Or.inr c2)
    · have i5 : ix 0 5 = true := by decide
      rcases (show k = 0 ∨ k = 1 ∨ k = 2 ∨ k = 3 ∨ k = 4 ∨ k = 5 by omega) with rfl | rfl | rfl | rfl | rfl | rfl
      · refine ⟨nI (tk T i), σ, τ, ?_, ?_, T, H⟩
        · unfold f_X7_of
          rw [e1, bS, if_neg one_ne, cI_t ci, if_pos (by decide), cl, fl_id, f0]
        · unfold f_X8_of
          rw [e2, bS, if_neg one_ne, isIn_t τ c1 c2, bS, if_neg one_ne, if_pos (by decide), cI_t ci, cl, m0]
      · refine ⟨nI (tg T i 0), σ, τ, ?_, ?_, T, H⟩
        · unfold f_X7_of
          rw [e1, bS, if_neg one_ne, cI_t ci, if_neg (by decide), if_pos (by decide), cI_t i5, z_0, cl, fl_id, (f3 0 (Or.inl rfl)).1]
        · have g := (m3 0 (Or.inl rfl)).1
          rw [Nat.add_zero] at g
          unfold f_X8_of
          rw [e2, bS, if_neg one_ne, isIn_t τ c1 c2, bS, if_neg one_ne, if_neg (by decide), if_pos (by decide), mul5', cI_t (ix_nI (show 5 * i < 35 by omega) (by decide)), nI_clamp (by omega), g]
      · refine ⟨nI (to_ T i), σ, τ, ?_, ?_, T, H⟩
        · unfold f_X7_of
          rw [e1, bS, if_neg one_ne, cI_t ci, if_neg (by decide), if_neg (by decide), if_pos (by decide), cl, fl_id, f1]
        · unfold f_X8_of
          rw [e2, bS, if_neg one_ne, isIn_t τ c1 c2, bS, if_neg one_ne, if_neg (by decide), if_neg (by decide), if_pos (by decide), cI_t ci, cl, m1]
      · refine ⟨nI (ta T i), σ, τ, ?_, ?_, T, H⟩
        · unfold f_X7_of
          rw [e1, bS, if_neg one_ne, cI_t ci, if_neg (by decide), if_neg (by decide), if_neg (by decide), if_pos (by decide), cl, fl_id, f2]
        · unfold f_X8_of
          rw [e2, bS, if_neg one_ne, isIn_t τ c1 c2, bS, if_neg one_ne, if_neg (by decide), if_neg (by decide), if_neg (by decide), if_pos (by decide), cI_t ci, cl, m2]
      · refine ⟨nI (meanv T i), σ, τ, ?_, ?_, T, H⟩
        · unfold f_X7_of
          rw [e1, bS, if_neg one_ne, cI_t ci, if_neg (by decide), if_neg (by decide), if_neg (by decide), if_neg (by decide), if_pos (by decide), cl, fl_id, meanPlain_eq H.1 H.2.1 hi hF, bS]
        · unfold f_X8_of
          rw [e2, bS, if_neg one_ne, isIn_t τ c1 c2, bS, if_neg one_ne, if_neg (by decide), if_neg (by decide), if_neg (by decide), if_neg (by decide), if_pos (by decide), meanOf_eq H.1 H.2.2.1 hi, bS, lN_i]
      · refine ⟨nI (sm (fun y => if 0 < wgt T i y then 1 else 0) (tn T)), σ, τ, ?_, ?_, T, H⟩
        · unfold f_X7_of
          rw [e1, bS, if_neg one_ne, cI_t ci, if_neg (by decide), if_neg (by decide), if_neg (by decide), if_neg (by decide), if_neg (by decide), if_pos (by decide), cl, fl_id]
          unfold f_X5_yearsThatWeigh
          have := ytw_loop H.1 H.2.1 hi hF FU 0 (by omega) (FU_big (by have := H.1.1; omega))
          rw [meanPlain_eq H.1 H.2.1 hi hF, bS]
          rw [show f_X5_yearsThatWeigh_11 FU 1 (8 + 3 * i) (nI (meanv T i)) 0 0 σ = some (nI (sm (fun y => if 0 < wgt T i y then 1 else 0) (tn T)), σ) from this, bS]
        · unfold f_X8_of
          rw [e2, bS, if_neg one_ne, isIn_t τ c1 c2, bS, if_neg one_ne, if_neg (by decide), if_neg (by decide), if_neg (by decide), if_neg (by decide), if_neg (by decide)]
          exact of98 H.1 H.2.2.1 hi FU 0 (by omega) (FU_big (by have := H.1.1; omega))
