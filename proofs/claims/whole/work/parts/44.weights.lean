/-! PLAIN, MEAN, WEIGHT in plain numbers -/
def dst (a b : Nat) : Nat := (a - b) + (b - a)
def mis (T : Tl) (a y : Nat) : Nat := if dst a (tc T y) ≤ 20 then tm T (dst a (tc T y)) else 0
def ffa (T : Tl) (i y j : Nat) : Nat := if y + tp T i j < tn T then mis T (tg T i j) (y + tp T i j) else 0
def pr (f : Nat → Nat) : Nat → Nat
  | 0 => 1
  | n + 1 => pr f n * f n
def plainv (T : Tl) (i y : Nat) : Nat := if tk T i = 2 then 1 else if tk T i = 3 then (if tg T i 0 = y then 1 else 0) else pr (ffa T i y) (ta T i)
def meanv (T : Tl) (i : Nat) : Nat := sm (plainv T i) (tn T) / tn T
def wgt (T : Tl) (i y : Nat) : Nat := if to_ T i = 0 then plainv T i y else (10 - to_ T i) * plainv T i y + to_ T i * meanv T i
theorem pr_zero {f : Nat → Nat} : ∀ {n j : Nat}, j < n → f j = 0 → pr f n = 0
  | n + 1, j, h, hz => by
    unfold pr
    by_cases e : j = n
    · subst e; rw [hz, Nat.mul_zero]
    · rw [pr_zero (j := j) (by omega) hz, Nat.zero_mul]
theorem pr_le {f : Nat → Nat} {c : Nat} : ∀ {n : Nat}, (∀ j, j < n → f j ≤ c) → pr f n ≤ c ^ n
  | 0, _ => by simp [pr]
  | n + 1, h => by
    unfold pr
    rw [Nat.pow_succ]
    exact Nat.mul_le_mul (pr_le (fun j hj => h j (by omega))) (h n (by omega))
theorem mis_le {T : Tl} (ho : Okt T) (a y : Nat) : mis T a y ≤ 9 := by
  unfold mis
  by_cases h : dst a (tc T y) ≤ 20
  · rw [if_pos h]; exact ho.2.2.2.1 _ (by omega)
  · rw [if_neg h]; omega
theorem ffa_le {T : Tl} (ho : Okt T) (i y j : Nat) : ffa T i y j ≤ 9 := by
  unfold ffa
  by_cases h : y + tp T i j < tn T
  · rw [if_pos h]; exact mis_le ho _ _
  · rw [if_neg h]; omega
theorem pr_ffa_le {T : Tl} (ho : Okt T) (i y : Nat) {n : Nat} (hn : n ≤ 5) : pr (ffa T i y) n ≤ 59049 :=
  Nat.le_trans (pr_le (fun j _ => ffa_le ho i y j)) (Nat.le_trans (Nat.pow_le_pow_right (by decide) hn) (by decide))
theorem plainv_le {T : Tl} (ho : Okt T) {i : Nat} (hi : i < tf T) (y : Nat) : plainv T i y ≤ 59049 := by
  unfold plainv
  by_cases h2 : tk T i = 2
  · rw [if_pos h2]; omega
  · rw [if_neg h2]
    by_cases h3 : tk T i = 3
    · rw [if_pos h3]
      by_cases h : tg T i 0 = y
      · rw [if_pos h]; omega
      · rw [if_neg h]; omega
    · rw [if_neg h3]; exact pr_ffa_le ho i y (ho.2.2.2.2.1 i hi).2.2.1
theorem meanv_le {T : Tl} (ho : Okt T) {i : Nat} (hi : i < tf T) : meanv T i ≤ 59049 := by
  unfold meanv
  have h1 : sm (plainv T i) (tn T) ≤ tn T * 59049 := sm_le (fun y _ => plainv_le ho hi y)
  have h0 : 0 < tn T := by have := ho.1.1; omega
  exact Nat.le_trans (Nat.div_le_div_right h1) (by rw [Nat.mul_div_cancel_left _ h0]; exact Nat.le_refl _)
theorem wgt_le {T : Tl} (ho : Okt T) {i : Nat} (hi : i < tf T) (y : Nat) : wgt T i y ≤ 590490 := by
  have h1 := plainv_le ho hi y
  have h2 := meanv_le ho hi
  have h3 := (ho.2.2.2.2.1 i hi).2.1
  unfold wgt
  by_cases h : to_ T i = 0
  · rw [if_pos h]; omega
  · rw [if_neg h]
    have a1 : (10 - to_ T i) * plainv T i y ≤ (10 - to_ T i) * 59049 := Nat.mul_le_mul_left _ h1
    have a2 : to_ T i * meanv T i ≤ to_ T i * 59049 := Nat.mul_le_mul_left _ h2
    have a3 : (10 - to_ T i) * 59049 + to_ T i * 59049 = 590490 := by rw [← Nat.add_mul]; rw [show 10 - to_ T i + to_ T i = 10 by omega]
    omega
theorem iabs_eq {a b : Nat} (ha : a < 2 ^ 30) (hb : b < 2 ^ 30) : iabs (nI a - nI b) = nI (dst a b) := by
  unfold iabs dst
  have s := pk_sub_toInt (a := a) (b := b) ha hb
  rcases Nat.lt_or_ge a b with q | q
  · rw [if_neg (by rw [I_le, s]; have : (0 : Int32).toInt = 0 := rfl; omega)]
    apply Int32.toInt_inj.mp
    rw [show (0 : Int32) - (nI a - nI b) = nI b - nI a by rw [← Int32.neg_sub]; simp, pk_sub_toInt hb ha, nI_toInt (by omega)]
    omega
  · rw [if_pos (by rw [I_le, s]; have : (0 : Int32).toInt = 0 := rfl; omega), pk_sub q]
    congr 1
    omega
/-- the system's telling at t, its find at K -/
theorem plainAges_loop {t K i : Nat} {σ : St} {T : Tl} (ho : Okt T) (H : TelC t σ.1 T) (hi : i < tf T) (hF : FindC (σ.1 K) (σ.1 (K + 1)) (σ.1 (K + 2)) T i) {y : Nat} (hy : y < 40) : ∀ (fu j : Nat), j ≤ ta T i → ta T i - j < fu → f_X5_plainOfAges_5 fu t K (nI y) (nI (pr (ffa T i y) j)) (nI j) σ = some (nI (pr (ffa T i y) (ta T i)), σ) := by
  obtain ⟨⟨k1, k2⟩, k3, k4, k5, k6⟩ := H
  obtain ⟨f0, f1, f2, f3⟩ := hF
  obtain ⟨o0, o1, o2, o3, o4, o5, o6⟩ := ho.2.2.2.2.1 i hi
  have hn := ho.1.2
  intro fu
  induction fu with
  | zero => intro j _ h; omega
  | succ fu ih =>
    intro j hj hfu
    rw [f_X5_plainOfAges_5, f2]
    rcases Nat.lt_or_ge j (ta T i) with q | q
    · obtain ⟨g1, g2⟩ := f3 j (Or.inr q)
      obtain ⟨b1, b2⟩ := o5 j (Or.inr q)
      have c5 := ix_nI (show j < 5 by omega) (by decide)
      rw [if_neg (nI_ge q (by omega)), cI_t c5, nI_clamp (show j < 2 ^ 31 by omega), g2, nI_add, ap, if_neg (nI_pos (by omega)), k1]
      rcases Nat.lt_or_ge (y + tp T i j) (tn T) with hq | hq
      · have e40 : σ.1 (t + 1) (y + tp T i j) = nI (tc T (y + tp T i j)) := k3 _ (by omega)
        have b3 := ho.2.2.1 (y + tp T i j) (by omega)
        rw [if_pos (nI_lt hq (by omega)), cI_t c5, cI_t (ix_nI (show y + tp T i j < 40 by omega) (by decide)), nI_clamp (by omega), g1, e40, iabs_eq (by omega) (by omega), ap]
        have hd : dst (tg T i j) (tc T (y + tp T i j)) ≤ 4000 := by unfold dst; omega
        have hff : ffa T i y j = mis T (tg T i j) (y + tp T i j) := by unfold ffa; rw [if_pos hq]
        rcases Nat.lt_or_ge 20 (dst (tg T i j) (tc T (y + tp T i j))) with h20 | h20
        · have hz : ffa T i y j = 0 := by rw [hff]; unfold mis; rw [if_neg (by omega)]
          have g20 : ¬ nI (dst (tg T i j) (tc T (y + tp T i j))) ≤ 20 := nI_ge (a := 20) h20 (by omega)
          rw [if_neg g20, pr_zero q hz]; rfl
        · have g20 : nI (dst (tg T i j) (tc T (y + tp T i j))) ≤ 20 := nI_le (b := 20) h20 (by decide)
          have e21 : σ.1 (t + 2) (dst (tg T i j) (tc T (y + tp T i j))) = nI (tm T (dst (tg T i j) (tc T (y + tp T i j)))) := k4 _ (by omega)
          have hm : ffa T i y j = tm T (dst (tg T i j) (tc T (y + tp T i j))) := by rw [hff]; unfold mis; rw [if_pos h20]
          rw [if_pos g20, cI_t (ix_nI (show _ < 21 by omega) (by decide)), nI_clamp (by omega), e21, ap, pk_mul, ← hm, nI_1]
          exact ih (j + 1) (by omega) (by omega)
      · have hz : ffa T i y j = 0 := by unfold ffa; rw [if_neg (by omega)]
        rw [if_neg (nI_nlt hq (by omega)), pr_zero q hz]; rfl
    · obtain rfl : j = ta T i := by omega
      rw [if_pos (by rw [I_le]; omega)]
theorem plainAt_eq {t K i : Nat} {σ : St} {T : Tl} (ho : Okt T) (H : TelC t σ.1 T) (hi : i < tf T) (hF : FindC (σ.1 K) (σ.1 (K + 1)) (σ.1 (K + 2)) T i) {y : Nat} (hy : y < 40) : f_X5_plainAt t K (nI y) σ = some (nI (plainv T i y), σ) := by
  obtain ⟨o0, o1, o2, o3, o4, o5, o6⟩ := ho.2.2.2.2.1 i hi
  unfold f_X5_plainAt plainv
  rw [hF.1]
  by_cases h2 : tk T i = 2
  · rw [h2, if_pos (by decide), if_pos rfl]; rfl
  · have n2 : ¬ nI (tk T i) = 2 := fun q => h2 (nI_inj (b := 2) (by omega) (by decide) q)
    rw [if_neg n2, if_neg h2]
    by_cases h3 : tk T i = 3
    · have g := (hF.2.2.2 0 (Or.inl rfl)).1
      have b := (o5 0 (Or.inl rfl)).1
      rw [h3, if_pos (by decide), if_pos rfl, cI_t (by decide), z_0, g]
      by_cases e : tg T i 0 = y
      · rw [e, if_pos rfl, if_pos rfl]; rfl
      · rw [if_neg (fun q => e (nI_inj (by omega) (by omega) q)), if_neg e]; rfl
    · have n3 : ¬ nI (tk T i) = 3 := fun q => h3 (nI_inj (b := 3) (by omega) (by decide) q)
      rw [if_neg n3, if_neg h3]
      have := plainAges_loop ho H hi hF hy FU 0 (by omega) (FU_big (by omega))
      unfold f_X5_plainOfAges
      rw [show (1 : Int32) = nI (pr (ffa T i y) 0) from rfl, show (0 : Int32) = nI 0 from rfl, this, bS]
theorem meanPlain_eq {t K i : Nat} {σ : St} {T : Tl} (ho : Okt T) (H : TelC t σ.1 T) (hi : i < tf T) (hF : FindC (σ.1 K) (σ.1 (K + 1)) (σ.1 (K + 2)) T i) : f_X5_meanPlain t K σ = some (nI (meanv T i), σ) := by
  have hn := ho.1
  have key : ∀ (fu y : Nat), y ≤ tn T → tn T - y < fu → f_X5_meanPlain_4 f_X5_meanPlain_27 fu t K (nI (sm (plainv T i) y)) (nI y) σ = f_X5_meanPlain_27 t (nI (sm (plainv T i) (tn T))) σ := by
    intro fu
    induction fu with
    | zero => intro y _ h; omega
    | succ fu ih =>
      intro y hy hfu
      rw [f_X5_meanPlain_4, H.1.1]
      rcases Nat.lt_or_ge y (tn T) with q | q
      · rw [if_neg (nI_ge q (by omega)), plainAt_eq ho H hi hF (by omega), bS, nI_add, nI_1]
        exact ih (y + 1) (by omega) (by omega)
      · obtain rfl : y = tn T := by omega
        rw [if_pos (by rw [I_le]; omega)]
  have := key FU 0 (by omega) (FU_big (by omega))
  unfold f_X5_meanPlain
  rw [show (0 : Int32) = nI (sm (plainv T i) 0) from rfl] 
  have h2 : f_X5_meanPlain_4 f_X5_meanPlain_27 FU t K (nI (sm (plainv T i) 0)) (nI (sm (plainv T i) 0)) σ = f_X5_meanPlain_27 t (nI (sm (plainv T i) (tn T))) σ := this
  rw [h2]
  unfold f_X5_meanPlain_27
  have hs : sm (plainv T i) (tn T) ≤ tn T * 59049 := sm_le (fun y _ => plainv_le ho hi y)
  have hs2 : tn T * 59049 ≤ 40 * 59049 := Nat.mul_le_mul_right _ (by omega)
  rw [H.1.1, if_neg (nI_nle (by omega) (by omega)), cI_t (by simp [nI_ne0 (show 0 < tn T by omega) (show tn T < 2 ^ 31 by omega)]), pk_div (by omega) (by omega) (by omega)]
  rfl
theorem weightFrom_eq {K i : Nat} {σ : St} {T : Tl} (ho : Okt T) (hi : i < tf T) (hF : FindC (σ.1 K) (σ.1 (K + 1)) (σ.1 (K + 2)) T i) (y : Nat) : f_X1_weightFrom K (nI (plainv T i y)) (nI (meanv T i)) σ = some (nI (wgt T i y), σ) := by
  obtain ⟨o0, o1, o2, o3, o4, o5, o6⟩ := ho.2.2.2.2.1 i hi
  unfold f_X1_weightFrom wgt
  rw [hF.2.1]
  by_cases h : to_ T i = 0
  · rw [h, if_pos (by decide), if_pos rfl]
  · rw [if_neg (nI_ne0 (by omega) (by omega)), if_neg h, show (10 : Int32) = nI 10 from rfl, pk_sub (by omega), pk_mul, pk_mul, nI_add]
