/-! the reference's counting -/
def ex (f : Nat → Bool) : Nat → Bool
  | 0 => false
  | n + 1 => ex f n || f n
theorem ex_iff {f : Nat → Bool} : ∀ {n : Nat}, ex f n = true ↔ ∃ k, k < n ∧ f k = true
  | 0 => by simp [ex]
  | n + 1 => by
    unfold ex
    rw [Bool.or_eq_true, ex_iff (n := n)]
    constructor
    · rintro (⟨k, a, b⟩ | h)
      · exact ⟨k, by omega, b⟩
      · exact ⟨n, by omega, h⟩
    · rintro ⟨k, a, b⟩
      by_cases e : k = n
      · subst e; exact Or.inr b
      · exact Or.inl ⟨k, by omega, b⟩
def rowS (T : Tl) (m : Nat → Bool) (s w : Nat) : Nat := msk (fun j => m j && ex (fun k => s.testBit k && (th T j k == w)) (tf T)) 7
theorem rowS_lt (T : Tl) (m : Nat → Bool) (s w : Nat) : rowS T m s w < 128 := msk_lt _ 7
def mA (T : Tl) (m : Nat → Bool) : Rl := fun j k => th T j k = 1 ∧ m j = true ∧ m k = true
def mN (T : Tl) (m : Nat → Bool) : Rl := fun j k => th T j k = 2 ∧ m j = true ∧ m k = true
def Okm (T : Tl) (m : Nat → Bool) : Prop := ∀ k, m k = true → k < tf T
def MgC (τ : St) (T : Tl) (m : Nat → Bool) (v : Wt) : Prop := τ.1 0 27 = nI (msk m 7) ∧ (∀ i, i < tf T → ∀ y, y < tn T → τ.2 17 (40 * i + y) = lN (v i y)) ∧ ∀ s, s < 2 ^ tf T → τ.1 18 s = nI (rowS T m s 1) ∧ τ.1 19 s = nI (rowS T m s 2)
theorem MgC_fr {τ τ' : St} {T : Tl} {m : Nat → Bool} {v : Wt} (H : MgC τ T m v) (h0 : τ'.1 0 27 = τ.1 0 27) (h1 : τ'.1 18 = τ.1 18) (h2 : τ'.1 19 = τ.1 19) (h3 : τ'.2 17 = τ.2 17) : MgC τ' T m v := by
  unfold MgC
  rw [h0, h1, h2, h3]
  exact H
theorem Okm_mem {T : Tl} {m : Nat → Bool} (ho : Okt T) (hm : Okm T m) : Mem (tf T) m (mA T m) (mN T m) := by
  refine ⟨ho.2.1, hm, fun j k h => ⟨h.2.1, h.2.2, fun e => ?_⟩, fun j k h => h.2⟩
  have := ho.2.2.2.2.2.2 j k (Or.inr (Or.inr e))
  rw [h.1] at this
  exact absurd this (by decide)
theorem Okm_lt {T : Tl} {m : Nat → Bool} (hm : Okm T m) : msk m 7 < 2 ^ tf T := by
  apply Nat.lt_pow_two_of_testBit
  intro i hi
  rw [msk_bit]
  have : ¬ m i = true := fun q => by have := hm i q; omega
  simp at this
  simp [this]
theorem rowS_bit {T : Tl} {m : Nat → Bool} (ho : Okt T) (hm : Okm T m) {s w j : Nat} : (rowS T m s w).testBit j = true ↔ m j = true ∧ ∃ k, k < tf T ∧ s.testBit k = true ∧ th T j k = w := by
  unfold rowS
  rw [msk_bit, Bool.and_eq_true, Bool.and_eq_true, ex_iff, decide_eq_true_eq]
  constructor
  · rintro ⟨-, h, k, h1, h2⟩
    rw [Bool.and_eq_true, beq_iff_eq] at h2
    exact ⟨h, k, h1, h2.1, h2.2⟩
  · rintro ⟨h, k, h1, h2, h3⟩
    have := hm j h
    have := ho.2.1
    exact ⟨by omega, h, k, h1, by rw [Bool.and_eq_true, beq_iff_eq]; exact ⟨h2, h3⟩⟩
theorem okR_iff {T : Tl} {m : Nat → Bool} (ho : Okt T) (hm : Okm T m) {p s : Nat} (hp : p < 128) (hs : s ∈ sb (rst (msk m 7) p)) : (nI (rowS T m s 1 &&& (127 - p)) = 0 ∧ nI (rowS T m s 2 &&& (127 - (p ||| s))) = 0) ↔ okR (mA T m) (mN T m) p s := by
  have hs1 := (sb_mem.mp hs).1
  have hM : msk m 7 < 128 := msk_lt m 7
  have em := msk_all ho.2.1 hm
  have sm : ∀ k, s.testBit k = true → m k = true := fun k hk => by rw [← em]; exact (sb_bit hM hp hs hk).2.1
  rw [sub0 (rowS_lt T m s 1) hp, sub0 (rowS_lt T m s 2) (Nat.or_lt_two_pow (n := 7) hp hs1)]
  constructor
  · rintro ⟨h1, h2⟩
    exact ⟨fun j k hk hj => h1 j ((rowS_bit ho hm).mpr ⟨hj.2.1, k, hm k hj.2.2, hk, hj.1⟩), fun j k hk hj => h2 j ((rowS_bit ho hm).mpr ⟨hj.2.1, k, hm k hj.2.2, hk, hj.1⟩)⟩
  · rintro ⟨h1, h2⟩
    refine ⟨fun j hj => ?_, fun j hj => ?_⟩
    · obtain ⟨a, k, b, c, d⟩ := (rowS_bit ho hm).mp hj
      exact h1 j k c ⟨d, a, sm k c⟩
    · obtain ⟨a, k, b, c, d⟩ := (rowS_bit ho hm).mp hj
      exact h2 j k c ⟨d, a, sm k c⟩
theorem pr_upd {F H : Nat → Nat} {i c : Nat} (h : ∀ j, j ≠ i → F j = H j) (hi : F i = H i * c) : ∀ {n : Nat}, i < n → pr F n = pr H n * c
  | 0, q => by omega
  | n + 1, q => by
    unfold pr
    by_cases e : i = n
    · subst e
      rw [pr_congr (g := H) (fun j hj => h j (by omega)), hi, Nat.mul_assoc]
    · rw [pr_upd h hi (n := n) (by omega), h n (Ne.symm e), Nat.mul_right_comm]
theorem pS_low {w : Wt} {y s i : Nat} (hi : i < 7) (hb : s.testBit i = true) : pS w y s = pS w y (fl s i) * w i y := by
  unfold pS
  refine pr_upd (i := i) (fun j hj => ?_) ?_ hi
  · rw [fl_ne (Ne.symm hj)]
  · rw [fl_eq, hb]
    simp
theorem in_eq {s i : Nat} (hs : s < 128) (hi : i < 7) (τ : St) : f_X8_in (nI s) (nI i) τ = some (if s.testBit i = true then 1 else 0, τ) := by
  unfold f_X8_in
  have := bT1 s hs i hi
  by_cases c : s.testBit i = true
  · rw [if_pos (this.mpr c), if_pos c]
  · rw [if_neg (fun q => c (this.mp q)), if_neg c]
theorem mul40' (i y : Nat) : (40 : Int32) * nI i + nI y = nI (40 * i + y) := by
  rw [show (40 : Int32) = nI 40 from rfl, pk_mul, nI_add]
theorem c2_loop {M : Nat} (hM : M < 128) (kk : St → Option (Int64 × St)) : ∀ (fu s : Nat) (τ : St), τ.1 0 27 = nI M → (∀ S, S < s → τ.2 21 S = lN (ind (S = 0))) → s ≤ M + 1 → M + 1 - s < fu → ∃ τ', f_X8_count_2 kk fu (nI s) τ = kk τ' ∧ τ'.1 = τ.1 ∧ (∀ c, c ≠ 21 → τ'.2 c = τ.2 c) ∧ ∀ S, S ≤ M → τ'.2 21 S = lN (ind (S = 0)) := by
  intro fu
  induction fu with
  | zero => intro s τ _ _ _ h; omega
  | succ fu ih =>
    intro s τ h0 h1 hs hfu
    rw [f_X8_count_2, h0]
    rcases Nat.lt_or_ge M s with q | q
    · rw [if_pos (nI_lt q (by omega))]
      exact ⟨τ, rfl, rfl, fun _ _ => rfl, fun S hS => h1 S (by omega)⟩
    · rw [if_neg (nI_nlt q (by omega))]
      have fin : ∀ x : Int64, x = lN (ind (s = 0)) → ∃ τ', f_X8_count_24 (f_X8_count_2 kk fu) (nI s) x (nI s) τ = kk τ' ∧ τ'.1 = τ.1 ∧ (∀ c, c ≠ 21 → τ'.2 c = τ.2 c) ∧ ∀ S, S ≤ M → τ'.2 21 S = lN (ind (S = 0)) := fun x hx => by
        unfold f_X8_count_24
        rw [cI_t (ix_nI (show s < 128 by omega) (by decide)), nI_clamp (show s < 2 ^ 31 by omega), ap, nI_1]
        obtain ⟨τ', r1, r2, r3, r4⟩ := ih (s + 1) (up2 τ 21 s x) h0 (fun S hS => by
          by_cases e : S = s
          · subst e; rw [up2_eq, hx]
          · rw [up2_ne (by omega)]; exact h1 S (by omega)) (by omega) (by omega)
        exact ⟨τ', r1, r2, fun c hc => by rw [r3 c hc, up2_r hc], r4⟩
      by_cases e : s = 0
      · subst e
        rw [if_pos (show nI 0 = 0 from rfl)]
        exact fin 1 (by rw [ind_t rfl]; rfl)
      · rw [if_neg (nI_ne0 (by omega) (by omega))]
        exact fin 0 (by rw [ind_f e]; rfl)
theorem c60_loop {s y : Nat} (hs : s < 128) (h0 : 0 < s) (kk : Int32 → Int32 → Int32 → St → Option (Int64 × St)) (τ : St) : ∀ (fu i : Nat), i ≤ low s → low s - i < fu → f_X8_count_60 kk fu (nI y) (nI s) (nI i) τ = kk (nI y) (nI s) (nI (low s)) τ := by
  obtain ⟨l1, l2, -, -, l5⟩ := low_b s hs h0
  intro fu
  induction fu with
  | zero => intro i _ h; omega
  | succ fu ih =>
    intro i hi hfu
    rw [f_X8_count_60, in_eq hs (by omega), bS]
    by_cases e : i = low s
    · subst e
      rw [if_pos l1, if_neg one_ne]
    · rw [l5 i (by omega), if_neg (by decide : ¬ false = true), if_pos rfl, nI_1]
      exact ih (i + 1) (by omega) (by omega)
theorem c50_loop {M f y : Nat} {v : Wt} (hf : f ≤ 7) (hM : M < 2 ^ f) (hy : y < 40) (kk : Int32 → St → Option (Int64 × St)) : ∀ (fu s : Nat) (τ : St), τ.1 0 27 = nI M → (∀ i, i < f → τ.2 17 (40 * i + y) = lN (v i y)) → (∀ S, S < s → τ.2 20 S = lN (pS v y S)) → 0 < s → s ≤ M + 1 → M + 1 - s < fu → ∃ τ', f_X8_count_50 kk fu (nI y) (nI s) τ = kk (nI y) τ' ∧ τ'.1 = τ.1 ∧ (∀ c, c ≠ 20 → τ'.2 c = τ.2 c) ∧ ∀ S, S ≤ M → τ'.2 20 S = lN (pS v y S) := by
  have hM7 : M < 128 := Nat.lt_of_lt_of_le hM (Nat.pow_le_pow_right (by decide) hf : 2 ^ f ≤ 2 ^ 7)
  intro fu
  induction fu with
  | zero => intro s τ _ _ _ _ _ h; omega
  | succ fu ih =>
    intro s τ h0 hw h1 hs0 hs hfu
    rw [f_X8_count_50, h0]
    rcases Nat.lt_or_ge M s with q | q
    · rw [if_pos (nI_lt q (by omega))]
      exact ⟨τ, rfl, rfl, fun _ _ => rfl, fun S hS => h1 S (by omega)⟩
    · have s7 : s < 128 := by omega
      obtain ⟨l1, l2, l3, l4, -⟩ := low_b s s7 hs0
      have lf : low s < f := by
        rcases Nat.lt_or_ge (low s) f with a | a
        · exact a
        · rw [Nat.testBit_lt_two_pow (Nat.lt_of_lt_of_le (Nat.lt_of_le_of_lt q hM) (Nat.pow_le_pow_right (n := 2) (by decide) a))] at l1
          exact absurd l1 (by decide)
      have c6 := c60_loop (y := y) s7 hs0 (f_X8_count_74 (f_X8_count_50 kk fu)) τ FU 0 (by omega) (FU_big (by omega))
      rw [if_neg (nI_nlt q (by omega)), show f_X8_count_60 (f_X8_count_74 (f_X8_count_50 kk fu)) FU (nI y) (nI s) 0 τ = _ from c6]
      unfold f_X8_count_74
      rw [l3, mul40', cI_t (ix_nI (show fl s (low s) < 128 by omega) (by decide)), cI_t (ix_nI (show 40 * low s + y < 280 by omega) (by decide)), cI_t (ix_nI s7 (by decide)), nI_clamp (show fl s (low s) < 2 ^ 31 by omega), nI_clamp (show 40 * low s + y < 2 ^ 31 by omega), nI_clamp (show s < 2 ^ 31 by omega), h1 _ l4, hw _ lf, lN_mul, ← pS_low l2 l1, ap, nI_1]
      obtain ⟨τ', r1, r2, r3, r4⟩ := ih (s + 1) (up2 τ 20 s (lN (pS v y s))) h0 (fun i hi => by rw [up2_r (by omega)]; exact hw i hi) (fun S hS => by
        by_cases e : S = s
        · subst e; rw [up2_eq]
        · rw [up2_ne (by omega)]; exact h1 S (by omega)) (by omega) (by omega) (by omega)
      exact ⟨τ', r1, r2, fun c hc => by rw [r3 c hc, up2_r hc], r4⟩
theorem c110_loop {M : Nat} {x1 : Int32} (hM : M < 128) (kk : Int32 → St → Option (Int64 × St)) : ∀ (fu s : Nat) (τ : St), τ.1 0 27 = nI M → (∀ S, S < s → τ.2 22 S = τ.2 21 S) → s ≤ M + 1 → M + 1 - s < fu → ∃ τ', f_X8_count_110 kk fu x1 (nI s) τ = kk x1 τ' ∧ τ'.1 = τ.1 ∧ (∀ c, c ≠ 22 → τ'.2 c = τ.2 c) ∧ ∀ S, S ≤ M → τ'.2 22 S = τ.2 21 S := by
  intro fu
  induction fu with
  | zero => intro s τ _ _ _ h; omega
  | succ fu ih =>
    intro s τ h0 h1 hs hfu
    rw [f_X8_count_110, h0]
    rcases Nat.lt_or_ge M s with q | q
    · rw [if_pos (nI_lt q (by omega))]
      exact ⟨τ, rfl, rfl, fun _ _ => rfl, fun S hS => h1 S (by omega)⟩
    · rw [if_neg (nI_nlt q (by omega)), cI_t (ix_nI (show s < 128 by omega) (by decide)), cI_t (ix_nI (show s < 128 by omega) (by decide)), nI_clamp (show s < 2 ^ 31 by omega), ap, nI_1]
      obtain ⟨τ', r1, r2, r3, r4⟩ := ih (s + 1) (up2 τ 22 s (τ.2 21 s)) h0 (fun S hS => by
        by_cases e : S = s
        · subst e; rw [up2_eq, up2_r (by omega)]
        · rw [up2_ne (by omega), up2_r (by omega)]; exact h1 S (by omega)) (by omega) (by omega)
      exact ⟨τ', r1, r2, fun c hc => by rw [r3 c hc, up2_r hc], fun S hS => by rw [r4 S hS, up2_r (by omega)]⟩
theorem tm2_fac {A N : Rl} {w : Wt} {y S p : Nat} {u : Nat → Nat} (l : List Nat) : ls (fun s => tm2 A N w y u S p s) l = u p * ls (fun s => ind (p ||| s = S) * (pS w y s * ind (okR A N p s))) l := by
  rw [← ls_mul]
  exact ls_congr (fun s _ => by unfold tm2; rw [Nat.mul_left_comm])
theorem lN_zmul {a b : Nat} (h : lN a = (0 : Int64)) : lN (a * b) = (0 : Int64) := by rw [← lN_mul, h, Int64.zero_mul]
theorem lN_add0 {a b : Nat} (h : lN b = (0 : Int64)) : lN (a + b) = lN a := by rw [← lN_add, h, Int64.add_zero]
/-- what the sums over sets rest on -/
def CntC (τ : St) (T : Tl) (m : Nat → Bool) (v : Wt) (y : Nat) (u : Nat → Nat) : Prop := τ.1 0 27 = nI (msk m 7) ∧ (∀ s, s < 2 ^ tf T → τ.1 18 s = nI (rowS T m s 1) ∧ τ.1 19 s = nI (rowS T m s 2)) ∧ (∀ S, S ≤ msk m 7 → τ.2 20 S = lN (pS v y S)) ∧ ∀ S, S ≤ msk m 7 → τ.2 22 S = lN (u S)
theorem CntC_fr {τ τ' : St} {T : Tl} {m : Nat → Bool} {v : Wt} {y : Nat} {u : Nat → Nat} (H : CntC τ T m v y u) (h1 : τ'.1 = τ.1) (h2 : ∀ c, c ≠ 21 → τ'.2 c = τ.2 c) : CntC τ' T m v y u := by
  unfold CntC
  rw [h1, h2 20 (by omega), h2 22 (by omega)]
  exact H
theorem rst_le (M p : Nat) : rst M p ≤ M := Nat.and_le_left
theorem sb_le {R s : Nat} (h : s ∈ sb R) : s ≤ R := by
  rw [← (sb_mem.mp h).2.2]
  exact Nat.and_le_right
theorem c158_loop {T : Tl} {m : Nat → Bool} {v : Wt} {y p : Nat} {u : Nat → Nat} (ho : Okt T) (hm : Okm T m) (hp : p ≤ msk m 7) (kk : Int32 → Int32 → St → Option (Int64 × St)) : ∀ (l : List Nat) (fu : Nat) (τ : St) (W : Nat → Nat), CntC τ T m v y u → chkD (rst (msk m 7) p) l = true → (∀ s, s ∈ l → s ∈ sb (rst (msk m 7) p)) → (∀ S, S ≤ msk m 7 → τ.2 21 S = lN (W S)) → l.length < fu → ∃ τ', f_X8_count_158 kk fu (nI y) (nI p) (nI (rst (msk m 7) p)) (nI (l.headD 0)) τ = kk (nI y) (nI p) τ' ∧ τ'.1 = τ.1 ∧ (∀ c, c ≠ 21 → τ'.2 c = τ.2 c) ∧ ∀ S, S ≤ msk m 7 → τ'.2 21 S = lN (W S + ls (fun s => tm2 (mA T m) (mN T m) v y u S p s) l) := by
  have hM : msk m 7 < 128 := msk_lt m 7
  have hMf := Okm_lt hm
  have hR : rst (msk m 7) p ≤ msk m 7 := rst_le _ _
  have p7 : p < 128 := by omega
  intro l
  induction l with
  | nil =>
    intro fu τ W H _ _ hW hfu
    obtain ⟨fu, rfl⟩ : ∃ n, fu = n + 1 := ⟨fu - 1, by simp at hfu; omega⟩
    rw [f_X8_count_158, List.headD_nil, if_pos (by decide)]
    exact ⟨τ, rfl, rfl, fun _ _ => rfl, fun S hS => by rw [hW S hS]; rfl⟩
  | cons s t ih =>
    intro fu τ W H hc hl hW hfu
    obtain ⟨fu, rfl⟩ : ∃ n, fu = n + 1 := ⟨fu - 1, by simp at hfu; omega⟩
    have hs := hl s (by simp)
    obtain ⟨s1, s2, -⟩ := sb_mem.mp hs
    have sle := sb_le hs
    have cp := ix_nI p7 (by decide : (128 : Nat) < 2 ^ 31)
    have cs := ix_nI s1 (by decide : (128 : Nat) < 2 ^ 31)
    have ps7 : p ||| s < 128 := Nat.or_lt_two_pow (n := 7) p7 s1
    have hfu' : t.length < fu := by simp at hfu; omega
    have nx : (nI s - 1) &&& nI (rst (msk m 7) p) = nI (t.headD 0) ∧ chkD (rst (msk m 7) p) t = true := by
      cases t with
      | nil =>
        simp only [chkD, decide_eq_true_eq] at hc
        exact ⟨by rw [hc]; rfl, rfl⟩
      | cons b t =>
        simp only [chkD, Bool.and_eq_true, decide_eq_true_eq] at hc
        exact ⟨by rw [hc.1]; rfl, hc.2⟩
    rw [f_X8_count_158, List.headD_cons, if_neg (nI_nle s2 (by omega)), cI_t cp, nI_clamp (show p < 2 ^ 31 by omega), H.2.2.2 p hp]
    by_cases z : lN (u p) = (0 : Int64)
    · rw [if_pos z]
      refine ⟨τ, rfl, rfl, fun _ _ => rfl, fun S hS => ?_⟩
      rw [hW S hS, tm2_fac, lN_add0 (lN_zmul z)]
    · rw [if_neg z, cI_t cs, nI_clamp (show s < 2 ^ 31 by omega), H.2.2.1 s (by omega)]
      have go : ∀ (τ1 : St) (W1 : Nat → Nat), τ1.1 = τ.1 → (∀ c, c ≠ 21 → τ1.2 c = τ.2 c) → (∀ S, S ≤ msk m 7 → τ1.2 21 S = lN (W1 S)) → (∀ S, S ≤ msk m 7 → lN (W1 S) = lN (W S + tm2 (mA T m) (mN T m) v y u S p s)) → ∃ τ', f_X8_count_243 (f_X8_count_158 kk fu) (nI y) (nI p) (nI (rst (msk m 7) p)) (nI s) τ1 = kk (nI y) (nI p) τ' ∧ τ'.1 = τ.1 ∧ (∀ c, c ≠ 21 → τ'.2 c = τ.2 c) ∧ ∀ S, S ≤ msk m 7 → τ'.2 21 S = lN (W S + ls (fun s => tm2 (mA T m) (mN T m) v y u S p s) (s :: t)) := fun τ1 W1 a1 a2 a3 a4 => by
        unfold f_X8_count_243
        rw [ap, nx.1]
        obtain ⟨τ', r1, r2, r3, r4⟩ := ih fu τ1 W1 (CntC_fr H a1 a2) nx.2 (fun x hx => hl x (by simp [hx])) a3 hfu'
        refine ⟨τ', r1, r2.trans a1, fun c hc => by rw [r3 c hc, a2 c hc], fun S hS => ?_⟩
        rw [r4 S hS, ← lN_add, a4 S hS, lN_add, Nat.add_assoc]
        rfl
      by_cases z2 : lN (pS v y s) = (0 : Int64)
      · rw [if_pos z2]
        refine go τ W rfl (fun _ _ => rfl) hW (fun S hS => ?_)
        refine (lN_add0 ?_).symm
        unfold tm2
        rw [Nat.mul_left_comm, Nat.mul_comm, Nat.mul_assoc, ← Nat.mul_assoc, Nat.mul_comm (ind _), Nat.mul_assoc, Nat.mul_assoc]
        exact lN_zmul z2
      · rw [if_neg z2, cI_t cs, (H.2.1 s (by omega)).1, bNot _ (rowS_lt T m s 1) _ p7]
        have ok := okR_iff ho hm p7 hs
        have bad : ¬ okR (mA T m) (mN T m) p s → ∀ S, S ≤ msk m 7 → lN (W S) = lN (W S + tm2 (mA T m) (mN T m) v y u S p s) := fun nb S _ => by
          unfold tm2
          rw [ind_f nb, Nat.mul_zero, Nat.mul_zero, Nat.mul_zero, Nat.add_zero]
        by_cases o1 : nI (rowS T m s 1 &&& (127 - p)) = 0
        · rw [if_pos (show nI (rowS T m s 1 &&& (127 - p)) = 0 from o1), cI_t cs, (H.2.1 s (by omega)).2, bOr p p7 s s1, bNot _ (rowS_lt T m s 2) _ ps7]
          by_cases o2 : nI (rowS T m s 2 &&& (127 - (p ||| s))) = 0
          · have cps := ix_nI ps7 (by decide : (128 : Nat) < 2 ^ 31)
            rw [if_pos (show nI (rowS T m s 2 &&& (127 - (p ||| s))) = 0 from o2), cI_t cps, cI_t cp, cI_t cs, cI_t cps, nI_clamp (show p ||| s < 2 ^ 31 by omega), lN_mul, ap]
            refine go _ (fun S => W S + ind (p ||| s = S) * (u p * pS v y s)) rfl (fun c hc => up2_r hc) (fun S hS => ?_) (fun S hS => ?_)
            · by_cases e : S = p ||| s
              · subst e
                rw [up2_eq, ind_t rfl, Nat.one_mul, hW _ hS, lN_add]
              · rw [up2_ne (by omega), ind_f (fun q => e q.symm), Nat.zero_mul, Nat.add_zero, hW S hS]
            · unfold tm2
              rw [ind_t (ok.mp ⟨o1, o2⟩), Nat.mul_one]
          · rw [if_neg (show ¬ nI (rowS T m s 2 &&& (127 - (p ||| s))) = 0 from o2)]
            exact go τ W rfl (fun _ _ => rfl) hW (bad (fun q => o2 (ok.mpr q).2))
        · rw [if_neg (show ¬ nI (rowS T m s 1 &&& (127 - p)) = 0 from o1)]
          exact go τ W rfl (fun _ _ => rfl) hW (bad (fun q => o1 (ok.mpr q).1))
theorem c138_loop {T : Tl} {m : Nat → Bool} {v : Wt} {y : Nat} {u : Nat → Nat} (ho : Okt T) (hm : Okm T m) (kk : Int32 → St → Option (Int64 × St)) : ∀ (fu p : Nat) (τ : St), CntC τ T m v y u → (∀ S, S ≤ msk m 7 → τ.2 21 S = lN (u S + ls (fun p => ls (fun s => tm2 (mA T m) (mN T m) v y u S p s) (sb (rst (msk m 7) p))) (List.range p))) → p ≤ msk m 7 + 1 → msk m 7 + 1 - p < fu → ∃ τ', f_X8_count_138 kk fu (nI y) (nI p) τ = kk (nI y) τ' ∧ τ'.1 = τ.1 ∧ (∀ c, c ≠ 21 → τ'.2 c = τ.2 c) ∧ ∀ S, S ≤ msk m 7 → τ'.2 21 S = lN (u S + ls (fun p => ls (fun s => tm2 (mA T m) (mN T m) v y u S p s) (sb (rst (msk m 7) p))) (List.range (msk m 7 + 1))) := by
  have hM : msk m 7 < 128 := msk_lt m 7
  intro fu
  induction fu with
  | zero => intro p τ _ _ _ h; omega
  | succ fu ih =>
    intro p τ H hW hp hfu
    rw [f_X8_count_138, H.1]
    rcases Nat.lt_or_ge (msk m 7) p with q | q
    · obtain rfl : p = msk m 7 + 1 := by omega
      rw [if_pos (nI_lt q (by omega))]
      exact ⟨τ, rfl, rfl, fun _ _ => rfl, hW⟩
    · have hR : rst (msk m 7) p ≤ msk m 7 := rst_le _ _
      have hd := sb_hd (rst (msk m 7) p) (by omega)
      have hlen : (sb (rst (msk m 7) p)).length ≤ 128 := by
        unfold sb
        exact Nat.le_trans (List.length_filter_le _ _) (by simp)
      rw [if_neg (nI_nlt q (by omega)), bNot _ hM p (by omega), ap]
      obtain ⟨τ1, r1, r2, r3, r4⟩ := c158_loop ho hm q (f_X8_count_254 (f_X8_count_138 kk fu)) (sb (rst (msk m 7) p)) FU τ _ H (sb_chk _ (by omega)) (fun _ h => h) hW (FU_big (by omega))
      rw [← hd] at r1
      rw [show f_X8_count_158 (f_X8_count_254 (f_X8_count_138 kk fu)) FU (nI y) (nI p) (nI (msk m 7 &&& (127 - p))) (nI (msk m 7 &&& (127 - p))) τ = _ from r1]
      unfold f_X8_count_254
      rw [nI_1]
      obtain ⟨τ2, p1, p2, p3, p4⟩ := ih (p + 1) τ1 (CntC_fr H r2 r3) (fun S hS => by
        rw [r4 S hS, List.range_succ, ls_app, Nat.add_assoc]
        rfl) (by omega) (by omega)
      exact ⟨τ2, p1, p2.trans r2, fun c hc => by rw [p3 c hc, r3 c hc], p4⟩
theorem c33_loop {T : Tl} {m : Nat → Bool} {v : Wt} (ho : Okt T) (hm : Okm T m) : ∀ (fu y : Nat) (τ : St), MgC τ T m v → τ.1 0 0 = nI (tn T) → (∀ S, S ≤ msk m 7 → τ.2 21 S = lN (UU (mA T m) (mN T m) (msk m 7) v y S)) → y ≤ tn T → tn T - y < fu → ∃ τ', f_X8_count_33 fu (nI y) τ = some (lN (UU (mA T m) (mN T m) (msk m 7) v (tn T) (msk m 7)), τ') ∧ τ'.1 = τ.1 ∧ ∀ c, (c < 20 ∨ 22 < c) → τ'.2 c = τ.2 c := by
  have hM : msk m 7 < 128 := msk_lt m 7
  have hMf := Okm_lt hm
  have hn := ho.1.2
  have hf := ho.2.1
  intro fu
  induction fu with
  | zero => intro y τ _ _ _ _ h; omega
  | succ fu ih =>
    intro y τ H h0 hU hy hfu
    rw [f_X8_count_33, h0, H.1]
    rcases Nat.lt_or_ge y (tn T) with q | q
    · rw [if_neg (nI_ge q (by omega)), cI_t (by decide), z_0, ap]
      have e1 : (up2 τ 20 0 1).1 = τ.1 := rfl
      have e2 : ∀ c, c ≠ 20 → (up2 τ 20 0 1).2 c = τ.2 c := fun c hc => up2_r hc
      have e3 : ∀ S, S < 1 → (up2 τ 20 0 1).2 20 S = lN (pS v y S) := fun S hS => by
        obtain rfl : S = 0 := by omega
        rw [up2_eq]
        unfold pS
        rw [pr_one (fun i _ => by simp)]
        rfl
      generalize up2 τ 20 0 1 = τ0 at e1 e2 e3 ⊢
      obtain ⟨τ1, a1, a2, a3, a4⟩ := c50_loop hf hMf (show y < 40 by omega) (f_X8_count_108 (f_X8_count_33 fu)) FU 1 τ0 (by rw [e1]; exact H.1) (fun i hi => by rw [e2 17 (by omega)]; exact H.2.1 i hi y q) e3 (by omega) (by omega) (FU_big (by omega))
      rw [show f_X8_count_50 (f_X8_count_108 (f_X8_count_33 fu)) FU (nI y) 1 τ0 = _ from a1]
      unfold f_X8_count_108
      obtain ⟨τ2, b1, b2, b3, b4⟩ := c110_loop (x1 := nI y) hM (f_X8_count_136 (f_X8_count_33 fu)) FU 0 τ1 (by rw [a2, e1]; exact H.1) (fun S hS => by omega) (by omega) (FU_big (by omega))
      rw [show f_X8_count_110 (f_X8_count_136 (f_X8_count_33 fu)) FU (nI y) 0 τ1 = _ from b1]
      unfold f_X8_count_136
      have w21 : ∀ S, S ≤ msk m 7 → τ1.2 21 S = lN (UU (mA T m) (mN T m) (msk m 7) v y S) := fun S hS => by
        rw [a3 21 (by omega), e2 21 (by omega)]; exact hU S hS
      have hC : CntC τ2 T m v y (UU (mA T m) (mN T m) (msk m 7) v y) := ⟨by rw [b2, a2, e1]; exact H.1, fun s hs => by rw [b2, a2, e1]; exact H.2.2 s hs, fun S hS => by rw [b3 20 (by omega)]; exact a4 S hS, fun S hS => by rw [b4 S hS]; exact w21 S hS⟩
      obtain ⟨τ3, c1, c2, c3, c4⟩ := c138_loop ho hm (f_X8_count_260 (f_X8_count_33 fu)) FU 0 τ2 hC (fun S hS => by rw [b3 21 (by omega)]; exact w21 S hS) (by omega) (FU_big (by omega))
      rw [show f_X8_count_138 (f_X8_count_260 (f_X8_count_33 fu)) FU (nI y) 0 τ2 = _ from c1]
      unfold f_X8_count_260
      rw [nI_1]
      have f1 : τ3.1 = τ.1 := by rw [c2, b2, a2, e1]
      have f2 : ∀ c, (c < 20 ∨ 22 < c) → τ3.2 c = τ.2 c := fun c hc => by rw [c3 c (by omega), b3 c (by omega), a3 c (by omega), e2 c (by omega)]
      obtain ⟨τ4, d1, d2, d3⟩ := ih (y + 1) τ3 (MgC_fr H (by rw [f1]) (by rw [f1]) (by rw [f1]) (f2 17 (by omega))) (by rw [f1]; exact h0) c4 (by omega) (by omega)
      exact ⟨τ4, d1, d2.trans f1, fun c hc => (d3 c hc).trans (f2 c hc)⟩
    · obtain rfl : y = tn T := by omega
      rw [if_pos (by rw [I_le]; omega), cI_t (ix_nI hM (by decide)), nI_clamp (by omega), hU _ (Nat.le_refl _)]
      exact ⟨τ, rfl, rfl, fun _ _ => rfl⟩
noncomputable abbrev Cm (T : Tl) (m : Nat → Bool) (v : Wt) : Nat := CC (tn T) (tf T) m (mA T m) (mN T m) v
/-- THE REFERENCE COUNTS -/
theorem count_eq {T : Tl} {m : Nat → Bool} {v : Wt} {τ : St} (ho : Okt T) (hm : Okm T m) (H : MgC τ T m v) (h0 : τ.1 0 0 = nI (tn T)) : ∃ τ', f_X8_count τ = some (lN (Cm T m v), τ') ∧ τ'.1 = τ.1 ∧ ∀ c, (c < 20 ∨ 22 < c) → τ'.2 c = τ.2 c := by
  have hM : msk m 7 < 128 := msk_lt m 7
  unfold f_X8_count
  obtain ⟨τ1, a1, a2, a3, a4⟩ := c2_loop hM f_X8_count_31 FU 0 τ H.1 (fun S hS => by omega) (by omega) (FU_big (by omega))
  rw [show f_X8_count_2 f_X8_count_31 FU 0 τ = _ from a1]
  unfold f_X8_count_31
  obtain ⟨τ2, b1, b2, b3⟩ := c33_loop ho hm FU 0 τ1 (MgC_fr H (by rw [a2]) (by rw [a2]) (by rw [a2]) (a3 17 (by omega))) (by rw [a2]; exact h0) a4 (by omega) (FU_big (by have := ho.1.2; omega))
  rw [show f_X8_count_33 FU 0 τ1 = _ from b1, UU_CC (by have := ho.1.1; omega) (Okm_mem ho hm)]
  exact ⟨τ2, rfl, b2.trans a2, fun c hc => by rw [b3 c hc, a3 c (by omega)]⟩
