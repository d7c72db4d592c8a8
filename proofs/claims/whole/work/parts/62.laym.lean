/-! the reference lays what is to be counted -/
def RowW (τ τ' : St) (T : Tl) (i : Nat) (r : Nat → Nat) : Prop := τ'.1 = τ.1 ∧ (∀ c, c ≠ 17 → τ'.2 c = τ.2 c) ∧ (∀ z, z < tn T → τ'.2 17 (40 * i + z) = lN (r z)) ∧ ∀ j, (j < 40 * i ∨ 40 * i + 40 ≤ j) → τ'.2 17 j = τ.2 17 j
theorem MgC_row {τ τ' : St} {T : Tl} {m : Nat → Bool} {v : Wt} {i : Nat} {r : Nat → Nat} (ho : Okt T) (H : MgC τ T m v) (h : RowW τ τ' T i r) : MgC τ' T m (ur v i r) := by
  have hn := ho.1.2
  refine ⟨by rw [h.1]; exact H.1, fun k hk y hy => ?_, fun s hs => by rw [h.1]; exact H.2.2 s hs⟩
  by_cases e : k = i
  · subst e; rw [ur_eq]; exact h.2.2.1 y hy
  · rw [ur_ne e, h.2.2.2 _ (by omega)]; exact H.2.1 k hk y hy
theorem row_up {τ : St} {T : Tl} (ho : Okt T) {i y : Nat} {r : Nat → Nat} (hy : y < tn T) {τ' : St} {v : Int64} (hv : v = lN (r y)) (h1 : τ'.1 = (up2 τ 17 (40 * i + y) v).1) (h2 : ∀ c, c ≠ 17 → τ'.2 c = (up2 τ 17 (40 * i + y) v).2 c) (h3 : ∀ z, y + 1 ≤ z → z < tn T → τ'.2 17 (40 * i + z) = lN (r z)) (h4 : ∀ j, (j < 40 * i + (y + 1) ∨ 40 * i + 40 ≤ j) → τ'.2 17 j = (up2 τ 17 (40 * i + y) v).2 17 j) : τ'.1 = τ.1 ∧ (∀ c, c ≠ 17 → τ'.2 c = τ.2 c) ∧ (∀ z, y ≤ z → z < tn T → τ'.2 17 (40 * i + z) = lN (r z)) ∧ ∀ j, (j < 40 * i + y ∨ 40 * i + 40 ≤ j) → τ'.2 17 j = τ.2 17 j := by
  have hn := ho.1.2
  refine ⟨h1, fun c hc => by rw [h2 c hc, up2_r hc], fun z z1 z2 => ?_, fun j hj => ?_⟩
  · by_cases e : z = y
    · subst e; rw [h4 _ (by omega), up2_eq, hv]
    · exact h3 z (by omega) z2
  · rw [h4 j (by omega), up2_ne (by omega)]
theorem lay17 {T : Tl} (ho : Okt T) {i : Nat} (hi : i < tf T) (x1 : Int32) (kk : Int32 → Int32 → St → Option St) : ∀ (fu y : Nat) (τ : St), TelM τ.1 T → y ≤ tn T → tn T - y < fu → ∃ τ', f_X8_lay__17 kk fu x1 (nI i) (nI y) τ = kk x1 (nI i) τ' ∧ τ'.1 = τ.1 ∧ (∀ c, c ≠ 17 → τ'.2 c = τ.2 c) ∧ (∀ z, y ≤ z → z < tn T → τ'.2 17 (40 * i + z) = lN (wgt T i z)) ∧ ∀ j, (j < 40 * i + y ∨ 40 * i + 40 ≤ j) → τ'.2 17 j = τ.2 17 j := by
  have hn := ho.1.2
  have hf := ho.2.1
  intro fu
  induction fu with
  | zero => intro y τ _ _ h; omega
  | succ fu ih =>
    intro y τ H hy hfu
    rw [f_X8_lay__17, H.1.1]
    rcases Nat.lt_or_ge y (tn T) with q | q
    · rw [if_neg (nI_ge q (by omega)), weightOf_eq ho H hi (by omega), bS, mul40', cI_t (ix_nI (show 40 * i + y < 280 by omega) (by decide)), nI_clamp (show 40 * i + y < 2 ^ 31 by omega), ap, nI_1]
      obtain ⟨τ', r1, r2, r3, r4, r5⟩ := ih (y + 1) (up2 τ 17 (40 * i + y) (lN (wgt T i y))) H (by omega) (by omega)
      exact ⟨τ', r1, row_up ho q rfl r2 r3 r4 r5⟩
    · obtain rfl : y = tn T := by omega
      rw [if_pos (by rw [I_le]; omega)]
      exact ⟨τ, rfl, rfl, fun _ _ => rfl, fun z z1 z2 => by omega, fun _ _ => rfl⟩
theorem lay7 {T : Tl} (ho : Okt T) (x1 : Int32) (kk : Int32 → St → Option St) : ∀ (fu i : Nat) (τ : St), TelM τ.1 T → (∀ j, j < i → ∀ z, z < tn T → τ.2 17 (40 * j + z) = lN (wgt T j z)) → i ≤ tf T → tf T - i < fu → ∃ τ', f_X8_lay__7 kk fu x1 (nI i) τ = kk x1 τ' ∧ τ'.1 = τ.1 ∧ (∀ c, c ≠ 17 → τ'.2 c = τ.2 c) ∧ ∀ j, j < tf T → ∀ z, z < tn T → τ'.2 17 (40 * j + z) = lN (wgt T j z) := by
  have hn := ho.1.2
  have hf := ho.2.1
  intro fu
  induction fu with
  | zero => intro i τ _ _ _ h; omega
  | succ fu ih =>
    intro i τ H hW hi hfu
    rw [f_X8_lay__7, H.1.2]
    rcases Nat.lt_or_ge i (tf T) with q | q
    · obtain ⟨τ1, r1, r2, r3, r4, r5⟩ := lay17 ho q x1 (f_X8_lay__48 (f_X8_lay__7 kk fu)) FU 0 τ H (by omega) (FU_big (by omega))
      rw [if_neg (nI_ge q (by omega)), show f_X8_lay__17 (f_X8_lay__48 (f_X8_lay__7 kk fu)) FU x1 (nI i) 0 τ = _ from r1]
      unfold f_X8_lay__48
      rw [nI_1]
      obtain ⟨τ2, p1, p2, p3, p4⟩ := ih (i + 1) τ1 (by rw [r2]; exact H) (fun j hj z hz => by
        by_cases e : j = i
        · subst e; exact r4 z (by omega) hz
        · rw [r5 _ (by omega)]; exact hW j (by omega) z hz) (by omega) (by omega)
      exact ⟨τ2, p1, p2.trans r2, fun c hc => (p3 c hc).trans (r3 c hc), p4⟩
    · obtain rfl : i = tf T := by omega
      rw [if_pos (by rw [I_le]; omega)]
      exact ⟨τ, rfl, rfl, fun _ _ => rfl, hW⟩
def pa (T : Tl) (m : Nat → Bool) (s i k w : Nat) : Nat → Bool := fun j => m j && (if j < i then ex (fun k => s.testBit k && (th T j k == w)) (tf T) else if j = i then ex (fun k => s.testBit k && (th T j k == w)) k else false)
theorem pa_step {T : Tl} {m : Nat → Bool} {s i k w : Nat} (hi : i < 7) : msk (pa T m s i (k + 1) w) 7 = if (m i && (s.testBit k && (th T i k == w))) = true then msk (pa T m s i k w) 7 ||| 2 ^ i else msk (pa T m s i k w) 7 := by
  by_cases c : (m i && (s.testBit k && (th T i k == w))) = true
  · rw [if_pos c, msk_set hi]
    apply msk_congr
    intro j _
    unfold pa
    by_cases e : j = i
    · subst e
      rw [Bool.and_eq_true] at c
      simp only [Nat.lt_irrefl, if_false, if_true, ex, c.1, c.2, decide_true, Bool.or_true, Bool.and_self]
    · simp [e]
  · rw [if_neg c]
    apply msk_congr
    intro j _
    unfold pa
    by_cases e : j = i
    · subst e
      simp only [Nat.lt_irrefl, if_false, if_true, ex]
      rw [Bool.not_eq_true] at c
      rw [Bool.and_or_distrib_left, c, Bool.or_false]
    · simp [e]
theorem lay93 {T : Tl} {m : Nat → Bool} (ho : Okt T) (hm : Okm T m) {s i : Nat} (hs : s < 128) (hi : i < tf T) (kk : Int32 → Int32 → Int32 → St → Option St) : ∀ (fu k : Nat) (τ : St), TelM τ.1 T → τ.1 18 s = nI (msk (pa T m s i k 1) 7) → τ.1 19 s = nI (msk (pa T m s i k 2) 7) → k ≤ tf T → tf T - k < fu → ∃ τ', f_X8_lay__93 kk fu (nI (msk m 7)) (nI s) (nI i) (nI k) τ = kk (nI (msk m 7)) (nI s) (nI i) τ' ∧ τ'.1 18 s = nI (msk (pa T m s i (tf T) 1) 7) ∧ τ'.1 19 s = nI (msk (pa T m s i (tf T) 2) 7) ∧ (∀ j, j ≠ s → τ'.1 18 j = τ.1 18 j ∧ τ'.1 19 j = τ.1 19 j) ∧ (∀ c, (c ≠ 18 ∧ c ≠ 19) → τ'.1 c = τ.1 c) ∧ τ'.2 = τ.2 := by
  have hf := ho.2.1
  have hM : msk m 7 < 128 := msk_lt m 7
  have em := msk_all ho.2.1 hm
  intro fu
  induction fu with
  | zero => intro k τ _ _ _ _ h; omega
  | succ fu ih =>
    intro k τ H h18 h19 hk hfu
    rw [f_X8_lay__93, H.1.2]
    rcases Nat.lt_or_ge k (tf T) with q | q
    · have s1 := pa_step (T := T) (m := m) (s := s) (k := k) (w := 1) (show i < 7 by omega)
      have s2 := pa_step (T := T) (m := m) (s := s) (k := k) (w := 2) (show i < 7 by omega)
      have skip : (m i && (s.testBit k && (th T i k == 1))) = false → (m i && (s.testBit k && (th T i k == 2))) = false → ∃ τ', f_X8_lay__177 (f_X8_lay__93 kk fu) (nI (msk m 7)) (nI s) (nI i) (nI k) τ = kk (nI (msk m 7)) (nI s) (nI i) τ' ∧ τ'.1 18 s = nI (msk (pa T m s i (tf T) 1) 7) ∧ τ'.1 19 s = nI (msk (pa T m s i (tf T) 2) 7) ∧ (∀ j, j ≠ s → τ'.1 18 j = τ.1 18 j ∧ τ'.1 19 j = τ.1 19 j) ∧ (∀ c, (c ≠ 18 ∧ c ≠ 19) → τ'.1 c = τ.1 c) ∧ τ'.2 = τ.2 := fun c1 c2 => by
        unfold f_X8_lay__177
        rw [nI_1]
        rw [c1, if_neg (by decide)] at s1
        rw [c2, if_neg (by decide)] at s2
        exact ih (k + 1) τ H (by rw [s1]; exact h18) (by rw [s2]; exact h19) (by omega) (by omega)
      rw [if_neg (nI_ge q (by omega)), in_eq hs (by omega), bS]
      by_cases b : s.testBit k = true
      · rw [if_pos b, if_neg one_ne, in_eq hM (by omega), bS, em]
        by_cases mi : m i = true
        · have hp := H.2.2.2.2 i k hi q
          have h2 := ho.2.2.2.2.2.1 i k
          rw [if_pos mi, if_neg one_ne, mul7, cI_t (ix_nI (show 7 * i + k < 49 by omega) (by decide)), nI_clamp (show 7 * i + k < 2 ^ 31 by omega), hp]
          by_cases t0 : th T i k = 0
          · rw [t0, if_pos (show nI 0 ≤ 0 by decide)]
            exact skip (by rw [t0]; simp) (by rw [t0]; simp)
          · rw [if_neg (nI_nle (by omega) (by omega)), cI_t (ix_nI (show 7 * i + k < 49 by omega) (by decide))]
            by_cases t1 : th T i k = 1
            · rw [t1, if_pos (show nI 1 = 1 from rfl), cI_t (ix_nI hs (by decide)), cI_t (ix_nI hs (by decide)), nI_clamp (show s < 2 ^ 31 by omega), h18, bO _ (msk_lt _ 7) i (by omega), ap]
              rw [t1, mi, b, if_pos (by decide)] at s1
              rw [t1, if_neg (by simp)] at s2
              unfold f_X8_lay__177
              rw [nI_1, ← s1]
              obtain ⟨τ', r1, r2, r3, r4, r5, r6⟩ := ih (k + 1) (up1 τ 18 s (nI (msk (pa T m s i (k + 1) 1) 7))) (TelM_congr (up1_ne (by omega)) (up1_ne (by omega)) (fun a a1 a2 => up1_r (by omega)) H) up1_eq (by rw [up1_r (by omega), s2]; exact h19) (by omega) (by omega)
              refine ⟨τ', r1, r2, r3, fun j hj => ?_, fun c hc => by rw [r5 c hc, up1_r hc.1], r6⟩
              rw [(r4 j hj).1, (r4 j hj).2, up1_ne (by omega), up1_r (by omega)]
              exact ⟨rfl, rfl⟩
            · have t2 : th T i k = 2 := by omega
              rw [t2, if_neg (show ¬ nI 2 = 1 by decide), cI_t (ix_nI hs (by decide)), cI_t (ix_nI hs (by decide)), nI_clamp (show s < 2 ^ 31 by omega), h19, bO _ (msk_lt _ 7) i (by omega), ap]
              rw [t2, if_neg (by simp)] at s1
              rw [t2, mi, b, if_pos (by decide)] at s2
              unfold f_X8_lay__177
              rw [nI_1, ← s2]
              obtain ⟨τ', r1, r2, r3, r4, r5, r6⟩ := ih (k + 1) (up1 τ 19 s (nI (msk (pa T m s i (k + 1) 2) 7))) (TelM_congr (up1_ne (by omega)) (up1_ne (by omega)) (fun a a1 a2 => up1_r (by omega)) H) (by rw [up1_r (by omega), s1]; exact h18) up1_eq (by omega) (by omega)
              refine ⟨τ', r1, r2, r3, fun j hj => ?_, fun c hc => by rw [r5 c hc, up1_r hc.2], r6⟩
              rw [(r4 j hj).1, (r4 j hj).2, up1_r (by omega), up1_ne (by omega)]
              exact ⟨rfl, rfl⟩
        · rw [if_neg mi, if_pos rfl]
          rw [Bool.not_eq_true] at mi
          exact skip (by rw [mi]; rfl) (by rw [mi]; rfl)
      · rw [if_neg b, if_pos rfl]
        rw [Bool.not_eq_true] at b
        exact skip (by rw [b]; simp) (by rw [b]; simp)
    · obtain rfl : k = tf T := by omega
      rw [if_pos (by rw [I_le]; omega)]
      exact ⟨τ, rfl, h18, h19, fun _ _ => ⟨rfl, rfl⟩, fun _ _ => rfl, rfl⟩
theorem pa_next {T : Tl} {m : Nat → Bool} {s i w : Nat} : pa T m s i (tf T) w = pa T m s (i + 1) 0 w := by
  funext j
  unfold pa
  by_cases e : j < i
  · rw [if_pos e, if_pos (by omega)]
  · rw [if_neg e]
    by_cases e2 : j = i
    · rw [if_pos e2, if_pos (by omega)]
    · rw [if_neg e2, if_neg (by omega)]
      by_cases e3 : j = i + 1
      · rw [if_pos e3]; rfl
      · rw [if_neg e3]
theorem lay82 {T : Tl} {m : Nat → Bool} (ho : Okt T) (hm : Okm T m) {s : Nat} (hs : s < 128) (kk : Int32 → Int32 → St → Option St) : ∀ (fu i : Nat) (τ : St), TelM τ.1 T → τ.1 18 s = nI (msk (pa T m s i 0 1) 7) → τ.1 19 s = nI (msk (pa T m s i 0 2) 7) → i ≤ tf T → tf T - i < fu → ∃ τ', f_X8_lay__82 kk fu (nI (msk m 7)) (nI s) (nI i) τ = kk (nI (msk m 7)) (nI s) τ' ∧ τ'.1 18 s = nI (rowS T m s 1) ∧ τ'.1 19 s = nI (rowS T m s 2) ∧ (∀ j, j ≠ s → τ'.1 18 j = τ.1 18 j ∧ τ'.1 19 j = τ.1 19 j) ∧ (∀ c, (c ≠ 18 ∧ c ≠ 19) → τ'.1 c = τ.1 c) ∧ τ'.2 = τ.2 := by
  have hf := ho.2.1
  intro fu
  induction fu with
  | zero => intro i τ _ _ _ _ h; omega
  | succ fu ih =>
    intro i τ H h18 h19 hi hfu
    rw [f_X8_lay__82, H.1.2]
    rcases Nat.lt_or_ge i (tf T) with q | q
    · obtain ⟨τ1, r1, r2, r3, r4, r5, r6⟩ := lay93 ho hm hs q (f_X8_lay__183 (f_X8_lay__82 kk fu)) FU 0 τ H h18 h19 (by omega) (FU_big (by omega))
      rw [if_neg (nI_ge q (by omega)), show f_X8_lay__93 (f_X8_lay__183 (f_X8_lay__82 kk fu)) FU (nI (msk m 7)) (nI s) (nI i) 0 τ = _ from r1]
      unfold f_X8_lay__183
      rw [nI_1]
      rw [pa_next] at r2 r3
      obtain ⟨τ2, p1, p2, p3, p4, p5, p6⟩ := ih (i + 1) τ1 (TelM_congr (by rw [r5 0 (by omega)]) (by rw [r5 0 (by omega)]) (fun a a1 a2 => r5 a (by omega)) H) r2 r3 (by omega) (by omega)
      refine ⟨τ2, p1, p2, p3, fun j hj => ?_, fun c hc => (p5 c hc).trans (r5 c hc), p6.trans r6⟩
      rw [(p4 j hj).1, (p4 j hj).2]
      exact r4 j hj
    · obtain rfl : i = tf T := by omega
      rw [if_pos (by rw [I_le]; omega)]
      have e : ∀ w, msk (pa T m s (tf T) 0 w) 7 = rowS T m s w := fun w => by
        unfold rowS
        apply msk_congr
        intro j _
        unfold pa
        by_cases c : j < tf T
        · rw [if_pos c]
        · rw [if_neg c]
          have : ¬ m j = true := fun x => c (hm j x)
          simp at this
          rw [this, Bool.false_and, Bool.false_and]
      rw [e] at h18 h19
      exact ⟨τ, rfl, h18, h19, fun _ _ => ⟨rfl, rfl⟩, fun _ _ => rfl, rfl⟩
theorem b1' : ∀ i, i < 8 → ((1 : Int32) <<< (nI i &&& 31)) = nI (2 ^ i) := by decide +kernel
theorem pow7 {f : Nat} (h : f ≤ 7) : 2 ^ f ≤ 128 := Nat.pow_le_pow_right (n := 2) (by decide) h
theorem lay56 {T : Tl} {m : Nat → Bool} (ho : Okt T) (hm : Okm T m) : ∀ (fu s : Nat) (τ : St), TelM τ.1 T → (∀ t, t < s → τ.1 18 t = nI (rowS T m t 1) ∧ τ.1 19 t = nI (rowS T m t 2)) → s ≤ 2 ^ tf T → 2 ^ tf T - s < fu → ∃ τ', f_X8_lay__56 fu (nI (msk m 7)) (nI s) τ = some τ' ∧ (∀ t, t < 2 ^ tf T → τ'.1 18 t = nI (rowS T m t 1) ∧ τ'.1 19 t = nI (rowS T m t 2)) ∧ (∀ c, (c ≠ 18 ∧ c ≠ 19) → τ'.1 c = τ.1 c) ∧ τ'.2 = τ.2 := by
  have hf := ho.2.1
  have hp := pow7 hf
  intro fu
  induction fu with
  | zero => intro s τ _ _ _ h; omega
  | succ fu ih =>
    intro s τ H hr hs hfu
    rw [f_X8_lay__56, H.1.2, b1' _ (by omega)]
    rcases Nat.lt_or_ge s (2 ^ tf T) with q | q
    · rw [if_neg (nI_ge q (by omega)), cI_t (ix_nI (show s < 128 by omega) (by decide)), ap, cI_t (ix_nI (show s < 128 by omega) (by decide)), ap, nI_clamp (show s < 2 ^ 31 by omega)]
      have z : ∀ w, msk (pa T m s 0 0 w) 7 = 0 := fun w => msk_0 (fun j _ => by
        unfold pa
        by_cases e : j = 0
        · rw [if_neg (by omega), if_pos e]; simp [ex]
        · rw [if_neg (by omega), if_neg e]; simp)
      obtain ⟨τ1, r1, r2, r3, r4, r5, r6⟩ := lay82 ho hm (show s < 128 by omega) (f_X8_lay__189 (f_X8_lay__56 fu)) FU 0 (up1 (up1 τ 18 s 0) 19 s 0) (TelM_congr (by rw [up1_ne (by omega), up1_ne (by omega)]) (by rw [up1_ne (by omega), up1_ne (by omega)]) (fun a a1 a2 => by rw [up1_r (by omega), up1_r (by omega)]) H) (by rw [up1_r (by omega), up1_eq, z]; rfl) (by rw [up1_eq, z]; rfl) (by omega) (FU_big (by omega))
      rw [show f_X8_lay__82 (f_X8_lay__189 (f_X8_lay__56 fu)) FU (nI (msk m 7)) (nI s) 0 (up1 (up1 τ 18 s 0) 19 s 0) = _ from r1]
      unfold f_X8_lay__189
      rw [nI_1]
      have f5 : ∀ c, (c ≠ 18 ∧ c ≠ 19) → τ1.1 c = τ.1 c := fun c hc => by rw [r5 c hc, up1_r hc.2, up1_r hc.1]
      obtain ⟨τ2, p1, p2, p3, p4⟩ := ih (s + 1) τ1 (TelM_congr (by rw [f5 0 (by omega)]) (by rw [f5 0 (by omega)]) (fun a a1 a2 => f5 a (by omega)) H) (fun t ht => by
        by_cases e : t = s
        · subst e; exact ⟨r2, r3⟩
        · rw [(r4 t e).1, (r4 t e).2, up1_r (by omega), up1_ne (by omega), up1_ne (by omega), up1_r (by omega)]
          exact hr t (by omega)) (by omega) (by omega)
      exact ⟨τ2, p1, p2, fun c hc => (p3 c hc).trans (f5 c hc), p4.trans r6⟩
    · obtain rfl : s = 2 ^ tf T := by omega
      rw [if_pos (by rw [I_le]; omega)]
      exact ⟨τ, rfl, hr, fun _ _ => rfl, rfl⟩
theorem laym_eq {T : Tl} {m : Nat → Bool} {τ : St} (ho : Okt T) (hm : Okm T m) (H : TelM τ.1 T) : ∃ τ', f_X8_lay_ (nI (msk m 7)) τ = some τ' ∧ MgC τ' T m (wgt T) ∧ (∀ c, (c ≠ 0 ∧ c ≠ 18 ∧ c ≠ 19) → τ'.1 c = τ.1 c) ∧ (∀ j, j ≠ 27 → τ'.1 0 j = τ.1 0 j) ∧ ∀ c, c ≠ 17 → τ'.2 c = τ.2 c := by
  have hf := ho.2.1
  have hp := pow7 hf
  unfold f_X8_lay_
  have H0 : TelM (up1 τ 0 27 (nI (msk m 7))).1 T := TelM_congr (up1_ne (by omega)) (up1_ne (by omega)) (fun a a1 a2 => up1_r (by omega)) H
  have e27 : (up1 τ 0 27 (nI (msk m 7))).1 0 27 = nI (msk m 7) := up1_eq
  have e0 : ∀ j, j ≠ 27 → (up1 τ 0 27 (nI (msk m 7))).1 0 j = τ.1 0 j := fun j hj => up1_ne (by omega)
  have ec : ∀ c, c ≠ 0 → (up1 τ 0 27 (nI (msk m 7))).1 c = τ.1 c := fun c hc => up1_r hc
  have e2 : (up1 τ 0 27 (nI (msk m 7))).2 = τ.2 := rfl
  generalize up1 τ 0 27 (nI (msk m 7)) = τ0 at H0 e27 e0 ec e2 ⊢
  obtain ⟨τ1, a1, a2, a3, a4⟩ := lay7 ho (nI (msk m 7)) f_X8_lay__54 FU 0 τ0 H0 (fun j hj => by omega) (by omega) (FU_big (by omega))
  rw [show f_X8_lay__7 f_X8_lay__54 FU (nI (msk m 7)) 0 τ0 = _ from a1]
  unfold f_X8_lay__54
  obtain ⟨τ2, b1, b2, b3, b4⟩ := lay56 ho hm FU 0 τ1 (by rw [a2]; exact H0) (fun t ht => by omega) (Nat.zero_le _) (FU_big (by omega))
  refine ⟨τ2, b1, ⟨by rw [b3 0 (by omega), a2]; exact e27, fun i hi y hy => by rw [b4]; exact a4 i hi y hy, b2⟩, fun c hc => by rw [b3 c hc.2, a2, ec c hc.1], fun j hj => by rw [b3 0 (by omega), a2, e0 j hj], fun c hc => by rw [b4, a3 c hc, e2]⟩
def lim (T : Tl) (i a b : Nat) : Nat → Nat := fun z => if a ≤ z ∧ z ≤ b then wgt T i z else 0
theorem only3 {T : Tl} (ho : Okt T) {i a b : Nat} (hi : i < tf T) (ha : a < 2 ^ 30) (hb : b < 2 ^ 30) : ∀ (fu y : Nat) (τ : St), TelM τ.1 T → y ≤ tn T → tn T - y < fu → ∃ τ', f_X8_only_3 fu (nI i) (nI a) (nI b) (nI y) τ = some τ' ∧ τ'.1 = τ.1 ∧ (∀ c, c ≠ 17 → τ'.2 c = τ.2 c) ∧ (∀ z, y ≤ z → z < tn T → τ'.2 17 (40 * i + z) = lN (lim T i a b z)) ∧ ∀ j, (j < 40 * i + y ∨ 40 * i + 40 ≤ j) → τ'.2 17 j = τ.2 17 j := by
  have hn := ho.1.2
  have hf := ho.2.1
  intro fu
  induction fu with
  | zero => intro y τ _ _ h; omega
  | succ fu ih =>
    intro y τ H hy hfu
    rw [f_X8_only_3, H.1.1]
    rcases Nat.lt_or_ge y (tn T) with q | q
    · have fin : ∀ x : Int64, x = lN (lim T i a b y) → ∃ τ', f_X8_only_46 (f_X8_only_3 fu) (nI i) (nI a) (nI b) (nI y) x (nI (40 * i + y)) τ = some τ' ∧ τ'.1 = τ.1 ∧ (∀ c, c ≠ 17 → τ'.2 c = τ.2 c) ∧ (∀ z, y ≤ z → z < tn T → τ'.2 17 (40 * i + z) = lN (lim T i a b z)) ∧ ∀ j, (j < 40 * i + y ∨ 40 * i + 40 ≤ j) → τ'.2 17 j = τ.2 17 j := fun x hx => by
        unfold f_X8_only_46
        rw [cI_t (ix_nI (show 40 * i + y < 280 by omega) (by decide)), nI_clamp (show 40 * i + y < 2 ^ 31 by omega), ap, nI_1]
        obtain ⟨τ', r1, r2, r3, r4, r5⟩ := ih (y + 1) (up2 τ 17 (40 * i + y) x) H (by omega) (by omega)
        exact ⟨τ', r1, row_up ho q hx r2 r3 r4 r5⟩
      rw [if_neg (nI_ge q (by omega)), mul40']
      by_cases c1 : a ≤ y
      · rw [if_neg (nI_nlt c1 (by omega))]
        by_cases c2 : y ≤ b
        · rw [if_neg (nI_nlt c2 (by omega)), weightOf_eq ho H hi (by omega), bS]
          exact fin _ (by unfold lim; rw [if_pos ⟨c1, c2⟩])
        · rw [if_pos (nI_lt (by omega) (by omega))]
          unfold f_X8_only_45
          exact fin 0 (by unfold lim; rw [if_neg (fun q => c2 q.2)]; rfl)
      · rw [if_pos (nI_lt (by omega) (by omega))]
        unfold f_X8_only_45
        exact fin 0 (by unfold lim; rw [if_neg (fun q => c1 q.1)]; rfl)
    · obtain rfl : y = tn T := by omega
      rw [if_pos (by rw [I_le]; omega)]
      exact ⟨τ, rfl, rfl, fun _ _ => rfl, fun z z1 z2 => by omega, fun _ _ => rfl⟩
theorem only_eq {T : Tl} {τ : St} (ho : Okt T) {i a b : Nat} (hi : i < tf T) (ha : a < 2 ^ 30) (hb : b < 2 ^ 30) (H : TelM τ.1 T) : ∃ τ', f_X8_only (nI i) (nI a) (nI b) τ = some τ' ∧ RowW τ τ' T i (lim T i a b) := by
  obtain ⟨τ', r1, r2, r3, r4, r5⟩ := only3 ho hi ha hb FU 0 τ H (by omega) (FU_big (by have := ho.1.2; omega))
  exact ⟨τ', r1, r2, r3, fun z hz => r4 z (by omega) hz, fun j hj => r5 j (by omega)⟩
