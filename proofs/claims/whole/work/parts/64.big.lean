/-! BIG -/
def bst (s : Nat → Nat) (m : Nat → Bool) : Nat → Nat × Bool × Bool
  | 0 => (1, false, false)
  | i + 1 => if m i = true then (if s i = 0 then ((bst s m i).1, (bst s m i).2.1, true) else if (bst s m i).2.1 = true ∨ 4000000000000000 / s i < (bst s m i).1 then ((bst s m i).1, true, (bst s m i).2.2) else ((bst s m i).1 * s i, false, (bst s m i).2.2)) else bst s m i
def BigQ (s : Nat → Nat) (m : Nat → Bool) (f : Nat) : Bool := (bst s m f).2.1 && !(bst s m f).2.2
theorem bst_congr {s s' : Nat → Nat} {m : Nat → Bool} : ∀ {f : Nat}, (∀ i, i < f → s i = s' i) → bst s m f = bst s' m f
  | 0, _ => rfl
  | f + 1, h => by
    unfold bst
    rw [bst_congr (f := f) (fun i hi => h i (by omega)), h f (by omega)]
theorem bst_le (s : Nat → Nat) (m : Nat → Bool) : ∀ i, (bst s m i).1 ≤ 4000000000000000
  | 0 => by show 1 ≤ _; decide
  | i + 1 => by
    have ih := bst_le s m i
    unfold bst
    by_cases c : m i = true
    · rw [if_pos c]
      by_cases z : s i = 0
      · rw [if_pos z]; exact ih
      · rw [if_neg z]
        by_cases d : (bst s m i).2.1 = true ∨ 4000000000000000 / s i < (bst s m i).1
        · rw [if_pos d]; exact ih
        · rw [if_neg d]
          have : (bst s m i).1 ≤ 4000000000000000 / s i := by
            rcases Nat.lt_or_ge (4000000000000000 / s i) (bst s m i).1 with q | q
            · exact absurd (Or.inr q) d
            · exact q
          exact (Nat.le_div_iff_mul_le (by omega)).mp this
    · rw [if_neg c]; exact ih
theorem bst_z {s : Nat → Nat} {m : Nat → Bool} : ∀ {i : Nat}, (bst s m i).2.2 = true → ∃ j, j < i ∧ m j = true ∧ s j = 0
  | 0, h => by simp [bst] at h
  | i + 1, h => by
    have up : (bst s m i).2.2 = true → ∃ j, j < i + 1 ∧ m j = true ∧ s j = 0 := fun q => by
      obtain ⟨j, a, b⟩ := bst_z q
      exact ⟨j, by omega, b⟩
    unfold bst at h
    by_cases c : m i = true
    · rw [if_pos c] at h
      by_cases z : s i = 0
      · exact ⟨i, by omega, c, z⟩
      · rw [if_neg z] at h
        by_cases d : (bst s m i).2.1 = true ∨ 4000000000000000 / s i < (bst s m i).1
        · rw [if_pos d] at h; exact up h
        · rw [if_neg d] at h; exact up h
    · rw [if_neg c] at h; exact up h
theorem bst_p {s : Nat → Nat} {m : Nat → Bool} : ∀ {i : Nat}, (bst s m i).2.1 = false → (bst s m i).2.2 = false → (bst s m i).1 = pr (fun j => if m j = true then s j else 1) i
  | 0, _, _ => rfl
  | i + 1, h1, h2 => by
    unfold bst at h1 h2 ⊢
    unfold pr
    by_cases c : m i = true
    · rw [if_pos c] at h1 h2 ⊢
      rw [if_pos c]
      by_cases z : s i = 0
      · rw [if_pos z] at h2; exact absurd (show true = false from h2) (by decide)
      · rw [if_neg z] at h1 h2 ⊢
        by_cases d : (bst s m i).2.1 = true ∨ 4000000000000000 / s i < (bst s m i).1
        · rw [if_pos d] at h1; exact absurd (show true = false from h1) (by decide)
        · rw [if_neg d] at h1 h2 ⊢
          have hB : (bst s m i).2.1 = false := by
            have : ¬ (bst s m i).2.1 = true := fun q => d (Or.inl q)
            simpa using this
          rw [bst_p (i := i) hB h2]
    · rw [if_neg c] at h1 h2 ⊢
      rw [if_neg c, Nat.mul_one]
      exact bst_p h1 h2
theorem bst_zm {s : Nat → Nat} {m : Nat → Bool} {i : Nat} (h : (bst s m i).2.2 = true) : ∀ d, (bst s m (i + d)).2.2 = true
  | 0 => h
  | d + 1 => by
    have ih := bst_zm h d
    rw [show i + (d + 1) = (i + d) + 1 by omega]
    unfold bst
    by_cases c : m (i + d) = true
    · rw [if_pos c]
      by_cases z : s (i + d) = 0
      · rw [if_pos z]
      · rw [if_neg z]
        by_cases e : (bst s m (i + d)).2.1 = true ∨ 4000000000000000 / s (i + d) < (bst s m (i + d)).1
        · rw [if_pos e]; exact ih
        · rw [if_neg e]; exact ih
    · rw [if_neg c]; exact ih
theorem big_not {s : Nat → Nat} {m : Nat → Bool} {f : Nat} (h : BigQ s m f = false) : (∃ j, j < f ∧ m j = true ∧ s j = 0) ∨ pr (fun j => if m j = true then s j else 1) f ≤ 4000000000000000 := by
  by_cases z : (bst s m f).2.2 = true
  · exact Or.inl (bst_z z)
  · have z' : (bst s m f).2.2 = false := by simpa using z
    unfold BigQ at h
    rw [z'] at h
    have hB : (bst s m f).2.1 = false := by simpa using h
    right
    rw [← bst_p hB z']
    exact bst_le s m f
/-! counts are bounded -/
theorem pr_le2 {F H : Nat → Nat} : ∀ {n : Nat}, (∀ i, i < n → F i ≤ H i) → pr F n ≤ pr H n
  | 0, _ => Nat.le_refl _
  | n + 1, h => by
    unfold pr
    exact Nat.mul_le_mul (pr_le2 (fun i hi => h i (by omega))) (h n (by omega))
theorem gs_pr {n : Nat} (c : Nat → Nat → Nat) : ∀ k, gs n k (fun g => pr (fun i => c i (g i)) k) = pr (fun i => sm (c i) n) k
  | 0 => rfl
  | k + 1 => by
    show sm (fun y => gs n k (fun g => pr (fun i => c i (un g k y i)) (k + 1))) n = pr (fun i => sm (c i) n) k * sm (c k) n
    rw [← gs_pr c k, ← sm_mul]
    refine sm_congr (fun y _ => ?_)
    rw [Nat.mul_comm, ← gs_mul]
    refine gs_congr (fun g _ => ?_)
    show pr (fun i => c i (un g k y i)) k * c k (un g k y k) = _
    rw [Nat.mul_comm]
    congr 1
    · simp [un]
    · refine pr_congr (fun i hi => ?_)
      unfold un
      rw [if_neg (by omega)]
theorem CC_le {n f : Nat} (h0 : 0 < n) {m : Nat → Bool} {A N : Rl} {w : Wt} : CC n f m A N w ≤ pr (fun i => if m i = true then sm (w i) n else 1) f := by
  have e : pr (fun i => if m i = true then sm (w i) n else 1) f = pr (fun i => sm (coef m w i) n) f := pr_congr (fun i _ => by
    by_cases c : m i = true
    · rw [if_pos c]
      exact sm_congr (fun y _ => by unfold coef; rw [if_pos c])
    · rw [if_neg c, sm_one h0]
      · unfold coef; rw [if_neg c, if_pos rfl]
      · intro y _ hy
        unfold coef; rw [if_neg c, if_neg hy])
  rw [e, ← gs_pr (coef m w) f]
  unfold CC
  refine gs_le (fun g _ => ?_)
  exact Nat.le_trans (Nat.mul_le_mul_left _ (ind_le _)) (by rw [Nat.mul_one]; exact Nat.le_refl _)
theorem CC_mono {n f : Nat} {m : Nat → Bool} {A N A' N' : Rl} {w w' : Wt} (hw : ∀ i, i < f → ∀ y, y < n → w i y ≤ w' i y) (hA : ∀ g, okg m A N g → okg m A' N' g) : CC n f m A N w ≤ CC n f m A' N' w' := by
  unfold CC
  refine gs_le (fun g hg => Nat.mul_le_mul (pr_le2 (fun i hi => ?_)) ?_)
  · unfold coef
    by_cases c : m i = true
    · rw [if_pos c, if_pos c]; exact hw i hi _ (hg i hi)
    · rw [if_neg c, if_neg c]; exact Nat.le_refl _
  · by_cases c : okg m A N g
    · rw [ind_t c, ind_t (hA g c)]; exact Nat.le_refl _
    · rw [ind_f c]; exact Nat.zero_le _
theorem CC_congr {n f : Nat} {m : Nat → Bool} {A N A' N' : Rl} {w w' : Wt} (hw : ∀ i, i < f → m i = true → ∀ y, y < n → w i y = w' i y) (hA : ∀ j k, A j k ↔ A' j k) (hN : ∀ j k, N j k ↔ N' j k) : CC n f m A N w = CC n f m A' N' w' := by
  unfold CC
  refine gs_congr (fun g hg => ?_)
  congr 1
  · refine pr_congr (fun i hi => ?_)
    unfold coef
    by_cases c : m i = true
    · rw [if_pos c, if_pos c]; exact hw i hi c _ (hg i hi)
    · rw [if_neg c, if_neg c]
  · exact ind_iff ⟨fun q j k => ⟨fun h => (q j k).1 ((hA j k).mpr h), fun h => (q j k).2 ((hN j k).mpr h)⟩, fun q j k => ⟨fun h => (q j k).1 ((hA j k).mp h), fun h => (q j k).2 ((hN j k).mp h)⟩⟩
theorem sm_mem {F : Nat → Nat} : ∀ {n y : Nat}, y < n → F y ≤ sm F n
  | n + 1, y, h => by
    unfold sm
    by_cases e : y = n
    · subst e; exact Nat.le_add_left _ _
    · exact Nat.le_trans (sm_mem (n := n) (by omega)) (Nat.le_add_right _ _)
theorem CC_big {n f : Nat} (h0 : 0 < n) {m : Nat → Bool} {A N : Rl} {w : Wt} (h : BigQ (fun i => sm (w i) n) m f = false) : CC n f m A N w ≤ 4000000000000000 := by
  rcases big_not h with ⟨j, h1, h2, h3⟩ | q
  · rw [CC_nil h2 h1 (fun y hy => ?_)]
    · exact Nat.zero_le _
    · have := sm_mem (F := w j) hy
      omega
  · exact Nat.le_trans (CC_le h0) q
/-! the system's BIG -/
theorem sumW {σ : St} {G : Wg} (ho : Okw G) (H : WgC σ G) {i : Nat} (hi : i < wf G) : ∀ (fu y : Nat), y ≤ wn G → wn G - y < fu → f_X6_sumOfWeights_5 fu (nI i) (lN (sm (wv G i) y)) (nI y) σ = some (lN (sm (wv G i) (wn G)), σ) := by
  have hn := ho.1.2
  have hf := ho.2.1
  intro fu
  induction fu with
  | zero => intro y _ h; omega
  | succ fu ih =>
    intro y hy hfu
    rw [f_X6_sumOfWeights_5, H.1.1]
    rcases Nat.lt_or_ge y (wn G) with q | q
    · rw [if_neg (nI_ge q (by omega)), mul40, cI_t (ix_nI (show 40 * i + y < 280 by omega) (by decide)), nI_clamp (show 40 * i + y < 2 ^ 31 by omega), H.2.1 i hi y q, lN_add, ap, nI_1]
      exact ih (y + 1) (by omega) (by omega)
    · obtain rfl : y = wn G := by omega
      rw [if_pos (by rw [I_le]; omega)]
def bI (b : Bool) : Int32 := if b = true then 1 else 0
theorem bI_0 (b : Bool) : bI b = 0 ↔ b = false := by cases b <;> decide
theorem l0 : (0 : Int64) = lN 0 := rfl
theorem l4e : (4000000000000000 : Int64) = lN 4000000000000000 := rfl
theorem bst_s {s : Nat → Nat} {m : Nat → Bool} {i : Nat} {P : Nat} {B Z : Bool} (h : bst s m i = (P, B, Z)) : bst s m (i + 1) = if m i = true then (if s i = 0 then (P, B, true) else if B = true ∨ 4000000000000000 / s i < P then (P, true, Z) else (P * s i, false, Z)) else (P, B, Z) := by
  show (if m i = true then (if s i = 0 then ((bst s m i).1, (bst s m i).2.1, true) else if (bst s m i).2.1 = true ∨ 4000000000000000 / s i < (bst s m i).1 then ((bst s m i).1, true, (bst s m i).2.2) else ((bst s m i).1 * s i, false, (bst s m i).2.2)) else bst s m i) = _
  rw [h]
theorem bigC_loop {σ : St} {G : Wg} (ho : Okw G) (H : WgC σ G) (hs : ∀ i, i < wf G → sm (wv G i) (wn G) < 2 ^ 31) : ∀ (fu i P : Nat) (B : Bool), bst (fun i => sm (wv G i) (wn G)) (wm G) i = (P, B, false) → i ≤ wf G → wf G - i < fu → f_X6_isBig_7 fu (lN P) (bI B) (nI i) σ = some (bI (BigQ (fun i => sm (wv G i) (wn G)) (wm G) (wf G)), σ) := by
  have hn := ho.1.2
  have hf := ho.2.1
  intro fu
  induction fu with
  | zero => intro i P B _ _ h; omega
  | succ fu ih =>
    intro i P B hb hi hfu
    rw [f_X6_isBig_7, H.1.2.1]
    rcases Nat.lt_or_ge i (wf G) with q | q
    · have st := bst_s hb
      have hP : P ≤ 4000000000000000 := by have := bst_le (fun i => sm (wv G i) (wn G)) (wm G) i; rw [hb] at this; exact this
      rw [if_neg (nI_ge q (by omega)), isMember_eq H (by omega), bS]
      by_cases c : wm G i = true
      · rw [if_pos c] at st
        rw [if_pos c, if_neg one_ne]
        unfold f_X6_sumOfWeights
        rw [show f_X6_sumOfWeights_5 FU (nI i) 0 0 σ = _ from sumW ho H q FU 0 (by omega) (FU_big (by omega)), bS]
        have hsi := hs i q
        by_cases z : sm (wv G i) (wn G) = 0
        · rw [if_pos z] at st
          rw [z, if_pos (show lN 0 = (0 : Int64) from rfl)]
          have zz := bst_zm (s := fun i => sm (wv G i) (wn G)) (m := wm G) (i := i + 1) (by rw [st]) (wf G - (i + 1))
          rw [show i + 1 + (wf G - (i + 1)) = wf G by omega] at zz
          unfold BigQ
          rw [zz, Bool.not_true, Bool.and_false]
          rfl
        · rw [if_neg z] at st
          rw [if_neg (fun e => z ((lN_0 (by omega)).mp e))]
          cases B with
          | true =>
            rw [if_pos (Or.inl rfl)] at st
            rw [if_neg (show ¬ bI true = 0 by decide)]
            unfold f_X6_isBig_60 f_X6_isBig_70
            rw [nI_1]
            exact ih (i + 1) P true st (by omega) (by omega)
          | false =>
            rw [if_pos (show bI false = 0 by decide), cI_t (by rw [decide_eq_false (fun e => z ((lN_0 (by omega)).mp e))]; rfl), l4e, pk_lDiv (by decide) (by omega) (by omega)]
            by_cases d : P ≤ 4000000000000000 / sm (wv G i) (wn G)
            · rw [if_neg (by simp only [Bool.false_eq_true, false_or]; omega)] at st
              rw [if_pos ((pk_lLE (by omega) (Nat.lt_of_le_of_lt (Nat.div_le_self _ _) (by decide))).mpr d), lN_mul]
              unfold f_X6_isBig_70
              rw [nI_1]
              exact ih (i + 1) _ false st (by omega) (by omega)
            · rw [if_pos (Or.inr (by omega))] at st
              rw [if_neg (fun e => d ((pk_lLE (by omega) (Nat.lt_of_le_of_lt (Nat.div_le_self _ _) (by decide))).mp e))]
              unfold f_X6_isBig_60 f_X6_isBig_70
              rw [nI_1]
              exact ih (i + 1) P true st (by omega) (by omega)
      · rw [if_neg c] at st
        rw [if_neg c, if_pos rfl]
        unfold f_X6_isBig_70
        rw [nI_1]
        exact ih (i + 1) P B st (by omega) (by omega)
    · obtain rfl : i = wf G := by omega
      rw [if_pos (by rw [I_le]; omega)]
      unfold BigQ
      rw [hb]
      cases B <;> rfl
theorem bigC_eq {σ : St} {G : Wg} (ho : Okw G) (H : WgC σ G) (hs : ∀ i, i < wf G → sm (wv G i) (wn G) < 2 ^ 31) : f_X6_isBig σ = some (bI (BigQ (fun i => sm (wv G i) (wn G)) (wm G) (wf G)), σ) :=
  bigC_loop ho H hs FU 0 1 false rfl (by omega) (FU_big (by have := ho.2.1; omega))
/-! the reference's BIG -/
def sW (T : Tl) (i : Nat) : Nat := sm (wgt T i) (tn T)
theorem sW_lt {T : Tl} (ho : Okt T) {i : Nat} (hi : i < tf T) : sW T i < 2 ^ 31 := by
  have := sm_le (f := wgt T i) (c := 590490) (n := tn T) (fun y _ => wgt_le ho hi y)
  have := ho.1.2
  unfold sW
  omega
theorem sumM {τ : St} {T : Tl} (ho : Okt T) (H : TelM τ.1 T) {i : Nat} (hi : i < tf T) (kk : Int32 → Int64 → Int32 → Int32 → Int32 → Int64 → St → Option (Int32 × St)) (x1 : Int32) (x2 : Int64) (x4 x5 : Int32) : ∀ (fu y : Nat), y ≤ tn T → tn T - y < fu → f_X8_isBig_26 kk fu x1 x2 x4 x5 (nI i) (lN (sm (wgt T i) y)) (nI y) τ = kk x1 x2 x4 x5 (nI i) (lN (sW T i)) τ := by
  have hn := ho.1.2
  intro fu
  induction fu with
  | zero => intro y _ h; omega
  | succ fu ih =>
    intro y hy hfu
    rw [f_X8_isBig_26, H.1.1]
    rcases Nat.lt_or_ge y (tn T) with q | q
    · rw [if_neg (nI_ge q (by omega)), weightOf_eq ho H hi (by omega), bS, lN_add, nI_1]
      exact ih (y + 1) (by omega) (by omega)
    · obtain rfl : y = tn T := by omega
      rw [if_pos (by rw [I_le]; omega)]
      rfl
theorem bI_or0 (b : Bool) : bI b ||| 0 = bI b := by cases b <;> decide
theorem bI_or1 (b : Bool) : bI b ||| 1 = bI true := by cases b <;> decide
theorem bigM_loop {τ : St} {T : Tl} {m : Nat → Bool} (ho : Okt T) (hm : Okm T m) (H : TelM τ.1 T) : ∀ (fu i P : Nat) (B Z : Bool), bst (sW T) m i = (P, B, Z) → i ≤ tf T → tf T - i < fu → f_X8_isBig_11 f_X8_isBig_135 fu (nI (msk m 7)) (lN P) (bI Z) (bI B) (nI i) τ = some (bI (BigQ (sW T) m (tf T)), τ) := by
  have hn := ho.1.2
  have hf := ho.2.1
  have hM : msk m 7 < 128 := msk_lt m 7
  have em := msk_all ho.2.1 hm
  intro fu
  induction fu with
  | zero => intro i P B Z _ _ h; omega
  | succ fu ih =>
    intro i P B Z hb hi hfu
    rw [f_X8_isBig_11, H.1.2]
    rcases Nat.lt_or_ge i (tf T) with q | q
    · have st := bst_s hb
      have hP : P ≤ 4000000000000000 := by have := bst_le (sW T) m i; rw [hb] at this; exact this
      have hsi := sW_lt ho q
      rw [if_neg (nI_ge q (by omega)), show f_X8_isBig_26 (f_X8_isBig_54 (f_X8_isBig_11 f_X8_isBig_135 fu)) FU (nI (msk m 7)) (lN P) (bI Z) (bI B) (nI i) 0 0 τ = _ from sumM ho H q _ _ _ _ _ FU 0 (by omega) (FU_big (by omega))]
      unfold f_X8_isBig_54
      rw [in_eq hM (by omega), bS, em]
      by_cases c : m i = true
      · rw [if_pos c] at st
        rw [if_pos c, if_neg one_ne]
        by_cases z : sW T i = 0
        · rw [if_pos z] at st
          rw [z, if_pos (show lN 0 = (0 : Int64) from rfl)]
          unfold f_X8_isBig_77
          rw [if_pos (show lN 0 ≤ (0 : Int64) by decide)]
          unfold f_X8_isBig_104 f_X8_isBig_105
          rw [bI_or0, bI_or1, if_pos (show lN 0 = (0 : Int64) from rfl), ite_self]
          unfold f_X8_isBig_120 f_X8_isBig_128 f_X8_isBig_129
          rw [nI_1]
          exact ih (i + 1) P B true st (by omega) (by omega)
        · rw [if_neg z] at st
          have nz : ¬ lN (sW T i) = (0 : Int64) := fun e => z ((lN_0 (by omega)).mp e)
          rw [if_neg nz]
          unfold f_X8_isBig_77
          rw [if_neg (show ¬ lN (sW T i) ≤ (0 : Int64) from fun e => z (by have := (pk_lLE (b := 0) (by omega) (by decide)).mp e; omega)), cI_t (by rw [decide_eq_false nz]; rfl), l4e, pk_lDiv (by decide) (by omega) (by omega), bI_or0]
          by_cases d : P ≤ 4000000000000000 / sW T i
          · rw [if_pos ((pk_lLE (by omega) (Nat.lt_of_le_of_lt (Nat.div_le_self _ _) (by decide))).mpr d)]
            unfold f_X8_isBig_104 f_X8_isBig_105
            rw [bI_or0, if_neg nz]
            cases B with
            | true =>
              rw [if_pos (Or.inl rfl)] at st
              rw [if_neg (show ¬ bI true = 0 by decide)]
              unfold f_X8_isBig_120 f_X8_isBig_128 f_X8_isBig_129
              rw [nI_1]
              exact ih (i + 1) P true Z st (by omega) (by omega)
            | false =>
              rw [if_neg (by simp only [Bool.false_eq_true, false_or]; omega)] at st
              rw [if_pos (show bI false = 0 by decide), lN_mul]
              unfold f_X8_isBig_128 f_X8_isBig_129
              rw [nI_1]
              exact ih (i + 1) _ false Z st (by omega) (by omega)
          · rw [if_pos (Or.inr (by omega))] at st
            rw [if_neg (fun e => d ((pk_lLE (by omega) (Nat.lt_of_le_of_lt (Nat.div_le_self _ _) (by decide))).mp e))]
            unfold f_X8_isBig_105
            rw [bI_or1, if_neg (show ¬ bI true = 0 by decide)]
            unfold f_X8_isBig_120 f_X8_isBig_128 f_X8_isBig_129
            rw [nI_1]
            exact ih (i + 1) P true Z st (by omega) (by omega)
      · rw [if_neg c] at st
        rw [if_neg c, if_pos rfl]
        unfold f_X8_isBig_129
        rw [nI_1]
        exact ih (i + 1) P B Z st (by omega) (by omega)
    · obtain rfl : i = tf T := by omega
      rw [if_pos (by rw [I_le]; omega)]
      unfold f_X8_isBig_135 BigQ
      rw [hb]
      cases B <;> cases Z <;> rfl
theorem bigM_eq {τ : St} {T : Tl} {m : Nat → Bool} (ho : Okt T) (hm : Okm T m) (H : TelM τ.1 T) : f_X8_isBig (nI (msk m 7)) τ = some (bI (BigQ (sW T) m (tf T)), τ) :=
  bigM_loop ho hm H FU 0 1 false false rfl (by omega) (FU_big (by have := ho.2.1; omega))
