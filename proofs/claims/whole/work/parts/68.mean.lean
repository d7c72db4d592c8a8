/-! a find's row of weights becomes another one -/
theorem CS_row {σ0 σ σ' : St} {T : Tl} (ho : Okt T) (h : CS σ0 σ (G0 T)) {i : Nat} {r : Nat → Nat} (hr : ∀ y, r y < 2 ^ 62) (h1 : σ'.1 = σ.1) (h2 : ∀ c, c ≠ 64 → σ'.2 c = σ.2 c) (h3 : ∀ z, z < tn T → σ'.2 64 (40 * i + z) = lN (r z)) (h4 : ∀ j, (j < 40 * i ∨ 40 * i + 40 ≤ j) → σ'.2 64 j = σ.2 64 j) : CS σ0 σ' (gRow (G0 T) i r) := by
  have hn := ho.1.2
  refine ⟨⟨by rw [h1]; exact h.1.1, fun k hk y hy => ?_, by rw [h1]; exact h.1.2.2.1, by rw [h1]; exact h.1.2.2.2⟩, Okw_row h.2.1 hr, h.2.2.tr ⟨fun c _ => by rw [h1], fun c hc => h2 c (by omega)⟩⟩
  have hy' : y < tn T := hy
  show _ = lN (ur (wv (G0 T)) i r k y)
  by_cases e : k = i
  · subst e
    rw [ur_eq]; exact h3 y hy'
  · rw [ur_ne e, h4 _ (by omega)]
    exact h.1.2.1 k hk y hy
theorem Cw_row {T : Tl} (ho : Okt T) {i : Nat} {r : Nat → Nat} : Cw (gRow (G0 T) i r) = Cm T (allm T) (ur (wgt T) i r) := Cw_match ho rfl rfl rfl rfl (fun k hk y hy => by
  show (if 0 ≤ y ∧ y < tn T then ur (wq T) i r k y else 0) = ur (wgt T) i r k y
  rw [if_pos ⟨Nat.zero_le y, hy⟩]
  by_cases e : k = i
  · subst e; rw [ur_eq, ur_eq]
  · rw [ur_ne e, ur_ne e]
    show (if k < tf T then wgt T k y else 0) = _
    rw [if_pos hk])
theorem mulY_loop {n i : Nat} (hn : n ≤ 40) (hi : i < 7) : ∀ (fu y : Nat) (σ : St), σ.1 63 0 = nI n → y ≤ n → n - y < fu → ∃ σ', f_X6_multiplyByYears_2 fu (nI i) (nI y) σ = some σ' ∧ σ'.1 = σ.1 ∧ (∀ c, c ≠ 64 → σ'.2 c = σ.2 c) ∧ (∀ z, y ≤ z → z < n → σ'.2 64 (40 * i + z) = σ.2 64 (40 * i + z) * lN z) ∧ ∀ j, (j < 40 * i + y ∨ 40 * i + n ≤ j) → σ'.2 64 j = σ.2 64 j := by
  intro fu
  induction fu with
  | zero => intro y σ _ _ h; omega
  | succ fu ih =>
    intro y σ H hy hfu
    rw [f_X6_multiplyByYears_2, H]
    rcases Nat.lt_or_ge y n with q | q
    · have cx := ix_nI (show 40 * i + y < 280 by omega) (by decide)
      rw [if_neg (nI_ge q (by omega)), mul40, cI_t cx, cI_t cx, ap, nI_clamp (show 40 * i + y < 2 ^ 31 by omega), nI_l (by omega), nI_1]
      obtain ⟨σ', r1, r2, r3, r4, r5⟩ := ih (y + 1) (up2 σ 64 (40 * i + y) (σ.2 64 (40 * i + y) * lN y)) H (by omega) (by omega)
      refine ⟨σ', r1, r2, fun c hc => by rw [r3 c hc, up2_r hc], fun z z1 z2 => ?_, fun j hj => by rw [r5 j (by omega), up2_ne (by omega)]⟩
      by_cases e : z = y
      · subst e
        rw [r5 _ (by omega), up2_eq]
      · rw [r4 z (by omega) z2, up2_ne (by omega)]
    · obtain rfl : y = n := by omega
      rw [if_pos (by rw [I_le]; omega)]
      exact ⟨σ, rfl, rfl, fun _ _ => rfl, fun z z1 z2 => by omega, fun _ _ => rfl⟩
theorem level_loop {n i : Nat} (hn : n ≤ 40) (hi : i < 7) (x : Int64) : ∀ (fu y : Nat) (σ : St), σ.1 63 0 = nI n → y ≤ n → n - y < fu → ∃ σ', f_X6_level_3 fu (nI i) x (nI y) σ = some σ' ∧ σ'.1 = σ.1 ∧ (∀ c, c ≠ 64 → σ'.2 c = σ.2 c) ∧ (∀ z, y ≤ z → z < n → σ'.2 64 (40 * i + z) = x) ∧ ∀ j, (j < 40 * i + y ∨ 40 * i + n ≤ j) → σ'.2 64 j = σ.2 64 j := by
  intro fu
  induction fu with
  | zero => intro y σ _ _ h; omega
  | succ fu ih =>
    intro y σ H hy hfu
    rw [f_X6_level_3, H]
    rcases Nat.lt_or_ge y n with q | q
    · have cx := ix_nI (show 40 * i + y < 280 by omega) (by decide)
      rw [if_neg (nI_ge q (by omega)), mul40, cI_t cx, ap, nI_clamp (show 40 * i + y < 2 ^ 31 by omega), nI_1]
      obtain ⟨σ', r1, r2, r3, r4, r5⟩ := ih (y + 1) (up2 σ 64 (40 * i + y) x) H (by omega) (by omega)
      refine ⟨σ', r1, r2, fun c hc => by rw [r3 c hc, up2_r hc], fun z z1 z2 => ?_, fun j hj => by rw [r5 j (by omega), up2_ne (by omega)]⟩
      by_cases e : z = y
      · subst e
        rw [r5 _ (by omega), up2_eq]
      · rw [r4 z (by omega) z2]
    · obtain rfl : y = n := by omega
      rw [if_pos (by rw [I_le]; omega)]
      exact ⟨σ, rfl, rfl, fun _ _ => rfl, fun z z1 z2 => by omega, fun _ _ => rfl⟩
/-- by the year of a find -/
noncomputable abbrev Cy (T : Tl) (i y : Nat) : Nat := CT T (fun g => okT T g ∧ g i = y)
theorem Cm_at {T : Tl} {i y : Nat} (hi : i < tf T) : Cm T (allm T) (ur (wgt T) i (lim T i y y)) = Cy T i y := by
  rw [Cm_res (fun k z => k = i → z = y) (fun k hk z hz => ?_)]
  · exact CQ_congr (fun g _ => and_congr Iff.rfl ⟨fun q => q i hi rfl, fun q k _ e => by rw [e]; exact q⟩)
  · by_cases e : k = i
    · subst e
      rw [ur_eq]
      unfold lim
      by_cases c : z = y
      · rw [if_pos ⟨by omega, by omega⟩, ind_t (fun _ => c), Nat.one_mul]
      · rw [if_neg (fun q => c (by omega)), ind_f (fun q => c (q rfl)), Nat.zero_mul]
    · rw [ur_ne e, ind_t (fun q => absurd q e), Nat.one_mul]
def rY (T : Tl) (i : Nat) : Nat → Nat := fun y => if y < tn T then wgt T i y * y else 0
theorem mean_sum {T : Tl} {i : Nat} (hi : i < tf T) : Cm T (allm T) (ur (wgt T) i (rY T i)) = sm (fun y => y * Cy T i y) (tn T) := by
  unfold Cy CT CQ
  have e : sm (fun y => y * gs (tn T) (tf T) (fun g => pr (fun i => coef (allm T) (wgt T) i (g i)) (tf T) * ind (okT T g ∧ g i = y))) (tn T) = sm (fun y => gs (tn T) (tf T) (fun g => y * (pr (fun i => coef (allm T) (wgt T) i (g i)) (tf T) * ind (okT T g ∧ g i = y)))) (tn T) := sm_congr (fun y _ => (gs_mul y _ _).symm)
  rw [e, gs_sm (fun y g => y * (pr (fun i => coef (allm T) (wgt T) i (g i)) (tf T) * ind (okT T g ∧ g i = y)))]
  unfold Cm CC
  refine gs_congr (fun g hg => ?_)
  have hm : allm T i = true := decide_eq_true hi
  have u1 : ∀ j, j ≠ i → coef (allm T) (ur (wgt T) i (rY T i)) j (g j) = coef (allm T) (wgt T) j (g j) := fun j hj => by
    unfold coef
    rw [ur_ne hj]
  have u2 : coef (allm T) (ur (wgt T) i (rY T i)) i (g i) = coef (allm T) (wgt T) i (g i) * g i := by
    unfold coef
    rw [if_pos hm, if_pos hm, ur_eq]
    unfold rY
    rw [if_pos (hg i hi)]
  rw [sm_one (hg i hi) (fun y _ hy => by rw [ind_f (fun q => hy q.2.symm), Nat.mul_zero, Nat.mul_zero]), pr_upd (F := fun j => coef (allm T) (ur (wgt T) i (rY T i)) j (g j)) (H := fun j => coef (allm T) (wgt T) j (g j)) u1 u2 hi, ind_iff (show okT T g ∧ g i = g i ↔ okT T g from ⟨fun q => q.1, fun q => ⟨q, rfl⟩⟩)]
  simp only [Nat.mul_assoc, Nat.mul_comm, Nat.mul_left_comm]
theorem Cy_sum {T : Tl} {i : Nat} (hi : i < tf T) : sm (Cy T i) (tn T) = TT T := by
  show _ = CT T (okT T)
  exact CQ_sum (fun g hg => ⟨fun y _ h => h.1, fun h => ⟨g i, hg i hi, h, rfl⟩, fun y z _ _ h1 h2 => by omega⟩)
theorem mean_le {T : Tl} (ho : Okt T) {i : Nat} (hi : i < tf T) : sm (fun y => y * Cy T i y) (tn T) ≤ 39 * TT T := by
  rw [← Cy_sum hi, ← sm_mul]
  have hn := ho.1.2
  exact sm_lele (fun y hy => Nat.mul_le_mul_right _ (by omega))
theorem meanM_loop {T : Tl} {τ0 : St} (ho : Okt T) (H : TelM τ0.1 T) {i : Nat} (hi : i < tf T) (kk : Int64 → St → Option (Int64 × St)) : ∀ (fu y : Nat) (τ : St), MS τ0 τ T (wgt T) → y ≤ tn T → tn T - y < fu → ∃ τ', f_X8_mean_29 kk fu (nI i) (lN (sm (fun y => y * Cy T i y) y)) (nI y) τ = kk (lN (sm (fun y => y * Cy T i y) (tn T))) τ' ∧ MS τ0 τ' T (wgt T) := by
  have hn := ho.1.2
  intro fu
  induction fu with
  | zero => intro y τ _ _ h; omega
  | succ fu ih =>
    intro y τ hM hy hfu
    rw [f_X8_mean_29, (hM.2.1.tel H).1.1]
    rcases Nat.lt_or_ge y (tn T) with q | q
    · obtain ⟨τ1, a1, a2⟩ := MS_countIn ho H hM hi (a := y) (b := y) (by omega) (by omega)
      rw [if_neg (nI_ge q (by omega)), a1, bS, ap, nI_l (by omega), lN_mul, lN_add, nI_1, Cm_at hi]
      exact ih (y + 1) τ1 a2 (by omega) (by omega)
    · obtain rfl : y = tn T := by omega
      rw [if_pos (by rw [I_le]; omega)]
      exact ⟨τ, rfl, hM⟩
theorem rY_lt {T : Tl} (ho : Okt T) {i : Nat} (hi : i < tf T) (y : Nat) : rY T i y < 2 ^ 62 := by
  unfold rY
  by_cases c : y < tn T
  · rw [if_pos c]
    have h1 := wgt_le ho hi y
    have hn := ho.1.2
    have h2 : wgt T i y * y ≤ 590490 * 40 := Nat.mul_le_mul h1 (by omega)
    omega
  · rw [if_neg c]; decide
theorem ag_mean : Ag_mean Rel := by
  rintro a0 σ τ ⟨T, H⟩
  unfold f_X7_mean f_X8_mean
  rcases isFind_c (x := a0) H.1.2.1 H.2.1.1.2 H.2.2.1.1.2 with ⟨e1, e2⟩ | ⟨i, hi, rfl, e1, e2⟩
  · rw [e1, e2]
    exact ⟨-2, σ, τ, rfl, rfl, T, H⟩
  · rw [e1, e2, bS, bS, if_neg one_ne, if_neg one_ne]
    have hf := H.1.2.1
    have hn := H.1.1.2
    refine share_core H (fun w s => (f_X6_multiplyByYears (nI i) s).bind (fun q5 => (f_X0_countAll q5).bind (fun q6 => (f_X7_fraction q6.1 w q6.2).bind (fun q7 => some (q7.1, q7.2))))) (fun s => (f_X8_mean_29 (f_X8_mean_60) FU) (nI i) (0 : Int64) (0 : Int32) s) (fun h0 hle σ1 τ1 hc hm => ?_)
    obtain ⟨σ2, a1, a2, a3, a4, a5⟩ := mulY_loop (n := tn T) hn (show i < 7 by omega) FU 0 σ1 hc.1.1.1 (Nat.zero_le _) (FU_big (by omega))
    have cs : CS σ σ2 (gRow (G0 T) i (rY T i)) := CS_row H.1 hc (rY_lt H.1 hi) a2 a3 (fun z hz => by
      rw [a4 z (Nat.zero_le _) hz, hc.1.2.1 i hi z hz, lN_mul]
      show lN ((if i < tf T then wgt T i z else 0) * z) = lN (if z < tn T then wgt T i z * z else 0)
      rw [if_pos hi, if_pos hz]) (fun j hj => a5 j (by omega))
    obtain ⟨σ3, b1, b2⟩ := CS_count cs
    rw [Cw_row H.1, mean_sum hi] at b1
    obtain ⟨τ2, c1, c2⟩ := meanM_loop H.1 H.2.2.1 hi f_X8_mean_60 FU 0 τ1 hm (Nat.zero_le _) (FU_big (by omega))
    have hle2 := mean_le H.1 hi
    obtain ⟨r, σ4, τ4, d1, d2, d3⟩ := frac_fin H b2.2.2 c2.2.1 (a := sm (fun y => y * Cy T i y) (tn T)) (b := TT T) (by omega) h0 (by omega)
    unfold f_X6_multiplyByYears
    rw [show f_X6_multiplyByYears_2 FU (nI i) 0 σ1 = _ from a1, bS, b1, bS, d1, show f_X8_mean_29 f_X8_mean_60 FU (nI i) 0 0 τ1 = _ from c1]
    unfold f_X8_mean_60
    rw [c2.2.2, d2]
    exact ⟨r, σ4, τ4, rfl, rfl, d3⟩
/-! strange -/
def rO (T : Tl) (i : Nat) : Nat → Nat := fun _ => to_ T i * meanv T i
theorem rO_le {T : Tl} {i y : Nat} : rO T i y ≤ wgt T i y := by
  unfold rO wgt
  by_cases c : to_ T i = 0
  · rw [if_pos c, c, Nat.zero_mul]; exact Nat.zero_le _
  · rw [if_neg c]; exact Nat.le_add_left _ _
theorem rO_lt {T : Tl} (ho : Okt T) {i : Nat} (hi : i < tf T) : to_ T i * meanv T i < 590490 := by
  have h1 := meanv_le ho hi
  have h2 := (ho.2.2.2.2.1 i hi).2.1
  have h3 : to_ T i * meanv T i ≤ 9 * 59049 := Nat.mul_le_mul h2 h1
  omega
theorem strM_loop {T : Tl} {τ0 : St} (ho : Okt T) {i : Nat} (hi : i < tf T) (kk : Int32 → St → Option (Int64 × St)) : ∀ (fu y : Nat) (τ : St), TelM τ.1 T → y ≤ tn T → tn T - y < fu → ∃ τ', f_X8_strange_26 kk fu (nI i) (nI y) τ = kk (nI i) τ' ∧ τ'.1 = τ.1 ∧ (∀ c, c ≠ 17 → τ'.2 c = τ.2 c) ∧ (∀ z, y ≤ z → z < tn T → τ'.2 17 (40 * i + z) = lN (rO T i z)) ∧ ∀ j, (j < 40 * i + y ∨ 40 * i + 40 ≤ j) → τ'.2 17 j = τ.2 17 j := by
  have hn := ho.1.2
  have hf := ho.2.1
  intro fu
  induction fu with
  | zero => intro y τ _ _ h; omega
  | succ fu ih =>
    intro y τ H hy hfu
    rw [f_X8_strange_26, H.1.1]
    rcases Nat.lt_or_ge y (tn T) with q | q
    · have ho9 := (ho.2.2.2.2.1 i hi).2.1
      rw [if_neg (nI_ge q (by omega)), cI_t (ix_nI (show i < 7 by omega) (by decide)), meanOf_eq ho H hi, bS, mul40', cI_t (ix_nI (show 40 * i + y < 280 by omega) (by decide)), ap, nI_clamp (show 40 * i + y < 2 ^ 31 by omega), nI_clamp (show i < 2 ^ 31 by omega), (H.2.2.2.1 i hi).2.1, nI_l (by omega), lN_mul, nI_1]
      obtain ⟨τ', r1, r2, r3, r4, r5⟩ := ih (y + 1) (up2 τ 17 (40 * i + y) (lN (to_ T i * meanv T i))) H (by omega) (by omega)
      exact ⟨τ', r1, row_up ho q (r := rO T i) rfl r2 r3 r4 r5⟩
    · obtain rfl : y = tn T := by omega
      rw [if_pos (by rw [I_le]; omega)]
      exact ⟨τ, rfl, rfl, fun _ _ => rfl, fun z z1 z2 => by omega, fun _ _ => rfl⟩
theorem str_zero {T : Tl} {i : Nat} (hi : i < tf T) (h : to_ T i = 0) : Cm T (allm T) (ur (wgt T) i (rO T i)) = 0 := CC_nil (j := i) (decide_eq_true hi) hi (fun y _ => by
  rw [ur_eq]
  unfold rO
  rw [h, Nat.zero_mul])
theorem ag_strange : Ag_strange Rel := by
  rintro a0 σ τ ⟨T, H⟩
  unfold f_X7_strange f_X8_strange
  rcases isFind_c (x := a0) H.1.2.1 H.2.1.1.2 H.2.2.1.1.2 with ⟨e1, e2⟩ | ⟨i, hi, rfl, e1, e2⟩
  · rw [e1, e2]
    exact ⟨-2, σ, τ, rfl, rfl, T, H⟩
  · rw [e1, e2, bS, bS, if_neg one_ne, if_neg one_ne]
    have hf := H.1.2.1
    have hn := H.1.1.2
    have ho9 := (H.1.2.2.2.2.1 i hi).2.1
    have hlt := rO_lt H.1 hi
    refine share_core H (fun w s => cI (ix (nI i) 7) ((f_X5_meanPlain 1 (4 + 4 + 3 * (nI i).toNatClampNeg) s).bind (fun q6 => (f_X6_level (nI i) ((s.1 (4 + 4 + 3 * (nI i).toNatClampNeg) 1) * q6.1).toInt64 q6.2).bind (fun q7 => (f_X0_countAll q7).bind (fun q8 => (f_X7_fraction q8.1 w q8.2).bind (fun q9 => some (q9.1, q9.2))))))) (fun s => (f_X8_strange_26 (f_X8_strange_64) FU) (nI i) (0 : Int32) s) (fun h0 hle σ1 τ1 hc hm => ?_)
    have tc1 := hc.2.2.tel hf (by decide) H.2.1
    have fc := FindC_at tc1 hi (K := 8 + 3 * i) (by omega)
    obtain ⟨σ2, a1, a2, a3, a4, a5⟩ := level_loop (n := tn T) hn (show i < 7 by omega) (lN (to_ T i * meanv T i)) FU 0 σ1 hc.1.1.1 (Nat.zero_le _) (FU_big (by omega))
    have cs : CS σ σ2 (gRow (G0 T) i (rO T i)) := CS_row H.1 hc (fun y => by show to_ T i * meanv T i < 2 ^ 62; omega) a2 a3 (fun z hz => a4 z (Nat.zero_le _) hz) (fun j hj => a5 j (by omega))
    obtain ⟨σ3, b1, b2⟩ := CS_count cs
    rw [Cw_row H.1] at b1
    obtain ⟨τ2, c1, c2⟩ := strM_loop (τ0 := τ) H.1 hi f_X8_strange_64 FU 0 τ1 (hm.2.1.tel H.2.2.1) (Nat.zero_le _) (FU_big (by omega))
    have ms : MS τ τ2 T (ur (wgt T) i (rO T i)) := MS_row H.1 hm ⟨c2.1, c2.2.1, fun z hz => c2.2.2.1 z (Nat.zero_le _) hz, fun j hj => c2.2.2.2 j (by omega)⟩
    have hle2 := CC_lim_le (T := T) (i := i) (r := rO T i) (fun y => rO_le)
    have tm2 := (ms.2.1.tel H.2.2.1).2.2.2.1 i hi
    unfold f_X6_level
    rw [cI_t (ix_nI (show i < 7 by omega) (by decide)), nI_clamp (show i < 2 ^ 31 by omega), fl_id, meanPlain_eq H.1 tc1 hi fc, bS, fc.2.1, pk_mul, nI_l (by omega), show f_X6_level_3 FU (nI i) (lN (to_ T i * meanv T i)) 0 σ1 = _ from a1, bS, b1, bS, show f_X8_strange_26 f_X8_strange_64 FU (nI i) 0 τ1 = _ from c1]
    unfold f_X8_strange_64
    rw [cI_t (ix_nI (show i < 7 by omega) (by decide)), nI_clamp (show i < 2 ^ 31 by omega), tm2.2.1]
    by_cases z : to_ T i = 0
    · rw [if_pos (by rw [z]; rfl), str_zero hi z]
      unfold f_X8_strange_82
      obtain ⟨r, σ4, τ4, d1, d2, d3⟩ := frac_fin H b2.2.2 ms.2.1 (a := 0) (b := TT T) (by decide) h0 (by omega)
      rw [ms.2.2, d1, show f_X8_fraction (0 : Int64) (lN (TT T)) τ2 = _ from d2]
      exact ⟨r, σ4, τ4, rfl, rfl, d3⟩
    · obtain ⟨τ3, g1, g2⟩ := MS_count H.1 H.2.2.1 ms
      rw [if_neg (show ¬ nI (to_ T i) = 0 from nI_ne0 (by omega) (by omega)), g1, bS]
      unfold f_X8_strange_82
      obtain ⟨r, σ4, τ4, d1, d2, d3⟩ := frac_fin H b2.2.2 g2.2.1 (a := Cm T (allm T) (ur (wgt T) i (rO T i))) (b := TT T) (by omega) h0 (by omega)
      rw [g2.2.2, d1, d2]
      exact ⟨r, σ4, τ4, rfl, rfl, d3⟩
