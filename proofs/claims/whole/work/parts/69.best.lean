/-! by the year of a find, on both sides -/
theorem Cat_Glm {T : Tl} (ho : Okt T) {lo hi : Nat → Nat} {i y : Nat} (hi' : i < tf T) : Cat (Glm T lo hi) i y = CT T (fun g => okT T g ∧ (∀ j, j < tf T → lo j ≤ g j ∧ g j < hi j) ∧ g i = y) := by
  have hw : ∀ j, j < tf T → allm T j = true → ∀ z, z < tn T → at1 (we (Glm T lo hi)) i y j z = ind ((lo j ≤ z ∧ z < hi j) ∧ (j = i → z = y)) * wgt T j z := fun j hj _ z hz => by
    have hwe : ∀ z, we (Glm T lo hi) j z = ind (lo j ≤ z ∧ z < hi j) * wgt T j z := fun z => by
      show (if lo j ≤ z ∧ z < hi j then (if j < tf T then wgt T j z else 0) else 0) = _
      by_cases c : lo j ≤ z ∧ z < hi j
      · rw [if_pos c, if_pos hj, ind_t c, Nat.one_mul]
      · rw [if_neg c, ind_f c, Nat.zero_mul]
    unfold at1
    by_cases e : j = i
    · subst e
      rw [ur_eq]
      show (if z = y then we (Glm T lo hi) j y else 0) = _
      by_cases c : z = y
      · subst c
        rw [if_pos rfl, hwe]
        congr 1
        exact ind_iff ⟨fun x => ⟨x, fun _ => rfl⟩, fun x => x.1⟩
      · rw [if_neg c, ind_f (fun x => c (x.2 rfl)), Nat.zero_mul]
    · rw [ur_ne e, hwe]
      congr 1
      exact ind_iff ⟨fun x => ⟨x, fun q => absurd q e⟩, fun x => x.1⟩
  show CC (tn T) (tf T) (allm T) (fun a b => th T a b = 1) (fun a b => th T a b = 2) (at1 (we (Glm T lo hi)) i y) = _
  rw [CC_res (w := wgt T) (fun j z => (lo j ≤ z ∧ z < hi j) ∧ (j = i → z = y)) hw]
  refine CQ_congr (fun g hg => ?_)
  show ((∀ a b, (th T a b = 1 → g a < g b) ∧ (th T a b = 2 → g a ≤ g b)) ∧ ∀ j, j < tf T → allm T j = true → (lo j ≤ g j ∧ g j < hi j) ∧ (j = i → g j = y)) ↔ _
  rw [okT_iff ho]
  exact and_congr Iff.rfl ⟨fun q => ⟨fun j hj => (q j hj (decide_eq_true hj)).1, (q i hi' (decide_eq_true hi')).2 rfl⟩, fun q j hj _ => ⟨q.1 j hj, fun e => by rw [e]; exact q.2⟩⟩
theorem Cat_G0 {T : Tl} (ho : Okt T) {i y : Nat} (hi : i < tf T) : Cat (G0 T) i y = Cy T i y := by
  rw [show Cat (G0 T) i y = Cat (Glm T (fun _ => 0) (fun _ => tn T)) i y from rfl, Cat_Glm ho hi]
  exact CQ_congr (fun g hg => and_congr Iff.rfl ⟨fun q => q.2, fun q => ⟨fun j hj => ⟨Nat.zero_le _, hg j hj⟩, q⟩⟩)
theorem countIn_fr {τ0 τ : St} {T : Tl} (ho : Okt T) (H : TelM τ0.1 T) (h : MS τ0 τ T (wgt T)) {i a b : Nat} (hi : i < tf T) (ha : a < 2 ^ 30) (hb : b < 2 ^ 30) : ∃ r τ', f_X8_countIn (nI i) (nI a) (nI b) τ = some (r, τ') ∧ ∀ c, 22 < c → τ'.2 c = τ.2 c := by
  have hn := ho.1
  obtain ⟨τ1, a1, a2⟩ := only_eq ho hi ha hb (h.2.1.tel H)
  have m1 := MS_row ho h a2
  obtain ⟨τ2, b1, b2, b3⟩ := count_eq ho (Okm_all T) m1.1 (m1.2.1.tel H).1.1
  have t2 : TelM τ2.1 T := by rw [b2]; exact m1.2.1.tel H
  obtain ⟨τ3, c1, c2⟩ := only_eq ho hi (a := 0) (b := tn T - 1) (by decide) (by omega) t2
  have e0 : τ2.1 0 0 - 1 = nI (tn T - 1) := by
    rw [t2.1.1]
    have : tn T = (tn T - 1) + 1 := by omega
    rw [this, nI_pred]
    rfl
  unfold f_X8_countIn
  rw [a1, bS, b1, bS, e0, show f_X8_only (nI i) 0 (nI (tn T - 1)) τ2 = _ from c1, bS]
  exact ⟨_, τ3, rfl, fun c hc => by rw [c2.2.1 c (by omega), b3 c (by omega), a2.2.1 c (by omega)]⟩
theorem MS_up23 {τ0 τ : St} {T : Tl} {v : Wt} (h : MS τ0 τ T v) (y : Nat) (x : Int64) : MS τ0 (up2 τ 23 y x) T v :=
  ⟨MgC_fr h.1 rfl rfl rfl (up2_r (by omega)), h.2.1.tr ⟨fun _ _ _ => rfl, fun _ _ => rfl, up2_ne (by omega)⟩, by rw [up2_ne (by omega)]; exact h.2.2⟩
theorem tell_loop {T : Tl} {τ0 : St} (ho : Okt T) (H : TelM τ0.1 T) {i : Nat} (hi : i < tf T) : ∀ (fu y : Nat) (τ : St), MS τ0 τ T (wgt T) → (∀ z, z < y → τ.2 23 z = lN (Cy T i z)) → y ≤ tn T → tn T - y < fu → ∃ τ', f_X8_tellYears_2 fu (nI i) (nI y) τ = some τ' ∧ (∀ z, z < tn T → τ'.2 23 z = lN (Cy T i z)) ∧ MS τ0 τ' T (wgt T) := by
  have hn := ho.1.2
  intro fu
  induction fu with
  | zero => intro y τ _ _ _ h; omega
  | succ fu ih =>
    intro y τ hM hz hy hfu
    rw [f_X8_tellYears_2, (hM.2.1.tel H).1.1]
    rcases Nat.lt_or_ge y (tn T) with q | q
    · obtain ⟨τ1, a1, a2⟩ := MS_countIn ho H hM hi (a := y) (b := y) (by omega) (by omega)
      obtain ⟨r, τ2, b1, b2⟩ := countIn_fr ho H hM hi (a := y) (b := y) (by omega) (by omega)
      rw [a1] at b1
      obtain rfl : τ1 = τ2 := congrArg Prod.snd (Option.some.inj b1)
      rw [if_neg (nI_ge q (by omega)), a1, bS, cI_t (ix_nI (show y < 40 by omega) (by decide)), ap, nI_clamp (by omega), nI_1, Cm_at hi]
      refine ih (y + 1) (up2 τ1 23 y (lN (Cy T i y))) (MS_up23 a2 _ _) (fun z z1 => ?_) (by omega) (by omega)
      by_cases e : z = y
      · subst e; rw [up2_eq]
      · rw [up2_ne (by omega), b2 23 (by omega)]; exact hz z (by omega)
    · obtain rfl : y = tn T := by omega
      rw [if_pos (by rw [I_le]; omega)]
      exact ⟨τ, rfl, hz, hM⟩
theorem best_both {n : Nat} (hn : n ≤ 40) {F : Nat → Int64} {σ τ : St} (hc : σ.1 1 0 = nI n) (hm : τ.1 0 0 = nI n) (h1 : ∀ y, y < n → σ.2 80 y = F y) (h2 : ∀ y, y < n → τ.2 23 y = F y) : ∀ (fu b y : Nat), b < n → y ≤ n → n - y < fu → ∃ r, f_X7_best_39 fu (nI b) (nI y) σ = some (r, σ) ∧ f_X8_best_32 fu (nI b) (nI y) τ = some (r, τ) := by
  intro fu
  induction fu with
  | zero => intro b y _ _ h; omega
  | succ fu ih =>
    intro b y hb hy hfu
    rw [f_X7_best_39, f_X8_best_32, hc, hm]
    rcases Nat.lt_or_ge y n with q | q
    · have cy := ix_nI (show y < 40 by omega) (by decide)
      have cb := ix_nI (show b < 40 by omega) (by decide)
      rw [if_neg (nI_ge q (by omega)), if_neg (nI_ge q (by omega)), cI_t cy, cI_t cb, cI_t cy, cI_t cb, nI_clamp (show y < 2 ^ 31 by omega), nI_clamp (show b < 2 ^ 31 by omega), h1 y q, h1 b hb, h2 y q, h2 b hb]
      unfold f_X7_best_79 f_X8_best_64
      rw [nI_1]
      by_cases c : F y ≤ F b
      · rw [if_pos c, if_pos c]; exact ih b (y + 1) hb (by omega) (by omega)
      · rw [if_neg c, if_neg c]; exact ih y (y + 1) q (by omega) (by omega)
    · rw [if_pos (nI_le q (by omega)), if_pos (nI_le q (by omega))]
      exact ⟨nI b, rfl, rfl⟩
/-- calls that tell a year -/
theorem share_coreI {T : Tl} {σ τ : St} (H : RelT T σ τ) (kc : Int64 → St → Option (Int32 × St)) (km : St → Option (Int32 × St)) (hk : 0 < TT T → TT T ≤ 4000000000000000 → ∀ σ1 τ1, CS σ σ1 (G0 T) → MS τ τ1 T (wgt T) → ∃ (r : Int32) (σ' τ' : St), kc (lN (TT T)) σ1 = some (r, σ') ∧ km τ1 = some (r, τ') ∧ Rel σ' τ') : ∃ (r : Int32) (σ' τ' : St), (f_X7_weighForShare σ).bind (fun q5 => if (0 : Int64) ≤ q5.1 then kc q5.1 q5.2 else some (q5.1.toInt32, q5.2)) = some (r, σ') ∧ (f_X8_askTotal τ).bind (fun q5 => if q5.1 = 0 then km q5.2 else some (q5.1, q5.2)) = some (r, τ') ∧ Rel σ' τ' := by
  obtain ⟨σ1, a1, a2⟩ := wfs_eq H.1 H.2.1
  obtain ⟨τ1, b1, b2, b3⟩ := ask_eq H.1 H.2.2.1
  rw [a1, b1, bS, bS]
  have rel : Rel σ1 τ1 := ⟨T, RelT_same a2.2.2.C b2.M H⟩
  cases hb : bigT T with
  | true => exact ⟨-5, σ1, τ1, rfl, rfl, rel⟩
  | false =>
    have hle := TT_le H.1 hb
    by_cases z : TT T = 0
    · rw [if_neg (by decide : ¬ false = true), if_pos z, if_neg (by decide : ¬ false = true), if_pos z]
      exact ⟨-4, σ1, τ1, rfl, rfl, rel⟩
    · rw [if_neg (by decide : ¬ false = true), if_neg z, if_neg (by decide : ¬ false = true), if_neg z]
      rw [if_pos (show (0 : Int64) ≤ lN (TT T) from (pk_lLE (a := 0) (by decide) (by omega)).mpr (Nat.zero_le _)), if_pos rfl]
      exact hk (by omega) hle σ1 τ1 a2 (b3 hb)
/-- the years are told on both sides -/
theorem each_both {T : Tl} {σ τ σ1 τ1 : St} (H : RelT T σ τ) (hc : CS σ σ1 (G0 T)) (hm : MS τ τ1 T (wgt T)) {i : Nat} (hi : i < tf T) : ∃ σ2 τ2, f_X0_countEachYear (nI i) σ1 = some σ2 ∧ f_X8_tellYears (nI i) τ1 = some τ2 ∧ (∀ y, y < tn T → σ2.2 80 y = lN (Cy T i y)) ∧ (∀ y, y < tn T → τ2.2 23 y = lN (Cy T i y)) ∧ CS σ σ2 (G0 T) ∧ MS τ τ2 T (wgt T) := by
  obtain ⟨σ2, a1, a2, a3⟩ := CS_each hc (i := i) (decide_eq_true hi)
  obtain ⟨τ2, b1, b2, b3⟩ := tell_loop H.1 H.2.2.1 hi FU 0 τ1 hm (fun z hz => absurd hz (Nat.not_lt_zero z)) (Nat.zero_le _) (FU_big (by have := H.1.1.2; omega))
  exact ⟨σ2, τ2, a1, b1, fun y hy => by rw [a2 y hy, Cat_G0 H.1 hi], b2, a3, b3⟩
theorem ag_best : Ag_best Rel := by
  rintro a0 σ τ ⟨T, H⟩
  unfold f_X7_best f_X8_best
  rcases isFind_c (x := a0) H.1.2.1 H.2.1.1.2 H.2.2.1.1.2 with ⟨e1, e2⟩ | ⟨i, hi, rfl, e1, e2⟩
  · rw [e1, e2]
    exact ⟨-2, σ, τ, rfl, rfl, T, H⟩
  · rw [e1, e2, bS, bS, if_neg one_ne, if_neg one_ne]
    have hn := H.1.1
    refine share_coreI H (fun _ s => (f_X0_countEachYear (nI i) s).bind (fun q5 => (f_X7_best_39 FU) (0 : Int32) (1 : Int32) q5)) (fun s => (f_X8_tellYears (nI i) s).bind (fun q5 => (f_X8_best_32 FU) (0 : Int32) (1 : Int32) q5)) (fun h0 hle σ1 τ1 hc hm => ?_)
    obtain ⟨σ2, τ2, a1, a2, a3, a4, a5, a6⟩ := each_both H hc hm hi
    rw [a1, a2, bS, bS]
    obtain ⟨r, b1, b2⟩ := best_both (n := tn T) hn.2 (F := fun y => lN (Cy T i y)) (a5.2.2.tel H.1.2.1 (by decide) H.2.1).1.1 (a6.2.1.tel H.2.2.1).1.1 a3 a4 FU 0 1 (by omega) (by omega) (FU_big (by omega))
    exact ⟨r, σ2, τ2, b1, b2, T, RelT_same a5.2.2.C a6.2.1.M H⟩
