/-! apart: the distance is e - 39 -/
def Dd (e : Nat) : Int32 := nI e - 39
theorem Dd_f : ∀ e, e < 79 → ¬ Dd e ≤ -40 ∧ Dd e < 40 ∧ ¬ Dd e < -39 ∧ ¬ 39 < Dd e ∧ imax 0 (-(Dd e)) = nI (39 - e) ∧ (Dd e = 0 ↔ e = 39) := by decide +kernel
theorem Dd_y : ∀ e, e < 79 → ∀ y, y < 40 → (39 ≤ y + e → nI y + Dd e = nI (y + e - 39)) ∧ (y + e < 39 → nI y + Dd e < 0) := by decide +kernel
theorem Dd_of {x : Int32} (h1 : ¬ x < -39) (h2 : ¬ 39 < x) : ∃ e, e < 79 ∧ x = Dd e := by
  rw [I_lt] at h1 h2
  have c1 : (-39 : Int32).toInt = -39 := by decide
  have c2 : (39 : Int32).toInt = 39 := by decide
  rw [c1] at h1
  rw [c2] at h2
  refine ⟨(x.toInt + 39).toNat, by omega, ?_⟩
  apply Int32.toInt_inj.mp
  unfold Dd
  rw [show (39 : Int32) = nI 39 from rfl, pk_sub_toInt (by omega) (by omega)]
  omega
noncomputable abbrev Fap (T : Tl) (i k e y : Nat) : Nat := CT T (fun g => okT T g ∧ g i = y ∧ g k + 39 = y + e)
theorem Fap_0 {T : Tl} {i k e y : Nat} (hk : k < tf T) (h : y + e < 39 ∨ tn T + 39 ≤ y + e) : Fap T i k e y = 0 := CQ_none (fun g hg q => by have := hg k hk; omega)
theorem Fap_sum {T : Tl} {i k e : Nat} (hi : i < tf T) : sm (Fap T i k e) (tn T) = CT T (fun g => okT T g ∧ g k + 39 = g i + e) := CQ_sum (fun g hg => ⟨fun y _ h => ⟨h.1, by omega⟩, fun h => ⟨g i, hg i hi, h.1, rfl, h.2⟩, fun y z _ _ h1 h2 => by omega⟩)
theorem CL_ap {T : Tl} {lo hi : Nat → Nat} {i k e y : Nat} (hik : i ≠ k) (h1 : i < tf T) (h2 : k < tf T) (hy : 39 ≤ y + e) (h : ∀ j, j ≠ i → j ≠ k → lo j = 0 ∧ hi j = tn T) : CL T (un (un lo i y) k (y + e - 39)) (un (un hi i (y + 1)) k (y + e - 39 + 1)) = Fap T i k e y := by
  rw [CL_two hik h1 h2 h]
  exact CQ_congr (fun g hg => and_congr Iff.rfl ⟨fun x => ⟨by omega, by omega⟩, fun x => ⟨by omega, by omega⟩⟩)
theorem apC_loop {T : Tl} {σ0 : St} (ho : Okt T) (H : TelC 1 σ0.1 T) {i k e : Nat} (hi : i < tf T) (hk : k < tf T) (hik : i ≠ k) (he : e < 79) (x4 : Int64) (kk : Int64 → Int64 → St → Option (Int64 × St)) : ∀ (fu y : Nat) (σ : St) (lo hh : Nat → Nat), CS σ0 σ (Glm T lo hh) → (∀ j, j ≠ i → j ≠ k → lo j = 0 ∧ hh j = tn T) → 39 ≤ y + e → y ≤ tn T → tn T - y < fu → ∃ σ' G', f_X7_apart_81 kk fu (nI i) (nI k) (Dd e) x4 (lN (sm (Fap T i k e) y)) (nI y) σ = kk x4 (lN (sm (Fap T i k e) (tn T))) σ' ∧ CS σ0 σ' G' := by
  have hn := ho.1.2
  have hf := ho.2.1
  intro fu
  induction fu with
  | zero => intro y σ lo hh _ _ _ _ h; omega
  | succ fu ih =>
    intro y σ lo hh hM hfr hye hy hfu
    rw [f_X7_apart_81, (hM.2.2.tel hf (by decide) H).1.1]
    rcases Nat.lt_or_ge y (tn T) with q | q
    · rw [if_neg (nI_ge q (by omega)), (Dd_y e he y (by omega)).1 hye]
      rcases Nat.lt_or_ge (y + e - 39) (tn T) with q2 | q2
      · obtain ⟨σ1, a1, a2⟩ := CS_limL hM (i := i) (a := y) (b := y + 1) (by omega) (by omega) (by omega) rfl (nI_pred y).symm
        obtain ⟨σ2, b1, b2⟩ := CS_limL a2 (i := k) (a := y + e - 39) (b := y + e - 39 + 1) (by omega) (by omega) (by omega) rfl (nI_pred _).symm
        obtain ⟨σ3, c1, c2⟩ := CS_cnt ho b2
        rw [if_neg (nI_ge q2 (by omega)), a1, bS, b1, bS, c1, bS, nI_1, lN_add, CL_ap hik hi hk hye hfr]
        exact ih (y + 1) σ3 _ _ c2 (free_two hfr) (by omega) (by omega) (by omega)
      · rw [if_pos (nI_le q2 (by omega)), ← sm_ext (f := Fap T i k e) hy (fun z z1 z2 => Fap_0 hk (by omega))]
        exact ⟨σ, _, rfl, hM⟩
    · obtain rfl : y = tn T := by omega
      rw [if_pos (by rw [I_le]; omega)]
      exact ⟨σ, _, rfl, hM⟩
theorem isYM_f {x : Int32} {τ : St} {n : Nat} (h : τ.1 0 0 = nI n) (hx : x < 0 ∨ nI n ≤ x) : f_X8_isYear x τ = some (0, τ) := by
  unfold f_X8_isYear
  rw [h]
  by_cases c : x < 0
  · rw [if_pos c]
  · rw [if_neg c, if_pos (hx.resolve_left c)]
theorem isYM_t {z : Nat} {τ : St} {n : Nat} (h : τ.1 0 0 = nI n) (hz : z < n) (hn : n ≤ 40) : f_X8_isYear (nI z) τ = some (1, τ) := by
  unfold f_X8_isYear
  rw [h, if_neg (nI_pos (by omega)), if_neg (nI_ge hz (by omega))]
theorem apM_loop {T : Tl} {τ0 : St} (ho : Okt T) (H : TelM τ0.1 T) {i k e : Nat} (hi : i < tf T) (hk : k < tf T) (hik : i ≠ k) (he : e < 79) (kk : Int64 → St → Option (Int64 × St)) : ∀ (fu y : Nat) (τ : St) (lo hh : Nat → Nat), MS τ0 τ T (vL T lo hh) → (∀ j, j ≠ i → j ≠ k → lo j = 0 ∧ hh j = tn T) → y ≤ tn T → tn T - y < fu → ∃ τ' v', f_X8_apart_78 kk fu (nI i) (nI k) (Dd e) (lN (sm (Fap T i k e) y)) (nI y) τ = kk (lN (sm (Fap T i k e) (tn T))) τ' ∧ MS τ0 τ' T v' := by
  have hn := ho.1.2
  intro fu
  induction fu with
  | zero => intro y τ lo hh _ _ _ h; omega
  | succ fu ih =>
    intro y τ lo hh hM hfr hy hfu
    have hy0 := (hM.2.1.tel H).1.1
    rw [f_X8_apart_78, hy0]
    rcases Nat.lt_or_ge y (tn T) with q | q
    · rw [if_neg (nI_ge q (by omega))]
      have skip : Fap T i k e y = 0 → f_X8_isYear (nI y + Dd e) τ = some (0, τ) → ∃ τ' v', (f_X8_isYear (nI y + Dd e) τ).bind (fun q2 => (if q2.1 = 0 then (f_X8_apart_129 (f_X8_apart_78 kk fu)) (nI i) (nI k) (Dd e) (lN (sm (Fap T i k e) y)) (nI y) q2.2 else (f_X8_only (nI i) (nI y) (nI y) q2.2).bind (fun q4 => (f_X8_only (nI k) (nI y + Dd e) (nI y + Dd e) q4).bind (fun q5 => (f_X8_count q5).bind (fun q6 => (f_X8_apart_129 (f_X8_apart_78 kk fu)) (nI i) (nI k) (Dd e) (lN (sm (Fap T i k e) y) + q6.1) (nI y) q6.2))))) = kk (lN (sm (Fap T i k e) (tn T))) τ' ∧ MS τ0 τ' T v' := fun hz hs => by
        rw [hs, bS, if_pos rfl]
        unfold f_X8_apart_129
        have h2 := ih (y + 1) τ lo hh hM hfr (by omega) (by omega)
        rw [show sm (Fap T i k e) (y + 1) = sm (Fap T i k e) y + Fap T i k e y from rfl, hz, Nat.add_zero] at h2
        rw [nI_1]
        exact h2
      rcases Nat.lt_or_ge (y + e) 39 with q1 | q1
      · exact skip (Fap_0 hk (Or.inl q1)) (isYM_f hy0 (Or.inl ((Dd_y e he y (by omega)).2 q1)))
      · have ey := (Dd_y e he y (by omega)).1 q1
        rcases Nat.lt_or_ge (y + e - 39) (tn T) with q2 | q2
        · obtain ⟨τ1, a1, a2⟩ := MS_onlyL ho H hM hi (a := y) (b := y) (by omega) (by omega)
          obtain ⟨τ2, b1, b2⟩ := MS_onlyL ho H a2 hk (a := y + e - 39) (b := y + e - 39) (by omega) (by omega)
          obtain ⟨τ3, c1, c2⟩ := MS_cnt ho H b2
          rw [ey, isYM_t hy0 q2 hn, bS, if_neg one_ne, a1, bS, b1, bS, c1, bS]
          unfold f_X8_apart_129
          rw [nI_1, lN_add, CL_ap hik hi hk q1 hfr]
          exact ih (y + 1) τ3 _ _ c2 (free_two hfr) (by omega) (by omega)
        · exact skip (Fap_0 hk (by omega)) (isYM_f hy0 (Or.inr (by rw [ey]; exact nI_le q2 (by omega))))
    · obtain rfl : y = tn T := by omega
      rw [if_pos (by rw [I_le]; omega)]
      exact ⟨τ, _, rfl, hM⟩
theorem sm_all0 {F : Nat → Nat} {n : Nat} (h : ∀ i, i < n → F i = 0) : lN (sm F n) = (0 : Int64) := by rw [sm_zero h]; rfl
theorem apC_run {T : Tl} {σ0 σ : St} (ho : Okt T) (H : TelC 1 σ0.1 T) {i k e : Nat} (hi : i < tf T) (hk : k < tf T) (hik : i ≠ k) (he : e < 79) (x4 : Int64) (kk : Int64 → Int64 → St → Option (Int64 × St)) (h : CS σ0 σ (G0 T)) : ∃ σ' G', f_X7_apart_81 kk FU (nI i) (nI k) (Dd e) x4 0 (nI (39 - e)) σ = kk x4 (lN (sm (Fap T i k e) (tn T))) σ' ∧ CS σ0 σ' G' := by
  have hn := ho.1.2
  rcases Nat.lt_or_ge (39 - e) (tn T) with q | q
  · have h1 := apC_loop ho H hi hk hik he x4 kk FU (39 - e) σ (fun _ => 0) (fun _ => tn T) h (fun _ _ _ => ⟨rfl, rfl⟩) (by omega) (by omega) (FU_big (by omega))
    rw [sm_all0 (F := Fap T i k e) (n := 39 - e) (fun y hy => Fap_0 hk (by omega))] at h1
    exact h1
  · refine ⟨σ, _, ?_, h⟩
    rw [show FU = 99999 + 1 from rfl, f_X7_apart_81, (h.2.2.tel ho.2.1 (by decide) H).1.1, if_pos (nI_le q (by omega)), sm_all0 (F := Fap T i k e) (n := tn T) (fun y hy => Fap_0 hk (by omega))]
theorem ag_apart : Ag_apart Rel := by
  rintro a0 a1 a2 σ τ ⟨T, H⟩
  unfold f_X7_apart f_X8_apart
  rcases isFind_c (x := a0) H.1.2.1 H.2.1.1.2 H.2.2.1.1.2 with ⟨e1, e2⟩ | ⟨i, hi, rfl, e1, e2⟩
  · rw [e1, e2]
    exact ⟨-2, σ, τ, rfl, rfl, T, H⟩
  · rw [e1, e2, bS, bS, if_neg one_ne, if_neg one_ne]
    rcases isFind_c (x := a1) H.1.2.1 H.2.1.1.2 H.2.2.1.1.2 with ⟨y1, y2⟩ | ⟨k, hk, rfl, y1, y2⟩
    · rw [y1, y2]
      exact ⟨-2, σ, τ, rfl, rfl, T, H⟩
    · rw [y1, y2, bS, bS, if_neg one_ne, if_neg one_ne]
      have hf := H.1.2.1
      have m40 : (-40 : Int32).toInt = -40 := by decide
      have m39 : (-39 : Int32).toInt = -39 := by decide
      have p39 : (39 : Int32).toInt = 39 := by decide
      have p40 : (40 : Int32).toInt = 40 := by decide
      by_cases c1 : a2 < -39
      · rw [if_pos (show a2 ≤ -40 by rw [I_le, m40]; rw [I_lt, m39] at c1; omega), isIn_f τ (Or.inl c1), bS]
        exact ⟨-2, σ, τ, rfl, rfl, T, H⟩
      · by_cases c2 : 39 < a2
        · rw [if_neg (show ¬ a2 ≤ -40 by rw [I_le, m40]; rw [I_lt, m39] at c1; omega), if_neg (show ¬ a2 < 40 by rw [I_lt, p40]; rw [I_lt, p39] at c2; omega), isIn_f τ (Or.inr c2), bS]
          exact ⟨-2, σ, τ, rfl, rfl, T, H⟩
        · rw [isIn_t τ c1 c2, bS, if_neg one_ne]
          obtain ⟨e, he, rfl⟩ := Dd_of c1 c2
          obtain ⟨f1, f2, f3, f4, f5, f6⟩ := Dd_f e he
          rw [if_neg f1, if_pos f2]
          refine share_core H (fun w s => if nI i = nI k then (if Dd e = 0 then f_X7_apart_64 w w s else f_X7_apart_64 w (0 : Int64) s) else (f_X7_apart_81 (f_X7_apart_153) FU) (nI i) (nI k) (Dd e) w (0 : Int64) (imax (0 : Int32) (-(Dd e))) s) (fun s => if nI i = nI k then (if Dd e = 0 then f_X8_apart_64 (s.2 0 33) s else f_X8_apart_64 (0 : Int64) s) else (f_X8_apart_78 (f_X8_apart_135) FU) (nI i) (nI k) (Dd e) (0 : Int64) (0 : Int32) s) (fun h0 hle σ1 τ1 hc hm => ?_)
          unfold f_X7_apart_64 f_X8_apart_64
          by_cases eik : i = k
          · subst eik
            rw [if_pos rfl, if_pos rfl, hm.2.2]
            by_cases z : Dd e = 0
            · obtain ⟨r, σ4, τ4, d1, d2, d3⟩ := frac_fin H hc.2.2 hm.2.1 (a := TT T) (b := TT T) (by omega) h0 (by omega)
              rw [if_pos z, if_pos z, d1, d2]
              exact ⟨r, σ4, τ4, rfl, rfl, d3⟩
            · obtain ⟨r, σ4, τ4, d1, d2, d3⟩ := frac_fin H hc.2.2 hm.2.1 (a := 0) (b := TT T) (by decide) h0 (by omega)
              rw [if_neg z, if_neg z, show f_X7_fraction (0 : Int64) (lN (TT T)) σ1 = _ from d1, show f_X8_fraction (0 : Int64) (lN (TT T)) τ1 = _ from d2]
              exact ⟨r, σ4, τ4, rfl, rfl, d3⟩
          · have ne : ¬ nI i = nI k := fun q => eik (nI_inj (by omega) (by omega) q)
            obtain ⟨σ2, G2, b1, b2⟩ := apC_run H.1 H.2.1 hi hk eik he (lN (TT T)) f_X7_apart_153 hc
            obtain ⟨τ2, v2, g1, g2⟩ := apM_loop H.1 H.2.2.1 hi hk eik he f_X8_apart_135 FU 0 τ1 _ _ (MS_all hm) (fun _ _ _ => ⟨rfl, rfl⟩) (Nat.zero_le _) (FU_big (by have := H.1.1.2; omega))
            rw [if_neg ne, if_neg ne, f5, b1, show f_X8_apart_78 f_X8_apart_135 FU (nI i) (nI k) (Dd e) 0 0 τ1 = _ from g1, Fap_sum hi]
            unfold f_X7_apart_153 f_X8_apart_135
            have hle2 : CT T (fun g => okT T g ∧ g k + 39 = g i + e) ≤ TT T := CT_le
            obtain ⟨r, σ4, τ4, d1, d2, d3⟩ := frac_fin H b2.2.2 g2.2.1 (a := CT T (fun g => okT T g ∧ g k + 39 = g i + e)) (b := TT T) (by omega) h0 (by omega)
            rw [g2.2.2, d1, d2]
            exact ⟨r, σ4, τ4, rfl, rfl, d3⟩
