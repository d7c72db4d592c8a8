/-! the reference while it counts, whatever total it asked for last -/
def MN (τ0 τ : St) (T : Tl) (v : Wt) : Prop := MgC τ T (allm T) v ∧ SameN τ0 τ
theorem MN_cnt {τ0 τ : St} {T : Tl} {lo hi : Nat → Nat} (ho : Okt T) (H : TelM τ0.1 T) (h : MN τ0 τ T (vL T lo hi)) : ∃ τ', f_X8_count τ = some (lN (CL T lo hi), τ') ∧ MN τ0 τ' T (vL T lo hi) := by
  obtain ⟨τ', r1, r2, r3⟩ := count_eq ho (Okm_all T) h.1 (h.2.tel H).1.1
  rw [CL_v] at r1
  exact ⟨τ', r1, MgC_fr h.1 (by rw [r2]) (by rw [r2]) (by rw [r2]) (r3 17 (by omega)), h.2.tr ⟨fun c _ _ => by rw [r2], fun j _ => by rw [r2], by rw [r3 0 (by omega)]⟩⟩
theorem MN_congr {τ0 τ : St} {T : Tl} {v v' : Wt} (h : MN τ0 τ T v) (e : ∀ i, i < tf T → ∀ y, y < tn T → v i y = v' i y) : MN τ0 τ T v' :=
  ⟨⟨h.1.1, fun i hi y hy => by rw [h.1.2.1 i hi y hy, e i hi y hy], h.1.2.2⟩, h.2⟩
theorem ur_lim {T : Tl} {lo hi : Nat → Nat} {i a b k y : Nat} : ur (vL T lo hi) i (lim T i a b) k y = vL T (un lo i a) (un hi i (b + 1)) k y := by
  by_cases e : k = i
  · subst e
    rw [ur_eq]
    unfold lim vL un
    rw [if_pos rfl, if_pos rfl]
    by_cases c : a ≤ y ∧ y ≤ b
    · rw [if_pos c, if_pos ⟨c.1, by omega⟩]
    · rw [if_neg c, if_neg (fun q => c ⟨q.1, by omega⟩)]
  · rw [ur_ne e]
    unfold vL un
    rw [if_neg e, if_neg e]
theorem MN_onlyL {τ0 τ : St} {T : Tl} {lo hi : Nat → Nat} (ho : Okt T) (H : TelM τ0.1 T) (h : MN τ0 τ T (vL T lo hi)) {i a b : Nat} (hi' : i < tf T) (ha : a < 2 ^ 30) (hb : b < 2 ^ 30) : ∃ τ', f_X8_only (nI i) (nI a) (nI b) τ = some τ' ∧ MN τ0 τ' T (vL T (un lo i a) (un hi i (b + 1))) := by
  obtain ⟨τ', r1, hr⟩ := only_eq ho hi' ha hb (h.2.tel H)
  exact ⟨τ', r1, MN_congr ⟨MgC_row ho h.1 hr, h.2.tr ⟨fun c _ _ => by rw [hr.1], fun j _ => by rw [hr.1], by rw [hr.2.1 0 (by omega)]⟩⟩ (fun k _ y _ => ur_lim)⟩
/-! finds below i are settled -/
def wl (w : Nat → Nat) (i : Nat) : Nat → Nat := fun j => if j < i then w j else 0
def wu (n : Nat) (w : Nat → Nat) (i : Nat) : Nat → Nat := fun j => if j < i then w j + 1 else n
theorem wl_s {w : Nat → Nat} {i : Nat} : un (wl w i) i (w i) = wl w (i + 1) := by
  funext j
  unfold un wl
  by_cases e : j = i
  · subst e; rw [if_pos rfl, if_pos (by omega)]
  · rw [if_neg e]
    by_cases c : j < i
    · rw [if_pos c, if_pos (by omega)]
    · rw [if_neg c, if_neg (by omega)]
theorem wu_s {n : Nat} {w : Nat → Nat} {i : Nat} : un (wu n w i) i (w i + 1) = wu n w (i + 1) := by
  funext j
  unfold un wu
  by_cases e : j = i
  · subst e; rw [if_pos rfl, if_pos (by omega)]
  · rw [if_neg e]
    by_cases c : j < i
    · rw [if_pos c, if_pos (by omega)]
    · rw [if_neg c, if_neg (by omega)]
theorem un_un (g : Nat → Nat) (i a b : Nat) : un (un g i a) i b = un g i b := by
  funext j
  unfold un
  by_cases e : j = i
  · rw [if_pos e, if_pos e]
  · rw [if_neg e, if_neg e, if_neg e]
theorem wl_0 (w : Nat → Nat) : wl w 0 = fun _ => 0 := by
  funext j
  unfold wl
  rw [if_neg (Nat.not_lt_zero j)]
theorem wu_0 (n : Nat) (w : Nat → Nat) : wu n w 0 = fun _ => n := by
  funext j
  unfold wu
  rw [if_neg (Nat.not_lt_zero j)]
/-- what comes ahead, first parting at j -/
noncomputable def Ahd (T : Tl) (w : Nat → Nat) (j : Nat) : Nat := CL T (un (wl w j) j 0) (un (wu (tn T) w j) j (w j))
theorem Ahd_0 {T : Tl} {w : Nat → Nat} {j : Nat} (hj : j < tf T) (h : w j = 0) : Ahd T w j = 0 := CQ_none (fun g _ q => by
  have := (q.2 j hj).2
  unfold un at this
  rw [if_pos rfl, h] at this
  omega)
theorem nC_loop {T : Tl} {σ0 : St} (ho : Okt T) {w : Nat → Nat} (hw : ∀ j, j < tf T → w j < tn T ∧ σ0.1 81 j = nI (w j)) (kk : Int64 → St → Option (Int64 × St)) : ∀ (fu i : Nat) (σ : St), CS σ0 σ (Glm T (wl w i) (wu (tn T) w i)) → i ≤ tf T → tf T - i < fu → ∃ σ', f_X7_countAheadOfWaiting_5 kk fu (nI (tf T)) (lN (sm (Ahd T w) i)) (nI i) σ = kk (lN (sm (Ahd T w) (tf T))) σ' ∧ CS σ0 σ' (Glm T (wl w (tf T)) (wu (tn T) w (tf T))) := by
  have hn := ho.1.2
  have hf := ho.2.1
  intro fu
  induction fu with
  | zero => intro i σ _ _ h; omega
  | succ fu ih =>
    intro i σ hM hi hfu
    rw [f_X7_countAheadOfWaiting_5]
    rcases Nat.lt_or_ge i (tf T) with q | q
    · obtain ⟨w1, w2⟩ := hw i q
      have ci := ix_nI (show i < 20 by omega) (by decide)
      obtain ⟨σ1, a1, a2⟩ := CS_limL hM (i := i) (a := 0) (b := w i) (x2 := 0) (x3 := nI (w i) - 1) (by omega) (by omega) (by omega) rfl rfl
      obtain ⟨σ2, b1, b2⟩ := CS_cnt ho a2
      obtain ⟨σ3, c1, c2⟩ := CS_limL b2 (i := i) (a := w i) (b := w i + 1) (x2 := nI (w i)) (x3 := nI (w i)) (by omega) (by omega) (by omega) rfl (nI_pred _).symm
      have v1 : σ.1 81 i = nI (w i) := by rw [hM.2.2.1 81 (by omega)]; exact w2
      have v2 : σ2.1 81 i = nI (w i) := by rw [b2.2.2.1 81 (by omega)]; exact w2
      rw [if_neg (nI_ge q (by omega)), cI_t ci, nI_clamp (show i < 2 ^ 31 by omega), v1, a1, bS, b1, bS, cI_t ci, cI_t ci, v2, c1, bS, lN_add, nI_1]
      rw [un_un, un_un, wl_s, wu_s] at c2
      exact ih (i + 1) σ3 c2 (by omega) (by omega)
    · obtain rfl : i = tf T := by omega
      rw [if_pos (nI_le q (by omega))]
      exact ⟨σ, rfl, hM⟩
theorem nM_loop {T : Tl} {τ0 : St} (ho : Okt T) (H : TelM τ0.1 T) {w : Nat → Nat} (hw : ∀ j, j < tf T → w j < tn T ∧ τ0.1 15 j = nI (w j)) (kk : Int64 → St → Option (Int64 × St)) : ∀ (fu i : Nat) (τ : St), MN τ0 τ T (vL T (wl w i) (wu (tn T) w i)) → i ≤ tf T → tf T - i < fu → ∃ τ', f_X8_number_86 kk fu (lN (sm (Ahd T w) i)) (nI i) τ = kk (lN (sm (Ahd T w) (tf T))) τ' ∧ MN τ0 τ' T (vL T (wl w (tf T)) (wu (tn T) w (tf T))) := by
  have hn := ho.1.2
  have hf := ho.2.1
  intro fu
  induction fu with
  | zero => intro i τ _ _ h; omega
  | succ fu ih =>
    intro i τ hM hi hfu
    rw [f_X8_number_86, (hM.2.tel H).1.2]
    rcases Nat.lt_or_ge i (tf T) with q | q
    · obtain ⟨w1, w2⟩ := hw i q
      have ci := ix_nI (show i < 20 by omega) (by decide)
      have v1 : τ.1 15 i = nI (w i) := by rw [hM.2.1 15 (by omega) (by omega)]; exact w2
      have fin : ∀ (x : Int64) (τ1 : St) (lo1 hi1 : Nat → Nat), x = lN (Ahd T w i) → MN τ0 τ1 T (vL T lo1 hi1) → un lo1 i (w i) = wl w (i + 1) → un hi1 i (w i + 1) = wu (tn T) w (i + 1) → ∃ τ', f_X8_number_123 (f_X8_number_86 kk fu) (nI i) x (lN (sm (Ahd T w) i)) τ1 = kk (lN (sm (Ahd T w) (tf T))) τ' ∧ MN τ0 τ' T (vL T (wl w (tf T)) (wu (tn T) w (tf T))) := fun x τ1 lo1 hi1 hx h1 g1 g2 => by
        have v2 : τ1.1 15 i = nI (w i) := by rw [h1.2.1 15 (by omega) (by omega)]; exact w2
        obtain ⟨τ2, c1, c2⟩ := MN_onlyL ho H h1 q (a := w i) (b := w i) (by omega) (by omega)
        unfold f_X8_number_123
        rw [cI_t ci, cI_t ci, nI_clamp (show i < 2 ^ 31 by omega), v2, c1, bS, hx, lN_add, nI_1]
        rw [g1, g2] at c2
        exact ih (i + 1) τ2 c2 (by omega) (by omega)
      rw [if_neg (nI_ge q (by omega)), cI_t ci, nI_clamp (show i < 2 ^ 31 by omega), v1]
      by_cases z : w i = 0
      · rw [if_pos (by rw [z]; rfl)]
        exact fin 0 τ _ _ (by rw [Ahd_0 q z]; rfl) hM wl_s wu_s
      · obtain ⟨m, hm⟩ : ∃ m, w i = m + 1 := ⟨w i - 1, by omega⟩
        obtain ⟨τ1, a1, a2⟩ := MN_onlyL ho H hM q (a := 0) (b := m) (by omega) (by omega)
        obtain ⟨τ2, b1, b2⟩ := MN_cnt ho H a2
        rw [if_neg (nI_ne0 (by omega) (by omega)), cI_t ci]
        unfold f_X8_lessThan
        rw [hm, nI_pred, show f_X8_only (nI i) 0 (nI m) τ = _ from a1, bS, b1, bS, bS]
        refine fin _ τ2 _ _ ?_ b2 (by rw [un_un]; exact wl_s) (by rw [un_un]; exact wu_s)
        unfold Ahd
        rw [hm]
    · obtain rfl : i = tf T := by omega
      rw [if_pos (by rw [I_le]; omega)]
      exact ⟨τ, rfl, hM⟩
theorem n26_0 {n : Nat} (hn : n ≤ 20) {τ : St} (kk : Int32 → St → Option (Int64 × St)) : ∀ (fu k : Nat), k ≤ n → n - k < fu → f_X8_number_26 kk fu (nI n) 0 (nI k) τ = kk 0 τ := by
  intro fu
  induction fu with
  | zero => intro k _ h; omega
  | succ fu ih =>
    intro k hk hfu
    rw [f_X8_number_26]
    rcases Nat.lt_or_ge k n with q | q
    · have hy : ∃ r, f_X8_isYear (τ.1 15 k) τ = some (r, τ) := by
        unfold f_X8_isYear
        by_cases c1 : τ.1 15 k < 0
        · rw [if_pos c1]; exact ⟨_, rfl⟩
        · rw [if_neg c1]
          by_cases c2 : τ.1 0 0 ≤ τ.1 15 k
          · rw [if_pos c2]; exact ⟨_, rfl⟩
          · rw [if_neg c2]; exact ⟨_, rfl⟩
      obtain ⟨r, hr⟩ := hy
      rw [if_neg (nI_ge q (by omega)), cI_t (ix_nI (show k < 20 by omega) (by decide)), nI_clamp (show k < 2 ^ 31 by omega), hr, bS, nI_1, show (0 : Int32) &&& r = 0 from Int32.zero_and]
      exact ih (k + 1) (by omega) (by omega)
    · rw [if_pos (nI_le q (by omega))]
theorem num_yrs {n N : Nat} (hn : n ≤ 20) (hN : N ≤ 40) {σ τ : St} (hc : σ.1 1 0 = nI N) (hm : τ.1 0 0 = nI N) (hw : ∀ j, j < n → σ.1 81 j = τ.1 15 j) (k5 k0 : Int32 → St → Option (Int64 × St)) : ∀ (fu k : Nat), k ≤ n → n - k < fu → ((∀ j, k ≤ j → j < n → ∃ z : Nat, z < N ∧ σ.1 81 j = nI z) ∧ f_X7_number_27 k5 fu (nI n) (nI k) σ = k5 (nI n) σ ∧ f_X8_number_26 k0 fu (nI n) 1 (nI k) τ = k0 1 τ) ∨ (f_X7_number_27 k5 fu (nI n) (nI k) σ = some (-2, σ) ∧ f_X8_number_26 k0 fu (nI n) 1 (nI k) τ = k0 0 τ) := by
  intro fu
  induction fu with
  | zero => intro k _ h; omega
  | succ fu ih =>
    intro k hk hfu
    rw [f_X7_number_27, f_X8_number_26]
    rcases Nat.lt_or_ge k n with q | q
    · have ck := ix_nI (show k < 20 by omega) (by decide)
      rw [if_neg (nI_ge q (by omega)), cI_t ck, nI_clamp (show k < 2 ^ 31 by omega), if_neg (nI_ge q (by omega)), cI_t ck, ← hw k q]
      rcases isYear_c (x := σ.1 81 k) hN hc hm with ⟨y1, y2⟩ | ⟨z, hz, ez, y1, y2⟩
      · right
        rw [y1, y2, bS, bS, if_pos rfl, nI_1, show (1 : Int32) &&& 0 = 0 by decide]
        exact ⟨rfl, n26_0 hn k0 fu (k + 1) (by omega) (by omega)⟩
      · rw [y1, y2, bS, bS, if_neg one_ne, nI_1, show (1 : Int32) &&& 1 = 1 by decide]
        rcases ih (k + 1) (by omega) (by omega) with ⟨g1, g2, g3⟩ | ⟨g2, g3⟩
        · left
          refine ⟨fun j j1 j2 => ?_, g2, g3⟩
          by_cases e : j = k
          · subst e; exact ⟨z, hz, ez⟩
          · exact g1 j (by omega) j2
        · right; exact ⟨g2, g3⟩
    · left
      rw [if_pos (nI_le q (by omega)), if_pos (nI_le q (by omega))]
      exact ⟨fun j j1 j2 => by omega, rfl, rfl⟩
theorem RelT_wait0 {T : Tl} {σ τ : St} (H : RelT T σ τ) : RelT T (up1 σ 0 8 0) (up1 τ 0 20 0) := by
  obtain ⟨h1, h2, h3, h4, h5, h6, h7, h8, h9, h10⟩ := H
  refine ⟨h1, TelC_congr h1.2.1 (fun a a1 a2 => up1_r (by omega)) h2, TelM_congr (up1_ne (by omega)) (up1_ne (by omega)) (fun a a1 a2 => up1_r (by omega)) h3, KeptR_congr (up1_ne (by omega)) (up1_ne (by omega)) (fun a a1 a2 => up1_r (by omega)) (up1_r (by omega)) h4, SheetsR_congr (fun a a1 a2 => up1_r (by omega)) (up1_r (by omega)) (up1_r (by omega)) (up1_r (by omega)) h5, TapeR_congr (by rw [up1_r (by omega)]) (up1_r (by omega)) (up1_ne (by omega)) (up1_r (by omega)) h6, ⟨0, by omega, up1_eq, up1_eq, fun j hj => by omega⟩, DrawR_congr (up1_ne (by omega)) (up1_r (by omega)) (up1_ne (by omega)) (up1_r (by omega)) h8, h9, by rw [up1_ne (by omega), up1_ne (by omega)]; exact h10⟩
theorem ag_number : Ag_number Rel := by
  rintro σ τ ⟨T, H⟩
  unfold f_X7_number f_X8_number f_X8_number_23
  obtain ⟨n, w1, w2, w3, w4⟩ := H.2.2.2.2.2.2.1
  have H0 := RelT_wait0 H
  have hf := H.1.2.1
  have hn := H.1.1
  rw [ap, ap, up1_r (show (1 : Nat) ≠ 0 by omega), up1_ne (show ¬ ((0 : Nat) = 0 ∧ 3 = 20) by omega), w2, w3, H.2.1.1.2, H.2.2.1.1.2]
  by_cases e : n = tf T
  · subst e
    rw [if_pos rfl, if_pos rfl]
    have ww : ∀ j, j < tf T → (up1 σ 0 8 0).1 81 j = (up1 τ 0 20 0).1 15 j := fun j hj => by rw [up1_r (by omega), up1_r (by omega)]; exact w4 j hj
    rcases num_yrs w1 hn.2 H0.2.1.1.1 H0.2.2.1.1.1 ww f_X7_number_55 f_X8_number_50 FU 0 (Nat.zero_le _) (FU_big (by omega)) with ⟨g1, g2, g3⟩ | ⟨g2, g3⟩
    · obtain ⟨w, hw⟩ : ∃ w : Nat → Nat, ∀ j, j < tf T → w j < tn T ∧ (up1 σ 0 8 0).1 81 j = nI (w j) := by
        obtain ⟨fa, fb, hab⟩ := skol (f := tf T) (P := fun k a _ => a < tn T ∧ (up1 σ 0 8 0).1 81 k = nI a) (fun k hk => by
          obtain ⟨z, z1, z2⟩ := g1 k (Nat.zero_le _) hk
          exact ⟨z, 0, z1, z2⟩)
        exact ⟨fa, hab⟩
      rw [show f_X7_number_27 f_X7_number_55 FU (nI (tf T)) 0 (up1 σ 0 8 0) = _ from g2, show f_X8_number_26 f_X8_number_50 FU (nI (tf T)) 1 0 (up1 τ 0 20 0) = _ from g3]
      generalize up1 σ 0 8 0 = σ0 at *
      generalize up1 τ 0 20 0 = τ0 at *
      unfold f_X7_number_55 f_X8_number_50
      obtain ⟨σ1, a1, a2⟩ := weigh_eq H0.1 (by decide) H0.2.1
      have b1 := bigM_eq H0.1 (Okm_all T) H0.2.2.1
      rw [show BigQ (sW T) (allm T) (tf T) = bigT T from rfl] at b1
      rw [if_neg one_ne, a1, bS, all_eq H0.1 H0.2.2.1, bS, b1, bS]
      cases hb : bigT T with
      | true => exact ⟨-5, σ1, τ0, rfl, rfl, T, RelT_same a2.2.2.C SameN.rf.M H0⟩
      | false =>
        have hle := TT_le H0.1 hb
        obtain ⟨τ1, τ2, k1, k2, k3, k4, k5, k6⟩ := totM H0.1 H0.2.2.1
        have ms : MN τ0 τ1 T (vL T (wl w 0) (wu (tn T) w 0)) := by
          rw [wl_0, wu_0]
          exact MN_congr ⟨k5, k6⟩ (fun i _ y hy => by
            unfold vL
            rw [if_pos ⟨Nat.zero_le y, hy⟩])
        have cs : CS σ0 σ1 (Glm T (wl w 0) (wu (tn T) w 0)) := by
          rw [wl_0, wu_0]
          exact a2
        obtain ⟨σ2, c1, c2⟩ := nC_loop H0.1 hw f_X7_countAheadOfWaiting_69 FU 0 σ1 cs (Nat.zero_le _) (FU_big (by omega))
        obtain ⟨τ3, d1, d2⟩ := nM_loop H0.1 H0.2.2.1 (fun j hj => ⟨(hw j hj).1, by rw [← ww j hj]; exact (hw j hj).2⟩) f_X8_number_151 FU 0 τ1 ms (Nat.zero_le _) (FU_big (by omega))
        unfold f_X7_countAheadOfWaiting
        rw [if_neg (by decide : ¬ false = true), if_pos (show (0 : Int64) ≤ lN (TT T) from (pk_lLE (a := 0) (by decide) (by omega)).mpr (Nat.zero_le _)), show f_X7_countAheadOfWaiting_5 f_X7_countAheadOfWaiting_69 FU (nI (tf T)) 0 0 σ1 = _ from c1, if_pos (show bI false = 0 by decide), all_eq H0.1 H0.2.2.1, bS, k1, bS, show f_X8_number_86 f_X8_number_151 FU 0 0 τ1 = _ from d1]
        unfold f_X7_countAheadOfWaiting_69 f_X8_number_151
        obtain ⟨σ3, p1, p2⟩ := CS_cnt H0.1 c2
        obtain ⟨τ4, q1, q2⟩ := MN_cnt H0.1 H0.2.2.1 d2
        rw [p1, bS, q1, bS]
        have rel : Rel σ3 τ4 := ⟨T, RelT_same p2.2.2.C q2.2.M H0⟩
        by_cases z : lN (CL T (wl w (tf T)) (wu (tn T) w (tf T))) = (0 : Int64)
        · rw [if_pos z, if_pos z]
          exact ⟨-4, σ3, τ4, rfl, rfl, rel⟩
        · rw [if_neg z, if_neg z]
          exact ⟨_, σ3, τ4, rfl, rfl, rel⟩
    · rw [show f_X7_number_27 f_X7_number_55 FU (nI (tf T)) 0 (up1 σ 0 8 0) = _ from g2, show f_X8_number_26 f_X8_number_50 FU (nI (tf T)) 1 0 (up1 τ 0 20 0) = _ from g3]
      exact ⟨-2, _, _, rfl, rfl, T, H0⟩
  · have ne : ¬ nI n = nI (tf T) := fun q => e (nI_inj (by omega) (by omega) q)
    rw [if_neg ne, if_neg ne, show f_X8_number_26 f_X8_number_50 FU (nI n) 0 0 (up1 τ 0 20 0) = _ from n26_0 w1 f_X8_number_50 FU 0 (Nat.zero_le _) (FU_big (by omega))]
    exact ⟨-2, _, _, rfl, rfl, T, H0⟩
