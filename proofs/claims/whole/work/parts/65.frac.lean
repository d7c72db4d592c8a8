/-! fractions in lowest terms -/
theorem gcd_st (a b : Nat) : Nat.gcd a b = Nat.gcd b (a % b) := by rw [Nat.gcd_comm a b, Nat.gcd_rec, Nat.gcd_comm]
theorem half_mod {b c : Nat} (hc : 0 < c) (h : c < b) : 2 * (b % c) < b := by
  have h1 := Nat.mod_lt b hc
  have h2 := Nat.div_add_mod b c
  have h3 : 1 ≤ b / c := (Nat.le_div_iff_mul_le hc).mpr (by omega)
  have h4 : c * 1 ≤ c * (b / c) := Nat.mul_le_mul_left c h3
  omega
theorem gcdC : ∀ (e fu a b k : Nat) (σ : St), a < 2 ^ 63 → b < 2 ^ e → e ≤ 63 → k + 2 * e ≤ 200 → 2 * e < fu → f_X7_greatestDivisor_9 fu (lN a) (lN b) (nI k) σ = some (lN (Nat.gcd a b), σ) := by
  intro e
  induction e with
  | zero =>
    intro fu a b k σ ha hb he hk hfu
    obtain ⟨fu, rfl⟩ : ∃ n, fu = n + 1 := ⟨fu - 1, by omega⟩
    obtain rfl : b = 0 := by simpa using hb
    rw [f_X7_greatestDivisor_9, if_pos (show lN 0 = (0 : Int64) from rfl), ite_self, Nat.gcd_zero_right]
  | succ e ih =>
    intro fu a b k σ ha hb he hk hfu
    have hp : 2 ^ (e + 1) ≤ 2 ^ 63 := Nat.pow_le_pow_right (by decide) he
    have hp2 : 2 ^ (e + 1) = 2 * 2 ^ e := by rw [Nat.pow_succ, Nat.mul_comm]
    obtain ⟨fu, rfl⟩ : ∃ n, fu = n + 2 := ⟨fu - 2, by omega⟩
    rw [f_X7_greatestDivisor_9, if_neg (show ¬ (200 : Int32) ≤ nI k from nI_ge (b := 200) (by omega) (by decide))]
    by_cases z : b = 0
    · subst z
      rw [if_pos (show lN 0 = (0 : Int64) from rfl), Nat.gcd_zero_right]
    · have nz : ¬ lN b = (0 : Int64) := fun q => z ((lN_0 (by omega)).mp q)
      have hm := Nat.mod_lt a (show 0 < b by omega)
      rw [if_neg nz, cI_t (by rw [decide_eq_false nz]; rfl), pk_lRem ha (by omega) (by omega), nI_1, f_X7_greatestDivisor_9, if_neg (show ¬ (200 : Int32) ≤ nI (k + 1) from nI_ge (b := 200) (by omega) (by decide)), gcd_st]
      by_cases z2 : a % b = 0
      · rw [z2, if_pos (show lN 0 = (0 : Int64) from rfl), Nat.gcd_zero_right]
      · have nz2 : ¬ lN (a % b) = (0 : Int64) := fun q => z2 ((lN_0 (by omega)).mp q)
        have hh := half_mod (b := b) (c := a % b) (by omega) hm
        rw [if_neg nz2, cI_t (by rw [decide_eq_false nz2]; rfl), pk_lRem (by omega) (by omega) (by omega), nI_1, gcd_st b]
        exact ih fu (a % b) (b % (a % b)) (k + 1 + 1) σ (by omega) (by omega) (by omega) (by omega) (by omega)
theorem gcdM : ∀ (e fu a b : Nat) (τ : St), a < 2 ^ 63 → b < 2 ^ e → e ≤ 63 → 2 * e < fu → f_X8_common_6 fu (lN a) (lN b) τ = some (lN (Nat.gcd a b), τ) := by
  intro e
  induction e with
  | zero =>
    intro fu a b τ ha hb he hfu
    obtain ⟨fu, rfl⟩ : ∃ n, fu = n + 1 := ⟨fu - 1, by omega⟩
    obtain rfl : b = 0 := by simpa using hb
    rw [f_X8_common_6, if_pos (show lN 0 = (0 : Int64) from rfl), Nat.gcd_zero_right]
  | succ e ih =>
    intro fu a b τ ha hb he hfu
    have hp : 2 ^ (e + 1) ≤ 2 ^ 63 := Nat.pow_le_pow_right (by decide) he
    have hp2 : 2 ^ (e + 1) = 2 * 2 ^ e := by rw [Nat.pow_succ, Nat.mul_comm]
    obtain ⟨fu, rfl⟩ : ∃ n, fu = n + 2 := ⟨fu - 2, by omega⟩
    rw [f_X8_common_6]
    by_cases z : b = 0
    · subst z
      rw [if_pos (show lN 0 = (0 : Int64) from rfl), Nat.gcd_zero_right]
    · have nz : ¬ lN b = (0 : Int64) := fun q => z ((lN_0 (by omega)).mp q)
      have hm := Nat.mod_lt a (show 0 < b by omega)
      rw [if_neg nz, cI_t (by rw [decide_eq_false nz]; rfl), pk_lRem ha (by omega) (by omega), f_X8_common_6, gcd_st]
      by_cases z2 : a % b = 0
      · rw [z2, if_pos (show lN 0 = (0 : Int64) from rfl), Nat.gcd_zero_right]
      · have nz2 : ¬ lN (a % b) = (0 : Int64) := fun q => z2 ((lN_0 (by omega)).mp q)
        have hh := half_mod (b := b) (c := a % b) (by omega) hm
        rw [if_neg nz2, cI_t (by rw [decide_eq_false nz2]; rfl), pk_lRem (by omega) (by omega) (by omega), gcd_st b]
        exact ih fu (a % b) (b % (a % b)) τ (by omega) (by omega) (by omega) (by omega)
theorem gcd_pos_le {a b : Nat} (h0 : 0 < b) : 0 < Nat.gcd a b ∧ Nat.gcd a b ≤ b := ⟨Nat.gcd_pos_of_pos_right _ h0, Nat.le_of_dvd h0 (Nat.gcd_dvd_right a b)⟩
theorem fracC {a b : Nat} (σ : St) (ha : a < 2 ^ 63) (h0 : 0 < b) (hb : b < 2 ^ 63) : f_X7_fraction (lN a) (lN b) σ = some (lN (a / Nat.gcd a b), up2 σ 0 11 (lN (b / Nat.gcd a b))) := by
  obtain ⟨g1, g2⟩ := gcd_pos_le (a := a) h0
  unfold f_X7_fraction f_X7_greatestDivisor
  rw [show f_X7_greatestDivisor_9 FU (lN a) (lN b) 0 σ = _ from gcdC 63 FU a b 0 σ ha hb (by decide) (by decide) (by decide), bS]
  have nz : ¬ lN (Nat.gcd a b) = (0 : Int64) := fun q => by have := (lN_0 (by omega)).mp q; omega
  rw [if_pos (show (0 : Int64) < lN (Nat.gcd a b) from (pk_lLT (a := 0) (by decide) (by omega)).mpr g1), cI_t (by rw [decide_eq_false nz]; rfl), ap, cI_t (by rw [decide_eq_false nz]; rfl), pk_lDiv hb g1 (by omega), pk_lDiv ha g1 (by omega)]
theorem fracM {a b : Nat} (τ : St) (ha : a < 2 ^ 63) (h0 : 0 < b) (hb : b < 2 ^ 63) : f_X8_fraction (lN a) (lN b) τ = some (lN (a / Nat.gcd a b), up2 τ 0 12 (lN (b / Nat.gcd a b))) := by
  obtain ⟨g1, g2⟩ := gcd_pos_le (a := a) h0
  unfold f_X8_fraction f_X8_common
  rw [gcdM 63 FU a b τ ha hb (by decide) (by decide), bS]
  have nz : ¬ lN (Nat.gcd a b) = (0 : Int64) := fun q => by have := (lN_0 (by omega)).mp q; omega
  rw [cI_t (by rw [decide_eq_false nz]; rfl), ap, cI_t (by rw [decide_eq_false nz]; rfl), pk_lDiv hb g1 (by omega), pk_lDiv ha g1 (by omega)]
/-! what stays as it is while things are counted -/
def SameW (σ σ' : St) : Prop := (∀ c, (c < 63 ∨ 80 < c) → σ'.1 c = σ.1 c) ∧ ∀ c, (c < 64 ∨ 80 < c) → σ'.2 c = σ.2 c
def SameN (τ τ' : St) : Prop := (∀ c, 1 ≤ c → c ≤ 16 → τ'.1 c = τ.1 c) ∧ (∀ j, j ≠ 27 → τ'.1 0 j = τ.1 0 j) ∧ τ'.2 0 12 = τ.2 0 12
theorem SameW.C {σ σ' : St} (h : SameW σ σ') : SameC σ σ' := ⟨fun a ha => h.1 a (by omega), h.1 0 (by omega), by rw [h.1 58 (by omega)], by rw [h.2 0 (by omega)]⟩
theorem SameN.M {τ τ' : St} (h : SameN τ τ') : SameM τ τ' := ⟨fun a ha => h.1 a (by omega) (by omega), ⟨h.2.1 _ (by omega), h.2.1 _ (by omega), h.2.1 _ (by omega), h.2.1 _ (by omega), h.2.1 _ (by omega), h.2.1 _ (by omega), h.2.1 _ (by omega)⟩, h.2.2⟩
theorem SameW.rf {σ : St} : SameW σ σ := ⟨fun _ _ => rfl, fun _ _ => rfl⟩
theorem SameN.rf {τ : St} : SameN τ τ := ⟨fun _ _ _ => rfl, fun _ _ => rfl, rfl⟩
theorem SameW.tr {a b c : St} (h : SameW a b) (h' : SameW b c) : SameW a c := ⟨fun x hx => (h'.1 x hx).trans (h.1 x hx), fun x hx => (h'.2 x hx).trans (h.2 x hx)⟩
theorem SameN.tr {a b c : St} (h : SameN a b) (h' : SameN b c) : SameN a c := ⟨fun x h1 h2 => (h'.1 x h1 h2).trans (h.1 x h1 h2), fun x hx => (h'.2.1 x hx).trans (h.2.1 x hx), h'.2.2.trans h.2.2⟩
theorem SameN.tel {τ τ' : St} {T : Tl} (h : SameN τ τ') (H : TelM τ.1 T) : TelM τ'.1 T := TelM_congr (h.2.1 0 (by omega)) (h.2.1 3 (by omega)) (fun a a1 a2 => h.1 a a1 (by omega)) H
theorem SameW.tel {σ σ' : St} {t : Nat} {T : Tl} (hf : tf T ≤ 7) (ht : t ≤ 29) (h : SameW σ σ') (H : TelC t σ.1 T) : TelC t σ'.1 T := TelC_congr hf (fun a a1 a2 => h.1 a (by omega)) H
theorem RelT_frac {T : Tl} {σ τ : St} (H : RelT T σ τ) (v : Int64) : RelT T (up2 σ 0 11 v) (up2 τ 0 12 v) := by
  obtain ⟨h1, h2, h3, h4, h5, h6, h7, h8, h9, h10⟩ := H
  exact ⟨h1, h2, h3, h4, h5, h6, h7, h8, by rw [up2_eq, up2_eq], h10⟩
theorem frac_fin {T : Tl} {σ τ σ1 τ1 : St} (H : RelT T σ τ) (hc : SameW σ σ1) (hm : SameN τ τ1) {a b : Nat} (ha : a < 2 ^ 63) (h0 : 0 < b) (hb : b < 2 ^ 63) : ∃ (r : Int64) (σ' τ' : St), f_X7_fraction (lN a) (lN b) σ1 = some (r, σ') ∧ f_X8_fraction (lN a) (lN b) τ1 = some (r, τ') ∧ Rel σ' τ' :=
  ⟨_, _, _, fracC σ1 ha h0 hb, fracM τ1 ha h0 hb, T, RelT_frac (RelT_same hc.C hm.M H) _⟩
/-! THE TOTAL -/
def bigT (T : Tl) : Bool := BigQ (sW T) (allm T) (tf T)
theorem Okm_all (T : Tl) : Okm T (allm T) := fun _ h => of_decide_eq_true h
noncomputable abbrev TT (T : Tl) : Nat := Cm T (allm T) (wgt T)
theorem TT_le {T : Tl} (ho : Okt T) (h : bigT T = false) : TT T ≤ 4000000000000000 := CC_big (by have := ho.1.1; omega) h
theorem Cw_match {T : Tl} {G : Wg} {v : Wt} (ho : Okt T) (h1 : wn G = tn T) (h2 : wf G = tf T) (h3 : wm G = allm T) (h4 : wh G = th T) (hw : ∀ i, i < tf T → ∀ y, y < tn T → we G i y = v i y) : Cw G = Cm T (allm T) v := by
  unfold Cw Cm
  rw [h1, h2, h3]
  have key : ∀ j k w, w ≠ 0 → th T j k = w → allm T j = true ∧ allm T k = true := fun j k w hw0 hjk => by
    have hz := ho.2.2.2.2.2.2 j k
    exact ⟨decide_eq_true (Classical.byContradiction (fun q => by have := hz (Or.inl (by omega)); omega)), decide_eq_true (Classical.byContradiction (fun q => by have := hz (Or.inr (Or.inl (by omega))); omega))⟩
  refine CC_congr (fun i hi _ y hy => hw i hi y hy) (fun j k => ?_) (fun j k => ?_)
  · unfold wA mA
    rw [h4]
    exact ⟨fun q => ⟨q, key j k 1 (by decide) q⟩, fun q => q.1⟩
  · unfold wN mN
    rw [h4]
    exact ⟨fun q => ⟨q, key j k 2 (by decide) q⟩, fun q => q.1⟩
theorem Cw_G0 {T : Tl} (ho : Okt T) : Cw (G0 T) = TT T := Cw_match ho rfl rfl rfl rfl (fun i hi y hy => by
  show (if 0 ≤ y ∧ y < tn T then (if i < tf T then wgt T i y else 0) else 0) = wgt T i y
  rw [if_pos ⟨Nat.zero_le y, hy⟩, if_pos hi])
/-- the system's state while it counts -/
def CS (σ0 σ : St) (G : Wg) : Prop := WgC σ G ∧ Okw G ∧ SameW σ0 σ
/-- the reference's -/
def MS (τ0 τ : St) (T : Tl) (v : Wt) : Prop := MgC τ T (allm T) v ∧ SameN τ0 τ ∧ τ.2 0 33 = lN (TT T)
theorem CS_count {σ0 σ : St} {G : Wg} (h : CS σ0 σ G) : ∃ σ', f_X0_countAll σ = some (lN (Cw G), σ') ∧ CS σ0 σ' G := by
  obtain ⟨σ', r1, r2, r3⟩ := countAll_eq h.2.1 h.1
  exact ⟨σ', r1, WgC_fr h.1 (fun c c1 c2 => r2 c (by omega)) (r3 64 (by omega)), h.2.1, h.2.2.tr ⟨fun c hc => r2 c (by omega), fun c hc => r3 c (by omega)⟩⟩
theorem CS_each {σ0 σ : St} {G : Wg} (h : CS σ0 σ G) {i : Nat} (hi : wm G i = true) : ∃ σ', f_X0_countEachYear (nI i) σ = some σ' ∧ (∀ y, y < wn G → σ'.2 80 y = lN (Cat G i y)) ∧ CS σ0 σ' G := by
  obtain ⟨σ', r1, r2, r3, r4⟩ := each_eq h.2.1 h.1 hi
  exact ⟨σ', r1, r2, WgC_fr h.1 (fun c c1 c2 => r3 c (by omega)) (r4 64 (by omega)), h.2.1, h.2.2.tr ⟨fun c hc => r3 c (by omega), fun c hc => r4 c (by omega)⟩⟩
theorem CS_lim {σ0 σ : St} {G : Wg} (h : CS σ0 σ G) {i a b : Nat} (hi : i < 7) (ha : a < 2 ^ 29) (hb : b < 2 ^ 29) {x2 x3 : Int32} (e2 : x2 = nI a) (e3 : x3 = nI b - 1) : ∃ σ', f_X6_limit (nI i) x2 x3 σ = some σ' ∧ CS σ0 σ' (gLim G i a b) := by
  obtain ⟨σ', r1, r2, r3, r4⟩ := limit_eq h.1 hi e2 e3
  exact ⟨σ', r1, r2, Okw_lim h.2.1 ha hb, h.2.2.tr ⟨fun c hc => r3 c (by omega), fun c hc => by rw [r4]⟩⟩
theorem MS_count {τ0 τ : St} {T : Tl} {v : Wt} (ho : Okt T) (H : TelM τ0.1 T) (h : MS τ0 τ T v) : ∃ τ', f_X8_count τ = some (lN (Cm T (allm T) v), τ') ∧ MS τ0 τ' T v := by
  obtain ⟨τ', r1, r2, r3⟩ := count_eq ho (Okm_all T) h.1 (h.2.1.tel H).1.1
  exact ⟨τ', r1, MgC_fr h.1 (by rw [r2]) (by rw [r2]) (by rw [r2]) (r3 17 (by omega)), h.2.1.tr ⟨fun c _ _ => by rw [r2], fun j _ => by rw [r2], by rw [r3 0 (by omega)]⟩, by rw [r3 0 (by omega)]; exact h.2.2⟩
theorem MS_row {τ0 τ τ' : St} {T : Tl} {v : Wt} {i : Nat} {r : Nat → Nat} (ho : Okt T) (h : MS τ0 τ T v) (hr : RowW τ τ' T i r) : MS τ0 τ' T (ur v i r) :=
  ⟨MgC_row ho h.1 hr, h.2.1.tr ⟨fun c _ _ => by rw [hr.1], fun j _ => by rw [hr.1], by rw [hr.2.1 0 (by omega)]⟩, by rw [hr.2.1 0 (by omega)]; exact h.2.2⟩
theorem MS_only {τ0 τ : St} {T : Tl} {v : Wt} (ho : Okt T) (H : TelM τ0.1 T) (h : MS τ0 τ T v) {i a b : Nat} (hi : i < tf T) (ha : a < 2 ^ 30) (hb : b < 2 ^ 30) : ∃ τ', f_X8_only (nI i) (nI a) (nI b) τ = some τ' ∧ MS τ0 τ' T (ur v i (lim T i a b)) := by
  obtain ⟨τ', r1, r2⟩ := only_eq ho hi ha hb (h.2.1.tel H)
  exact ⟨τ', r1, MS_row ho h r2⟩
theorem MS_congr {τ0 τ : St} {T : Tl} {v v' : Wt} (h : MS τ0 τ T v) (e : ∀ i, i < tf T → ∀ y, y < tn T → v i y = v' i y) : MS τ0 τ T v' :=
  ⟨⟨h.1.1, fun i hi y hy => by rw [h.1.2.1 i hi y hy, e i hi y hy], h.1.2.2⟩, h.2⟩
theorem MS_countIn {τ0 τ : St} {T : Tl} (ho : Okt T) (H : TelM τ0.1 T) (h : MS τ0 τ T (wgt T)) {i a b : Nat} (hi : i < tf T) (ha : a < 2 ^ 30) (hb : b < 2 ^ 30) : ∃ τ', f_X8_countIn (nI i) (nI a) (nI b) τ = some (lN (Cm T (allm T) (ur (wgt T) i (lim T i a b))), τ') ∧ MS τ0 τ' T (wgt T) := by
  have hn := ho.1
  obtain ⟨τ1, a1, a2⟩ := MS_only ho H h hi ha hb
  obtain ⟨τ2, b1, b2⟩ := MS_count ho H a2
  obtain ⟨τ3, c1, c2⟩ := MS_only ho H b2 hi (a := 0) (b := tn T - 1) (by decide) (by omega)
  unfold f_X8_countIn
  have e0 : τ2.1 0 0 - 1 = nI (tn T - 1) := by
    rw [(b2.2.1.tel H).1.1]
    have : tn T = (tn T - 1) + 1 := by omega
    rw [this, nI_pred]
    rfl
  rw [a1, bS, b1, bS, e0, show f_X8_only (nI i) 0 (nI (tn T - 1)) τ2 = _ from c1, bS]
  refine ⟨τ3, rfl, MS_congr c2 (fun k hk y hy => ?_)⟩
  by_cases e : k = i
  · subst e
    rw [ur_eq]
    unfold lim
    rw [if_pos ⟨Nat.zero_le y, by omega⟩]
  · rw [ur_ne e, ur_ne e]
theorem weigh_eq {T : Tl} {t : Nat} {σ : St} (ho : Okt T) (ht : t ≤ 29) (H : TelC t σ.1 T) : ∃ σ', f_X7_weigh t σ = some (if bigT T = true then -5 else lN (TT T), σ') ∧ CS σ σ' (G0 T) := by
  obtain ⟨σ1, a1, a2, a3, a4⟩ := load_eq ho ht H
  have hO := Okw_G0 ho
  have hs : ∀ i, i < wf (G0 T) → sm (wv (G0 T) i) (wn (G0 T)) = sW T i := fun i hi => sm_congr (fun y _ => by
    show (if i < tf T then wgt T i y else 0) = wgt T i y
    rw [if_pos (show i < tf T from hi)])
  have bb : BigQ (fun i => sm (wv (G0 T) i) (wn (G0 T))) (wm (G0 T)) (wf (G0 T)) = bigT T := by
    unfold bigT BigQ
    rw [bst_congr (s' := sW T) (fun i hi => hs i hi)]
    rfl
  have b1 := bigC_eq hO a2 (fun i hi => by rw [hs i hi]; exact sW_lt ho hi)
  rw [bb] at b1
  have cs : CS σ σ1 (G0 T) := ⟨a2, hO, fun c hc => a3 c (by omega), fun c hc => a4 c (by omega)⟩
  unfold f_X7_weigh
  rw [a1, bS, b1, bS]
  cases hb : bigT T with
  | true => exact ⟨σ1, rfl, cs⟩
  | false =>
    obtain ⟨σ2, c1, c2⟩ := CS_count cs
    rw [if_pos (show bI false = 0 by decide), c1, bS, Cw_G0 ho]
    exact ⟨σ2, rfl, c2⟩
theorem all_eq {T : Tl} {τ : St} (ho : Okt T) (H : TelM τ.1 T) : f_X8_all τ = some (nI (msk (allm T) 7), τ) := by
  unfold f_X8_all
  have := ho.2.1
  rw [H.1.2, msk_alls _ (by omega)]
  rfl
/-- the reference lays and counts all -/
theorem totM {T : Tl} {τ : St} (ho : Okt T) (H : TelM τ.1 T) : ∃ τ' τ'', f_X8_lay_ (nI (msk (allm T) 7)) τ = some τ' ∧ f_X8_count τ' = some (lN (TT T), τ'') ∧ MgC τ'' T (allm T) (wgt T) ∧ SameN τ τ'' ∧ MgC τ' T (allm T) (wgt T) ∧ SameN τ τ' := by
  obtain ⟨τ1, a1, a2, a3, a4, a5⟩ := laym_eq ho (Okm_all T) H
  have s1 : SameN τ τ1 := ⟨fun c c1 c2 => a3 c (by omega), a4, by rw [a5 0 (by omega)]⟩
  obtain ⟨τ2, r1, r2, r3⟩ := count_eq ho (Okm_all T) a2 (s1.tel H).1.1
  exact ⟨τ1, τ2, a1, r1, MgC_fr a2 (by rw [r2]) (by rw [r2]) (by rw [r2]) (r3 17 (by omega)), s1.tr ⟨fun c _ _ => by rw [r2], fun j _ => by rw [r2], by rw [r3 0 (by omega)]⟩, a2, s1⟩
theorem ask_eq {T : Tl} {τ : St} (ho : Okt T) (H : TelM τ.1 T) : ∃ τ', f_X8_askTotal τ = some (if bigT T = true then -5 else if TT T = 0 then -4 else 0, τ') ∧ SameN τ τ' ∧ (bigT T = false → MS τ τ' T (wgt T)) := by
  unfold f_X8_askTotal
  have b1 := bigM_eq ho (Okm_all T) H
  rw [show BigQ (sW T) (allm T) (tf T) = bigT T from rfl] at b1
  rw [all_eq ho H, bS, b1, bS]
  cases hb : bigT T with
  | true => exact ⟨τ, rfl, SameN.rf, fun h => absurd h (by decide)⟩
  | false =>
    obtain ⟨τ1, τ2, a1, a2, a3, a4, -, -⟩ := totM ho H
    have hle := TT_le ho hb
    rw [if_pos (show bI false = 0 by decide), all_eq ho H, bS, a1, bS, a2, bS, ap, up2_eq]
    have s2 : SameN τ (up2 τ2 0 33 (lN (TT T))) := a4.tr ⟨fun _ _ _ => rfl, fun _ _ => rfl, up2_ne (by omega)⟩
    have m2 : MS τ (up2 τ2 0 33 (lN (TT T))) T (wgt T) := ⟨MgC_fr a3 rfl rfl rfl (up2_r (by omega)), s2, up2_eq⟩
    by_cases z : TT T = 0
    · refine ⟨_, ?_, s2, fun _ => m2⟩
      rw [if_pos ((lN_0 (by omega)).mpr z), if_neg (by decide), if_pos z]
    · refine ⟨_, ?_, s2, fun _ => m2⟩
      rw [if_neg (fun e => z ((lN_0 (by omega)).mp e)), if_neg (by decide), if_neg z]
theorem wfs_eq {T : Tl} {σ : St} (ho : Okt T) (H : TelC 1 σ.1 T) : ∃ σ', f_X7_weighForShare σ = some (if bigT T = true then -5 else if TT T = 0 then -4 else lN (TT T), σ') ∧ CS σ σ' (G0 T) := by
  obtain ⟨σ1, a1, a2⟩ := weigh_eq ho (by decide) H
  unfold f_X7_weighForShare
  rw [a1, bS]
  cases hb : bigT T with
  | true => exact ⟨σ1, rfl, a2⟩
  | false =>
    have hle := TT_le ho hb
    rw [if_neg (by decide : ¬ false = true), if_neg (by decide : ¬ false = true)]
    by_cases z : TT T = 0
    · rw [if_pos (show lN (TT T) = 0 from (lN_0 (by omega)).mpr z), if_pos z]
      exact ⟨σ1, rfl, a2⟩
    · rw [if_neg (show ¬ lN (TT T) = 0 from fun e => z ((lN_0 (by omega)).mp e)), if_neg z]
      exact ⟨σ1, rfl, a2⟩
/-- calls that tell a SHARE -/
theorem share_core {T : Tl} {σ τ : St} (H : RelT T σ τ) (kc : Int64 → St → Option (Int64 × St)) (km : St → Option (Int64 × St)) (hk : 0 < TT T → TT T ≤ 4000000000000000 → ∀ σ1 τ1, CS σ σ1 (G0 T) → MS τ τ1 T (wgt T) → ∃ (r : Int64) (σ' τ' : St), kc (lN (TT T)) σ1 = some (r, σ') ∧ km τ1 = some (r, τ') ∧ Rel σ' τ') : ∃ (r : Int64) (σ' τ' : St), (f_X7_weighForShare σ).bind (fun q5 => if (0 : Int64) ≤ q5.1 then kc q5.1 q5.2 else some (q5.1, q5.2)) = some (r, σ') ∧ (f_X8_askTotal τ).bind (fun q5 => if q5.1 = 0 then km q5.2 else some (q5.1.toInt64, q5.2)) = some (r, τ') ∧ Rel σ' τ' := by
  obtain ⟨σ1, a1, a2⟩ := wfs_eq H.1 H.2.1
  obtain ⟨τ1, b1, b2, b3⟩ := ask_eq H.1 H.2.2.1
  rw [a1, b1, bS, bS]
  have rel : Rel σ1 τ1 := ⟨T, RelT_same a2.2.2.C b2.M H⟩
  cases hb : bigT T with
  | true => exact ⟨-5, σ1, τ1, rfl, rfl, rel⟩
  | false =>
    have hle := TT_le H.1 hb
    by_cases z : TT T = 0
    · rw [if_neg (by decide : ¬ false = true), if_pos z, if_neg (by decide : ¬ false = true), if_pos z]
      exact ⟨-4, σ1, τ1, rfl, rfl, rel⟩
    · rw [if_neg (by decide : ¬ false = true), if_neg z, if_neg (by decide : ¬ false = true), if_neg z]
      rw [if_pos (show (0 : Int64) ≤ lN (TT T) from (pk_lLE (a := 0) (by decide) (by omega)).mpr (Nat.zero_le _)), if_pos rfl]
      exact hk (by omega) hle σ1 τ1 a2 (b3 hb)
theorem CC_lim_le {T : Tl} {i : Nat} {r : Nat → Nat} (h : ∀ y, r y ≤ wgt T i y) : Cm T (allm T) (ur (wgt T) i r) ≤ TT T := CC_mono (fun k _ y _ => by
  by_cases e : k = i
  · subst e; rw [ur_eq]; exact h y
  · rw [ur_ne e]; exact Nat.le_refl _) (fun _ h => h)
theorem lim_le (T : Tl) (i a b y : Nat) : lim T i a b y ≤ wgt T i y := by
  unfold lim
  by_cases c : a ≤ y ∧ y ≤ b
  · rw [if_pos c]; exact Nat.le_refl _
  · rw [if_neg c]; exact Nat.zero_le _
theorem Cw_lim {T : Tl} (ho : Okt T) {i a b : Nat} : Cw (gLim (G0 T) i a (b + 1)) = Cm T (allm T) (ur (wgt T) i (lim T i a b)) := Cw_match ho rfl rfl rfl rfl (fun k hk y hy => by
  show (if (if k = i then a else 0) ≤ y ∧ y < (if k = i then b + 1 else tn T) then (if k < tf T then wgt T k y else 0) else 0) = ur (wgt T) i (lim T i a b) k y
  rw [if_pos hk]
  by_cases e : k = i
  · subst e
    rw [if_pos rfl, if_pos rfl, ur_eq]
    unfold lim
    by_cases c : a ≤ y ∧ y ≤ b
    · rw [if_pos c, if_pos ⟨c.1, by omega⟩]
    · rw [if_neg c, if_neg (fun q => c ⟨q.1, by omega⟩)]
  · rw [if_neg e, if_neg e, ur_ne e, if_pos ⟨Nat.zero_le y, hy⟩])
theorem within_core {T : Tl} {σ τ σ1 τ1 : St} (H : RelT T σ τ) (h0 : 0 < TT T) (hle : TT T ≤ 4000000000000000) (hc : CS σ σ1 (G0 T)) (hm : MS τ τ1 T (wgt T)) {i a b : Nat} (hi : i < tf T) (ha : a < 40) (hb : b < 40) : ∃ (r : Int64) (σ' τ' : St), (f_X7_shareWithin (nI i) (nI a) (nI b) (lN (TT T)) σ1).bind (fun q7 => some (q7.1, q7.2)) = some (r, σ') ∧ (f_X8_countIn (nI i) (nI a) (nI b) τ1).bind (fun q7 => (f_X8_fraction q7.1 (q7.2.2 0 33) q7.2).bind (fun q8 => some (q8.1, q8.2))) = some (r, τ') ∧ Rel σ' τ' := by
  have hf := H.1.2.1
  obtain ⟨σ2, a1, a2⟩ := CS_lim hc (i := i) (a := a) (b := b + 1) (by omega) (by omega) (by omega) rfl (nI_pred b).symm
  obtain ⟨σ3, b1, b2⟩ := CS_count a2
  obtain ⟨τ2, c1, c2⟩ := MS_countIn H.1 H.2.2.1 hm hi (a := a) (b := b) (by omega) (by omega)
  rw [Cw_lim H.1] at b1
  have hle2 := CC_lim_le (lim_le T i a b)
  unfold f_X7_shareWithin
  rw [a1, bS, b1, bS, c1, bS, c2.2.2]
  obtain ⟨r, σ4, τ4, d1, d2, d3⟩ := frac_fin H b2.2.2 c2.2.1 (a := Cm T (allm T) (ur (wgt T) i (lim T i a b))) (b := TT T) (by omega) h0 (by omega)
  rw [d1, d2]
  exact ⟨r, σ4, τ4, rfl, rfl, d3⟩
theorem ag_share : Ag_share Rel := by
  rintro a0 a1 σ τ ⟨T, H⟩
  unfold f_X7_share f_X8_share
  rcases isFind_c (x := a0) H.1.2.1 H.2.1.1.2 H.2.2.1.1.2 with ⟨e1, e2⟩ | ⟨i, hi, rfl, e1, e2⟩
  · rw [e1, e2]
    exact ⟨-2, σ, τ, rfl, rfl, T, H⟩
  · rw [e1, e2, bS, bS, if_neg one_ne, if_neg one_ne]
    rcases isYear_c (x := a1) H.1.1.2 H.2.1.1.1 H.2.2.1.1.1 with ⟨y1, y2⟩ | ⟨y, hy, rfl, y1, y2⟩
    · rw [y1, y2]
      exact ⟨-2, σ, τ, rfl, rfl, T, H⟩
    · rw [y1, y2, bS, bS, if_neg one_ne, if_neg one_ne]
      have hn := H.1.1.2
      exact share_core H (fun w s => (f_X7_shareWithin (nI i) (nI y) (nI y) w s).bind (fun q7 => some (q7.1, q7.2))) (fun s => (f_X8_countIn (nI i) (nI y) (nI y) s).bind (fun q7 => (f_X8_fraction q7.1 (q7.2.2 0 33) q7.2).bind (fun q8 => some (q8.1, q8.2)))) (fun h0 hle σ1 τ1 hc hm => within_core H h0 hle hc hm hi (by omega) (by omega))
theorem ag_until : Ag_until Rel := by
  rintro a0 a1 σ τ ⟨T, H⟩
  unfold f_X7_until f_X8_until
  rcases isFind_c (x := a0) H.1.2.1 H.2.1.1.2 H.2.2.1.1.2 with ⟨e1, e2⟩ | ⟨i, hi, rfl, e1, e2⟩
  · rw [e1, e2]
    exact ⟨-2, σ, τ, rfl, rfl, T, H⟩
  · rw [e1, e2, bS, bS, if_neg one_ne, if_neg one_ne]
    rcases isYear_c (x := a1) H.1.1.2 H.2.1.1.1 H.2.2.1.1.1 with ⟨y1, y2⟩ | ⟨y, hy, rfl, y1, y2⟩
    · rw [y1, y2]
      exact ⟨-2, σ, τ, rfl, rfl, T, H⟩
    · rw [y1, y2, bS, bS, if_neg one_ne, if_neg one_ne]
      have hn := H.1.1.2
      exact share_core H (fun w s => (f_X7_shareWithin (nI i) 0 (nI y) w s).bind (fun q7 => some (q7.1, q7.2))) (fun s => (f_X8_countIn (nI i) 0 (nI y) s).bind (fun q7 => (f_X8_fraction q7.1 (q7.2.2 0 33) q7.2).bind (fun q8 => some (q8.1, q8.2)))) (fun h0 hle σ1 τ1 hc hm => within_core H h0 hle hc hm hi (a := 0) (by omega) (by omega))
theorem ag_total : Ag_total Rel := by
  rintro σ τ ⟨T, H⟩
  unfold f_X7_total f_X8_total
  obtain ⟨σ1, a1, a2⟩ := weigh_eq H.1 (by decide) H.2.1
  have b1 := bigM_eq H.1 (Okm_all T) H.2.2.1
  rw [show BigQ (sW T) (allm T) (tf T) = bigT T from rfl] at b1
  rw [a1, bS, all_eq H.1 H.2.2.1, bS, b1, bS]
  cases hb : bigT T with
  | true => exact ⟨-5, σ1, τ, rfl, rfl, T, RelT_same a2.2.2.C SameN.rf.M H⟩
  | false =>
    obtain ⟨τ1, τ2, c1, c2, c3, c4, -, -⟩ := totM H.1 H.2.2.1
    rw [if_pos (show bI false = 0 by decide), all_eq H.1 H.2.2.1, bS, c1, bS, c2, bS]
    exact ⟨lN (TT T), σ1, τ2, rfl, rfl, T, RelT_same a2.2.2.C c4.M H⟩
