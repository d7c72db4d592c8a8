/-! counts by what givings keep to -/
noncomputable def CQ (n f : Nat) (m : Nat → Bool) (w : Wt) (P : (Nat → Nat) → Prop) : Nat := gs n f (fun g => pr (fun i => coef m w i (g i)) f * ind (P g))
theorem ind_mono {p q : Prop} (h : p → q) : ind p ≤ ind q := by
  by_cases c : p
  · rw [ind_t c, ind_t (h c)]; exact Nat.le_refl _
  · rw [ind_f c]; exact Nat.zero_le _
theorem CQ_congr {n f : Nat} {m : Nat → Bool} {w : Wt} {P Q : (Nat → Nat) → Prop} (h : ∀ g, (∀ i, i < f → g i < n) → (P g ↔ Q g)) : CQ n f m w P = CQ n f m w Q := gs_congr (fun g hg => by rw [ind_iff (h g hg)])
theorem CQ_le {n f : Nat} {m : Nat → Bool} {w : Wt} {P Q : (Nat → Nat) → Prop} (h : ∀ g, (∀ i, i < f → g i < n) → P g → Q g) : CQ n f m w P ≤ CQ n f m w Q := gs_le (fun g hg => Nat.mul_le_mul_left _ (ind_mono (h g hg)))
theorem CQ_none {n f : Nat} {m : Nat → Bool} {w : Wt} {P : (Nat → Nat) → Prop} (h : ∀ g, (∀ i, i < f → g i < n) → ¬ P g) : CQ n f m w P = 0 := gs_zero (fun g hg => by rw [ind_f (h g hg), Nat.mul_zero])
theorem CQ_sum {n f k : Nat} {m : Nat → Bool} {w : Wt} {P : Nat → (Nat → Nat) → Prop} {Q : (Nat → Nat) → Prop} (h : ∀ g, (∀ i, i < f → g i < n) → (∀ y, y < k → P y g → Q g) ∧ (Q g → ∃ y, y < k ∧ P y g) ∧ ∀ y z, y < k → z < k → P y g → P z g → y = z) : sm (fun y => CQ n f m w (P y)) k = CQ n f m w Q := by
  unfold CQ
  rw [gs_sm (fun y g => pr (fun i => coef m w i (g i)) f * ind (P y g)) k]
  refine gs_congr (fun g hg => ?_)
  rw [sm_mul]
  congr 1
  obtain ⟨h1, h2, h3⟩ := h g hg
  by_cases q : Q g
  · obtain ⟨y, y1, y2⟩ := h2 q
    rw [sm_one y1 (fun z z1 z2 => ind_f (fun c => z2 (h3 z y z1 y1 c y2))), ind_t y2, ind_t q]
  · rw [ind_f q, sm_zero (fun y hy => ind_f (fun c => q (h1 y hy c)))]
theorem pr_ind {C : Nat → Prop} {F : Nat → Nat} : ∀ f, pr (fun i => ind (C i) * F i) f = pr F f * ind (∀ i, i < f → C i)
  | 0 => by
    rw [ind_t (show ∀ i, i < 0 → C i from fun i hi => by omega)]
    rfl
  | f + 1 => by
    have e : ind (∀ i, i < f + 1 → C i) = ind (∀ i, i < f → C i) * ind (C f) := by
      rw [← ind_and]
      refine ind_iff ⟨fun h => ⟨fun i hi => h i (by omega), h f (by omega)⟩, fun h i hi => ?_⟩
      by_cases q : i = f
      · subst q; exact h.2
      · exact h.1 i (by omega)
    show pr (fun i => ind (C i) * F i) f * (ind (C f) * F f) = pr F f * F f * _
    rw [pr_ind f, e]
    simp only [Nat.mul_assoc, Nat.mul_comm, Nat.mul_left_comm]
theorem CC_res {n f : Nat} {m : Nat → Bool} {A N : Rl} {w w' : Wt} (c : Nat → Nat → Prop) (h : ∀ i, i < f → m i = true → ∀ y, y < n → w' i y = ind (c i y) * w i y) : CC n f m A N w' = CQ n f m w (fun g => okg m A N g ∧ ∀ i, i < f → m i = true → c i (g i)) := by
  unfold CC CQ
  refine gs_congr (fun g hg => ?_)
  rw [pr_congr (g := fun i => ind (m i = true → c i (g i)) * coef m w i (g i)) (fun i hi => ?_), pr_ind, ind_and, Nat.mul_assoc, Nat.mul_comm (ind (∀ i, i < f → m i = true → c i (g i)))]
  unfold coef
  by_cases q : m i = true
  · rw [if_pos q, if_pos q, h i hi q _ (hg i hi)]
    congr 1
    exact ind_iff ⟨fun x _ => x, fun x => x q⟩
  · rw [if_neg q, if_neg q, ind_t (fun x => absurd x q), Nat.one_mul]
abbrev okT (T : Tl) (g : Nat → Nat) : Prop := okg (allm T) (mA T (allm T)) (mN T (allm T)) g
noncomputable abbrev CT (T : Tl) (P : (Nat → Nat) → Prop) : Nat := CQ (tn T) (tf T) (allm T) (wgt T) P
theorem Cm_res {T : Tl} {v : Wt} (c : Nat → Nat → Prop) (h : ∀ i, i < tf T → ∀ y, y < tn T → v i y = ind (c i y) * wgt T i y) : Cm T (allm T) v = CT T (fun g => okT T g ∧ ∀ i, i < tf T → c i (g i)) := by
  unfold Cm
  rw [CC_res c (fun i hi _ => h i hi)]
  exact CQ_congr (fun g _ => and_congr Iff.rfl ⟨fun q i hi => q i hi (decide_eq_true hi), fun q i hi _ => q i hi⟩)
theorem th_in {T : Tl} (ho : Okt T) {j k w : Nat} (hw0 : w ≠ 0) (hjk : th T j k = w) : j < tf T ∧ k < tf T ∧ j ≠ k := by
  have hz := ho.2.2.2.2.2.2 j k
  exact ⟨Classical.byContradiction (fun q => by have := hz (Or.inl (by omega)); omega), Classical.byContradiction (fun q => by have := hz (Or.inr (Or.inl (by omega))); omega), fun q => by have := hz (Or.inr (Or.inr q)); omega⟩
theorem okT_iff {T : Tl} (ho : Okt T) {g : Nat → Nat} : okT T g ↔ ∀ j k, (th T j k = 1 → g j < g k) ∧ (th T j k = 2 → g j ≤ g k) := by
  have key : ∀ j k w, w ≠ 0 → th T j k = w → allm T j = true ∧ allm T k = true := fun j k w hw0 hjk => ⟨decide_eq_true (th_in ho hw0 hjk).1, decide_eq_true (th_in ho hw0 hjk).2.1⟩
  exact ⟨fun q j k => ⟨fun e => (q j k).1 ⟨e, key j k 1 (by decide) e⟩, fun e => (q j k).2 ⟨e, key j k 2 (by decide) e⟩⟩, fun q j k => ⟨fun e => (q j k).1 e.1, fun e => (q j k).2 e.1⟩⟩
/-! finds held to years: lo i to hi i - 1 -/
def Glm (T : Tl) (lo hi : Nat → Nat) : Wg := ((tn T, tf T), allm T, wq T, lo, hi, th T)
def vL (T : Tl) (lo hi : Nat → Nat) : Wt := fun i y => if lo i ≤ y ∧ y < hi i then wgt T i y else 0
noncomputable def CL (T : Tl) (lo hi : Nat → Nat) : Nat := CT T (fun g => okT T g ∧ ∀ i, i < tf T → lo i ≤ g i ∧ g i < hi i)
theorem CL_v {T : Tl} {lo hi : Nat → Nat} : Cm T (allm T) (vL T lo hi) = CL T lo hi := Cm_res (fun i y => lo i ≤ y ∧ y < hi i) (fun i _ y _ => by
  unfold vL
  by_cases q : lo i ≤ y ∧ y < hi i
  · rw [if_pos q, ind_t q, Nat.one_mul]
  · rw [if_neg q, ind_f q, Nat.zero_mul])
theorem Cw_Glm {T : Tl} (ho : Okt T) {lo hi : Nat → Nat} : Cw (Glm T lo hi) = CL T lo hi := by
  rw [← CL_v]
  exact Cw_match ho rfl rfl rfl rfl (fun i hi' y hy => by
    show (if lo i ≤ y ∧ y < hi i then (if i < tf T then wgt T i y else 0) else 0) = vL T lo hi i y
    unfold vL
    rw [if_pos hi'])
theorem CT_le {T : Tl} {P : (Nat → Nat) → Prop} : CT T (fun g => okT T g ∧ P g) ≤ TT T := CQ_le (Q := okT T) (fun g _ h => h.1)
theorem CL_le {T : Tl} {lo hi : Nat → Nat} : CL T lo hi ≤ TT T := CT_le
theorem CS_cnt {σ0 σ : St} {T : Tl} {lo hi : Nat → Nat} (ho : Okt T) (h : CS σ0 σ (Glm T lo hi)) : ∃ σ', f_X0_countAll σ = some (lN (CL T lo hi), σ') ∧ CS σ0 σ' (Glm T lo hi) := by
  obtain ⟨σ', r1, r2⟩ := CS_count h
  rw [Cw_Glm ho] at r1
  exact ⟨σ', r1, r2⟩
theorem CS_limL {σ0 σ : St} {T : Tl} {lo hi : Nat → Nat} (h : CS σ0 σ (Glm T lo hi)) {i a b : Nat} (hi' : i < 7) (ha : a < 2 ^ 29) (hb : b < 2 ^ 29) {x2 x3 : Int32} (e2 : x2 = nI a) (e3 : x3 = nI b - 1) : ∃ σ', f_X6_limit (nI i) x2 x3 σ = some σ' ∧ CS σ0 σ' (Glm T (un lo i a) (un hi i b)) := CS_lim h hi' ha hb e2 e3
theorem MS_cnt {τ0 τ : St} {T : Tl} {lo hi : Nat → Nat} (ho : Okt T) (H : TelM τ0.1 T) (h : MS τ0 τ T (vL T lo hi)) : ∃ τ', f_X8_count τ = some (lN (CL T lo hi), τ') ∧ MS τ0 τ' T (vL T lo hi) := by
  obtain ⟨τ', r1, r2⟩ := MS_count ho H h
  rw [CL_v] at r1
  exact ⟨τ', r1, r2⟩
theorem MS_onlyL {τ0 τ : St} {T : Tl} {lo hi : Nat → Nat} (ho : Okt T) (H : TelM τ0.1 T) (h : MS τ0 τ T (vL T lo hi)) {i a b : Nat} (hi' : i < tf T) (ha : a < 2 ^ 30) (hb : b < 2 ^ 30) : ∃ τ', f_X8_only (nI i) (nI a) (nI b) τ = some τ' ∧ MS τ0 τ' T (vL T (un lo i a) (un hi i (b + 1))) := by
  obtain ⟨τ', r1, r2⟩ := MS_only ho H h hi' ha hb
  refine ⟨τ', r1, MS_congr r2 (fun k hk y hy => ?_)⟩
  by_cases e : k = i
  · subst e
    rw [ur_eq]
    unfold lim vL un
    rw [if_pos rfl, if_pos rfl]
    by_cases c : a ≤ y ∧ y ≤ b
    · rw [if_pos c, if_pos ⟨c.1, by omega⟩]
    · rw [if_neg c, if_neg (fun q => c ⟨q.1, by omega⟩)]
  · rw [ur_ne e]
    unfold vL un
    rw [if_neg e, if_neg e]
theorem MS_all {τ0 τ : St} {T : Tl} (h : MS τ0 τ T (wgt T)) : MS τ0 τ T (vL T (fun _ => 0) (fun _ => tn T)) := MS_congr h (fun i _ y hy => by
  unfold vL
  rw [if_pos ⟨Nat.zero_le y, hy⟩])
theorem CL_two {T : Tl} {lo hi : Nat → Nat} {i k a b c d : Nat} (hik : i ≠ k) (h1 : i < tf T) (h2 : k < tf T) (h : ∀ j, j ≠ i → j ≠ k → lo j = 0 ∧ hi j = tn T) : CL T (un (un lo i a) k c) (un (un hi i b) k d) = CT T (fun g => okT T g ∧ (a ≤ g i ∧ g i < b) ∧ (c ≤ g k ∧ g k < d)) := CQ_congr (fun g hg => and_congr Iff.rfl ⟨fun q => ⟨by
    have := q i h1
    unfold un at this
    rw [if_neg hik, if_neg hik, if_pos rfl, if_pos rfl] at this
    exact this, by
    have := q k h2
    unfold un at this
    rw [if_pos rfl, if_pos rfl] at this
    exact this⟩, fun q j hj => by
    unfold un
    by_cases e : j = k
    · subst e
      rw [if_pos rfl, if_pos rfl]; exact q.2
    · rw [if_neg e, if_neg e]
      by_cases e2 : j = i
      · subst e2
        rw [if_pos rfl, if_pos rfl]; exact q.1
      · rw [if_neg e2, if_neg e2, (h j e2 e).1, (h j e2 e).2]
        exact ⟨Nat.zero_le _, hg j hj⟩⟩)
theorem free_two {n : Nat} {lo hi : Nat → Nat} {i k a b c d : Nat} (h : ∀ j, j ≠ i → j ≠ k → lo j = 0 ∧ hi j = n) : ∀ j, j ≠ i → j ≠ k → un (un lo i a) k c j = 0 ∧ un (un hi i b) k d j = n := fun j j1 j2 => by
  unfold un
  rw [if_neg j2, if_neg j1, if_neg j2, if_neg j1]
  exact h j j1 j2
/-! order -/
theorem tog_loop {T : Tl} {τ0 : St} (ho : Okt T) (H : TelM τ0.1 T) {i k : Nat} (hi : i < tf T) (hk : k < tf T) (hik : i ≠ k) : ∀ (fu y : Nat) (τ : St) (lo hh : Nat → Nat), MS τ0 τ T (vL T lo hh) → (∀ j, j ≠ i → j ≠ k → lo j = 0 ∧ hh j = tn T) → y ≤ tn T → tn T - y < fu → ∃ τ' v', f_X8_together_6 fu (nI i) (nI k) 1 40 (lN (sm (fun y => CT T (fun g => okT T g ∧ g i = y ∧ y < g k)) y)) (nI y) τ = some (lN (sm (fun y => CT T (fun g => okT T g ∧ g i = y ∧ y < g k)) (tn T)), τ') ∧ MS τ0 τ' T v' := by
  have hn := ho.1.2
  intro fu
  induction fu with
  | zero => intro y τ lo hh _ _ _ h; omega
  | succ fu ih =>
    intro y τ lo hh hM hfr hy hfu
    rw [f_X8_together_6, (hM.2.1.tel H).1.1]
    rcases Nat.lt_or_ge y (tn T) with q | q
    · obtain ⟨τ1, a1, a2⟩ := MS_onlyL ho H hM hi (a := y) (b := y) (by omega) (by omega)
      obtain ⟨τ2, b1, b2⟩ := MS_onlyL ho H a2 hk (a := y + 1) (b := y + 40) (by omega) (by omega)
      obtain ⟨τ3, c1, c2⟩ := MS_cnt ho H b2
      rw [if_neg (nI_ge q (by omega)), a1, bS, nI_1, if_neg (show ¬ nI (y + 1) ≤ 0 from nI_nle (by omega) (by omega))]
      unfold f_X8_together_41
      have e : CT T (fun g => okT T g ∧ (y ≤ g i ∧ g i < y + 1) ∧ (y + 1 ≤ g k ∧ g k < y + 40 + 1)) = CT T (fun g => okT T g ∧ g i = y ∧ y < g k) := CQ_congr (fun g hg => and_congr Iff.rfl ⟨fun x => ⟨by omega, by omega⟩, fun x => ⟨by omega, by have := hg k hk; omega⟩⟩)
      rw [show nI y + (40 : Int32) = nI (y + 40) from nI_add y 40, b1, bS, c1, bS, nI_1, lN_add, CL_two hik hi hk hfr, e]
      exact ih (y + 1) τ3 _ _ c2 (free_two hfr) (by omega) (by omega)
    · obtain rfl : y = tn T := by omega
      rw [if_pos (by rw [I_le]; omega)]
      exact ⟨τ, _, rfl, hM⟩
theorem tog_sum {T : Tl} {i k : Nat} (hi : i < tf T) : sm (fun y => CT T (fun g => okT T g ∧ g i = y ∧ y < g k)) (tn T) = CT T (fun g => okT T g ∧ g i < g k) := CQ_sum (fun g hg => ⟨fun y _ h => ⟨h.1, by omega⟩, fun h => ⟨g i, hg i hi, h.1, rfl, h.2⟩, fun y z _ _ h1 h2 => by omega⟩)
theorem Okw_how {T : Tl} (ho : Okt T) {i k : Nat} (hi : i < tf T) (hk : k < tf T) (hik : i ≠ k) : Okw (gHow (G0 T) (setH (th T) i k 1)) := by
  obtain ⟨o1, o2, o3, o4, o5, o6, o7⟩ := Okw_G0 ho
  refine ⟨o1, o2, o3, o4, o5, fun a b => ?_, fun a b => ?_⟩
  · show setH (th T) i k 1 a b ≤ 2
    unfold setH
    by_cases c : a = i ∧ b = k
    · rw [if_pos c]; decide
    · rw [if_neg c]; exact o6 a b
  · show setH (th T) i k 1 a b ≠ 0 → allm T a = true ∧ allm T b = true ∧ a ≠ b
    unfold setH
    by_cases c : a = i ∧ b = k
    · obtain ⟨rfl, rfl⟩ := c
      exact fun _ => ⟨decide_eq_true hi, decide_eq_true hk, hik⟩
    · rw [if_neg c]; exact o7 a b
theorem Cw_how {T : Tl} (ho : Okt T) {i k : Nat} : Cw (gHow (G0 T) (setH (th T) i k 1)) = CT T (fun g => okT T g ∧ g i < g k) := by
  show CC (tn T) (tf T) (allm T) (fun a b => setH (th T) i k 1 a b = 1) (fun a b => setH (th T) i k 1 a b = 2) (we (G0 T)) = _
  rw [CC_res (w := wgt T) (fun _ _ => True) (fun j hj _ y hy => by
    show (if 0 ≤ y ∧ y < tn T then (if j < tf T then wgt T j y else 0) else 0) = _
    rw [if_pos ⟨Nat.zero_le y, hy⟩, if_pos hj, ind_t trivial, Nat.one_mul])]
  refine CQ_congr (fun g hg => ?_)
  rw [okT_iff ho]
  show ((∀ a b, (setH (th T) i k 1 a b = 1 → g a < g b) ∧ (setH (th T) i k 1 a b = 2 → g a ≤ g b)) ∧ ∀ j, j < tf T → allm T j = true → True) ↔ _
  refine ⟨fun q => ⟨fun a b => ?_, (q.1 i k).1 (by unfold setH; rw [if_pos ⟨rfl, rfl⟩])⟩, fun q => ⟨fun a b => ?_, fun _ _ _ => trivial⟩⟩
  · have h := q.1 a b
    have h2 := (q.1 i k).1 (by unfold setH; rw [if_pos ⟨rfl, rfl⟩])
    unfold setH at h
    by_cases c : a = i ∧ b = k
    · obtain ⟨rfl, rfl⟩ := c
      exact ⟨fun _ => h2, fun _ => Nat.le_of_lt h2⟩
    · rw [if_neg c] at h; exact h
  · unfold setH
    by_cases c : a = i ∧ b = k
    · rw [if_pos c]
      obtain ⟨rfl, rfl⟩ := c
      exact ⟨fun _ => q.2, fun h => absurd h (by decide)⟩
    · rw [if_neg c]; exact q.1 a b
theorem CS_put {σ0 σ : St} {T : Tl} (ho : Okt T) (h : CS σ0 σ (G0 T)) {i k : Nat} (hi : i < tf T) (hk : k < tf T) (hik : i ≠ k) : ∃ σ', f_X2_put 67 (nI i) (nI k) 1 σ = some σ' ∧ CS σ0 σ' (gHow (G0 T) (setH (th T) i k 1)) := by
  have hf := ho.2.1
  obtain ⟨σ', r1, r2, r3, r4⟩ := put_eq (k0 := 67) (v := 1) h.1.2.2.2 (show i < 7 by omega) (show k < 7 by omega) (by decide)
  exact ⟨σ', r1, ⟨by rw [r4 63 (by omega)]; exact h.1.1, by rw [r3]; exact h.1.2.1, by rw [r4 65 (by omega), r4 66 (by omega)]; exact h.1.2.2.1, r2⟩, Okw_how ho hi hk hik, h.2.2.tr ⟨fun c hc => r4 c (by omega), fun c _ => by rw [r3]⟩⟩
theorem ag_order : Ag_order Rel := by
  rintro a0 a1 σ τ ⟨T, H⟩
  unfold f_X7_order f_X8_order
  rcases isFind_c (x := a0) H.1.2.1 H.2.1.1.2 H.2.2.1.1.2 with ⟨e1, e2⟩ | ⟨i, hi, rfl, e1, e2⟩
  · rw [e1, e2]
    exact ⟨-2, σ, τ, rfl, rfl, T, H⟩
  · rw [e1, e2, bS, bS, if_neg one_ne, if_neg one_ne]
    rcases isFind_c (x := a1) H.1.2.1 H.2.1.1.2 H.2.2.1.1.2 with ⟨y1, y2⟩ | ⟨k, hk, rfl, y1, y2⟩
    · rw [y1, y2]
      exact ⟨-2, σ, τ, rfl, rfl, T, H⟩
    · rw [y1, y2, bS, bS, if_neg one_ne, if_neg one_ne]
      have hf := H.1.2.1
      refine share_core H (fun w s => if nI i = nI k then (f_X7_fraction (0 : Int64) w s).bind (fun q11 => some (q11.1, q11.2)) else (f_X2_put 67 (nI i) (nI k) (1 : Int32) s).bind (fun q8 => (f_X0_countAll q8).bind (fun q9 => (f_X7_fraction q9.1 w q9.2).bind (fun q10 => some (q10.1, q10.2))))) (fun s => if nI i = nI k then (f_X8_fraction (0 : Int64) (s.2 0 33) s).bind (fun q10 => some (q10.1, q10.2)) else (f_X8_together (nI i) (nI k) (1 : Int32) (40 : Int32) s).bind (fun q8 => (f_X8_fraction q8.1 (q8.2.2 0 33) q8.2).bind (fun q9 => some (q9.1, q9.2)))) (fun h0 hle σ1 τ1 hc hm => ?_)
      by_cases e : i = k
      · subst e
        obtain ⟨r, σ4, τ4, d1, d2, d3⟩ := frac_fin H hc.2.2 hm.2.1 (a := 0) (b := TT T) (by decide) h0 (by omega)
        rw [if_pos rfl, if_pos rfl, hm.2.2, show f_X7_fraction (0 : Int64) (lN (TT T)) σ1 = _ from d1, show f_X8_fraction (0 : Int64) (lN (TT T)) τ1 = _ from d2]
        exact ⟨r, σ4, τ4, rfl, rfl, d3⟩
      · have ne : ¬ nI i = nI k := fun q => e (nI_inj (by omega) (by omega) q)
        obtain ⟨σ2, b1, b2⟩ := CS_put H.1 hc hi hk e
        obtain ⟨σ3, b3, b4⟩ := CS_count b2
        rw [Cw_how H.1] at b3
        obtain ⟨τ2, v2, c1, c2⟩ := tog_loop H.1 H.2.2.1 hi hk e FU 0 τ1 _ _ (MS_all hm) (fun _ _ _ => ⟨rfl, rfl⟩) (Nat.zero_le _) (FU_big (by have := H.1.1.2; omega))
        rw [tog_sum hi] at c1
        have hle2 : CT T (fun g => okT T g ∧ g i < g k) ≤ TT T := CT_le
        obtain ⟨r, σ4, τ4, d1, d2, d3⟩ := frac_fin H b4.2.2 c2.2.1 (a := CT T (fun g => okT T g ∧ g i < g k)) (b := TT T) (by omega) h0 (by omega)
        unfold f_X8_together
        rw [if_neg ne, if_neg ne, b1, bS, b3, bS, d1, bS, show f_X8_together_6 FU (nI i) (nI k) 1 40 0 0 τ1 = _ from c1, bS, c2.2.2, d2]
        exact ⟨r, σ4, τ4, rfl, rfl, d3⟩
