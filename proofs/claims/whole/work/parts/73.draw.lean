/-! draw -/
theorem gs_single {n : Nat} {d : Nat → Nat} : ∀ {k : Nat} {F : (Nat → Nat) → Nat}, (∀ j, j < k → d j < n) → (∀ g, (∃ j, j < k ∧ g j ≠ d j) → F g = 0) → gs n k F = F (fun j => if j < k then d j else 0)
  | 0, F, _, _ => by
    show F (fun _ => 0) = F _
    congr 1
  | k + 1, F, hd, hF => by
    unfold gs
    rw [sm_one (hd k (by omega)) (fun y _ hy => gs_zero (fun g _ => hF (un g k y) ⟨k, by omega, by unfold un; rw [if_pos rfl]; exact hy⟩)), gs_single (k := k) (F := fun g => F (un g k (d k))) (fun j hj => hd j (by omega)) (fun g hg => by
      obtain ⟨j, j1, j2⟩ := hg
      refine hF (un g k (d k)) ⟨j, by omega, ?_⟩
      unfold un
      rw [if_neg (by omega)]
      exact j2)]
    congr 1
    funext j
    show (if j = k then d k else if j < k then d j else 0) = (if j < k + 1 then d j else 0)
    by_cases e : j = k
    · subst e; rw [if_pos rfl, if_pos (by omega)]
    · rw [if_neg e]
      by_cases c : j < k
      · rw [if_pos c, if_pos (by omega)]
      · rw [if_neg c, if_neg (by omega)]
theorem CL_single {T : Tl} {d : Nat → Nat} (hd : ∀ j, j < tf T → d j < tn T) (h : CL T (wl d (tf T)) (wu (tn T) d (tf T)) ≠ 0) : CL T (wl d (tf T)) (wu (tn T) d (tf T)) = pr (fun j => wgt T j (d j)) (tf T) := by
  have e : CL T (wl d (tf T)) (wu (tn T) d (tf T)) = pr (fun i => coef (allm T) (wgt T) i (if i < tf T then d i else 0)) (tf T) * ind (okT T (fun j => if j < tf T then d j else 0) ∧ ∀ i, i < tf T → wl d (tf T) i ≤ (if i < tf T then d i else 0) ∧ (if i < tf T then d i else 0) < wu (tn T) d (tf T) i) := by
    unfold CL CT CQ
    refine gs_single (F := fun g => pr (fun i => coef (allm T) (wgt T) i (g i)) (tf T) * ind (okT T g ∧ ∀ i, i < tf T → wl d (tf T) i ≤ g i ∧ g i < wu (tn T) d (tf T) i)) hd (fun g hg => ?_)
    obtain ⟨j, j1, j2⟩ := hg
    have z : ¬ (okT T g ∧ ∀ i, i < tf T → wl d (tf T) i ≤ g i ∧ g i < wu (tn T) d (tf T) i) := fun q => by
      have := q.2 j j1
      unfold wl wu at this
      rw [if_pos j1, if_pos j1] at this
      omega
    show _ * ind (okT T g ∧ ∀ i, i < tf T → wl d (tf T) i ≤ g i ∧ g i < wu (tn T) d (tf T) i) = 0
    rw [ind_f z, Nat.mul_zero]
  rw [e] at h ⊢
  by_cases c : okT T (fun j => if j < tf T then d j else 0) ∧ ∀ i, i < tf T → wl d (tf T) i ≤ (if i < tf T then d i else 0) ∧ (if i < tf T then d i else 0) < wu (tn T) d (tf T) i
  · rw [ind_t c, Nat.mul_one]
    refine pr_congr (fun i hi => ?_)
    unfold coef
    rw [if_pos (show allm T i = true from decide_eq_true hi), if_pos hi]
  · rw [ind_f c, Nat.mul_zero] at h
    exact absurd rfl h
/-- by the year of find i, those below it settled -/
noncomputable def Ay (T : Tl) (d : Nat → Nat) (i y : Nat) : Nat := CL T (un (wl d i) i y) (un (wu (tn T) d i) i (y + 1))
theorem Ay_iff {T : Tl} {d : Nat → Nat} {i y : Nat} (hi : i < tf T) (hy : y < tn T) : Ay T d i y = CT T (fun g => okT T g ∧ (∀ j, j < tf T → wl d i j ≤ g j ∧ g j < wu (tn T) d i j) ∧ g i = y) := CQ_congr (fun g hg => and_congr Iff.rfl ⟨fun q => by
    have qi := q i hi
    unfold un at qi
    rw [if_pos rfl, if_pos rfl] at qi
    refine ⟨fun j hj => ?_, by omega⟩
    by_cases e : j = i
    · subst e
      unfold wl wu
      rw [if_neg (Nat.lt_irrefl j), if_neg (Nat.lt_irrefl j)]
      exact ⟨Nat.zero_le _, hg j hj⟩
    · have qj := q j hj
      unfold un at qj
      rw [if_neg e, if_neg e] at qj
      exact qj, fun q j hj => by
    unfold un
    by_cases e : j = i
    · subst e
      rw [if_pos rfl, if_pos rfl]
      have := q.2
      omega
    · rw [if_neg e, if_neg e]; exact q.1 j hj⟩)
theorem Ay_sum {T : Tl} {d : Nat → Nat} {i : Nat} (hi : i < tf T) : sm (Ay T d i) (tn T) = CL T (wl d i) (wu (tn T) d i) := by
  rw [sm_congr (fun y hy => Ay_iff hi hy)]
  exact CQ_sum (fun g hg => ⟨fun y _ h => ⟨h.1, h.2.1⟩, fun h => ⟨g i, hg i hi, h.1, h.2, rfl⟩, fun y z _ _ h1 h2 => by have := h1.2.2; have := h2.2.2; omega⟩)
theorem Ay_le {T : Tl} {d : Nat → Nat} {i y : Nat} : Ay T d i y ≤ TT T := CL_le
theorem sm_find {A : Nat → Nat} {L : Nat} : ∀ {n : Nat}, L < sm A n → ∃ y, y < n ∧ sm A y ≤ L ∧ L < sm A (y + 1)
  | 0, h => by
    have : sm A 0 = 0 := rfl
    omega
  | n + 1, h => by
    by_cases c : L < sm A n
    · obtain ⟨y, y1, y2, y3⟩ := sm_find c
      exact ⟨y, by omega, y2, y3⟩
    · exact ⟨n, by omega, by omega, h⟩
theorem set_loop {n : Nat} (hn : n ≤ 40) {A : Nat → Nat} {σ : St} {L i y : Nat} (c0 : σ.1 1 0 = nI n) (hA : ∀ z, z < n → σ.2 80 z = lN (A z)) (hb : ∀ z, A z ≤ 4000000000000000) (hL : L ≤ 4000000000000000) (hy : y < n) (h1 : sm A y ≤ L) (h2 : L < sm A (y + 1)) (kk : Int64 → Int32 → Int32 → St → Option (Int64 × St)) : ∀ (fu z : Nat), z ≤ y → y - z < fu → f_X7_settleYears_32 kk fu (lN (L - sm A z)) (nI i) (nI z) σ = kk (lN (L - sm A y)) (nI i) (nI y) σ := by
  intro fu
  induction fu with
  | zero => intro z _ h; omega
  | succ fu ih =>
    intro z hz hfu
    have cz := ix_nI (show z < 40 by omega) (by decide)
    have e0 : nI n - 1 = nI (n - 1) := by
      obtain ⟨m, rfl⟩ : ∃ m, n = m + 1 := ⟨n - 1, by omega⟩
      rw [nI_pred]
      rfl
    have s1 : sm A (z + 1) = sm A z + A z := rfl
    have s2 : sm A (y + 1) = sm A y + A y := rfl
    have hbz := hb z
    rw [f_X7_settleYears_32, c0, e0]
    rcases Nat.lt_or_ge z y with q | q
    · have m1 := sm_mono (F := A) (show z + 1 ≤ y by omega)
      rw [if_neg (nI_ge (show z < n - 1 by omega) (by omega)), cI_t cz, nI_clamp (show z < 2 ^ 31 by omega), hA z (by omega), if_neg (fun c => by have := (pk_lLT (by omega) (by omega)).mp c; omega), cI_t cz, ap, lN_sub (by omega), nI_1, show L - sm A z - A z = L - sm A (z + 1) by omega]
      exact ih (z + 1) (by omega) (by omega)
    · obtain rfl : z = y := by omega
      by_cases c : n - 1 ≤ z
      · rw [if_pos (nI_le c (by omega))]
      · rw [if_neg (nI_ge (show z < n - 1 by omega) (by omega)), cI_t cz, nI_clamp (show z < 2 ^ 31 by omega), hA z (by omega), if_pos ((pk_lLT (by omega) (by omega)).mpr (by omega))]
theorem drw_loop {T : Tl} {τ0 : St} (ho : Okt T) (H : TelM τ0.1 T) {d : Nat → Nat} {L i y : Nat} (hi : i < tf T) (hL : L ≤ 4000000000000000) (hT : TT T ≤ 4000000000000000) (hy : y < tn T) (h1 : sm (Ay T d i) y ≤ L) (h2 : L < sm (Ay T d i) (y + 1)) (x6 : Int64) (kk : Int64 → Int64 → Int32 → Int32 → St → Option (Int64 × St)) : ∀ (fu z : Nat) (τ : St), MS τ0 τ T (vL T (un (wl d i) i z) (un (wu (tn T) d i) i (z + 1))) → z ≤ y → y - z < fu → ∃ τ', f_X8_draw_87 kk fu (lN (L - sm (Ay T d i) z)) x6 (nI i) (nI z) (lN (Ay T d i z)) τ = kk (lN (L - sm (Ay T d i) y)) x6 (nI i) (nI y) τ' ∧ MS τ0 τ' T (vL T (un (wl d i) i y) (un (wu (tn T) d i) i (y + 1))) := by
  have hn := ho.1.2
  intro fu
  induction fu with
  | zero => intro z τ _ _ h; omega
  | succ fu ih =>
    intro z τ hM hz hfu
    have s1 : sm (Ay T d i) (z + 1) = sm (Ay T d i) z + Ay T d i z := rfl
    have s2 : sm (Ay T d i) (y + 1) = sm (Ay T d i) y + Ay T d i y := rfl
    have hbz := Ay_le (T := T) (d := d) (i := i) (y := z)
    rw [f_X8_draw_87]
    rcases Nat.lt_or_ge z y with q | q
    · have m1 := sm_mono (F := Ay T d i) (show z + 1 ≤ y by omega)
      obtain ⟨τ1, a1, a2⟩ := MS_onlyL ho H hM hi (a := z + 1) (b := z + 1) (by omega) (by omega)
      rw [un_un, un_un] at a2
      obtain ⟨τ2, b1, b2⟩ := MS_cnt ho H a2
      rw [if_neg (fun c => by have := (pk_lLT (by omega) (by omega)).mp c; omega), nI_1, a1, bS, b1, bS, lN_sub (by omega), show L - sm (Ay T d i) z - Ay T d i z = L - sm (Ay T d i) (z + 1) by omega]
      exact ih (z + 1) τ2 b2 (by omega) (by omega)
    · obtain rfl : z = y := by omega
      rw [if_pos ((pk_lLT (by omega) (by omega)).mpr (by omega))]
      exact ⟨τ, rfl, hM⟩
/-! the states behind: what is drawn so far -/
def bsC (σ : St) (d : Nat → Nat) (i : Nat) : St := (fun a b => if a = 82 ∧ b < i then nI (d b) else σ.1 a b, σ.2)
def bsM (τ : St) (d : Nat → Nat) (i : Nat) : St := (fun a b => if a = 9 ∧ b < i then nI (d b) else τ.1 a b, τ.2)
theorem bsC_r {σ : St} {d : Nat → Nat} {i a : Nat} (h : a ≠ 82) : (bsC σ d i).1 a = σ.1 a := by
  funext b
  unfold bsC
  exact if_neg (fun q => h q.1)
theorem bsM_r {τ : St} {d : Nat → Nat} {i a : Nat} (h : a ≠ 9) : (bsM τ d i).1 a = τ.1 a := by
  funext b
  unfold bsM
  exact if_neg (fun q => h q.1)
theorem bsC_s {σ : St} {d : Nat → Nat} {i y : Nat} : up1 (bsC σ d i) 82 i (nI y) = bsC σ (un d i y) (i + 1) := by
  refine St_ext (fun a b => ?_) (fun _ _ => rfl)
  unfold up1 bsC un
  show (if a = 82 ∧ b = i then nI y else if a = 82 ∧ b < i then nI (d b) else σ.1 a b) = (if a = 82 ∧ b < i + 1 then nI (if b = i then y else d b) else σ.1 a b)
  by_cases c : a = 82
  · by_cases e : b = i
    · rw [if_pos ⟨c, e⟩, if_pos ⟨c, by omega⟩, if_pos e]
    · rw [if_neg (fun q => e q.2), if_neg e]
      by_cases l : b < i
      · rw [if_pos ⟨c, l⟩, if_pos ⟨c, by omega⟩]
      · rw [if_neg (fun q => l q.2), if_neg (fun q => l (by omega))]
  · rw [if_neg (fun q => c q.1), if_neg (fun q => c q.1), if_neg (fun q => c q.1)]
theorem bsM_s {τ : St} {d : Nat → Nat} {i y : Nat} : up1 (bsM τ d i) 9 i (nI y) = bsM τ (un d i y) (i + 1) := by
  refine St_ext (fun a b => ?_) (fun _ _ => rfl)
  unfold up1 bsM un
  show (if a = 9 ∧ b = i then nI y else if a = 9 ∧ b < i then nI (d b) else τ.1 a b) = (if a = 9 ∧ b < i + 1 then nI (if b = i then y else d b) else τ.1 a b)
  by_cases c : a = 9
  · by_cases e : b = i
    · rw [if_pos ⟨c, e⟩, if_pos ⟨c, by omega⟩, if_pos e]
    · rw [if_neg (fun q => e q.2), if_neg e]
      by_cases l : b < i
      · rw [if_pos ⟨c, l⟩, if_pos ⟨c, by omega⟩]
      · rw [if_neg (fun q => l q.2), if_neg (fun q => l (by omega))]
  · rw [if_neg (fun q => c q.1), if_neg (fun q => c q.1), if_neg (fun q => c q.1)]
theorem CS_up {σ0 σ : St} {G : Wg} (h : CS σ0 σ G) {a b : Nat} (v : Int32) (ha : a = 82 ∨ a = 0) : CS (up1 σ0 a b v) (up1 σ a b v) G := by
  refine ⟨WgC_fr h.1 (fun c c1 c2 => up1_r (by omega)) rfl, h.2.1, fun c hc => ?_, fun c hc => h.2.2.2 c hc⟩
  funext z
  show (if c = a ∧ z = b then v else σ.1 c z) = (if c = a ∧ z = b then v else σ0.1 c z)
  rw [h.2.2.1 c hc]
theorem MS_up9 {τ0 τ : St} {T : Tl} {v : Wt} (h : MS τ0 τ T v) {b : Nat} (x : Int32) : MS (up1 τ0 9 b x) (up1 τ 9 b x) T v := by
  refine ⟨MgC_fr h.1 (up1_ne (by omega)) (up1_r (by omega)) (up1_r (by omega)) rfl, ⟨fun c c1 c2 => ?_, fun j hj => ?_, h.2.1.2.2⟩, h.2.2⟩
  · funext z
    show (if c = 9 ∧ z = b then x else τ.1 c z) = (if c = 9 ∧ z = b then x else τ0.1 c z)
    rw [h.2.1.1 c c1 c2]
  · rw [up1_ne (by omega), up1_ne (by omega)]; exact h.2.1.2.1 j hj
theorem wl_un {d : Nat → Nat} {i y : Nat} : un (wl d i) i y = wl (un d i y) (i + 1) := by
  funext j
  show (if j = i then y else if j < i then d j else 0) = (if j < i + 1 then (if j = i then y else d j) else 0)
  by_cases e : j = i
  · subst e; rw [if_pos rfl, if_pos (by omega), if_pos rfl]
  · rw [if_neg e, if_neg e]
    by_cases c : j < i
    · rw [if_pos c, if_pos (by omega)]
    · rw [if_neg c, if_neg (by omega)]
theorem wu_un {n : Nat} {d : Nat → Nat} {i y : Nat} : un (wu n d i) i (y + 1) = wu n (un d i y) (i + 1) := by
  funext j
  show (if j = i then y + 1 else if j < i then d j + 1 else n) = (if j < i + 1 then (if j = i then y else d j) + 1 else n)
  by_cases e : j = i
  · subst e; rw [if_pos rfl, if_pos (by omega), if_pos rfl]
  · rw [if_neg e, if_neg e]
    by_cases c : j < i
    · rw [if_pos c, if_pos (by omega)]
    · rw [if_neg c, if_neg (by omega)]
theorem pr_un {T : Tl} {d : Nat → Nat} {i y : Nat} : pr (fun j => wgt T j (d j)) i * wgt T i y = pr (fun j => wgt T j (un d i y j)) (i + 1) := by
  show _ = pr (fun j => wgt T j (un d i y j)) i * wgt T i (un d i y i)
  have e1 : un d i y i = y := by unfold un; rw [if_pos rfl]
  rw [e1, pr_congr (f := fun j => wgt T j (un d i y j)) (g := fun j => wgt T j (d j)) (fun j hj => by
    show wgt T j (un d i y j) = wgt T j (d j)
    unfold un
    rw [if_neg (by omega)])]
theorem draw_loop {T : Tl} {σ0 τ0 : St} (ho : Okt T) (hT : TT T ≤ 4000000000000000) (hc : TelC 1 σ0.1 T) (hm : TelM τ0.1 T) (kk : Int64 → St → Option (Int64 × St)) : ∀ (fu i : Nat) (σ τ : St) (L : Nat) (c : Int64) (d : Nat → Nat), CS (bsC σ0 d i) σ (Glm T (wl d i) (wu (tn T) d i)) → MS (bsM τ0 d i) τ T (vL T (wl d i) (wu (tn T) d i)) → (∀ j, j < i → d j < tn T) → L < CL T (wl d i) (wu (tn T) d i) → (c = lN (CL T (wl d i) (wu (tn T) d i)) ∨ (i = 0 ∧ c = 1)) → i ≤ tf T → tf T - i < fu → ∃ r σ' τ' d' G' v', f_X7_settleYears_8 fu (lN L) c (nI i) σ = some (r, σ') ∧ f_X8_draw_61 kk fu (lN L) (lN (pr (fun j => wgt T j (d j)) i)) (nI i) τ = kk r τ' ∧ CS (bsC σ0 d' (tf T)) σ' G' ∧ MS (bsM τ0 d' (tf T)) τ' T v' := by
  have hn := ho.1
  have hf := ho.2.1
  intro fu
  induction fu with
  | zero => intro i σ τ L c d _ _ _ _ _ _ h; omega
  | succ fu ih =>
    intro i σ τ L c d hC hM hd hL hcc hi hfu
    have tc : TelC 1 (bsC σ0 d i).1 T := TelC_congr hf (fun a a1 a2 => bsC_r (by omega)) hc
    have tM : TelM (bsM τ0 d i).1 T := TelM_congr (by rw [bsM_r (by omega)]) (by rw [bsM_r (by omega)]) (fun a a1 a2 => bsM_r (by omega)) hm
    rw [f_X7_settleYears_8, f_X8_draw_61, (hC.2.2.tel hf (by decide) tc).1.2, (hM.2.1.tel tM).1.2]
    rcases Nat.lt_or_ge i (tf T) with q | q
    · rw [if_neg (nI_ge q (by omega)), if_neg (nI_ge q (by omega))]
      have i7 : i < 7 := by omega
      have hsum := Ay_sum (T := T) (d := d) q
      obtain ⟨y, y1, y2, y3⟩ := sm_find (A := Ay T d i) (L := L) (n := tn T) (by rw [hsum]; exact hL)
      have hLT : L ≤ 4000000000000000 := by have := CL_le (T := T) (lo := wl d i) (hi := wu (tn T) d i); omega
      obtain ⟨σ1, a1, a2, a3⟩ := CS_each hC (i := i) (decide_eq_true q)
      have hA : ∀ z, z < tn T → σ1.2 80 z = lN (Ay T d i z) := fun z hz => by rw [a2 z hz, Cat_Glm ho q, Ay_iff q hz]
      obtain ⟨τ1, b1, b2⟩ := MS_onlyL ho tM hM q (a := 0) (b := 0) (by omega) (by omega)
      obtain ⟨τ2, c1, c2⟩ := MS_cnt ho tM b2
      obtain ⟨τ3, d1, d2⟩ := drw_loop ho tM q hLT hT y1 y2 y3 (lN (pr (fun j => wgt T j (d j)) i)) (f_X8_draw_124 (f_X8_draw_61 kk fu)) FU 0 τ2 c2 (Nat.zero_le _) (FU_big (by omega))
      have e1 := set_loop hn.2 (i := i) (a3.2.2.tel hf (by decide) tc).1.1 hA (fun z => Nat.le_trans Ay_le hT) hLT y1 y2 y3 (f_X7_settleYears_80 (f_X7_settleYears_8 fu)) FU 0 (Nat.zero_le _) (FU_big (by omega))
      rw [show sm (Ay T d i) 0 = 0 from rfl, Nat.sub_zero] at e1 d1
      rw [a1, bS, show f_X7_settleYears_32 (f_X7_settleYears_80 (f_X7_settleYears_8 fu)) FU (lN L) (nI i) 0 σ1 = _ from e1, show f_X8_only (nI i) 0 0 τ = _ from b1, bS, c1, bS, show f_X8_draw_87 (f_X8_draw_124 (f_X8_draw_61 kk fu)) FU (lN L) (lN (pr (fun j => wgt T j (d j)) i)) (nI i) 0 (lN (CL T (un (wl d i) i 0) (un (wu (tn T) d i) i (0 + 1)))) τ2 = _ from d1]
      have cs1 := CS_up a3 (b := i) (nI y) (Or.inl rfl)
      have ms1 := MS_up9 d2 (b := i) (nI y)
      rw [bsC_s] at cs1
      rw [bsM_s, wl_un, wu_un] at ms1
      obtain ⟨σ2, g1, g2⟩ := CS_limL cs1 (i := i) (a := y) (b := y + 1) (by omega) (by omega) (by omega) rfl (nI_pred y).symm
      rw [wl_un, wu_un] at g2
      have tM2 : TelM (up1 τ3 9 i (nI y)).1 T := TelM_congr (up1_ne (by omega)) (up1_ne (by omega)) (fun a a1 a2 => up1_r (by omega)) (d2.2.1.tel tM)
      unfold f_X7_settleYears_80 f_X8_draw_124
      rw [cI_t (ix_nI (show y < 40 by omega) (by decide)), ap, nI_clamp (show y < 2 ^ 31 by omega), hA y y1, cI_t (ix_nI i7 (by decide)), ap, nI_clamp (show i < 2 ^ 31 by omega), g1, bS, cI_t (ix_nI i7 (by decide)), ap, weightOf_eq ho tM2 q (by omega), bS, lN_mul, nI_1, pr_un (y := y)]
      have eA : Ay T d i y = CL T (wl (un d i y) (i + 1)) (wu (tn T) (un d i y) (i + 1)) := by
        unfold Ay
        rw [wl_un, wu_un]
      have s2 : sm (Ay T d i) (y + 1) = sm (Ay T d i) y + Ay T d i y := rfl
      refine ih (i + 1) σ2 _ (L - sm (Ay T d i) y) _ (un d i y) g2 ms1 (fun j hj => ?_) (by rw [← eA]; omega) (Or.inl (by rw [eA])) (by omega) (by omega)
      unfold un
      by_cases e : j = i
      · rw [if_pos e]; exact y1
      · rw [if_neg e]; exact hd j (by omega)
    · obtain rfl : i = tf T := by omega
      rw [if_pos (by rw [I_le]; omega), if_pos (by rw [I_le]; omega)]
      have ec : c = lN (pr (fun j => wgt T j (d j)) (tf T)) := by
        rcases hcc with e | ⟨e1, e2⟩
        · rw [e, CL_single hd (by omega)]
        · rw [e2, e1]; rfl
      rw [ec]
      exact ⟨_, σ, τ, d, _, _, rfl, rfl, hC, hM⟩
theorem RelT_drawn {T : Tl} {σ τ : St} (H : RelT T σ τ) (d : Nat → Nat) : RelT T (bsC (up1 σ 0 10 1) d (tf T)) (up1 (bsM τ d (tf T)) 0 10 1) := by
  obtain ⟨h1, h2, h3, h4, h5, h6, h7, h8, h9, h10⟩ := H
  have cr : ∀ a, a ≠ 82 → a ≠ 0 → (bsC (up1 σ 0 10 1) d (tf T)).1 a = σ.1 a := fun a a1 a2 => by rw [bsC_r a1, up1_r a2]
  have c0 : ∀ j, j ≠ 10 → (bsC (up1 σ 0 10 1) d (tf T)).1 0 j = σ.1 0 j := fun j hj => by rw [bsC_r (by omega), up1_ne (by omega)]
  have mr : ∀ a, a ≠ 9 → a ≠ 0 → (up1 (bsM τ d (tf T)) 0 10 1).1 a = τ.1 a := fun a a1 a2 => by rw [up1_r a2, bsM_r a1]
  have m0 : ∀ j, j ≠ 10 → (up1 (bsM τ d (tf T)) 0 10 1).1 0 j = τ.1 0 j := fun j hj => by rw [up1_ne (by omega), bsM_r (by omega)]
  refine ⟨h1, TelC_congr h1.2.1 (fun a a1 a2 => cr a (by omega) (by omega)) h2, TelM_congr (m0 0 (by omega)) (m0 3 (by omega)) (fun a a1 a2 => mr a (by omega) (by omega)) h3, KeptR_congr (c0 2 (by omega)) (m0 13 (by omega)) (fun a a1 a2 => cr a (by omega) (by omega)) (mr 10 (by omega) (by omega)) h4, SheetsR_congr (fun a a1 a2 => cr a (by omega) (by omega)) (mr _ (by omega) (by omega)) (mr _ (by omega) (by omega)) (mr _ (by omega) (by omega)) h5, TapeR_congr (by rw [cr 58 (by omega) (by omega)]) (cr _ (by omega) (by omega)) (m0 _ (by omega)) (mr _ (by omega) (by omega)) h6, WaitR_congr (c0 _ (by omega)) (cr _ (by omega) (by omega)) (m0 _ (by omega)) (mr _ (by omega) (by omega)) h7, Or.inr ⟨?_, up1_eq, fun i hi => ?_⟩, h9, by rw [c0 12 (by omega), m0 22 (by omega)]; exact h10⟩
  · rw [bsC_r (by omega), up1_eq]
  · rw [up1_r (by omega)]
    show (if 82 = 82 ∧ i < tf T then nI (d i) else _) = (if 9 = 9 ∧ i < tf T then nI (d i) else _)
    rw [if_pos ⟨rfl, hi⟩, if_pos ⟨rfl, hi⟩]
theorem SameN_10 {τ τ' : St} (h : SameN τ τ') : SameN (up1 τ 0 10 1) (up1 τ' 0 10 1) := by
  refine ⟨fun c c1 c2 => ?_, fun j hj => ?_, h.2.2⟩
  · rw [up1_r (by omega), up1_r (by omega)]; exact h.1 c c1 c2
  · by_cases e : j = 10
    · subst e; rw [up1_eq, up1_eq]
    · rw [up1_ne (by omega), up1_ne (by omega)]; exact h.2.1 j hj
theorem l_nat {x : Int64} (h : (0 : Int64) ≤ x) : ∃ n : Nat, n < 2 ^ 63 ∧ x = lN n := by
  have h0 : (0 : Int64).toInt = 0 := rfl
  have h1 : 0 ≤ x.toInt := by rw [Int64.le_iff_toInt_le, h0] at h; exact h
  have h2 := Int64.toInt_lt x
  refine ⟨x.toInt.toNat, by omega, ?_⟩
  apply Int64.toInt_inj.mp
  rw [pk_lT (by omega)]
  omega
theorem ag_draw : Ag_draw Rel := by
  rintro a0 σ τ ⟨T, H⟩
  unfold f_X7_draw f_X8_draw
  have hf := H.1.2.1
  have hn := H.1.1
  by_cases p : (0 : Int64) ≤ a0
  · rw [if_pos p, if_pos p]
    obtain ⟨L, hL, rfl⟩ := l_nat p
    obtain ⟨σ1, a1, a2⟩ := weigh_eq H.1 (by decide) H.2.1
    obtain ⟨τ1, b1, b2, b3⟩ := ask_eq H.1 H.2.2.1
    rw [a1, bS, b1, bS]
    unfold f_X8_draw_36
    have rel : Rel σ1 τ1 := ⟨T, RelT_same a2.2.2.C b2.M H⟩
    cases hb : bigT T with
    | true => exact ⟨-5, σ1, τ1, rfl, rfl, rel⟩
    | false =>
      have hle := TT_le H.1 hb
      have ms := b3 hb
      rw [if_neg (by decide : ¬ false = true), if_neg (by decide : ¬ false = true), if_pos (show (0 : Int64) ≤ lN (TT T) from (pk_lLE (a := 0) (by decide) (by omega)).mpr (Nat.zero_le _))]
      by_cases z : TT T = 0
      · rw [if_neg (fun c => by have := (pk_lLT hL (by omega)).mp c; omega), if_pos z]
        exact ⟨-4, σ1, τ1, rfl, rfl, rel⟩
      · rw [if_neg z, if_neg (show ¬ (0 : Int32) = -5 by decide), if_neg (show ¬ (0 : Int32) = -4 by decide), ms.2.2]
        by_cases c : L < TT T
        · rw [if_pos ((pk_lLT hL (by omega)).mpr c), if_pos ((pk_lLT hL (by omega)).mpr c), ap]
          have cs0 : CS (bsC (up1 σ 0 10 1) (fun _ => 0) 0) (up1 σ1 0 10 1) (Glm T (wl (fun _ => 0) 0) (wu (tn T) (fun _ => 0) 0)) := by
            rw [wl_0, wu_0]
            have e : bsC (up1 σ 0 10 1) (fun _ => 0) 0 = up1 σ 0 10 1 := St_ext (fun a b => if_neg (fun q => Nat.not_lt_zero _ q.2)) (fun _ _ => rfl)
            rw [e]
            exact CS_up a2 1 (Or.inr rfl)
          have ms0 : MS (bsM τ (fun _ => 0) 0) τ1 T (vL T (wl (fun _ => 0) 0) (wu (tn T) (fun _ => 0) 0)) := by
            rw [wl_0, wu_0]
            have e : bsM τ (fun _ => 0) 0 = τ := St_ext (fun a b => if_neg (fun q => Nat.not_lt_zero _ q.2)) (fun _ _ => rfl)
            rw [e]
            exact MS_all ms
          have hL0 : L < CL T (wl (fun _ => 0) 0) (wu (tn T) (fun _ => 0) 0) := by
            rw [wl_0, wu_0]
            have e : CL T (fun _ => 0) (fun _ => tn T) = TT T := by
              rw [← Cw_Glm H.1, show Cw (Glm T (fun _ => 0) (fun _ => tn T)) = Cw (G0 T) from rfl, Cw_G0 H.1]
            rw [e]; exact c
          obtain ⟨r, σ2, τ2, d, G2, v2, g1, g2, g3, g4⟩ := draw_loop H.1 hle (σ0 := up1 σ 0 10 1) (τ0 := τ) (TelC_congr hf (fun a a1 a2 => up1_r (by omega)) H.2.1) H.2.2.1 f_X8_draw_152 FU 0 (up1 σ1 0 10 1) τ1 L 1 (fun _ => 0) cs0 ms0 (fun j hj => absurd hj (Nat.not_lt_zero j)) hL0 (Or.inr ⟨rfl, rfl⟩) (Nat.zero_le _) (FU_big (by omega))
          unfold f_X7_settleYears
          rw [show f_X7_settleYears_8 FU (lN L) 1 0 (up1 σ1 0 10 1) = _ from g1, bS, show f_X8_draw_61 f_X8_draw_152 FU (lN L) 1 0 τ1 = _ from g2]
          unfold f_X8_draw_152
          rw [ap]
          exact ⟨r, σ2, _, rfl, rfl, T, RelT_same g3.2.2.C (SameN_10 g4.2.1).M (RelT_drawn H d)⟩
        · rw [if_neg (fun q => c ((pk_lLT hL (by omega)).mp q)), if_neg (fun q => c ((pk_lLT hL (by omega)).mp q)), if_neg (show ¬ (0 : Int32) = -5 by decide)]
          exact ⟨-4, σ1, τ1, rfl, rfl, rel⟩
  · rw [if_neg p, if_neg p]
    exact ⟨-2, σ, τ, rfl, rfl, T, H⟩
