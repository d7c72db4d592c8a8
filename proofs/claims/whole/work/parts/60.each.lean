/-! a year at a time, backwards; the counts by the year of a find -/
noncomputable abbrev Cat (G : Wg) (i y : Nat) : Nat := CC (wn G) (wf G) (wm G) (wA G) (wN G) (at1 (we G) i y)
theorem bw_loop {G : Wg} {rl : List Nat} {fa fb : Nat → Nat} {ol : List Nat} (ho : Okw G) (h2 : PrP G rl fa fb ol) {y : Nat} (hy : y < wn G) {i0 r0 : Nat} (hr0 : r0 < rl.length) (e0 : rl.getD r0 0 = i0) : ∀ (fu r : Nat) (σ : St), PrC σ G rl fa fb ol → BwI σ rl fa y (bF G rl y r) → Seen σ G rl fb (nI i0) y rl.length → r ≤ rl.length → rl.length - r < fu → ∃ σ', f_X0_goBackward_10 fu (nI y) (nI i0) (nI r) σ = some σ' ∧ σ'.1 = σ.1 ∧ (∀ c, (c ≠ 78 ∧ c ≠ 80) → σ'.2 c = σ.2 c) ∧ BwI σ' rl fa y (bF G rl y rl.length) ∧ (∀ z, z ≠ y → σ'.2 80 z = σ.2 80 z) ∧ (r ≤ r0 → we G i0 y ≠ 0 → σ'.2 80 y = lN (Cat G i0 y)) ∧ ((r0 < r ∨ we G i0 y = 0) → σ'.2 80 y = σ.2 80 y) := by
  have hf := ho.2.1
  have hn := ho.1.2
  have hl := RkP_len ho h2.1
  have nd : rl.Nodup := (List.pairwise_reverse.mp (topo_nodup h2.1.1)).imp (fun h => Ne.symm h)
  have i07 : i0 < 7 := by
    have := ho.2.2.1 _ (h2.1.2 _ (getD_mem hr0))
    rw [e0] at this
    omega
  intro fu
  induction fu with
  | zero => intro r σ _ _ _ _ h; omega
  | succ fu ih =>
    intro r σ h1 hI hSe hr hfu
    rw [f_X0_goBackward_10, h1.2.1.1]
    rcases Nat.lt_or_ge r rl.length with q | q
    · have hi := ho.2.2.1 _ (h2.1.2 _ (getD_mem q))
      have uq : rl.getD r 0 = i0 → r = r0 := fun e => by
        rw [← e0] at e
        exact (List.getD_inj q hr0 nd).mp e
      rw [if_neg (nI_ge q (by omega)), cI_t (ix_nI (show r < 7 by omega) (by decide)), nI_clamp (show r < 2 ^ 31 by omega), h1.2.1.2 r q, ap, weightAt_eq h1.1 ho hi hy, bS]
      have hlt := we_lt ho (rl.getD r 0) y
      by_cases z : we G (rl.getD r 0) y = 0
      · rw [z, if_pos (show lN 0 = (0 : Int64) from rfl)]
        unfold f_X0_goBackward_70
        rw [nI_1]
        obtain ⟨σ', p1, p2, p3, p4, p5, p6, p7⟩ := ih (r + 1) σ h1 (fun S s => by
          rw [hI S s, bF_step q]
          unfold plB
          rw [z, Nat.mul_zero, Nat.mul_zero, Nat.add_zero]) hSe (by omega) (by omega)
        refine ⟨σ', p1, p2, p3, p4, p5, fun a b => ?_, fun a => p7 (by omega)⟩
        by_cases e : r = r0
        · subst e; rw [e0] at z; exact absurd z b
        · exact p6 (by omega) b
      · rw [if_neg (fun e => z ((lN_0 (by omega)).mp e))]
        have step : ∀ σ1 : St, σ1.1 = σ.1 → (∀ c, c ≠ 80 → σ1.2 c = σ.2 c) → ∃ σ', f_X0_goBackward_63 (f_X0_goBackward_10 fu) (nI y) (nI i0) (nI r) (nI (rl.getD r 0)) σ1 = some σ' ∧ σ'.1 = σ.1 ∧ (∀ c, (c ≠ 78 ∧ c ≠ 80) → σ'.2 c = σ.2 c) ∧ BwI σ' rl fa y (bF G rl y rl.length) ∧ (∀ z, z ≠ y → σ'.2 80 z = σ1.2 80 z) ∧ (r + 1 ≤ r0 → we G i0 y ≠ 0 → σ'.2 80 y = lN (Cat G i0 y)) ∧ ((r0 < r + 1 ∨ we G i0 y = 0) → σ'.2 80 y = σ1.2 80 y) := fun σ1 a1 a2 => by
          have h1' : PrC σ1 G rl fa fb ol := PrC_fr h1 a1 (a2 64 (by omega))
          obtain ⟨σ2, r1, r2, r3, r4⟩ := bw_step ho h1' h2 hy q (fun S s => by rw [a2 78 (by omega)]; exact hI S s) z
          unfold f_X0_goBackward_63 f_X0_goBackward_70
          rw [r1, bS, nI_1]
          obtain ⟨σ3, p1, p2, p3, p4, p5, p6, p7⟩ := ih (r + 1) σ2 (PrC_fr h1' r2 (r3 64 (by omega))) r4 (fun p hp e w S s1 s2 => by rw [r3 79 (by omega), a2 79 (by omega)]; exact hSe p hp e w S s1 s2) (by omega) (by omega)
          exact ⟨σ3, p1, p2.trans (r2.trans a1), fun c hc => by rw [p3 c hc, r3 c hc.1, a2 c hc.2], p4, fun z hz => by rw [p5 z hz, r3 80 (by omega)], p6, fun h => by rw [p7 h, r3 80 (by omega)]⟩
        by_cases ex : rl.getD r 0 = i0
        · have er := uq ex
          subst er
          have mv := meet_val ho h1 h2 hy q hI z (fun S s1 s2 => by
            have rg := rev_get (rl := rl) (s := r) q
            exact hSe (rl.length - 1 - r) (by omega) (by rw [rg, ex]) (by rw [rg]; exact z) S s1 s2)
          rw [ex] at mv step ⊢
          rw [if_pos rfl, mv, bS, cI_t (ix_nI (show y < 40 by omega) (by decide)), nI_clamp (show y < 2 ^ 31 by omega), ap]
          obtain ⟨σ', p1, p2, p3, p4, p5, p6, p7⟩ := step (up2 σ 80 y (lN (Cat G i0 y))) rfl (fun c hc => up2_r hc)
          refine ⟨σ', p1, p2, p3, p4, fun z hz => by rw [p5 z hz, up2_ne (by omega)], fun _ _ => by rw [p7 (Or.inl (by omega)), up2_eq], fun a => ?_⟩
          rcases a with a | a
          · omega
          · rw [ex] at z; exact absurd a z
        · rw [if_neg (fun e => ex (nI_inj (by omega) (by omega) e))]
          obtain ⟨σ', p1, p2, p3, p4, p5, p6, p7⟩ := step σ rfl (fun _ _ => rfl)
          refine ⟨σ', p1, p2, p3, p4, p5, fun a b => ?_, fun a => p7 (by omega)⟩
          by_cases e : r = r0
          · subst e; exact absurd e0 ex
          · exact p6 (by omega) b
    · obtain rfl : r = rl.length := by omega
      rw [if_pos (by rw [I_le]; omega)]
      exact ⟨σ, rfl, rfl, fun _ _ => rfl, hI, fun _ _ => rfl, fun h => by omega, fun _ => rfl⟩
noncomputable abbrev Bq (G : Wg) (rl : List Nat) (d : Nat) : Nat → Nat := BB rl.reverse (wA G) (wN G) (wn G) (wM G) (we G) d
theorem goB_eq {σ : St} {G : Wg} {rl : List Nat} {fa fb : Nat → Nat} {ol : List Nat} (ho : Okw G) (h1 : PrC σ G rl fa fb ol) (h2 : PrP G rl fa fb ol) {y : Nat} (hy : y < wn G) {i0 : Nat} (hi0 : wm G i0 = true) (hSe : Seen σ G rl fb (nI i0) y rl.length) (hI : BwI σ rl fa y (Bq G rl (wn G - (y + 1)))) : ∃ σ', f_X0_goBackward (nI y) (nI i0) σ = some σ' ∧ σ'.1 = σ.1 ∧ (∀ c, (c ≠ 78 ∧ c ≠ 80) → σ'.2 c = σ.2 c) ∧ BwI σ' rl fa y (Bq G rl (wn G - y)) ∧ (∀ z, z ≠ y → σ'.2 80 z = σ.2 80 z) ∧ (we G i0 y ≠ 0 → σ'.2 80 y = lN (Cat G i0 y)) ∧ (we G i0 y = 0 → σ'.2 80 y = σ.2 80 y) := by
  have hl := RkP_len ho h2.1
  obtain ⟨r0, hr0, e0⟩ := List.getElem_of_mem (h2.2.1 i0 hi0)
  have e0 : rl.getD r0 0 = i0 := by rw [List.getD_eq_getElem?_getD, List.getElem?_eq_getElem hr0]; exact e0
  obtain ⟨σ1, p1, p2, p3, p4⟩ := clear_eq 78 h1 h2
  unfold f_X0_goBackward
  rw [p1, bS]
  obtain ⟨σ2, q1, q2, q3, q4, q5, q6, q7⟩ := bw_loop ho h2 hy hr0 e0 FU 0 σ1 (PrC_fr h1 p2 (p3 64 (by omega))) (fun S s => by
    have := p4 S _ (fun j hj => by
      rw [M_bit ho]
      exact h2.1.2 j ((bgn_bit _ _ _ _).mp (s j hj)).2.1) (hI S s)
    rw [this]
    rfl) (fun p hp e w S s1 s2 => by rw [p3 79 (by omega)]; exact hSe p hp e w S s1 s2) (by omega) (FU_big (by omega))
  refine ⟨σ2, q1, q2.trans p2, fun c hc => by rw [q3 c hc, p3 c hc.1], fun S s => ?_, fun z hz => by rw [q5 z hz, p3 80 (by omega)], q6 (by omega), fun h => by rw [q7 (Or.inr h), p3 80 (by omega)]⟩
  rw [q4 S s]
  unfold bF Bq
  rw [List.take_length, show wn G - y = (wn G - (y + 1)) + 1 by omega]
  show _ = lN (bk (wA G) (we G) (wn G - (wn G - (y + 1) + 1)) rl.reverse (clF (wN G) (BB rl.reverse (wA G) (wN G) (wn G) (wM G) (we G) (wn G - (y + 1)))) S)
  rw [show wn G - (wn G - (y + 1) + 1) = y by omega]
theorem ce_fw {G : Wg} {rl : List Nat} {fa fb : Nat → Nat} {ol : List Nat} (ho : Okw G) (h2 : PrP G rl fa fb ol) (i0 : Nat) (kk : Int32 → St → Option St) : ∀ (fu y : Nat) (σ : St), PrC σ G rl fa fb ol → FwI σ G rl fb y (RR rl.reverse (wA G) (wN G) (we G) y) → (∀ z, z < y → Seen σ G rl fb (nI i0) z rl.length) → y ≤ wn G → wn G - y < fu → ∃ σ', f_X0_countEachYear_33 kk fu (nI i0) (nI y) σ = kk (nI i0) σ' ∧ σ'.1 = σ.1 ∧ (∀ c, (c ≠ 77 ∧ c ≠ 79) → σ'.2 c = σ.2 c) ∧ ∀ z, z < wn G → Seen σ' G rl fb (nI i0) z rl.length := by
  have hn := ho.1.2
  have hM : wM G < 128 := msk_lt _ 7
  intro fu
  induction fu with
  | zero => intro y σ _ _ _ _ h; omega
  | succ fu ih =>
    intro y σ h1 hI hSe hy hfu
    rw [f_X0_countEachYear_33, h1.1.1.1]
    rcases Nat.lt_or_ge y (wn G) with q | q
    · obtain ⟨σ1, r1, r2, r3, r4, r5, r6⟩ := goF_eq ho h1 h2 q (nI i0) hI
      rw [if_neg (nI_ge q (by omega)), r1, bS, nI_1]
      obtain ⟨σ2, p1, p2, p3, p4⟩ := ih (y + 1) σ1 (PrC_fr h1 r2 (r3 64 (by omega))) r4 (fun z hz => by
        by_cases e : z = y
        · subst e; exact r5
        · intro p hp e1 w S s1 s2
          rw [r6 z e S (sub_lt s1 hM)]
          exact hSe z (by omega) p hp e1 w S s1 s2) (by omega) (by omega)
      exact ⟨σ2, p1, p2.trans r2, fun c hc => (p3 c hc).trans (r3 c hc), p4⟩
    · obtain rfl : y = wn G := by omega
      rw [if_pos (by rw [I_le]; omega)]
      exact ⟨σ, rfl, rfl, fun _ _ => rfl, hSe⟩
theorem ce_bw {G : Wg} {rl : List Nat} {fa fb : Nat → Nat} {ol : List Nat} (ho : Okw G) (h2 : PrP G rl fa fb ol) {i0 : Nat} (hi0 : wm G i0 = true) : ∀ (fu y : Nat) (σ : St), PrC σ G rl fa fb ol → BwI σ rl fa (y - 1) (Bq G rl (wn G - y)) → (∀ z, z < wn G → Seen σ G rl fb (nI i0) z rl.length) → y ≤ wn G → y < fu → ∃ σ', f_X0_countEachYear_87 fu (nI i0) (nI y - 1) σ = some σ' ∧ σ'.1 = σ.1 ∧ (∀ c, (c ≠ 78 ∧ c ≠ 80) → σ'.2 c = σ.2 c) ∧ (∀ z, y ≤ z → σ'.2 80 z = σ.2 80 z) ∧ ∀ z, z < y → (we G i0 z ≠ 0 → σ'.2 80 z = lN (Cat G i0 z)) ∧ (we G i0 z = 0 → σ'.2 80 z = σ.2 80 z) := by
  have hn := ho.1.2
  intro fu
  induction fu with
  | zero => intro y σ _ _ _ _ h; omega
  | succ fu ih =>
    intro y σ h1 hI hSe hy hfu
    rw [f_X0_countEachYear_87]
    cases y with
    | zero =>
      rw [if_pos (by decide)]
      exact ⟨σ, rfl, rfl, fun _ _ => rfl, fun _ _ => rfl, fun z hz => by omega⟩
    | succ y =>
      rw [nI_pred, if_neg (nI_pos (by omega))]
      obtain ⟨σ1, r1, r2, r3, r4, r5, r6, r7⟩ := goB_eq ho h1 h2 (show y < wn G by omega) hi0 (hSe y (by omega)) hI
      rw [r1, bS, m1a]
      obtain ⟨σ2, p1, p2, p3, p4, p5⟩ := ih y σ1 (PrC_fr h1 r2 (r3 64 (by omega))) (fun S s => r4 S (fun j hj => bgn_mono (Nat.sub_le y 1) j (s j hj))) (fun z hz p hp e1 w S s1 s2 => by rw [r3 79 (by omega)]; exact hSe z hz p hp e1 w S s1 s2) (by omega) (by omega)
      refine ⟨σ2, p1, p2.trans r2, fun c hc => (p3 c hc).trans (r3 c hc), fun z hz => by rw [p4 z (by omega), r5 z (by omega)], fun z hz => ?_⟩
      by_cases e : z = y
      · subst e
        rw [p4 z (by omega)]
        exact ⟨r6, r7⟩
      · rw [← r5 z e]
        exact p5 z (by omega)
theorem each_eq {σ : St} {G : Wg} (ho : Okw G) (H : WgC σ G) {i0 : Nat} (hi0 : wm G i0 = true) : ∃ σ', f_X0_countEachYear (nI i0) σ = some σ' ∧ (∀ y, y < wn G → σ'.2 80 y = lN (Cat G i0 y)) ∧ (∀ c, (c < 70 ∨ 76 < c) → σ'.1 c = σ.1 c) ∧ ∀ c, (c < 77 ∨ 80 < c) → σ'.2 c = σ.2 c := by
  have hn := ho.1
  have hM : wM G < 128 := msk_lt _ 7
  have i0f := ho.2.2.1 i0 hi0
  unfold f_X0_countEachYear
  rw [fill_Leq (by decide), bS]
  have H0 : WgC (rw2 σ 80 (fun j => if j < 40 then 0 else σ.2 80 j)) G := WgC_fr H (fun _ _ _ => rfl) (rw2_off 64 (by omega)).2
  obtain ⟨σ1, o, f1, g1⟩ := prepare_eq ho H0
  have zro : ∀ y, y < wn G → we G i0 y = 0 → Cat G i0 y = 0 := fun y hy hz => CC_nil hi0 i0f (fun z hz2 => by
    unfold at1
    rw [ur_eq]
    by_cases e : z = y
    · rw [if_pos e]; exact hz
    · rw [if_neg e])
  have p0 : ∀ y, y < wn G → σ1.2 80 y = lN 0 := fun y hy => by
    rw [g1, rw2_row, if_pos (by omega)]
    rfl
  rcases o with ⟨o, z⟩ | ⟨rl, fa, fb, ol, o, h1, h2⟩
  · rw [o, bS, if_pos rfl]
    refine ⟨σ1, rfl, fun y hy => ?_, f1, fun c hc => by rw [g1]; exact (rw2_off c (by omega)).2⟩
    rw [p0 y hy]
    congr 1
    rcases z with ⟨j, mj, hz⟩ | z
    · refine (CC_nil mj (ho.2.2.1 j mj) (fun z hz2 => ?_)).symm
      unfold at1
      by_cases e : j = i0
      · subst e
        rw [ur_eq]
        by_cases e : z = y
        · rw [if_pos e]; exact hz y hy
        · rw [if_neg e]
      · rw [ur_ne e]; exact hz z hz2
    · exact (CC_ring ho z _).symm
  · rw [o, bS, if_neg one_ne, fill_Leq (by decide), bS, cI_t (by decide), z_0, ap]
    have hI0 : FwI (up2 (rw2 σ1 77 (fun j => if j < 128 then 0 else σ1.2 77 j)) 77 0 1) G rl fb 0 (RR rl.reverse (wA G) (wN G) (we G) 0) := RR_0
    have e1 : (up2 (rw2 σ1 77 (fun j => if j < 128 then 0 else σ1.2 77 j)) 77 0 1).1 = σ1.1 := rfl
    have e2 : ∀ c, c ≠ 77 → (up2 (rw2 σ1 77 (fun j => if j < 128 then 0 else σ1.2 77 j)) 77 0 1).2 c = σ1.2 c := fun c hc => by rw [up2_r hc]; exact (rw2_off c hc).2
    generalize up2 (rw2 σ1 77 (fun j => if j < 128 then 0 else σ1.2 77 j)) 77 0 1 = σ0 at hI0 e1 e2 ⊢
    obtain ⟨σ2, r1, r2, r3, r4⟩ := ce_fw ho h2 i0 f_X0_countEachYear_56 FU 0 σ0 (PrC_fr h1 e1 (e2 64 (by omega))) hI0 (fun z hz => by omega) (by omega) (FU_big (by omega))
    rw [show f_X0_countEachYear_33 f_X0_countEachYear_56 FU (nI i0) 0 σ0 = _ from r1]
    unfold f_X0_countEachYear_56
    have h1b : PrC σ2 G rl fa fb ol := PrC_fr h1 (r2.trans e1) (by rw [r3 64 (by omega), e2 64 (by omega)])
    rw [fill_Leq (by decide), bS]
    have e63 : (rw2 σ2 78 (fun j => if j < 128 then 0 else σ2.2 78 j)).1 63 2 = nI (wM G) := h1b.1.1.2.2
    rw [e63, cI_t (ix_nI hM (by decide)), nI_clamp (by omega), ap]
    have b0 : BwI (up2 (rw2 σ2 78 (fun j => if j < 128 then 0 else σ2.2 78 j)) 78 (wM G) 1) rl fa (wn G - 1) (Bq G rl (wn G - wn G)) := fun S s => by
      have s7 := sub_lt s (bgn_lt _ _ _)
      rw [Nat.sub_self]
      show _ = lN (ind (S = wM G))
      by_cases e : S = wM G
      · rw [e, up2_eq, ind_t rfl]; rfl
      · rw [up2_ne (by omega), rw2_row, if_pos s7, ind_f e]; rfl
    have b1 : (up2 (rw2 σ2 78 (fun j => if j < 128 then 0 else σ2.2 78 j)) 78 (wM G) 1).1 = σ2.1 := rfl
    have b2 : ∀ c, c ≠ 78 → (up2 (rw2 σ2 78 (fun j => if j < 128 then 0 else σ2.2 78 j)) 78 (wM G) 1).2 c = σ2.2 c := fun c hc => by rw [up2_r hc]; exact (rw2_off c hc).2
    generalize up2 (rw2 σ2 78 (fun j => if j < 128 then 0 else σ2.2 78 j)) 78 (wM G) 1 = σ9 at b0 b1 b2 ⊢
    have e630 : σ9.1 63 0 = nI (wn G) := by rw [b1]; exact h1b.1.1.1
    rw [e630, ap]
    obtain ⟨σ3, q1, q2, q3, q4, q5⟩ := ce_bw ho h2 hi0 FU (wn G) σ9 (PrC_fr h1b b1 (b2 64 (by omega))) b0 (fun z hz p hp e1 w S s1 s2 => by rw [b2 79 (by omega)]; exact r4 z hz p hp e1 w S s1 s2) (Nat.le_refl _) (FU_big (by omega))
    refine ⟨σ3, q1, fun y hy => ?_, fun c hc => by rw [q2, b1, r2, e1]; exact f1 c hc, fun c hc => ?_⟩
    · by_cases z : we G i0 y = 0
      · rw [(q5 y hy).2 z, b2 80 (by omega), r3 80 (by omega), e2 80 (by omega), p0 y hy, zro y hy z]
      · exact (q5 y hy).1 z
    · rw [q3 c (by omega), b2 c (by omega), r3 c (by omega), e2 c (by omega), g1]
      exact (rw2_off c (by omega)).2
