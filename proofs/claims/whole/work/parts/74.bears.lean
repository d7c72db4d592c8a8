/-! bears: what is kept and what is told change places, and back -/
theorem ch2 (kk : St → Option St) : ∀ (fu k : Nat) (τ : St), k ≤ 260 → 260 - k < fu → ∃ τ', f_X8_change_2 kk fu (nI k) τ = kk τ' ∧ (∀ p, k ≤ p → p < 260 → τ'.1 25 p = τ.1 10 p) ∧ (∀ p, p < k → τ'.1 25 p = τ.1 25 p) ∧ (∀ a, a ≠ 25 → τ'.1 a = τ.1 a) ∧ τ'.2 = τ.2 := by
  intro fu
  induction fu with
  | zero => intro k τ _ h; omega
  | succ fu ih =>
    intro k τ hk hfu
    rw [f_X8_change_2]
    rcases Nat.lt_or_ge k 260 with q | q
    · have ck := ix_nI (show k < 260 by omega) (by decide)
      rw [if_neg (show ¬ (260 : Int32) ≤ nI k from nI_ge (b := 260) q (by decide)), cI_t ck, cI_t ck, ap, nI_clamp (by omega), nI_1]
      obtain ⟨τ', r1, r2, r3, r4, r5⟩ := ih (k + 1) (up1 τ 25 k (τ.1 10 k)) (by omega) (by omega)
      refine ⟨τ', r1, fun p p1 p2 => ?_, fun p hp => by rw [r3 p (by omega), up1_ne (by omega)], fun a ha => by rw [r4 a ha, up1_r ha], by rw [r5]; rfl⟩
      by_cases e : p = k
      · subst e; rw [r3 p (by omega), up1_eq]
      · rw [r2 p (by omega) p2, up1_r (by omega)]
    · obtain rfl : k = 260 := by omega
      rw [if_pos (show (260 : Int32) ≤ nI 260 by decide)]
      exact ⟨τ, rfl, fun p p1 p2 => by omega, fun _ _ => rfl, fun _ _ => rfl, rfl⟩
theorem ch34 (kk : St → Option St) : ∀ (fu k : Nat) (τ : St), k ≤ 260 → 260 - k < fu → ∃ τ', f_X8_change_34 kk fu (nI k) τ = kk τ' ∧ (∀ p, k ≤ p → p < 260 → τ'.1 10 p = τ.1 25 p ∧ τ'.1 25 p = τ.1 10 p) ∧ (∀ p, p < k → τ'.1 10 p = τ.1 10 p ∧ τ'.1 25 p = τ.1 25 p) ∧ (∀ a, (a ≠ 10 ∧ a ≠ 25) → τ'.1 a = τ.1 a) ∧ τ'.2 = τ.2 := by
  intro fu
  induction fu with
  | zero => intro k τ _ h; omega
  | succ fu ih =>
    intro k τ hk hfu
    rw [f_X8_change_34]
    rcases Nat.lt_or_ge k 260 with q | q
    · have ck := ix_nI (show k < 260 by omega) (by decide)
      rw [if_neg (show ¬ (260 : Int32) ≤ nI k from nI_ge (b := 260) q (by decide)), cI_t ck, ap, cI_t ck, cI_t ck, ap, cI_t ck, ap, nI_clamp (by omega), nI_1]
      obtain ⟨τ', r1, r2, r3, r4, r5⟩ := ih (k + 1) (up1 (up1 τ 10 k (τ.1 25 k)) 25 k (τ.1 10 k)) (by omega) (by omega)
      refine ⟨τ', r1, fun p p1 p2 => ?_, fun p hp => ⟨by rw [(r3 p (by omega)).1, up1_r (by omega), up1_ne (by omega)], by rw [(r3 p (by omega)).2, up1_ne (by omega), up1_r (by omega)]⟩, fun a ha => by rw [r4 a ha, up1_r ha.2, up1_r ha.1], by rw [r5]; rfl⟩
      by_cases e : p = k
      · subst e
        exact ⟨by rw [(r3 p (by omega)).1, up1_r (by omega), up1_eq], by rw [(r3 p (by omega)).2, up1_eq]⟩
      · exact ⟨by rw [(r2 p (by omega) p2).1, up1_ne (by omega), up1_r (by omega)], by rw [(r2 p (by omega) p2).2, up1_r (by omega), up1_ne (by omega)]⟩
    · obtain rfl : k = 260 := by omega
      rw [if_pos (show (260 : Int32) ≤ nI 260 by decide)]
      exact ⟨τ, rfl, fun p p1 p2 => by omega, fun _ _ => ⟨rfl, rfl⟩, fun _ _ => rfl, rfl⟩
theorem ch80 : ∀ (fu k : Nat) (τ : St), k ≤ 260 → 260 - k < fu → ∃ τ', f_X8_change_80 fu (nI k) τ = some τ' ∧ (∀ p, k ≤ p → p < 260 → τ'.1 10 p = τ.1 25 p) ∧ (∀ p, p < k → τ'.1 10 p = τ.1 10 p) ∧ (∀ a, a ≠ 10 → τ'.1 a = τ.1 a) ∧ τ'.2 = τ.2 := by
  intro fu
  induction fu with
  | zero => intro k τ _ h; omega
  | succ fu ih =>
    intro k τ hk hfu
    rw [f_X8_change_80]
    rcases Nat.lt_or_ge k 260 with q | q
    · have ck := ix_nI (show k < 260 by omega) (by decide)
      rw [if_neg (show ¬ (260 : Int32) ≤ nI k from nI_ge (b := 260) q (by decide)), cI_t ck, cI_t ck, ap, nI_clamp (by omega), nI_1]
      obtain ⟨τ', r1, r2, r3, r4, r5⟩ := ih (k + 1) (up1 τ 10 k (τ.1 25 k)) (by omega) (by omega)
      refine ⟨τ', r1, fun p p1 p2 => ?_, fun p hp => by rw [r3 p (by omega), up1_ne (by omega)], fun a ha => by rw [r4 a ha, up1_r ha], by rw [r5]; rfl⟩
      by_cases e : p = k
      · subst e; rw [r3 p (by omega), up1_eq]
      · rw [r2 p (by omega) p2, up1_r (by omega)]
    · obtain rfl : k = 260 := by omega
      rw [if_pos (show (260 : Int32) ≤ nI 260 by decide)]
      exact ⟨τ, rfl, fun p p1 p2 => by omega, fun _ _ => rfl, fun _ _ => rfl, rfl⟩
theorem TelK_congr {f f' : Nat → Int32} {T : Tl} (ho : Okt T) (h : ∀ p, p < 203 → f' p = f p) (H : TelK f T) : TelK f' T := by
  obtain ⟨⟨h1, h2⟩, h3, h4, h5, h6⟩ := H
  have hf := ho.2.1
  refine ⟨⟨by rw [h 0 (by omega)]; exact h1, by rw [h 1 (by omega)]; exact h2⟩, fun j hj => by rw [h _ (by omega)]; exact h3 j hj, fun j hj => by rw [h _ (by omega)]; exact h4 j hj, fun i hi => ?_, fun i k hi hk => ?_⟩
  · obtain ⟨g1, g2, g3, g4⟩ := h5 i hi
    have o3 := (ho.2.2.2.2.1 i hi).2.2.1
    exact ⟨by rw [h _ (by omega)]; exact g1, by rw [h _ (by omega)]; exact g2, by rw [h _ (by omega)]; exact g3, fun j hj => ⟨by rw [h _ (by omega)]; exact (g4 j hj).1, by rw [h _ (by omega)]; exact (g4 j hj).2⟩⟩
  · rw [h _ (by omega)]; exact h6 i k hi hk
/-- what is not touched by a change -/
def SameX (τ τ' : St) : Prop := (∀ a, (a = 9 ∨ (11 ≤ a ∧ a ≤ 16)) → τ'.1 a = τ.1 a) ∧ (∀ j, (j ≠ 0 ∧ j ≠ 3 ∧ j ≠ 27) → τ'.1 0 j = τ.1 0 j) ∧ τ'.2 0 12 = τ.2 0 12
theorem SameX.tr {a b c : St} (h : SameX a b) (h' : SameX b c) : SameX a c := ⟨fun x hx => (h'.1 x hx).trans (h.1 x hx), fun x hx => (h'.2.1 x hx).trans (h.2.1 x hx), h'.2.2.trans h.2.2⟩
theorem SameN.X {τ τ' : St} (h : SameN τ τ') : SameX τ τ' := ⟨fun a ha => h.1 a (by omega) (by omega), fun j hj => h.2.1 j (by omega), h.2.2⟩
theorem change_eq {T K : Tl} {τ : St} (ho : Okt T) (hk : Okt K) (H : TelM τ.1 T) (HK : TelK (τ.1 10) K) : ∃ τ', f_X8_change τ = some τ' ∧ TelM τ'.1 K ∧ TelK (τ'.1 10) T ∧ SameX τ τ' := by
  obtain ⟨ta, a1, a2, a3, a4, a5⟩ := ch2 f_X8_change_27 FU 0 τ (by omega) (FU_big (by omega))
  obtain ⟨tb, b1, ⟨b2, b3⟩, b4, b5, b6, b7, b8, b9, b10⟩ := save_eq (τ := ta)
  obtain ⟨tc', c1, c2, c3, c4, c5⟩ := ch34 f_X8_change_73 FU 0 tb (by omega) (FU_big (by omega))
  obtain ⟨td, d1, ⟨d2, d3⟩, d4, d5, d6, d7, d8, d9, d10, d11⟩ := rest_eq (τ := tc')
  obtain ⟨te, e1, e2, e3, e4, e5⟩ := ch80 FU 0 td (by omega) (FU_big (by omega))
  have hf := ho.2.1
  have hkf := hk.2.1
  -- the kept row, now at 10 of tc'
  have k10 : ∀ p, p < 260 → tc'.1 10 p = τ.1 10 p := fun p hp => by rw [(c2 p (by omega) hp).1, b10 25 (by omega), a2 p (by omega) hp]
  have t10 : ∀ p, p < 260 → te.1 10 p = tb.1 10 p := fun p hp => by rw [e2 p (by omega) hp, d11 25 (by omega), (c2 p (by omega) hp).2]
  have aT : ∀ a, a ≠ 25 → ta.1 a = τ.1 a := a4
  obtain ⟨⟨m1, m2⟩, m3, m4, m5, m6⟩ := HK
  obtain ⟨⟨n1, n2⟩, n3, n4, n5, n6⟩ := H
  refine ⟨te, ?_, ⟨⟨?_, ?_⟩, fun j hj => ?_, fun j hj => ?_, fun i hi => ?_, fun i k hi hk2 => ?_⟩, ⟨⟨?_, ?_⟩, fun j hj => ?_, fun j hj => ?_, fun i hi => ?_, fun i k hi hk2 => ?_⟩, ⟨fun a ha => ?_, fun j hj => ?_, ?_⟩⟩
  · unfold f_X8_change
    rw [show f_X8_change_2 f_X8_change_27 FU 0 τ = _ from a1]
    unfold f_X8_change_27
    rw [b1, bS, show f_X8_change_34 f_X8_change_73 FU 0 tb = _ from c1]
    unfold f_X8_change_73
    rw [d1, bS]
    exact e1
  · rw [e4 0 (by omega), d2, k10 0 (by omega)]; exact m1
  · rw [e4 0 (by omega), d3, k10 1 (by omega)]; exact m2
  · rw [e4 1 (by omega), d4 j hj, k10 _ (by omega)]; exact m3 j hj
  · rw [e4 2 (by omega), d5 j hj, k10 _ (by omega)]; exact m4 j hj
  · have o3 := (hk.2.2.2.2.1 i hi).2.2.1
    obtain ⟨z1, z2, z3⟩ := d6 i (by omega)
    obtain ⟨g1, g2, g3, g4⟩ := m5 i hi
    refine ⟨by rw [e4 3 (by omega), z1, k10 _ (by omega)]; exact g1, by rw [e4 4 (by omega), z2, k10 _ (by omega)]; exact g2, by rw [e4 5 (by omega), z3, k10 _ (by omega)]; exact g3, fun j hj => ⟨by rw [e4 6 (by omega), (d7 (5 * i + j) (by omega)).1, k10 _ (by omega)]; exact (g4 j hj).1, by rw [e4 7 (by omega), (d7 (5 * i + j) (by omega)).2, k10 _ (by omega)]; exact (g4 j hj).2⟩⟩
  · rw [e4 8 (by omega), d8 _ (by omega), k10 _ (by omega)]; exact m6 i k hi hk2
  · rw [t10 0 (by omega), b2, aT 0 (by omega)]; exact n1
  · rw [t10 1 (by omega), b3, aT 0 (by omega)]; exact n2
  · rw [t10 _ (by omega), b4 j hj, aT 1 (by omega)]; exact n3 j hj
  · rw [t10 _ (by omega), b5 j hj, aT 2 (by omega)]; exact n4 j hj
  · have o3 := (ho.2.2.2.2.1 i hi).2.2.1
    obtain ⟨z1, z2, z3⟩ := b6 i (by omega)
    obtain ⟨g1, g2, g3, g4⟩ := n5 i hi
    refine ⟨by rw [t10 _ (by omega), z1, aT 3 (by omega)]; exact g1, by rw [t10 _ (by omega), z2, aT 4 (by omega)]; exact g2, by rw [t10 _ (by omega), z3, aT 5 (by omega)]; exact g3, fun j hj => ⟨by rw [t10 _ (by omega), (b7 (5 * i + j) (by omega)).1, aT 6 (by omega)]; exact (g4 j hj).1, by rw [t10 _ (by omega), (b7 (5 * i + j) (by omega)).2, aT 7 (by omega)]; exact (g4 j hj).2⟩⟩
  · rw [t10 _ (by omega), b8 _ (by omega), aT 8 (by omega)]; exact n6 i k hi hk2
  · rw [e4 a (by omega), d11 a (by omega), c4 a (by omega), b10 a (by omega), aT a (by omega)]
  · rw [e4 0 (by omega), d10 j (by omega), c4 0 (by omega), b10 0 (by omega), aT 0 (by omega)]
  · rw [e5, d9, c5, b9, a5]
theorem total_M {T : Tl} {τ : St} (ho : Okt T) (H : TelM τ.1 T) : ∃ τ', f_X8_total τ = some (if bigT T = true then -5 else lN (TT T), τ') ∧ SameN τ τ' := by
  unfold f_X8_total
  have b1 := bigM_eq ho (Okm_all T) H
  rw [show BigQ (sW T) (allm T) (tf T) = bigT T from rfl] at b1
  rw [all_eq ho H, bS, b1, bS]
  cases hb : bigT T with
  | true => exact ⟨τ, rfl, SameN.rf⟩
  | false =>
    obtain ⟨τ1, τ2, c1, c2, c3, c4, -, -⟩ := totM ho H
    rw [if_pos (show bI false = 0 by decide), all_eq ho H, bS, c1, bS, c2, bS]
    exact ⟨τ2, rfl, c4⟩
theorem RelT_swap {T K : Tl} {σ σ' τ τ' : St} (H : RelT T σ τ) (hc : SameW σ σ') (e1 : σ.1 0 2 = 1) (e2 : τ.1 0 13 = 1) (k1 : Okt K) (k2 : TelC 29 σ.1 K) (m1 : TelM τ'.1 T) (m2 : TelK (τ'.1 10) K) (hx : SameX τ τ') : RelT T σ' τ' := by
  obtain ⟨h1, h2, h3, h4, h5, h6, h7, h8, h9, h10⟩ := H
  have c := hc.1
  refine ⟨h1, hc.tel h1.2.1 (by decide) h2, m1, Or.inr ⟨by rw [c 0 (by omega)]; exact e1, by rw [hx.2.1 13 (by omega)]; exact e2, K, k1, hc.tel k1.2.1 (by decide) k2, m2⟩, SheetsR_congr (fun a a1 a2 => c a (by omega)) (hx.1 _ (by omega)) (hx.1 _ (by omega)) (hx.1 _ (by omega)) h5, TapeR_congr (by rw [c 58 (by omega)]) (c _ (by omega)) (hx.2.1 _ (by omega)) (hx.1 _ (by omega)) h6, WaitR_congr (by rw [c 0 (by omega)]) (c _ (by omega)) (hx.2.1 _ (by omega)) (hx.1 _ (by omega)) h7, DrawR_congr (by rw [c 0 (by omega)]) (c _ (by omega)) (hx.2.1 _ (by omega)) (hx.1 _ (by omega)) h8, by rw [hc.2 0 (by omega), hx.2.2]; exact h9, by rw [c 0 (by omega), hx.2.1 22 (by omega)]; exact h10⟩
theorem ag_bears : Ag_bears Rel := by
  rintro σ τ ⟨T, H⟩
  rcases H.2.2.2.1 with ⟨e1, e2⟩ | ⟨e1, e2, K, k1, k2, k3⟩
  · refine ⟨-10, up1 σ 0 12 (σ.1 0 12 + 1), up1 τ 0 22 (τ.1 0 22 + 1), ?_, ?_, T, RelT_host H⟩
    · unfold f_X7_bears
      rw [if_pos e1, host_eq]
      rfl
    · unfold f_X8_bears
      rw [if_pos e2, meet_eq]
      rfl
  · unfold f_X7_bears f_X8_bears
    obtain ⟨σ1, a1, a2⟩ := weigh_eq k1 (by decide) k2
    obtain ⟨σ2, b1, b2⟩ := weigh_eq H.1 (by decide) (a2.2.2.tel H.1.2.1 (by decide) H.2.1)
    obtain ⟨τ1, c1, c2⟩ := total_M H.1 H.2.2.1
    have kt1 : TelK (τ1.1 10) K := by rw [c2.1 10 (by omega) (by omega)]; exact k3
    obtain ⟨τ2, d1, d2, d3, d4⟩ := change_eq H.1 k1 (c2.tel H.2.2.1) kt1
    obtain ⟨τ3, f1, f2⟩ := total_M k1 d2
    have kt3 : TelK (τ3.1 10) T := by rw [f2.1 10 (by omega) (by omega)]; exact d3
    obtain ⟨τ4, g1, g2, g3, g4⟩ := change_eq k1 H.1 (f2.tel d2) kt3
    have sw : SameW σ σ2 := a2.2.2.tr b2.2.2
    have sx : SameX τ τ4 := c2.X.tr (d4.tr (f2.X.tr g4))
    have rel := RelT_swap H sw e1 e2 k1 k2 g2 g3 sx
    rw [if_neg (show ¬ σ.1 0 2 = 0 by rw [e1]; decide), a1, bS, b1, bS, if_neg (show ¬ τ.1 0 13 = 0 by rw [e2]; decide), c1, bS, d1, bS, f1, bS, g1, bS]
    cases hK : bigT K with
    | true =>
      refine ⟨-5, σ2, τ4, ?_, ?_, T, rel⟩
      · rfl
      · cases hb : bigT T with
        | true => rfl
        | false =>
          have hle := TT_le H.1 hb
          rw [if_neg (by decide : ¬ false = true), if_neg (show ¬ lN (TT T) < 0 from fun c => by have := (pk_lLT (b := 0) (by omega) (by decide)).mp c; omega), if_pos (show (true = true) from rfl), if_neg (show ¬ (0 : Int64) ≤ -5 by decide)]
    | false =>
      have hkle := TT_le k1 hK
      rw [if_neg (by decide : ¬ false = true), if_neg (show ¬ lN (TT K) < 0 from fun c => by have := (pk_lLT (b := 0) (by omega) (by decide)).mp c; omega)]
      cases hb : bigT T with
      | true => exact ⟨-5, σ2, τ4, rfl, rfl, T, rel⟩
      | false =>
        have hle := TT_le H.1 hb
        rw [if_neg (by decide : ¬ false = true), if_pos (show (0 : Int64) ≤ lN (TT T) from (pk_lLE (a := 0) (by decide) (by omega)).mpr (Nat.zero_le _)), if_neg (show ¬ lN (TT T) < 0 from fun c => by have := (pk_lLT (b := 0) (by omega) (by decide)).mp c; omega), if_pos (show (0 : Int64) ≤ lN (TT K) from (pk_lLE (a := 0) (by decide) (by omega)).mpr (Nat.zero_le _))]
        by_cases z : TT K = 0
        · rw [if_pos ((lN_0 (by omega)).mpr z), if_pos ((lN_0 (by omega)).mpr z)]
          exact ⟨-4, σ2, τ4, rfl, rfl, T, rel⟩
        · rw [if_neg (fun e => z ((lN_0 (by omega)).mp e)), if_neg (fun e => z ((lN_0 (by omega)).mp e)), fracC σ2 (a := TT T) (b := TT K) (by omega) (by omega) (by omega), fracM τ4 (a := TT T) (b := TT K) (by omega) (by omega) (by omega)]
          exact ⟨_, _, _, rfl, rfl, T, RelT_frac rel _⟩
