theorem RelT_fd {T T' : Tl} {σ σ' τ τ' : St} (H : RelT T σ τ) (ho : Okt T') (hc : TelC 1 σ'.1 T') (hm : TelM τ'.1 T') (c : ∀ a, 29 ≤ a → σ'.1 a = σ.1 a) (c0 : ∀ j, j ≠ 10 → σ'.1 0 j = σ.1 0 j) (c10 : σ'.1 0 10 = 0) (c2 : σ'.2 = σ.2) (m0 : ∀ j, (j ≠ 0 ∧ j ≠ 3 ∧ j ≠ 10) → τ'.1 0 j = τ.1 0 j) (m10 : τ'.1 0 10 = 0) (m : ∀ a, 9 ≤ a → τ'.1 a = τ.1 a) (m2 : τ'.2 = τ.2) : RelT T' σ' τ' := by
  obtain ⟨h1, h2, h3, h4, h5, h6, h7, h8, h9, h10⟩ := H
  exact ⟨ho, hc, hm, KeptR_congr (c0 2 (by omega)) (m0 13 (by omega)) (fun a a1 a2 => c a (by omega)) (m 10 (by omega)) h4, SheetsR_congr (fun a a1 a2 => c a (by omega)) (m 11 (by omega)) (m 12 (by omega)) (m 13 (by omega)) h5, TapeR_congr (by rw [c 58 (by omega)]) (c 59 (by omega)) (m0 19 (by omega)) (m 14 (by omega)) h6, WaitR_congr (c0 8 (by omega)) (c 81 (by omega)) (m0 20 (by omega)) (m 15 (by omega)) h7, Or.inl ⟨c10, m10⟩, by rw [c2, m2]; exact h9, by rw [c0 12 (by omega), m0 22 (by omega)]; exact h10⟩
theorem PairC_congr {a b : Nat → Int32} {h h' : Nat → Nat → Nat} (H : PairC a b h) (e : ∀ i k, i < 7 → k < 7 → h i k = h' i k) : PairC a b h' := by
  intro k hk
  obtain ⟨h1, h2⟩ := H k hk
  refine ⟨?_, ?_⟩
  · rw [h1]; congr 1; apply msk_congr; intro i hi; rw [e i k hi hk]
  · rw [h2]; congr 1; apply msk_congr; intro i hi; rw [e i k hi hk]
theorem msk_0 {f : Nat → Bool} (h : ∀ i, i < 7 → f i = false) : msk f 7 = 0 := by
  rw [msk_congr (g := fun _ => false) h]
  rfl
theorem forget_loop {k0 i : Nat} (hi : i < 7) (kk : Nat → Int32 → St → Option St) : ∀ (fu k : Nat) (σ : St) (h : Nat → Nat → Nat), PairC (σ.1 (k0 + 1)) (σ.1 (k0 + 2)) h → k ≤ 7 → 7 - k < fu → ∃ σ1, f_X2_forget_2 kk fu k0 (nI i) (nI k) σ = kk k0 (nI i) σ1 ∧ PairC (σ1.1 (k0 + 1)) (σ1.1 (k0 + 2)) (fun a b => if a = i ∧ k ≤ b then 0 else h a b) ∧ σ1.2 = σ.2 ∧ ∀ a, (a ≠ k0 + 1 ∧ a ≠ k0 + 2) → σ1.1 a = σ.1 a := by
  intro fu
  induction fu with
  | zero => intro k σ h _ _ h2; omega
  | succ fu ih =>
    intro k σ h H hk hfu
    rw [f_X2_forget_2]
    rcases Nat.lt_or_ge k 7 with q | q
    · have g : ¬ (7 : Int32) ≤ nI k := nI_ge (b := 7) q (by decide)
      obtain ⟨σ2, p1, p2, p3, p4⟩ := put_eq H (i := i) (k := k) (v := 0) hi q (by omega)
      rw [if_neg g, show (0 : Int32) = nI 0 from rfl, p1, bS, nI_1]
      obtain ⟨σ1, r1, r2, r3, r4⟩ := ih (k + 1) σ2 _ p2 (by omega) (by omega)
      refine ⟨σ1, r1, PairC_congr r2 (fun a b ha hb => ?_), r3.trans p3, fun a ha => (r4 a ha).trans (p4 a ha)⟩
      unfold setH
      by_cases e1 : a = i
      · by_cases e2 : b = k
        · simp [e1, e2]
        · by_cases e3 : k + 1 ≤ b
          · simp [e1, e3, show k ≤ b by omega]
          · simp [e1, e2, e3, show ¬ k ≤ b by omega]
      · simp [e1]
    · obtain rfl : k = 7 := by omega
      rw [if_pos (by decide)]
      exact ⟨σ, rfl, PairC_congr H (fun a b ha hb => by simp [show ¬ 7 ≤ b by omega]), rfl, fun _ _ => rfl⟩
theorem forget_eq {k0 i : Nat} (hi : i < 7) {σ : St} {h : Nat → Nat → Nat} (H : PairC (σ.1 (k0 + 1)) (σ.1 (k0 + 2)) h) : ∃ σ1, f_X2_forget k0 (nI i) σ = some σ1 ∧ PairC (σ1.1 (k0 + 1)) (σ1.1 (k0 + 2)) (fun a b => if a = i ∨ b = i then 0 else h a b) ∧ σ1.2 = σ.2 ∧ ∀ a, (a ≠ k0 + 1 ∧ a ≠ k0 + 2) → σ1.1 a = σ.1 a := by
  obtain ⟨σ1, r1, r2, r3, r4⟩ := forget_loop hi f_X2_forget_21 FU 0 σ h H (by omega) (by show 7 - 0 < 100000; omega)
  rw [nI_0] at r1
  refine ⟨up1 (up1 σ1 (k0 + 1) i 0) (k0 + 2) i 0, ?_, fun k hk => ?_, r3, fun a ha => by rw [up1_r ha.2, up1_r ha.1]; exact r4 a ha⟩
  · unfold f_X2_forget
    rw [r1]
    unfold f_X2_forget_21
    rw [cI_t (ix_nI hi (by decide)), ap, nI_clamp (by omega), cI_t (ix_nI hi (by decide)), ap]
  · obtain ⟨g1, g2⟩ := r2 k hk
    by_cases e : k = i
    · subst e
      refine ⟨?_, ?_⟩
      · rw [up1_r (by omega), up1_eq, msk_0 (fun a _ => by simp)]; rfl
      · rw [up1_eq, msk_0 (fun a _ => by simp)]; rfl
    · refine ⟨?_, ?_⟩
      · rw [up1_r (by omega), up1_ne (by omega), g1]
        congr 1; apply msk_congr; intro a ha; simp [e]
      · rw [up1_ne (by omega), up1_r (by omega), g2]
        congr 1; apply msk_congr; intro a ha; simp [e]
theorem ag_drop : Ag_drop Rel := by
  rintro σ τ ⟨T, H⟩
  obtain ⟨⟨k1, k2⟩, k3, k4, k5, k6⟩ := H.2.1
  obtain ⟨⟨m1, m2⟩, m3, m4, m5, m6⟩ := H.2.2.1
  have hf := H.1.2.1
  rcases Nat.eq_zero_or_pos (tf T) with e | e
  · rw [e] at k2 m2
    exact ⟨-10, _, _, by simp [f_X7_drop, k2, nI_0, host_eq], by simp [f_X8_drop, m2, nI_0, meet_eq], T, RelT_host H⟩
  · obtain ⟨f, hfe⟩ : ∃ f, tf T = f + 1 := ⟨tf T - 1, by omega⟩
    have ne : ¬ nI (f + 1) = 0 := nI_ne0 (by omega) (by omega)
    rw [hfe] at k2 m2
    obtain ⟨σ1, p1, p2, p3, p4⟩ := forget_eq (k0 := 5) (i := f) (by omega) (σ := up1 σ 1 3 (nI f)) (h := th T) (by rw [up1_r (by omega), up1_r (by omega)]; exact k6)
    refine ⟨nI f, up1 σ1 0 10 0, up1 (up1 τ 0 3 (nI f)) 0 10 0, ?_, ?_, ((tn T, f), T.2.1, T.2.2.1, T.2.2.2.1, T.2.2.2.2.1, fun a b => if a = f ∨ b = f then 0 else th T a b), ?_⟩
    · simp only [f_X7_drop, k2, ne, if_false, ap, nI_pred, up1_eq, p1, bS]
      rw [up1_r (by omega), p4 1 (by omega), up1_eq]
    · simp only [f_X8_drop, m2, ne, if_false, ap, nI_pred]
      rw [up1_ne (by omega), up1_eq]
    · refine RelT_fd H ⟨H.1.1, by show f ≤ 7; omega, H.1.2.2.1, H.1.2.2.2.1, fun i hi => H.1.2.2.2.2.1 i (by have : i < f := hi; omega), fun a b => ?_, fun a b hab => ?_⟩ ⟨⟨?_, ?_⟩, ?_, ?_, fun i hi => ?_, ?_⟩ ⟨⟨?_, ?_⟩, ?_, ?_, fun i hi => ?_, fun a b ha hb => ?_⟩ (fun a ha => ?_) (fun j hj => ?_) up1_eq p3 (fun j hj => ?_) up1_eq (fun a ha => ?_) rfl
      · show (if a = f ∨ b = f then 0 else th T a b) ≤ 2
        by_cases q : a = f ∨ b = f
        · rw [if_pos q]; omega
        · rw [if_neg q]; exact H.1.2.2.2.2.2.1 a b
      · have hab : f ≤ a ∨ f ≤ b ∨ a = b := hab
        show (if a = f ∨ b = f then 0 else th T a b) = 0
        by_cases q : a = f ∨ b = f
        · rw [if_pos q]
        · rw [if_neg q]; exact H.1.2.2.2.2.2.2 a b (by omega)
      · rw [up1_r (by omega), p4 1 (by omega), up1_ne (by omega)]; exact k1
      · rw [up1_r (by omega), p4 1 (by omega), up1_eq]; rfl
      · rw [up1_r (by omega), p4 _ (by omega), up1_r (by omega)]; exact k3
      · rw [up1_r (by omega), p4 _ (by omega), up1_r (by omega)]; exact k4
      · have hi : i < f := hi
        rw [up1_r (by omega), p4 _ (by omega), up1_r (by omega), up1_r (by omega), p4 _ (by omega), up1_r (by omega), up1_r (by omega), p4 _ (by omega), up1_r (by omega)]
        exact k5 i (by omega)
      · rw [up1_r (by omega), up1_r (by omega)]; exact p2
      · rw [up1_ne (by omega), up1_ne (by omega)]; exact m1
      · rw [up1_ne (by omega), up1_eq]; rfl
      · rw [up1_r (by omega), up1_r (by omega)]; exact m3
      · rw [up1_r (by omega), up1_r (by omega)]; exact m4
      · have hi : i < f := hi
        exact TelM_find0 _ (fun a a1 a2 => by rw [up1_r (by omega), up1_r (by omega)]) (m5 i (by omega))
      · have ha : a < f := ha
        have hb : b < f := hb
        rw [up1_r (by omega), up1_r (by omega)]
        show _ = nI (if a = f ∨ b = f then 0 else th T a b)
        rw [if_neg (by omega)]
        exact m6 a b (by omega) (by omega)
      · rw [up1_r (by omega), p4 a (by omega), up1_r (by omega)]
      · rw [up1_ne (by omega), p4 0 (by omega), up1_r (by omega)]
      · rw [up1_ne (by omega), up1_ne (by omega)]
      · rw [up1_r (by omega), up1_r (by omega)]
