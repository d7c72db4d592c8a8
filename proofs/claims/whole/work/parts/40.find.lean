def acK (kd : Nat) : Nat := if kd ≤ 1 then 1 else 0
theorem become_eq {K kd w : Nat} {x2 : Int32} {σ : St} (hk : kd ≤ 3) (hw : (if kd = 2 then (0 : Int32) else x2) = nI w) : f_X1_become K (nI kd) x2 σ = some (up1 (up1 (up1 (up1 (up1 σ K 0 (nI kd)) K 1 0) K 2 (nI (acK kd))) (K + 1) 0 (nI w)) (K + 2) 0 0) := by
  have i5 : ix 0 5 = true := by decide
  rcases (show kd = 0 ∨ kd = 1 ∨ kd = 2 ∨ kd = 3 by omega) with rfl | rfl | rfl | rfl
  · simp only [f_X1_become, ap, f_X1_become_20, f_X1_become_25, f_X1_become_43, cI_t i5, show nI 0 = (0 : Int32) from rfl, if_true, show ¬ (0 : Int32) = 2 by decide, if_false]
    rw [if_neg (by decide)] at hw
    rw [hw]; rfl
  · simp only [f_X1_become, ap, f_X1_become_20, f_X1_become_25, f_X1_become_43, cI_t i5, show nI 1 = (1 : Int32) from rfl, if_true, show ¬ (1 : Int32) = 2 by decide, show ¬ (1 : Int32) = 0 by decide, if_false]
    rw [if_neg (by decide)] at hw
    rw [hw]; rfl
  · simp only [f_X1_become, ap, f_X1_become_25, f_X1_become_43, cI_t i5, show nI 2 = (2 : Int32) from rfl, if_true, show ¬ (2 : Int32) = 1 by decide, show ¬ (2 : Int32) = 0 by decide, if_false]
    rw [if_pos (by decide)] at hw
    rw [← hw]; rfl
  · simp only [f_X1_become, ap, f_X1_become_25, f_X1_become_43, cI_t i5, show nI 3 = (3 : Int32) from rfl, show ¬ (3 : Int32) = 1 by decide, show ¬ (3 : Int32) = 0 by decide, show ¬ (3 : Int32) = 2 by decide, if_false]
    rw [if_neg (by decide)] at hw
    rw [hw]; rfl
theorem find_137 {f : Nat} (hf : f < 7) (kk : Int32 → St → Option (Int32 × St)) : ∀ (fu k : Nat) (τ : St), k ≤ 7 → 7 - k < fu → ∃ τ', f_X8_find_137 kk fu (nI f) (nI k) τ = kk (nI f) τ' ∧ (∀ a, a ≠ 8 → τ'.1 a = τ.1 a) ∧ τ'.2 = τ.2 ∧ (∀ p, τ.1 8 p = 0 → τ'.1 8 p = 0) ∧ (∀ a b, a < 7 → b < 7 → ((a = f ∧ k ≤ b) ∨ (b = f ∧ k ≤ a)) → τ'.1 8 (7 * a + b) = 0) ∧ ∀ a b, a < 7 → b < 7 → a ≠ f → b ≠ f → τ'.1 8 (7 * a + b) = τ.1 8 (7 * a + b) := by
  intro fu
  induction fu with
  | zero => intro k τ _ h; omega
  | succ fu ih =>
    intro k τ hk hfu
    rw [f_X8_find_137]
    rcases Nat.lt_or_ge k 7 with q | q
    · have g : ¬ (7 : Int32) ≤ nI k := nI_ge (b := 7) q (by decide)
      have c1 := ix_nI (show 7 * f + k < 49 by omega) (by decide)
      have c2 := ix_nI (show 7 * k + f < 49 by omega) (by decide)
      have l1 := nI_clamp (show 7 * f + k < 2 ^ 31 by omega)
      have l2 := nI_clamp (show 7 * k + f < 2 ^ 31 by omega)
      obtain ⟨τ', r1, r2, r3, r4, r5, r6⟩ := ih (k + 1) (up1 (up1 τ 8 (7 * f + k) 0) 8 (7 * k + f) 0) (by omega) (by omega)
      have z : ∀ p, (p = 7 * f + k ∨ p = 7 * k + f ∨ τ.1 8 p = 0) → τ'.1 8 p = 0 := by
        intro p hp
        apply r4
        by_cases e1 : p = 7 * k + f
        · rw [e1, up1_eq]
        · rw [up1_ne (by omega)]
          by_cases e2 : p = 7 * f + k
          · rw [e2, up1_eq]
          · rw [up1_ne (by omega)]
            rcases hp with h | h | h
            · exact absurd h e2
            · exact absurd h e1
            · exact h
      refine ⟨τ', ?_, fun a ha => by rw [r2 a ha, up1_r ha, up1_r ha], r3, fun p hp => z p (Or.inr (Or.inr hp)), fun a b ha hb hab => ?_, fun a b ha hb h1 h2 => by rw [r6 a b ha hb h1 h2, up1_ne (by omega), up1_ne (by omega)]⟩
      · rw [if_neg g, mul7, cI_t c1, ap, l1, mul7, cI_t c2, ap, l2, nI_1]
        exact r1
      · rcases hab with ⟨h1, h2⟩ | ⟨h1, h2⟩
        · by_cases e : b = k
          · exact z _ (Or.inl (by rw [h1, e]))
          · exact r5 a b ha hb (Or.inl ⟨h1, by omega⟩)
        · by_cases e : a = k
          · exact z _ (Or.inr (Or.inl (by rw [h1, e])))
          · exact r5 a b ha hb (Or.inr ⟨h1, by omega⟩)
    · obtain rfl : k = 7 := by omega
      rw [if_pos (by decide)]
      exact ⟨τ, rfl, fun _ _ => rfl, rfl, fun _ h => h, fun a b ha hb h => by omega, fun _ _ _ _ _ _ => rfl⟩
theorem find_core {T : Tl} {σ τ : St} (H : RelT T σ τ) {kd w : Nat} {x2 : Int32} (hk : kd ≤ 3) (hw : (if kd = 2 then (0 : Int32) else x2) = nI w) (hw2 : w ≤ 2000) (hc : f_X7_isOfKind (nI kd) x2 σ = some (1, σ)) (hm : f_X8_find (nI kd) x2 τ = f_X8_find_45 (nI kd) x2 1 τ) : ∃ (r : Int32) (σ' τ' : St), f_X7_find (nI kd) x2 σ = some (r, σ') ∧ f_X8_find (nI kd) x2 τ = some (r, τ') ∧ Rel σ' τ' := by
  obtain ⟨⟨k1, k2⟩, k3, k4, k5, k6⟩ := H.2.1
  obtain ⟨⟨m1, m2⟩, m3, m4, m5, m6⟩ := H.2.2.1
  have hf := H.1.2.1
  rcases Nat.lt_or_ge (tf T) 7 with q | q
  · obtain ⟨f, hfe⟩ : ∃ f, f = tf T := ⟨_, rfl⟩
    rw [← hfe] at k2 m2 q
    have c1 : nI f < 7 := nI_lt (b := 7) q (by decide)
    have c2 : ¬ nI f = 7 := fun h => by have := nI_inj (b := 7) (by omega) (by decide) h; omega
    have ci := ix_nI q (by decide : (7 : Nat) < 2 ^ 31)
    have cl := nI_clamp (show f < 2 ^ 31 by omega)
    have c35 := ix_nI (show 5 * f < 35 by omega) (by decide)
    have l35 := nI_clamp (show 5 * f < 2 ^ 31 by omega)
    obtain ⟨σ1, hσ1⟩ : ∃ z, z = up1 (up1 (up1 (up1 (up1 σ (8 + 3 * f) 0 (nI kd)) (8 + 3 * f) 1 0) (8 + 3 * f) 2 (nI (acK kd))) (8 + 3 * f + 1) 0 (nI w)) (8 + 3 * f + 2) 0 0 := ⟨_, rfl⟩
    obtain ⟨τ1, hτ1⟩ : ∃ z, z = up1 (up1 (up1 (up1 (up1 τ 3 f (nI kd)) 4 f 0) 5 f (nI (acK kd))) 6 (5 * f) (nI w)) 7 (5 * f) 0 := ⟨_, rfl⟩
    have hb := become_eq (K := 8 + 3 * f) (kd := kd) (σ := σ) hk hw
    rw [← hσ1] at hb
    obtain ⟨τ2, r1, r2, r3, -, r5, r6⟩ := find_137 q f_X8_find_178 FU 0 τ1 (by omega) (by show 7 - 0 < 100000; omega)
    rw [nI_0] at r1
    have hmod : f_X8_find_45 (nI kd) x2 1 τ = (f_X8_find_137 f_X8_find_178 FU) (nI f) 0 τ1 := by
      rw [hτ1]
      rcases (show kd = 0 ∨ kd = 1 ∨ kd = 2 ∨ kd = 3 by omega) with rfl | rfl | rfl | rfl
      · rw [if_neg (by decide)] at hw
        simp only [f_X8_find_45, one_ne, if_false, m2, c2, cI_t ci, cl, ap, show nI 0 = (0 : Int32) from rfl, if_true, f_X8_find_99, f_X8_find_104, f_X8_find_123, show ¬ (0 : Int32) = 2 by decide, mul5', cI_t c35, l35, hw]
        rfl
      · rw [if_neg (by decide)] at hw
        simp only [f_X8_find_45, one_ne, if_false, m2, c2, cI_t ci, cl, ap, show nI 1 = (1 : Int32) from rfl, if_true, f_X8_find_99, f_X8_find_104, f_X8_find_123, show ¬ (1 : Int32) = 2 by decide, mul5', cI_t c35, l35, hw]
        rfl
      · rw [if_pos (by decide)] at hw
        simp only [f_X8_find_45, one_ne, if_false, m2, c2, cI_t ci, cl, ap, show nI 2 = (2 : Int32) from rfl, if_true, f_X8_find_104, f_X8_find_123, show ¬ (2 : Int32) = 0 by decide, show ¬ (2 : Int32) = 1 by decide, mul5', cI_t c35, l35]
        rw [← hw]; rfl
      · rw [if_neg (by decide)] at hw
        simp only [f_X8_find_45, one_ne, if_false, m2, c2, cI_t ci, cl, ap, show nI 3 = (3 : Int32) from rfl, f_X8_find_104, f_X8_find_123, show ¬ (3 : Int32) = 0 by decide, show ¬ (3 : Int32) = 1 by decide, show ¬ (3 : Int32) = 2 by decide, mul5', cI_t c35, l35, hw]
        rfl
    have x0 : τ2.1 0 3 = nI f := by rw [r2 0 (by omega), hτ1, up1_r (by omega), up1_r (by omega), up1_r (by omega), up1_r (by omega), up1_r (by omega)]; exact m2
    have s0 : ∀ a, (a ≠ 8 + 3 * f ∧ a ≠ 9 + 3 * f ∧ a ≠ 10 + 3 * f) → σ1.1 a = σ.1 a := fun a ha => by
      rw [hσ1, up1_r (by omega), up1_r (by omega), up1_r (by omega), up1_r (by omega), up1_r (by omega)]
    have t0 : ∀ a, (a < 3 ∨ 9 ≤ a) → τ2.1 a = τ.1 a := fun a ha => by
      rw [r2 a (by omega), hτ1, up1_r (by omega), up1_r (by omega), up1_r (by omega), up1_r (by omega), up1_r (by omega)]
    obtain ⟨T', hT⟩ : ∃ z : Tl, z = ((tn T, f + 1), T.2.1, T.2.2.1, fun k => if k = f then (kd, 0, acK kd) else T.2.2.2.1 k, fun k j => if k = f ∧ j = 0 then (w, 0) else T.2.2.2.2.1 k j, T.2.2.2.2.2) := ⟨_, rfl⟩
    have e1 : tn T' = tn T := by rw [hT]; rfl
    have e2 : tf T' = f + 1 := by rw [hT]; rfl
    have e3 : tc T' = tc T := by rw [hT]; rfl
    have e4 : tm T' = tm T := by rw [hT]; rfl
    have e5 : th T' = th T := by rw [hT]; rfl
    have tkE : tk T' f = kd := by rw [hT]; simp only [tk, if_true]
    have toE : to_ T' f = 0 := by rw [hT]; simp only [to_, if_true]
    have taE : ta T' f = acK kd := by rw [hT]; simp only [ta, if_true]
    have tgE : tg T' f 0 = w := by rw [hT]; simp only [tg, and_self, if_true]
    have tpE : tp T' f 0 = 0 := by rw [hT]; simp only [tp, and_self, if_true]
    have fo : ∀ k, k ≠ f → tk T' k = tk T k ∧ to_ T' k = to_ T k ∧ ta T' k = ta T k ∧ ∀ j, tg T' k j = tg T k j ∧ tp T' k j = tp T k j := fun k hk => by
      rw [hT]
      simp only [tk, to_, ta, tg, tp, hk, if_false, false_and, and_self, implies_true]
    have ack : acK kd = 0 ∨ acK kd = 1 := by unfold acK; by_cases h : kd ≤ 1 <;> simp [h]
    have j0 : ∀ j, (j = 0 ∨ j < ta T' f) → j = 0 := fun j hj => by rw [taE] at hj; omega
    refine ⟨nI f, up1 (up1 σ1 1 3 (nI (f + 1))) 0 10 0, up1 (up1 τ2 0 3 (nI (f + 1))) 0 10 0, ?_, ?_, T', ?_⟩
    · simp only [f_X7_find, hc, bS, one_ne, if_false, k2, c1, if_true, cI_t ci, cl, fl_id, hb, ap, nI_1]
    · rw [hm, hmod, r1]
      simp only [f_X8_find_178, ap, x0, nI_1]
    · refine RelT_fd H ⟨by rw [e1]; exact H.1.1, by rw [e2]; omega, by rw [e3]; exact H.1.2.2.1, by rw [e4]; exact H.1.2.2.2.1, fun k hk2 => ?_, by rw [e5]; exact H.1.2.2.2.2.2.1, fun a b hab => ?_⟩ ⟨⟨?_, ?_⟩, ?_, ?_, fun k hk2 => ?_, ?_⟩ ⟨⟨?_, ?_⟩, ?_, ?_, fun k hk2 => ?_, fun a b ha hb2 => ?_⟩ (fun a ha => ?_) (fun j hj => ?_) up1_eq (by rw [hσ1]; rfl) (fun j hj => ?_) up1_eq (fun a ha => ?_) (by show τ2.2 = τ.2; rw [r3, hτ1]; rfl)
      · by_cases e : k = f
        · subst e
          rw [tkE, toE, tpE]
          refine ⟨hk, by omega, by rw [taE]; omega, fun h => ?_, fun h => ?_, fun j hj => ?_, rfl⟩
          · rw [taE]; unfold acK; rw [if_pos h]; omega
          · rw [taE]; unfold acK; rw [if_neg (by omega)]
          · rw [j0 j hj, tgE, tpE]; omega
        · obtain ⟨g1, g2, g3, g4⟩ := fo k e
          rw [g1, g2, g3]
          obtain ⟨q1, q2, q3, q4, q5, q6, q7⟩ := H.1.2.2.2.2.1 k (by rw [e2] at hk2; omega)
          exact ⟨q1, q2, q3, q4, q5, fun j hj => by rw [(g4 j).1, (g4 j).2]; exact q6 j hj, by rw [(g4 0).2]; exact q7⟩
      · rw [e2] at hab
        rw [e5]
        exact H.1.2.2.2.2.2.2 a b (by omega)
      · rw [up1_r (by omega), up1_ne (by omega), s0 1 (by omega), e1]; exact k1
      · rw [up1_r (by omega), up1_eq, e2]
      · rw [up1_r (by omega), up1_r (by omega), s0 _ (by omega), e3]; exact k3
      · rw [up1_r (by omega), up1_r (by omega), s0 _ (by omega), e4]; exact k4
      · rw [e2] at hk2
        rw [up1_r (by omega), up1_r (by omega), up1_r (by omega), up1_r (by omega), up1_r (by omega), up1_r (by omega)]
        by_cases e : k = f
        · subst e
          unfold FindC
          rw [tkE, toE, taE, show 1 + 7 + 3 * k = 8 + 3 * k by omega, show 1 + 8 + 3 * k = 8 + 3 * k + 1 by omega, show 1 + 9 + 3 * k = 8 + 3 * k + 2 by omega, hσ1]
          refine ⟨?_, ?_, ?_, fun j hj => ?_⟩
          · rw [up1_r (by omega), up1_r (by omega), up1_ne (by omega), up1_ne (by omega), up1_eq]
          · rw [up1_r (by omega), up1_r (by omega), up1_ne (by omega), up1_eq]; rfl
          · rw [up1_r (by omega), up1_r (by omega), up1_eq]
          · rw [show j = 0 by omega, tgE, tpE]
            exact ⟨by rw [up1_r (by omega), up1_eq], by rw [up1_eq]; rfl⟩
        · rw [s0 _ (by omega), s0 _ (by omega), s0 _ (by omega)]
          have qq := k5 k (by omega)
          unfold FindC at qq ⊢
          obtain ⟨g1, g2, g3, g4⟩ := fo k e
          rw [g1, g2, g3]
          exact ⟨qq.1, qq.2.1, qq.2.2.1, fun j hj => by rw [(g4 j).1, (g4 j).2]; exact qq.2.2.2 j hj⟩
      · rw [up1_r (by omega), up1_r (by omega), up1_r (by omega), up1_r (by omega), s0 _ (by omega), s0 _ (by omega), e5]; exact k6
      · rw [up1_ne (by omega), up1_ne (by omega), t0 0 (by omega), e1]; exact m1
      · rw [up1_ne (by omega), up1_eq, e2]
      · rw [up1_r (by omega), up1_r (by omega), t0 1 (by omega), e3]; exact m3
      · rw [up1_r (by omega), up1_r (by omega), t0 2 (by omega), e4]; exact m4
      · rw [e2] at hk2
        have y3 : ∀ a, 3 ≤ a → a ≤ 7 → (up1 (up1 τ2 0 3 (nI (f + 1))) 0 10 0).1 a = τ1.1 a := fun a h1 h2 => by rw [up1_r (by omega), up1_r (by omega), r2 a (by omega)]
        unfold FindM
        rw [y3 3 (by omega) (by omega), y3 4 (by omega) (by omega), y3 5 (by omega) (by omega), y3 6 (by omega) (by omega), y3 7 (by omega) (by omega), hτ1]
        by_cases e : k = f
        · subst e
          rw [tkE, toE, taE]
          refine ⟨?_, ?_, ?_, fun j hj => ?_⟩
          · rw [up1_r (by omega), up1_r (by omega), up1_r (by omega), up1_r (by omega), up1_eq]
          · rw [up1_r (by omega), up1_r (by omega), up1_r (by omega), up1_eq]; rfl
          · rw [up1_r (by omega), up1_r (by omega), up1_eq]
          · rw [show j = 0 by omega, tgE, tpE, Nat.add_zero]
            exact ⟨by rw [up1_r (by omega), up1_eq], by rw [up1_eq]; rfl⟩
        · obtain ⟨g1, g2, g3, g4⟩ := fo k e
          have qq := m5 k (by omega)
          have q3 := (H.1.2.2.2.2.1 k (by omega)).2.2.1
          rw [g1, g2, g3]
          refine ⟨?_, ?_, ?_, fun j hj => ?_⟩
          · rw [up1_r (by omega), up1_r (by omega), up1_r (by omega), up1_r (by omega), up1_ne (by omega)]; exact qq.1
          · rw [up1_r (by omega), up1_r (by omega), up1_r (by omega), up1_ne (by omega), up1_r (by omega)]; exact qq.2.1
          · rw [up1_r (by omega), up1_r (by omega), up1_ne (by omega), up1_r (by omega), up1_r (by omega)]; exact qq.2.2.1
          · rw [(g4 j).1, (g4 j).2]
            exact ⟨by rw [up1_r (by omega), up1_ne (by omega), up1_r (by omega), up1_r (by omega), up1_r (by omega)]; exact (qq.2.2.2 j hj).1, by rw [up1_ne (by omega), up1_r (by omega), up1_r (by omega), up1_r (by omega), up1_r (by omega)]; exact (qq.2.2.2 j hj).2⟩
      · rw [e2] at ha hb2
        rw [up1_r (by omega), up1_r (by omega), e5]
        by_cases ea : a = f ∨ b = f
        · rw [r5 a b (by omega) (by omega) (by omega), H.1.2.2.2.2.2.2 a b (by omega)]; rfl
        · rw [r6 a b (by omega) (by omega) (by omega) (by omega), hτ1, up1_r (by omega), up1_r (by omega), up1_r (by omega), up1_r (by omega), up1_r (by omega)]
          exact m6 a b (by omega) (by omega)
      · rw [up1_r (by omega), up1_r (by omega), s0 a (by omega)]
      · rw [up1_ne (by omega), up1_r (by omega), s0 0 (by omega)]
      · rw [up1_ne (by omega), up1_ne (by omega), t0 0 (by omega)]
      · rw [up1_r (by omega), up1_r (by omega), t0 a (by omega)]
  · have hfe : tf T = 7 := by omega
    rw [hfe] at k2 m2
    refine ⟨-2, σ, τ, ?_, ?_, T, H⟩
    · simp only [f_X7_find, hc, bS, one_ne, if_false, k2, show ¬ nI 7 < (7 : Int32) by decide]
    · rw [hm]
      simp only [f_X8_find_45, one_ne, if_false, m2, show nI 7 = (7 : Int32) from rfl, if_true]
theorem find_bad {σ τ : St} {x1 x2 : Int32} (hR : Rel σ τ) (hc : f_X7_isOfKind x1 x2 σ = some (0, σ)) (hm : f_X8_find x1 x2 τ = f_X8_find_45 x1 x2 0 τ) : ∃ (r : Int32) (σ' τ' : St), f_X7_find x1 x2 σ = some (r, σ') ∧ f_X8_find x1 x2 τ = some (r, τ') ∧ Rel σ' τ' := by
  refine ⟨-2, σ, τ, ?_, ?_, hR⟩
  · simp only [f_X7_find, hc, bS, if_true]
  · rw [hm]
    simp only [f_X8_find_45, if_true]
theorem ag_find : Ag_find Rel := by
  rintro a0 a1 σ τ hR
  obtain ⟨T, H⟩ := id hR
  by_cases c0 : a0 = 0
  · subst c0
    rcases rng3 a1 0 2000 2001 0 2000 rfl rfl rfl (by decide) (by decide) with d1 | ⟨d1, d2, -⟩ | ⟨v, hv, rfl, d1, d2, -⟩
    · exact find_bad hR (by simp [f_X7_isOfKind, isAge_f σ (Or.inl d1), cI, zb]) (by simp [f_X8_find, f_X8_find_14, isIn_f τ (Or.inl d1), f_X8_find_25, f_X8_find_44])
    · exact find_bad hR (by simp [f_X7_isOfKind, isAge_f σ (Or.inr d2), cI, zb]) (by simp [f_X8_find, f_X8_find_14, isIn_f τ (Or.inr d2), f_X8_find_25, f_X8_find_44])
    · exact find_core (kd := 0) (w := v) H (by omega) rfl (by omega) (by simp [f_X7_isOfKind, nI_0, isAge_t σ d1 d2, cI, zb]) (by simp [f_X8_find, nI_0, f_X8_find_14, isIn_t τ d1 d2, f_X8_find_40])
  · by_cases c1 : a0 = 1
    · subst c1
      rcases rng3 a1 0 2000 2001 0 2000 rfl rfl rfl (by decide) (by decide) with d1 | ⟨d1, d2, -⟩ | ⟨v, hv, rfl, d1, d2, -⟩
      · exact find_bad hR (by simp [f_X7_isOfKind, isAge_f σ (Or.inl d1), cI, zb]) (by simp [f_X8_find, f_X8_find_14, isIn_f τ (Or.inl d1), f_X8_find_25, f_X8_find_44])
      · exact find_bad hR (by simp [f_X7_isOfKind, isAge_f σ (Or.inr d2), cI, zb]) (by simp [f_X8_find, f_X8_find_14, isIn_f τ (Or.inr d2), f_X8_find_25, f_X8_find_44])
      · exact find_core (kd := 1) (w := v) H (by omega) rfl (by omega) (by simp [f_X7_isOfKind, show nI 1 = (1 : Int32) from rfl, isAge_t σ d1 d2, cI, zb]) (by simp [f_X8_find, show nI 1 = (1 : Int32) from rfl, f_X8_find_14, isIn_t τ d1 d2, f_X8_find_40])
    · by_cases c2 : a0 = 2
      · subst c2
        exact find_core (kd := 2) (w := 0) H (by omega) rfl (by omega) (by simp [f_X7_isOfKind, show nI 2 = (2 : Int32) from rfl]) (by simp [f_X8_find, show nI 2 = (2 : Int32) from rfl, f_X8_find_40])
      · by_cases c3 : a0 = 3
        · subst c3
          rcases rng3 a1 0 39 40 0 39 rfl rfl rfl (by decide) (by decide) with d1 | ⟨d1, d2, d3, -⟩ | ⟨v, hv, rfl, d1, d2, d3, -⟩
          · exact find_bad hR (by simp [f_X7_isOfKind, d1]) (by simp [f_X8_find, f_X8_find_25, isIn_f τ (Or.inl d1), f_X8_find_44])
          · exact find_bad hR (by simp [f_X7_isOfKind, d1, d3]) (by simp [f_X8_find, f_X8_find_25, isIn_f τ (Or.inr d2), f_X8_find_44])
          · exact find_core (kd := 3) (w := v) H (by omega) rfl (by omega) (by simp [f_X7_isOfKind, show nI 3 = (3 : Int32) from rfl, d1, d3]) (by simp [f_X8_find, show nI 3 = (3 : Int32) from rfl, f_X8_find_25, isIn_t τ d1 d2, f_X8_find_40])
        · exact find_bad hR (by simp [f_X7_isOfKind, c0, c1, c2, c3]) (by simp [f_X8_find, c0, c1, c2, f_X8_find_25, c3, f_X8_find_44])
