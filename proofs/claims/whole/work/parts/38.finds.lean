theorem mul5 (s i : Nat) : (5 : Int32) * nI s + nI i = nI (5 * s + i) := by
  rw [show (5 : Int32) = nI 5 from rfl, pk_mul, nI_add]
theorem mul5' (s : Nat) : (5 : Int32) * nI s = nI (5 * s) := by
  rw [show (5 : Int32) = nI 5 from rfl, pk_mul]
/-- one find changes -/
theorem RelT_one {T T' : Tl} {σ σ' τ τ' : St} (H : RelT T σ τ) {i : Nat} (hi : i < tf T) (s1 : T'.1 = T.1) (s2 : T'.2.1 = T.2.1) (s3 : T'.2.2.1 = T.2.2.1) (s4 : T'.2.2.2.2.2 = T.2.2.2.2.2) (s5 : ∀ k, k ≠ i → T'.2.2.2.1 k = T.2.2.2.1 k) (s6 : ∀ k j, k ≠ i → T'.2.2.2.2.1 k j = T.2.2.2.2.1 k j) (ok : tk T' i ≤ 3 ∧ to_ T' i ≤ 9 ∧ ta T' i ≤ 5 ∧ (tk T' i ≤ 1 → 1 ≤ ta T' i) ∧ (2 ≤ tk T' i → ta T' i = 0) ∧ (∀ j, (j = 0 ∨ j < ta T' i) → tg T' i j ≤ 2000 ∧ tp T' i j ≤ 39) ∧ tp T' i 0 = 0) (rows : ∀ a, a ≠ 8 + 3 * i → a ≠ 9 + 3 * i → a ≠ 10 + 3 * i → σ'.1 a = σ.1 a) (hC : FindC (σ'.1 (8 + 3 * i)) (σ'.1 (9 + 3 * i)) (σ'.1 (10 + 3 * i)) T' i) (c2 : σ'.2 = σ.2) (mr : ∀ a, (a < 3 ∨ 8 ≤ a) → τ'.1 a = τ.1 a) (mo : ∀ k, k ≠ i → τ'.1 3 k = τ.1 3 k ∧ τ'.1 4 k = τ.1 4 k ∧ τ'.1 5 k = τ.1 5 k ∧ ∀ j, j < 5 → τ'.1 6 (5 * k + j) = τ.1 6 (5 * k + j) ∧ τ'.1 7 (5 * k + j) = τ.1 7 (5 * k + j)) (hM : FindM τ'.1 T' i) (m2 : τ'.2 = τ.2) : RelT T' σ' τ' := by
  have hf := H.1.2.1
  obtain ⟨⟨k1, k2⟩, k3, k4, k5, k6⟩ := H.2.1
  obtain ⟨⟨m1, m2'⟩, m3, m4, m5, m6⟩ := H.2.2.1
  have e1 : tn T' = tn T := by unfold tn; rw [s1]
  have e2 : tf T' = tf T := by unfold tf; rw [s1]
  have e3 : tc T' = tc T := s2
  have e4 : tm T' = tm T := s3
  have e5 : th T' = th T := s4
  have f1 : ∀ k, k ≠ i → tk T' k = tk T k ∧ to_ T' k = to_ T k ∧ ta T' k = ta T k := fun k hk => by unfold tk to_ ta; rw [s5 k hk]; exact ⟨rfl, rfl, rfl⟩
  have f2 : ∀ k j, k ≠ i → tg T' k j = tg T k j ∧ tp T' k j = tp T k j := fun k j hk => by unfold tg tp; rw [s6 k j hk]; exact ⟨rfl, rfl⟩
  refine RelT_tel H ⟨by rw [e1]; exact H.1.1, by rw [e2]; exact hf, by rw [e3]; exact H.1.2.2.1, by rw [e4]; exact H.1.2.2.2.1, fun k hk => ?_, by rw [e5]; exact H.1.2.2.2.2.2.1, by rw [e2, e5]; exact H.1.2.2.2.2.2.2⟩ ⟨⟨by rw [rows _ (by omega) (by omega) (by omega), e1]; exact k1, by rw [rows _ (by omega) (by omega) (by omega), e2]; exact k2⟩, by rw [rows _ (by omega) (by omega) (by omega), e3]; exact k3, by rw [rows _ (by omega) (by omega) (by omega), e4]; exact k4, fun k hk => ?_, by rw [rows _ (by omega) (by omega) (by omega), rows _ (by omega) (by omega) (by omega), e5]; exact k6⟩ ⟨⟨by rw [mr 0 (by omega), e1]; exact m1, by rw [mr 0 (by omega), e2]; exact m2'⟩, by rw [mr 1 (by omega), e3]; exact m3, by rw [mr 2 (by omega), e4]; exact m4, fun k hk => ?_, fun a b ha hb => by rw [mr 8 (by omega), e5]; exact m6 a b (by rw [← e2]; exact ha) (by rw [← e2]; exact hb)⟩ e2 (fun a ha => rows a (by omega) (by omega) (by omega)) c2 (fun j hj => by rw [mr 0 (by omega)]) (fun a ha => mr a (by omega)) m2
  · by_cases e : k = i
    · subst e; exact ok
    · obtain ⟨g1, g2, g3⟩ := f1 k e
      rw [g1, g2, g3]
      obtain ⟨q1, q2, q3, q4, q5, q6, q7⟩ := H.1.2.2.2.2.1 k (by rw [← e2]; exact hk)
      exact ⟨q1, q2, q3, q4, q5, fun j hj => by rw [(f2 k j e).1, (f2 k j e).2]; exact q6 j hj, by rw [(f2 k 0 e).2]; exact q7⟩
  · by_cases e : k = i
    · subst e
      rw [show 1 + 7 + 3 * k = 8 + 3 * k by omega, show 1 + 8 + 3 * k = 9 + 3 * k by omega, show 1 + 9 + 3 * k = 10 + 3 * k by omega]
      exact hC
    · rw [rows _ (by omega) (by omega) (by omega), rows _ (by omega) (by omega) (by omega), rows _ (by omega) (by omega) (by omega)]
      have q := k5 k (by rw [← e2]; exact hk)
      unfold FindC at q ⊢
      obtain ⟨g1, g2, g3⟩ := f1 k e
      rw [g1, g2, g3]
      exact ⟨q.1, q.2.1, q.2.2.1, fun j hj => by rw [(f2 k j e).1, (f2 k j e).2]; exact q.2.2.2 j hj⟩
  · by_cases e : k = i
    · subst e; exact hM
    · have hk' : k < tf T := by rw [← e2]; exact hk
      have q := m5 k hk'
      have q3 := (H.1.2.2.2.2.1 k hk').2.2.1
      unfold FindM at q ⊢
      obtain ⟨g1, g2, g3⟩ := f1 k e
      obtain ⟨n1, n2, n3, n4⟩ := mo k e
      rw [g1, g2, g3, n1, n2, n3]
      exact ⟨q.1, q.2.1, q.2.2.1, fun j hj => by rw [(f2 k j e).1, (f2 k j e).2, (n4 j (by omega)).1, (n4 j (by omega)).2]; exact q.2.2.2 j hj⟩
theorem ag_ring : Ag_ring Rel := by
  rintro a0 a1 a2 σ τ ⟨T, H⟩
  rcases isFind_c (x := a0) H.1.2.1 H.2.1.1.2 H.2.2.1.1.2 with ⟨e1, e2⟩ | ⟨i, hi, rfl, e1, e2⟩
  · exact ⟨-2, σ, τ, by simp [f_X7_ring, e1], by simp [f_X8_ring, e2], T, H⟩
  · rcases rng3 a1 0 2000 2001 0 2000 rfl rfl rfl (by decide) (by decide) with d1 | ⟨d1, d2, -⟩ | ⟨v, hv, rfl, d1, d2, -⟩
    · exact ⟨-2, σ, τ, by simp [f_X7_ring, e1, isAge_f σ (Or.inl d1)], by simp [f_X8_ring, e2, isIn_f τ (Or.inl d1)], T, H⟩
    · exact ⟨-2, σ, τ, by simp [f_X7_ring, e1, isAge_f σ (Or.inr d2)], by simp [f_X8_ring, e2, isIn_f τ (Or.inr d2)], T, H⟩
    · rcases rng3 a2 0 39 40 0 39 rfl rfl rfl (by decide) (by decide) with g1 | ⟨g1, g2, g3, g4, g5⟩ | ⟨g, hg, rfl, g1, g2, g3, g4, g5⟩
      · exact ⟨-2, σ, τ, by simp [f_X7_ring, e1, isAge_t σ d1 d2, g1], by simp [f_X8_ring, e2, isIn_t τ d1 d2, isIn_f τ (Or.inl g1)], T, H⟩
      · exact ⟨-2, σ, τ, by simp [f_X7_ring, e1, isAge_t σ d1 d2, g1, g5], by simp [f_X8_ring, e2, isIn_t τ d1 d2, isIn_f τ (Or.inr g2)], T, H⟩
      · have hi7 : i < 7 := Nat.lt_of_lt_of_le hi H.1.2.1
        have hf := H.1.2.1
        have cl := nI_clamp (show i < 2 ^ 31 by omega)
        have ci := ix_nI hi7 (by decide)
        obtain ⟨⟨k1, k2⟩, k3, k4, k5, k6⟩ := H.2.1
        obtain ⟨⟨m1, m2⟩, m3, m4, m5, m6⟩ := H.2.2.1
        obtain ⟨p0, p1, p2, p3⟩ := k5 i hi
        rw [show 1 + 7 + 3 * i = 8 + 3 * i by omega] at p0 p1 p2
        obtain ⟨r0, r1, r2, r3⟩ := m5 i hi
        obtain ⟨o0, o1, o2, o3, o4, o5, o6⟩ := H.1.2.2.2.2.1 i hi
        by_cases hk1 : tk T i = 1
        · rw [hk1] at p0 r0
          have s0 : σ.1 (8 + 3 * i) 0 = 1 := p0
          have t0 : τ.1 3 i = 1 := r0
          rcases Nat.lt_or_ge (ta T i) 5 with ha | ha
          · have c5 : nI (ta T i) < 5 := nI_lt (b := 5) ha (by decide)
            have c5' : ¬ (5 : Int32) ≤ nI (ta T i) := nI_ge (b := 5) ha (by decide)
            have c5'' : ¬ nI (ta T i) = 5 := fun q => by have := nI_inj (b := 5) (by omega) (by decide) q; omega
            have cla := nI_clamp (show ta T i < 2 ^ 31 by omega)
            have cia := ix_nI ha (by decide : (5 : Nat) < 2 ^ 31)
            have ci35 := ix_nI (show 5 * i + ta T i < 35 by omega) (by decide)
            have cl35 := nI_clamp (show 5 * i + ta T i < 2 ^ 31 by omega)
            obtain ⟨σ', hσ⟩ : ∃ z, z = up1 (up1 (up1 σ (8 + 3 * i + 1) (ta T i) (nI v)) (8 + 3 * i + 2) (ta T i) (nI g)) (8 + 3 * i) 2 (nI (ta T i + 1)) := ⟨_, rfl⟩
            obtain ⟨τ', hτ⟩ : ∃ z, z = up1 (up1 (up1 τ 6 (5 * i + ta T i) (nI v)) 7 (5 * i + ta T i) (nI g)) 5 i (nI (ta T i + 1)) := ⟨_, rfl⟩
            have u1 : (up1 σ (8 + 3 * i + 1) (ta T i) (nI v)).1 (8 + 3 * i) 2 = nI (ta T i) := by rw [up1_r (by omega)]; exact p2
            have u2 : (up1 (up1 σ (8 + 3 * i + 1) (ta T i) (nI v)) (8 + 3 * i + 2) (ta T i) (nI g)).1 (8 + 3 * i) 2 = nI (ta T i) := by rw [up1_r (by omega), up1_r (by omega)]; exact p2
            have w1 : (up1 τ 6 (5 * i + ta T i) (nI v)).1 5 i = nI (ta T i) := by rw [up1_r (by omega)]; exact r2
            have w2 : (up1 (up1 τ 6 (5 * i + ta T i) (nI v)) 7 (5 * i + ta T i) (nI g)).1 5 i = nI (ta T i) := by rw [up1_r (by omega), up1_r (by omega)]; exact r2
            have hadd : f_X1_addAge (8 + 3 * i) (nI v) (nI g) σ = some σ' := by
              simp only [f_X1_addAge, p2, c5', if_false, cI_t cia, cla, ap, u1, u2, nI_1]
              rw [hσ]
            obtain ⟨T', hT⟩ : ∃ z : Tl, z = ((T.1, T.2.1, T.2.2.1, fun k => if k = i then (tk T i, to_ T i, ta T i + 1) else T.2.2.2.1 k, fun k j => if k = i ∧ j = ta T i then (v, g) else T.2.2.2.2.1 k j, T.2.2.2.2.2) : Tl) := ⟨_, rfl⟩
            refine ⟨nI (ta T i + 1), σ', τ', ?_, ?_, T', ?_⟩
            · simp only [f_X7_ring, e1, bS, one_ne, if_false, isAge_t σ d1 d2, g1, g5, if_true, cI_t ci, cl, fl_id, s0, p2, c5, hadd]
              rw [hσ, up1_eq]
            · simp only [f_X8_ring, e2, bS, one_ne, if_false, isIn_t τ d1 d2, isIn_t τ g1 g2, cI_t ci, cl, t0, if_true, r2, c5'', mul5, cI_t ci35, cl35, ap, w1, w2, nI_1]
              rw [← hτ]
              rw [hτ, up1_eq]
            · subst hσ; subst hτ
              have o3' := o3 (by omega)
              have tkE : tk T' i = 1 := by rw [hT]; simp only [tk, if_true]; exact hk1
              have toE : to_ T' i = to_ T i := by rw [hT]; simp only [to_, if_true]
              have taE : ta T' i = ta T i + 1 := by rw [hT]; simp only [ta, if_true]
              have tgE : ∀ j, tg T' i j = if j = ta T i then v else tg T i j := fun j => by
                rw [hT]
                by_cases e : j = ta T i
                · simp only [tg, e, and_self, if_true]
                · simp only [tg, e, and_false, if_false]
              have tpE : ∀ j, tp T' i j = if j = ta T i then g else tp T i j := fun j => by
                rw [hT]
                by_cases e : j = ta T i
                · simp only [tp, e, and_self, if_true]
                · simp only [tp, e, and_false, if_false]
              have z9 : (up1 (up1 (up1 σ (8 + 3 * i + 1) (ta T i) (nI v)) (8 + 3 * i + 2) (ta T i) (nI g)) (8 + 3 * i) 2 (nI (ta T i + 1))).1 (9 + 3 * i) = upd (σ.1 (9 + 3 * i)) (ta T i) (nI v) := by rw [up1_r (by omega), up1_r (by omega), show 8 + 3 * i + 1 = 9 + 3 * i by omega, up1_row]
              have z10 : (up1 (up1 (up1 σ (8 + 3 * i + 1) (ta T i) (nI v)) (8 + 3 * i + 2) (ta T i) (nI g)) (8 + 3 * i) 2 (nI (ta T i + 1))).1 (10 + 3 * i) = upd (σ.1 (10 + 3 * i)) (ta T i) (nI g) := by rw [up1_r (by omega), show 8 + 3 * i + 2 = 10 + 3 * i by omega, up1_row, up1_r (by omega)]
              refine RelT_one H hi (by rw [hT]) (by rw [hT]) (by rw [hT]) (by rw [hT]) (fun k hk => by rw [hT]; simp only [hk, if_false]) (fun k j hk => by rw [hT]; simp only [hk, false_and, if_false]) ?_ (fun a h1 h2 h3 => by rw [up1_r h1, up1_r (by omega), up1_r (by omega)]) ?_ rfl (fun a ha => by rw [up1_r (by omega), up1_r (by omega), up1_r (by omega)]) (fun k hk => ⟨by rw [up1_r (by omega), up1_r (by omega), up1_r (by omega)], by rw [up1_r (by omega), up1_r (by omega), up1_r (by omega)], by rw [up1_ne (by omega), up1_r (by omega), up1_r (by omega)], fun j hj => ⟨by rw [up1_r (by omega), up1_r (by omega), up1_ne (by omega)], by rw [up1_r (by omega), up1_ne (by omega), up1_r (by omega)]⟩⟩) ?_ rfl
              · rw [tkE, toE, taE]
                refine ⟨by omega, o1, by omega, fun _ => by omega, fun q => by omega, fun j hj => ?_, ?_⟩
                · rw [tgE, tpE]
                  by_cases e : j = ta T i
                  · rw [if_pos e, if_pos e]; omega
                  · rw [if_neg e, if_neg e]; exact o5 j (by omega)
                · rw [tpE, if_neg (by omega)]; exact o6
              · unfold FindC
                rw [tkE, toE, taE, z9, z10]
                refine ⟨by rw [up1_ne (by omega), up1_r (by omega), up1_r (by omega), s0]; rfl, by rw [up1_ne (by omega), up1_r (by omega), up1_r (by omega)]; exact p1, up1_eq, fun j hj => ?_⟩
                rw [tgE, tpE]
                unfold upd
                by_cases e : j = ta T i
                · rw [if_pos e, if_pos e, if_pos e, if_pos e]; exact ⟨rfl, rfl⟩
                · rw [if_neg e, if_neg e, if_neg e, if_neg e]
                  have q := p3 j (by omega)
                  rw [show 1 + 8 + 3 * i = 9 + 3 * i by omega, show 1 + 9 + 3 * i = 10 + 3 * i by omega] at q
                  exact q
              · unfold FindM
                rw [tkE, toE, taE]
                refine ⟨by rw [up1_r (by omega), up1_r (by omega), up1_r (by omega), t0]; rfl, by rw [up1_r (by omega), up1_r (by omega), up1_r (by omega)]; exact r1, up1_eq, fun j hj => ?_⟩
                rw [tgE, tpE]
                by_cases e : j = ta T i
                · rw [if_pos e, if_pos e, e]
                  exact ⟨by rw [up1_r (by omega), up1_r (by omega)]; exact up1_eq, by rw [up1_r (by omega)]; exact up1_eq⟩
                · rw [if_neg e, if_neg e]
                  have q := r3 j (by omega)
                  exact ⟨by rw [up1_r (by omega), up1_r (by omega), up1_ne (by omega)]; exact q.1, by rw [up1_r (by omega), up1_ne (by omega), up1_r (by omega)]; exact q.2⟩
          · have hae : ta T i = 5 := by omega
            rw [hae] at p2 r2
            refine ⟨-2, σ, τ, ?_, ?_, T, H⟩
            · simp only [f_X7_ring, e1, bS, one_ne, if_false, isAge_t σ d1 d2, g1, g5, if_true, cI_t ci, cl, fl_id, s0, p2, show ¬ nI 5 < (5 : Int32) by decide]
            · simp only [f_X8_ring, e2, bS, one_ne, if_false, isIn_t τ d1 d2, isIn_t τ g1 g2, cI_t ci, cl, t0, if_true, r2, show nI 5 = (5 : Int32) from rfl]
        · have s0 : ¬ σ.1 (8 + 3 * i) 0 = 1 := by rw [p0]; exact fun q => hk1 (nI_inj (b := 1) (by omega) (by decide) q)
          have t0 : ¬ τ.1 3 i = 1 := by rw [r0]; exact fun q => hk1 (nI_inj (b := 1) (by omega) (by decide) q)
          refine ⟨-12, _, _, ?_, ?_, T, RelT_host H⟩
          · simp only [f_X7_ring, e1, bS, one_ne, if_false, isAge_t σ d1 d2, g1, g5, if_true, cI_t ci, cl, fl_id, s0, host_eq]
          · simp only [f_X8_ring, e2, bS, one_ne, if_false, isIn_t τ d1 d2, isIn_t τ g1 g2, cI_t ci, cl, t0, meet_eq]
