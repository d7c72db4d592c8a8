theorem clampI (v : Int32) : ∃ c : Nat, c ≤ 2000 ∧ imax 0 (imin 2000 v) = nI c ∧ ((v < 0 ∧ c = 0) ∨ (¬ v < 0 ∧ 2000 < v ∧ c = 2000) ∨ (¬ v < 0 ∧ ¬ 2000 < v ∧ v = nI c)) := by
  rcases rng3 v 0 2000 2001 0 2000 rfl rfl rfl (by decide) (by decide) with c1 | ⟨c1, c2, -⟩ | ⟨j, hj, rfl, c1, c2, c3, c4, -⟩
  · refine ⟨0, by omega, ?_, Or.inl ⟨c1, rfl⟩⟩
    have h1 : v < 2000 := by rw [I_lt] at c1 ⊢; have : (0 : Int32).toInt = 0 := rfl; have : (2000 : Int32).toInt = 2000 := rfl; omega
    have h2 : ¬ 0 < v := by rw [I_lt] at c1 ⊢; omega
    rw [imin, if_pos h1, imax, if_neg h2]; rfl
  · refine ⟨2000, by omega, ?_, Or.inr (Or.inl ⟨c1, c2, rfl⟩)⟩
    have h1 : ¬ v < 2000 := by rw [I_lt] at c2 ⊢; omega
    rw [imin, if_neg h1, imax, if_pos (by decide)]; rfl
  · refine ⟨j, by omega, ?_, Or.inr (Or.inr ⟨c1, c2, rfl⟩)⟩
    have hm : imin 2000 (nI j) = nI j := by
      unfold imin
      rcases Nat.lt_or_ge j 2000 with q | q
      · exact if_pos (nI_lt (b := 2000) q (by decide))
      · obtain rfl : j = 2000 := by omega
        rw [if_neg (by decide)]; rfl
    rw [hm]
    unfold imax
    rcases Nat.eq_zero_or_pos j with q | q
    · subst q; rw [if_neg (by decide)]; rfl
    · exact if_pos (nI_lt (a := 0) q (by omega))
theorem lay_loop (s i0 y0 N len : Nat) (hs : s < 4) (hlen : len ≤ 60) (hi0 : i0 + N ≤ len) (hy : y0 + N ≤ 40) : ∀ (fu m k : Nat) (σ τ : St) (T : Tl) (out : Int32), RelT T σ τ → σ.1 (83 + 2 * s) 0 = 1 → σ.1 (83 + 2 * s) 2 = nI len → k + m = N → m < fu → ∃ (r : Int32) (σ' τ' : St) (T' : Tl), f_X7_lay_115 fu (nI i0) (nI y0) (nI N) (83 + 2 * s) out (nI k) σ = some (r, σ') ∧ f_X8_lay_112 fu (nI s) (nI i0) (nI y0) (nI N) out (nI k) τ = some (r, τ') ∧ RelT T' σ' τ' := by
  intro fu
  induction fu with
  | zero => intro m k σ τ T out _ _ _ _ h; omega
  | succ fu ih =>
    intro m k σ τ T out H h1 h2 hk hm
    rw [f_X7_lay_115, f_X8_lay_112]
    rcases Nat.lt_or_ge k N with q | q
    · have hsn : ∀ i, i < len → σ.1 (84 + 2 * s) i = τ.1 13 (60 * s + i) := by
        rcases H.2.2.2.2.1 s hs with ⟨q1, -⟩ | ⟨-, -, n, n1, n2, -, n4⟩
        · rw [h1] at q1; exact absurd q1 (by decide)
        · rw [h2] at n2
          have := nI_inj (by omega) (by omega) n2
          subst this
          exact n4
      have hv : σ.1 (83 + 2 * s + 1) (i0 + k) = τ.1 13 (60 * s + i0 + k) := by
        rw [show 83 + 2 * s + 1 = 84 + 2 * s by omega, show 60 * s + i0 + k = 60 * s + (i0 + k) by omega]
        exact hsn (i0 + k) (by omega)
      obtain ⟨c, c1, c2, c3⟩ := clampI (τ.1 13 (60 * s + i0 + k))
      have g1 : ¬ nI N ≤ nI k := nI_ge q (by omega)
      have cont : ∀ out' : Int32, ∃ (r : Int32) (σ' τ' : St) (T' : Tl), f_X7_lay_115 fu (nI i0) (nI y0) (nI N) (83 + 2 * s) out' (nI (k + 1)) (up1 σ 2 (y0 + k) (nI c)) = some (r, σ') ∧ f_X8_lay_112 fu (nI s) (nI i0) (nI y0) (nI N) out' (nI (k + 1)) (up1 τ 1 (y0 + k) (nI c)) = some (r, τ') ∧ RelT T' σ' τ' := fun out' =>
        ih (m - 1) (k + 1) _ _ _ out' (RelT_cv H (by omega) c1) (by rw [up1_r (by omega)]; exact h1) (by rw [up1_r (by omega)]; exact h2) (by omega) (by omega)
      have a1 := ix_nI (show i0 + k < 60 by omega) (by decide)
      have a2 := nI_clamp (show i0 + k < 2 ^ 31 by omega)
      have a3 := ix_nI (show y0 + k < 40 by omega) (by decide)
      have a4 := nI_clamp (show y0 + k < 2 ^ 31 by omega)
      have a5 := ix_nI (show 60 * s + i0 + k < 240 by omega) (by decide)
      have a6 := nI_clamp (show 60 * s + i0 + k < 2 ^ 31 by omega)
      simp only [g1, if_false, nI_add, cI_t a1, a2, ap, hv, mul60, cI_t a5, a6]
      rcases c3 with ⟨d1, rfl⟩ | ⟨d1, d2, rfl⟩ | ⟨d1, d2, d3⟩
      · have d4 : ¬ (0 : Int32) ≤ τ.1 13 (60 * s + i0 + k) := by rw [I_lt] at d1; rw [I_le]; omega
        simp only [isAge_f σ (Or.inl d1), bS, if_true, d1, f_X7_lay_145, f_X8_lay_150, f_X8_lay_155, f_X8_lay_192, d4, if_false, nI_add, cI_t a3, a4, ap, c2, nI_1]
        exact cont (out + 1)
      · have d4 : (0 : Int32) ≤ τ.1 13 (60 * s + i0 + k) := by rw [I_lt] at d1; rw [I_le]; omega
        have d5 : ¬ τ.1 13 (60 * s + i0 + k) ≤ 2000 := by rw [I_lt] at d2; rw [I_le]; omega
        simp only [isAge_f σ (Or.inr d2), bS, if_true, d1, f_X7_lay_145, f_X8_lay_150, f_X8_lay_155, f_X8_lay_192, d4, d5, if_false, nI_add, cI_t a3, a4, ap, c2, nI_1]
        exact cont (out + 1)
      · have d4 : (0 : Int32) ≤ τ.1 13 (60 * s + i0 + k) := by rw [I_lt] at d1; rw [I_le]; omega
        have d5 : τ.1 13 (60 * s + i0 + k) ≤ 2000 := by rw [I_lt] at d2; rw [I_le]; omega
        simp only [isAge_t σ d1 d2, bS, one_ne, if_false, d1, f_X7_lay_145, f_X8_lay_155, f_X8_lay_192, d4, d5, if_true, nI_add, cI_t a3, a4, ap, c2, nI_1, Int32.add_zero]
        rw [d3]
        exact cont out
    · obtain rfl : k = N := by omega
      have g1 : nI k ≤ nI k := by rw [I_le]; omega
      simp only [g1, if_true]
      exact ⟨out, σ, τ, T, rfl, rfl, H⟩
theorem ag_lay : Ag_lay Rel := by
  rintro a0 a1 a2 a3 a4 σ τ ⟨T, H⟩
  rcases isSheet_c a0 σ τ with ⟨e1, e2⟩ | ⟨s, hs, rfl, e1, e2⟩
  · exact ⟨-2, σ, τ, by simp [f_X7_lay, e1], by simp [f_X8_lay, e2], T, H⟩
  · rcases rng3 a1 0 3 4 0 3 rfl rfl rfl (by decide) (by decide) with d1 | ⟨d1, d2, -⟩ | ⟨w, hw, rfl, d1, d2, -⟩
    · exact ⟨-2, σ, τ, by simp [f_X7_lay, e1, isSort_f σ (Or.inl d1)], by simp [f_X8_lay, e2, isIn_f τ (Or.inl d1)], T, H⟩
    · exact ⟨-2, σ, τ, by simp [f_X7_lay, e1, isSort_f σ (Or.inr d2)], by simp [f_X8_lay, e2, isIn_f τ (Or.inr d2)], T, H⟩
    · rcases rng3 a3 0 39 40 0 39 rfl rfl rfl (by decide) (by decide) with y1 | ⟨y1, y2, y3, y4, y5⟩ | ⟨y0, hy, rfl, y1, y2, y3, y4, y5⟩
      · exact ⟨-2, σ, τ, by simp [f_X7_lay, e1, isSort_t σ d1 d2, y1], by simp [f_X8_lay, e2, isIn_t τ d1 d2, isIn_f τ (Or.inl y1)], T, H⟩
      · exact ⟨-2, σ, τ, by simp [f_X7_lay, e1, isSort_t σ d1 d2, y1, y5], by simp [f_X8_lay, e2, isIn_t τ d1 d2, isIn_f τ (Or.inr y2)], T, H⟩
      · have hsub : (40 : Int32) - nI y0 = nI (40 - y0) := pk_sub (a := 40) (by omega)
        rcases rng3 a4 0 (nI (40 - y0)) (nI (40 - y0 + 1)) 0 (40 - y0) rfl rfl rfl (by omega) (by omega) with n1 | ⟨n1, n2, n3, n4, -⟩ | ⟨N, hN, rfl, n1, n2, n3, n4, -⟩
        · exact ⟨-2, σ, τ, by simp [f_X7_lay, e1, isSort_t σ d1 d2, y1, y5, n1], by simp [f_X8_lay, e2, isIn_t τ d1 d2, isIn_t τ y1 y2, isIn_f τ (Or.inl n1)], T, H⟩
        · exact ⟨-2, σ, τ, by simp [f_X7_lay, e1, isSort_t σ d1 d2, y1, y5, n1, hsub, n4], by simp [f_X8_lay, e2, isIn_t τ d1 d2, isIn_t τ y1 y2, hsub, isIn_f τ (Or.inr n2)], T, H⟩
        · have cl := nI_clamp (show s < 2 ^ 31 by omega)
          have ci := ix_nI hs (by decide)
          rcases H.2.2.2.2.1 s hs with ⟨q1, q2⟩ | ⟨q1, ⟨w', hw', w1, w2⟩, n, q3, q4, q5, q6⟩
          · refine ⟨-10, _, _, ?_, ?_, T, RelT_host H⟩
            · simp only [f_X7_lay, e1, bS, one_ne, if_false, isSort_t σ d1 d2, y1, y5, n1, hsub, n4, if_true, cI_t ci, cl, sh_id, q1, host_eq]
            · simp only [f_X8_lay, e2, bS, one_ne, if_false, isIn_t τ d1 d2, isIn_t τ y1 y2, hsub, isIn_t τ n1 n2, cI_t ci, cl, q2, show ¬ (0 : Int32) ≤ -1 by decide, meet_eq]
          · have g0 : (0 : Int32) ≤ nI n := nI_pos' (by omega)
            by_cases hww : w' = w
            · subst hww
              have fin : ∀ (i : Int32), (∃ (r : Int32) (σ' τ' : St) (T' : Tl), f_X7_lay_115 FU i (nI y0) (nI N) (83 + 2 * s) 0 0 σ = some (r, σ') ∧ f_X8_lay_112 FU (nI s) i (nI y0) (nI N) 0 0 τ = some (r, τ') ∧ RelT T' σ' τ') → (nI N ≤ 0 ∨ (¬ nI N ≤ 0 ∧ f_X3_hasFrom (83 + 2 * s) i (nI N) σ = some (1, σ) ∧ ¬ i < 0 ∧ i ≤ nI n - nI N)) → ∃ (r : Int32) (σ' τ' : St), f_X7_lay (nI s) (nI w') i (nI y0) (nI N) σ = some (r, σ') ∧ f_X8_lay (nI s) (nI w') i (nI y0) (nI N) τ = some (r, τ') ∧ Rel σ' τ' := by
                rintro i ⟨r, σ', τ', T', r1, r2, r3⟩ hz
                refine ⟨r, σ', τ', ?_, ?_, T', r3⟩
                · rcases hz with hz | ⟨hz, z1, z2, z3⟩
                  · simp only [f_X7_lay, e1, bS, one_ne, if_false, isSort_t σ d1 d2, y1, y5, n1, hsub, n4, if_true, cI_t ci, cl, sh_id, q1, w1, hz, f_X7_lay_109]
                    exact r1
                  · simp only [f_X7_lay, e1, bS, one_ne, if_false, isSort_t σ d1 d2, y1, y5, n1, hsub, n4, if_true, cI_t ci, cl, sh_id, q1, w1, hz, z1, f_X7_lay_109]
                    exact r1
                · rcases hz with hz | ⟨hz, z1, z2, z3⟩
                  · simp only [f_X8_lay, e2, bS, one_ne, if_false, isIn_t τ d1 d2, isIn_t τ y1 y2, hsub, isIn_t τ n1 n2, cI_t ci, cl, q5, g0, w2, if_true, hz, f_X8_lay_106]
                    exact r2
                  · simp only [f_X8_lay, e2, bS, one_ne, if_false, isIn_t τ d1 d2, isIn_t τ y1 y2, hsub, isIn_t τ n1 n2, cI_t ci, cl, q5, g0, w2, if_true, hz, z2, z3, f_X8_lay_106]
                    exact r2
              rcases Nat.eq_zero_or_pos N with hN0 | hN0
              · subst hN0
                refine fin a2 ⟨0, σ, τ, T, ?_, ?_, H⟩ (Or.inl (by decide))
                · rw [show FU = 99999 + 1 from rfl, f_X7_lay_115, if_pos (by decide)]
                · rw [show FU = 99999 + 1 from rfl, f_X8_lay_112, if_pos (by decide)]
              · have hNp : ¬ nI N ≤ 0 := nI_nle hN0 (by omega)
                have sub := pk_sub_toInt (a := n) (b := N) (by omega) (by omega)
                have out : (a2 < 0 ∨ (¬ a2 < 0 ∧ nI n - nI N < a2)) → ∃ (r : Int32) (σ' τ' : St), f_X7_lay (nI s) (nI w') a2 (nI y0) (nI N) σ = some (r, σ') ∧ f_X8_lay (nI s) (nI w') a2 (nI y0) (nI N) τ = some (r, τ') ∧ Rel σ' τ' := by
                  intro h
                  have hf : f_X3_hasFrom (83 + 2 * s) a2 (nI N) σ = some (0, σ) := by
                    unfold f_X3_hasFrom
                    rw [q4]
                    rcases h with h | ⟨h1, h2⟩
                    · simp [h]
                    · rw [if_neg h1, if_pos h2]
                  refine ⟨-11, _, _, ?_, ?_, T, RelT_host H⟩
                  · simp only [f_X7_lay, e1, bS, one_ne, if_false, isSort_t σ d1 d2, y1, y5, n1, hsub, n4, if_true, cI_t ci, cl, sh_id, q1, w1, hNp, hf, host_eq]
                  · rcases h with h | ⟨h1, h2⟩
                    · simp only [f_X8_lay, e2, bS, one_ne, if_false, isIn_t τ d1 d2, isIn_t τ y1 y2, hsub, isIn_t τ n1 n2, cI_t ci, cl, q5, g0, w2, if_true, hNp, h, f_X8_lay_99, meet_eq]
                    · have h3 : ¬ a2 ≤ nI n - nI N := by rw [I_lt] at h2; rw [I_le]; omega
                      simp only [f_X8_lay, e2, bS, one_ne, if_false, isIn_t τ d1 d2, isIn_t τ y1 y2, hsub, isIn_t τ n1 n2, cI_t ci, cl, q5, g0, w2, if_true, hNp, h1, h3, f_X8_lay_99, meet_eq]
                by_cases c1 : a2 < 0
                · exact out (Or.inl c1)
                · by_cases c2 : nI n - nI N < a2
                  · exact out (Or.inr ⟨c1, c2⟩)
                  · have c1' := c1
                    have c2' := c2
                    rw [I_lt] at c1' c2'
                    have z0 : (0 : Int32).toInt = 0 := rfl
                    obtain ⟨i0, hi0, rfl⟩ : ∃ i0 : Nat, i0 + N ≤ n ∧ a2 = nI i0 := by
                      refine ⟨a2.toInt.toNat, by omega, ?_⟩
                      apply Int32.toInt_inj.mp
                      rw [nI_toInt (by omega)]
                      omega
                    have hf : f_X3_hasFrom (83 + 2 * s) (nI i0) (nI N) σ = some (1, σ) := by
                      unfold f_X3_hasFrom
                      rw [q4, if_neg c1, if_neg c2]
                    have hl := lay_loop s i0 y0 N n hs q3 hi0 (by omega) FU N 0 σ τ T 0 H q1 q4 (by omega) (by show N < 100000; omega)
                    rw [nI_0] at hl
                    exact fin (nI i0) hl (Or.inr ⟨hNp, hf, c1, by rw [I_le]; omega⟩)
            · have hne : ¬ nI w' = nI w := fun q => hww (nI_inj (by omega) (by omega) q)
              refine ⟨-12, _, _, ?_, ?_, T, RelT_host H⟩
              · simp only [f_X7_lay, e1, bS, one_ne, if_false, isSort_t σ d1 d2, y1, y5, n1, hsub, n4, if_true, cI_t ci, cl, sh_id, q1, w1, hne, host_eq]
              · simp only [f_X8_lay, e2, bS, one_ne, if_false, isIn_t τ d1 d2, isIn_t τ y1 y2, hsub, isIn_t τ n1 n2, cI_t ci, cl, q5, g0, w2, hne, if_true, meet_eq]
