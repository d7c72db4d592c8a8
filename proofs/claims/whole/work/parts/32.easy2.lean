theorem ag_miss : Ag_miss Rel := by
  rintro a0 a1 σ τ ⟨T, H⟩
  rcases rng3 a0 0 20 21 0 20 rfl rfl rfl (by decide) (by decide) with c1 | ⟨c1, c2, c3, -⟩ | ⟨j, hj, rfl, c1, c2, c3, c4, c5⟩
  · exact ⟨-2, σ, τ, by simp [f_X7_miss, c1], by simp [f_X8_miss, isIn_f τ (Or.inl c1)], T, H⟩
  · exact ⟨-2, σ, τ, by simp [f_X7_miss, c1, c2], by simp [f_X8_miss, isIn_f τ (Or.inr c2)], T, H⟩
  · rcases rng3 a1 0 9 10 0 9 rfl rfl rfl (by decide) (by decide) with d1 | ⟨d1, d2, -⟩ | ⟨v, hv, rfl, d1, d2, -⟩
    · exact ⟨-2, σ, τ, by simp [f_X7_miss, c1, c2, isDigit_f σ (Or.inl d1)], by simp [f_X8_miss, isIn_t τ c1 c2, isIn_f τ (Or.inl d1)], T, H⟩
    · exact ⟨-2, σ, τ, by simp [f_X7_miss, c1, c2, isDigit_f σ (Or.inr d2)], by simp [f_X8_miss, isIn_t τ c1 c2, isIn_f τ (Or.inr d2)], T, H⟩
    · obtain ⟨⟨k1, k2⟩, k3, k4, k5, k6⟩ := H.2.1
      obtain ⟨⟨m1, m2⟩, m3, m4, m5, m6⟩ := H.2.2.1
      have e1 : σ.1 3 j = nI (tm T j) := k4 j (by omega)
      have e2 : τ.1 2 j = nI (tm T j) := m4 j (by omega)
      refine ⟨nI (tm T j), up1 σ 3 j (nI v), up1 τ 2 j (nI v), by simp [f_X7_miss, c1, c2, isDigit_t σ d1 d2, cI_t (ix_nI (show j < 21 by omega) (by decide)), nI_clamp (show j < 2 ^ 31 by omega), ap, e1], by simp [f_X8_miss, isIn_t τ c1 c2, isIn_t τ d1 d2, cI_t (ix_nI (show j < 21 by omega) (by decide)), nI_clamp (show j < 2 ^ 31 by omega), ap, e2], (T.1, tc T, fun y => if y = j then v else tm T y, T.2.2.2), RelT_tel H ⟨H.1.1, H.1.2.1, H.1.2.2.1, fun y hy => ?_, H.1.2.2.2.2⟩ ⟨⟨by rw [up1_r (by omega)]; exact k1, by rw [up1_r (by omega)]; exact k2⟩, by rw [up1_r (by omega)]; exact k3, by rw [up1_row]; exact RowC_up k4, fun i hi => by rw [up1_r (by omega), up1_r (by omega), up1_r (by omega)]; exact k5 i hi, by rw [up1_r (by omega), up1_r (by omega)]; exact k6⟩ ⟨⟨by rw [up1_r (by omega)]; exact m1, by rw [up1_r (by omega)]; exact m2⟩, by rw [up1_r (by omega)]; exact m3, by rw [up1_row]; exact RowC_up m4, fun i hi => TelM_find0 _ (fun a a1 a2 => up1_r (by omega)) (m5 i hi), fun i k hi hk => by rw [up1_r (by omega)]; exact m6 i k hi hk⟩ rfl (fun a ha => up1_r (by omega)) rfl (fun j hj => by rw [up1_r (by omega)]) (fun a ha => up1_r (by omega)) rfl⟩
      show (if y = j then v else tm T y) ≤ 9
      by_cases e : y = j
      · simp [e]; omega
      · simp only [e, if_false]; exact H.1.2.2.2.1 y hy
theorem ag_tell : Ag_tell Rel := by
  rintro a0 σ τ ⟨T, H⟩
  obtain ⟨h1, h2, h3, h4, h5, h6, ⟨n, n1, n2, n3, n4⟩, h8, h9, h10⟩ := H
  rcases Nat.lt_or_ge n 20 with hn | hn
  · have c1 : nI n < 20 := nI_lt (b := 20) hn (by decide)
    have c2 : ¬ nI n = 20 := fun q => by have := nI_inj (b := 20) (by omega) (by decide) q; omega
    refine ⟨nI (n + 1), up1 (up1 σ 81 n a0) 0 8 (nI (n + 1)), up1 (up1 τ 15 n a0) 0 20 (nI (n + 1)), ?_, ?_, T, h1, ?_, ?_, ?_, ?_, ?_, ⟨n + 1, by omega, up1_eq, up1_eq, fun j hj => ?_⟩, ?_, ?_, ?_⟩
    · simp only [f_X7_tell, n2, c1, if_true, cI_t (ix_nI hn (by decide)), nI_clamp (show n < 2 ^ 31 by omega), ap]
      rw [up1_ne (σ := σ) (by omega), n2, nI_1]
      simp [up1_eq]
    · simp only [f_X8_tell, n3, c2, if_false, cI_t (ix_nI hn (by decide)), nI_clamp (show n < 2 ^ 31 by omega), ap]
      rw [up1_ne (σ := τ) (by omega), n3, nI_1]
      simp [up1_eq]
    · exact TelC_congr h1.2.1 (fun a a1 a2 => by rw [up1_r (by omega), up1_r (by omega)]) h2
    · exact TelM_congr (by rw [up1_ne (by omega), up1_r (by omega)]) (by rw [up1_ne (by omega), up1_r (by omega)]) (fun a a1 a2 => by rw [up1_r (by omega), up1_r (by omega)]) h3
    · exact KeptR_congr (by rw [up1_ne (by omega), up1_r (by omega)]) (by rw [up1_ne (by omega), up1_r (by omega)]) (fun a a1 a2 => by rw [up1_r (by omega), up1_r (by omega)]) (by rw [up1_r (by omega), up1_r (by omega)]) h4
    · exact SheetsR_congr (fun a a1 a2 => by rw [up1_r (by omega), up1_r (by omega)]) (by rw [up1_r (by omega), up1_r (by omega)]) (by rw [up1_r (by omega), up1_r (by omega)]) (by rw [up1_r (by omega), up1_r (by omega)]) h5
    · exact TapeR_congr (by rw [up1_r (by omega), up1_r (by omega)]) (by rw [up1_r (by omega), up1_r (by omega)]) (by rw [up1_ne (by omega), up1_r (by omega)]) (by rw [up1_r (by omega), up1_r (by omega)]) h6
    · rw [show (up1 (up1 σ 81 n a0) 0 8 (nI (n + 1))).1 81 = upd (σ.1 81) n a0 by rw [up1_r (by omega), up1_row], show (up1 (up1 τ 15 n a0) 0 20 (nI (n + 1))).1 15 = upd (τ.1 15) n a0 by rw [up1_r (by omega), up1_row]]
      unfold upd
      by_cases e : j = n
      · simp [e]
      · simp only [e, if_false]; exact n4 j (by omega)
    · exact DrawR_congr (by rw [up1_ne (by omega), up1_r (by omega)]) (by rw [up1_r (by omega), up1_r (by omega)]) (by rw [up1_ne (by omega), up1_r (by omega)]) (by rw [up1_r (by omega), up1_r (by omega)]) h8
    · exact h9
    · rw [up1_ne (by omega), up1_r (by omega), up1_ne (by omega), up1_r (by omega)]; exact h10
  · obtain rfl : n = 20 := by omega
    refine ⟨-2, σ, τ, ?_, ?_, T, h1, h2, h3, h4, h5, h6, ⟨20, n1, n2, n3, n4⟩, h8, h9, h10⟩
    · rw [f_X7_tell, n2, if_neg (by decide)]
    · rw [f_X8_tell, n3, if_pos (by decide)]
theorem ag_drawn : Ag_drawn Rel := by
  rintro a0 σ τ ⟨T, H⟩
  have h8 := H.2.2.2.2.2.2.2.1
  rcases h8 with ⟨d1, d2⟩ | ⟨d1, d2, d3⟩
  · refine ⟨-10, _, _, ?_, ?_, T, RelT_host H⟩
    · simp [f_X7_drawn, d1, host_eq]
    · simp [f_X8_drawn, d2, meet_eq]
  · rcases isFind_c (x := a0) H.1.2.1 H.2.1.1.2 H.2.2.1.1.2 with ⟨e1, e2⟩ | ⟨i, hi, rfl, e1, e2⟩
    · exact ⟨-2, σ, τ, by simp [f_X7_drawn, d1, e1], by simp [f_X8_drawn, d2, e2], T, H⟩
    · have hi7 : i < 7 := Nat.lt_of_lt_of_le hi H.1.2.1
      refine ⟨σ.1 82 i, σ, τ, ?_, ?_, T, H⟩
      · simp [f_X7_drawn, d1, e1, cI_t (ix_nI hi7 (by decide)), nI_clamp (show i < 2 ^ 31 by omega)]
      · simp [f_X8_drawn, d2, e2, cI_t (ix_nI hi7 (by decide)), nI_clamp (show i < 2 ^ 31 by omega), d3 i hi]
/-- the sheets but one -/
theorem SheetsR_one {σ σ' τ τ' : St} {s : Nat} (hs : s < 4) (H : SheetsR σ τ) (h : ∀ a, 83 ≤ a → a < 91 → a ≠ 83 + 2 * s → a ≠ 84 + 2 * s → σ'.1 a = σ.1 a) (g1 : ∀ u, u ≠ s → τ'.1 11 u = τ.1 11 u) (g2 : ∀ u, u ≠ s → τ'.1 12 u = τ.1 12 u) (g3 : ∀ u i, u ≠ s → i < 60 → τ'.1 13 (60 * u + i) = τ.1 13 (60 * u + i)) (hn : SheetR (σ'.1 (83 + 2 * s)) (σ'.1 (84 + 2 * s)) (τ'.1 11 s) (τ'.1 12 s) (fun i => τ'.1 13 (60 * s + i))) : SheetsR σ' τ' := by
  intro u hu
  by_cases e : u = s
  · subst e; exact hn
  · have := H u hu
    rw [h (83 + 2 * u) (by omega) (by omega) (by omega) (by omega), h (84 + 2 * u) (by omega) (by omega) (by omega) (by omega), g1 u e, g2 u e]
    rcases this with q | ⟨q1, q2, n, q3, q4, q5, q6⟩
    · exact Or.inl q
    · exact Or.inr ⟨q1, q2, n, q3, q4, q5, fun i hi => by show _ = τ'.1 13 (60 * u + i); rw [g3 u i e (by omega)]; exact q6 i hi⟩
/-- a call that changes the sheets alone -/
theorem RelT_sh {T : Tl} {σ σ' τ τ' : St} (H : RelT T σ τ) (hs : SheetsR σ' τ') (c : ∀ a, a < 83 → σ'.1 a = σ.1 a) (c2 : σ'.2 = σ.2) (m : ∀ a, (a ≠ 11 ∧ a ≠ 12 ∧ a ≠ 13) → τ'.1 a = τ.1 a) (m2 : τ'.2 = τ.2) : RelT T σ' τ' := by
  obtain ⟨h1, h2, h3, h4, h5, h6, h7, h8, h9, h10⟩ := H
  exact ⟨h1, TelC_congr h1.2.1 (fun a a1 a2 => c a (by omega)) h2, TelM_congr (by rw [m 0 (by omega)]) (by rw [m 0 (by omega)]) (fun a a1 a2 => m a (by omega)) h3, KeptR_congr (by rw [c 0 (by omega)]) (by rw [m 0 (by omega)]) (fun a a1 a2 => c a (by omega)) (m 10 (by omega)) h4, hs, TapeR_congr (by rw [c 58 (by omega)]) (c 59 (by omega)) (by rw [m 0 (by omega)]) (m 14 (by omega)) h6, WaitR_congr (by rw [c 0 (by omega)]) (c 81 (by omega)) (by rw [m 0 (by omega)]) (m 15 (by omega)) h7, DrawR_congr (by rw [c 0 (by omega)]) (c 82 (by omega)) (by rw [m 0 (by omega)]) (m 9 (by omega)) h8, by rw [c2, m2]; exact h9, by rw [c 0 (by omega), m 0 (by omega)]; exact h10⟩
theorem isSheet_c (x : Int32) (σ τ : St) : (f_X7_isSheet x σ = some (0, σ) ∧ f_X8_isSheet x τ = some (0, τ)) ∨ ∃ s : Nat, s < 4 ∧ x = nI s ∧ f_X7_isSheet x σ = some (1, σ) ∧ f_X8_isSheet x τ = some (1, τ) := by
  rcases rng3 x 0 3 4 0 3 rfl rfl rfl (by decide) (by decide) with c1 | ⟨c1, c2, c3, -⟩ | ⟨j, hj, rfl, c1, c2, c3, -⟩
  · exact Or.inl ⟨by simp [f_X7_isSheet, c1], by simp [f_X8_isSheet, c1]⟩
  · exact Or.inl ⟨by simp [f_X7_isSheet, c1, c3], by simp [f_X8_isSheet, c1, c3]⟩
  · exact Or.inr ⟨j, by omega, rfl, by simp [f_X7_isSheet, c1, c3], by simp [f_X8_isSheet, c1, c3]⟩
theorem sh_id (s : Nat) : 57 + 26 + 2 * s = 83 + 2 * s := by omega
theorem ag_lose : Ag_lose Rel := by
  rintro a0 σ τ ⟨T, H⟩
  rcases isSheet_c a0 σ τ with ⟨e1, e2⟩ | ⟨s, hs, rfl, e1, e2⟩
  · exact ⟨-2, σ, τ, by simp [f_X7_lose, e1], by simp [f_X8_lose, e2], T, H⟩
  · have cl := nI_clamp (show s < 2 ^ 31 by omega)
    have ci := ix_nI hs (by decide)
    have hS := H.2.2.2.2.1
    have hR : RelT T (up1 σ (83 + 2 * s) 0 0) (up1 τ 12 s (-1)) := by
      refine RelT_sh H (SheetsR_one hs hS (fun a a1 a2 a3 a4 => up1_r a3) (fun u hu => by rw [up1_r (by omega)]) (fun u hu => up1_ne (by omega)) (fun u i hu hi => by rw [up1_r (by omega)]) (Or.inl ⟨up1_eq, up1_eq⟩)) (fun a ha => up1_r (by omega)) rfl (fun a ha => up1_r (by omega)) rfl
    rcases hS s hs with ⟨q1, q2⟩ | ⟨q1, -, n, q3, q4, q5, -⟩
    · refine ⟨0, _, _, ?_, ?_, T, hR⟩
      · simp only [f_X7_lose, e1, bS, one_ne, if_false, cI_t ci, cl, sh_id, q1, if_true, f_X7_lose_27, ap]
      · simp only [f_X8_lose, e2, bS, one_ne, if_false, cI_t ci, cl, q2, show (-1 : Int32) < 0 by decide, if_true, f_X8_lose_24, ap]
    · refine ⟨1, _, _, ?_, ?_, T, hR⟩
      · simp only [f_X7_lose, e1, bS, one_ne, if_false, cI_t ci, cl, sh_id, q1, f_X7_lose_27, ap]
      · simp only [f_X8_lose, e2, bS, one_ne, if_false, cI_t ci, cl, q5, nI_pos (show n < 2 ^ 31 by omega), f_X8_lose_24, ap]
