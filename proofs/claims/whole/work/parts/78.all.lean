/-! every call agrees; the two beginnings -/
theorem all_agree : AllAgree Rel := ⟨ag_years, ag_curve, ag_miss, ag_sheet, ag_write, ag_lose, ag_lay, ag_find, ag_ring, ag_odd, ag_pair, ag_of, ag_weight, ag_drop, ag_feed, ag_text, ag_total, ag_share, ag_below, ag_until, ag_order, ag_apart, ag_mean, ag_best, ag_span, ag_strange, ag_without, ag_draw, ag_drawn, ag_tell, ag_number, ag_keep, ag_back, ag_bears, ag_count⟩
def Tl0 : Tl := ((30, 0), (fun y => 500 - 5 * y), (fun d => 9 - d), (fun _ => (0, 0, 0)), (fun _ _ => (0, 0)), (fun _ _ => 0))
theorem Okt_0 : Okt Tl0 := by
  refine ⟨⟨by decide, by decide⟩, by decide, fun y _ => ?_, fun d _ => ?_, fun i hi => absurd hi (Nat.not_lt_zero i), fun _ _ => Nat.zero_le _, fun _ _ _ => rfl⟩
  · show 500 - 5 * y ≤ 2000
    omega
  · show 9 - d ≤ 9
    omega
theorem rc_1 : rho_X7_init.1 1 0 = nI 30 ∧ rho_X7_init.1 1 3 = nI 0 := by decide +kernel
theorem rc_2 : ∀ j, j < 40 → rho_X7_init.1 2 j = nI (500 - 5 * j) := by decide +kernel
theorem rc_3 : ∀ j, j < 21 → rho_X7_init.1 3 j = nI (9 - j) := by decide +kernel
theorem rc_4 : ∀ k, k < 7 → rho_X7_init.1 6 k = nI (msk (fun _ => (0 : Nat) == 1) 7) ∧ rho_X7_init.1 7 k = nI (msk (fun _ => (0 : Nat) == 2) 7) := by decide +kernel
theorem rm_1 : rho_X8_init.1 0 0 = nI 30 ∧ rho_X8_init.1 0 3 = nI 0 := by decide +kernel
theorem rm_2 : ∀ j, j < 40 → rho_X8_init.1 1 j = nI (500 - 5 * j) := by decide +kernel
theorem rm_3 : ∀ j, j < 21 → rho_X8_init.1 2 j = nI (9 - j) := by decide +kernel
theorem rk_k : rho_X7_init.1 0 2 = 0 ∧ rho_X8_init.1 0 13 = 0 := by decide +kernel
theorem rk_s : ∀ s, s < 4 → rho_X7_init.1 (83 + 2 * s) 0 = 0 ∧ rho_X8_init.1 12 s = -1 := by decide +kernel
theorem rk_t : rho_X7_init.1 58 1 = nI 0 ∧ rho_X8_init.1 0 19 = nI 0 := by decide +kernel
theorem rk_w : rho_X7_init.1 0 8 = nI 0 ∧ rho_X8_init.1 0 20 = nI 0 := by decide +kernel
theorem rk_d : rho_X7_init.1 0 10 = 0 ∧ rho_X8_init.1 0 10 = 0 := by decide +kernel
theorem rk_b : rho_X7_init.2 0 11 = rho_X8_init.2 0 12 := by decide +kernel
theorem rk_h : rho_X7_init.1 0 12 = rho_X8_init.1 0 22 := by decide +kernel
theorem rel_0 : Rel rho_X7_init rho_X8_init := ⟨Tl0, Okt_0, ⟨rc_1, rc_2, rc_3, fun i hi => absurd hi (Nat.not_lt_zero i), rc_4⟩, ⟨rm_1, rm_2, rm_3, fun i hi => absurd hi (Nat.not_lt_zero i), fun i _ hi _ => absurd hi (Nat.not_lt_zero i)⟩, Or.inl rk_k, fun s hs => Or.inl (rk_s s hs), ⟨0, Nat.zero_le _, rk_t.1, rk_t.2, fun j hj => absurd hj (Nat.not_lt_zero j)⟩, ⟨0, Nat.zero_le _, rk_w.1, rk_w.2, fun j hj => absurd hj (Nat.not_lt_zero j)⟩, Or.inl rk_d, rk_b, rk_h⟩
