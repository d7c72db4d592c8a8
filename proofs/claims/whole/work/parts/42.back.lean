/-- all comes back from what is kept -/
theorem rest_eq {τ : St} : ∃ τ', f_X8_carryAll 1 τ = some τ' ∧ (τ'.1 0 0 = τ.1 10 0 ∧ τ'.1 0 3 = τ.1 10 1) ∧ (∀ j, j < 40 → τ'.1 1 j = τ.1 10 (2 + j)) ∧ (∀ j, j < 21 → τ'.1 2 j = τ.1 10 (42 + j)) ∧ (∀ j, j < 7 → τ'.1 3 j = τ.1 10 (63 + j) ∧ τ'.1 4 j = τ.1 10 (70 + j) ∧ τ'.1 5 j = τ.1 10 (77 + j)) ∧ (∀ j, j < 35 → τ'.1 6 j = τ.1 10 (84 + j) ∧ τ'.1 7 j = τ.1 10 (119 + j)) ∧ (∀ j, j < 49 → τ'.1 8 j = τ.1 10 (154 + j)) ∧ τ'.2 = τ.2 ∧ (∀ j, (j ≠ 0 ∧ j ≠ 3) → τ'.1 0 j = τ.1 0 j) ∧ ∀ a, (9 ≤ a ∧ a ≠ 24) → τ'.1 a = τ.1 a := by
  have c0 : ix 0 2 = true := by decide
  have c1 : ix 1 2 = true := by decide
  obtain ⟨t0, h0⟩ : ∃ z, z = up1 (up1 τ 24 0 (τ.1 0 0)) 24 1 (τ.1 0 3) := ⟨_, rfl⟩
  have f0 : ∀ a, a ≠ 24 → t0.1 a = τ.1 a := fun a ha => by rw [h0, up1_r ha, up1_r ha]
  obtain ⟨t1, p1, q1, s1, r1⟩ := carry1' (k1 := 24) (n1 := 2) (n := 2) (at0 := 0) (τ := t0) 2 0 rfl rfl (by omega) (by omega) (by omega) (by omega)
  obtain ⟨t2, p2, q2, s2, r2⟩ := carry1' (k1 := 1) (n1 := 40) (n := 40) (at0 := 2) (τ := t1) 40 (nI 2) rfl rfl (by omega) (by omega) (by omega) (by omega)
  obtain ⟨t3, p3, q3, s3, r3⟩ := carry1' (k1 := 2) (n1 := 21) (n := 21) (at0 := 42) (τ := t2) 21 (nI 42) rfl rfl (by omega) (by omega) (by omega) (by omega)
  obtain ⟨t4, p4, q4, s4, r4⟩ := carry1' (k1 := 3) (n1 := 7) (n := 7) (at0 := 63) (τ := t3) 7 (nI 63) rfl rfl (by omega) (by omega) (by omega) (by omega)
  obtain ⟨t5, p5, q5, s5, r5⟩ := carry1' (k1 := 4) (n1 := 7) (n := 7) (at0 := 70) (τ := t4) 7 (nI 70) rfl rfl (by omega) (by omega) (by omega) (by omega)
  obtain ⟨t6, p6, q6, s6, r6⟩ := carry1' (k1 := 5) (n1 := 7) (n := 7) (at0 := 77) (τ := t5) 7 (nI 77) rfl rfl (by omega) (by omega) (by omega) (by omega)
  obtain ⟨t7, p7, q7, s7, r7⟩ := carry1' (k1 := 6) (n1 := 35) (n := 35) (at0 := 84) (τ := t6) 35 (nI 84) rfl rfl (by omega) (by omega) (by omega) (by omega)
  obtain ⟨t8, p8, q8, s8, r8⟩ := carry1' (k1 := 7) (n1 := 35) (n := 35) (at0 := 119) (τ := t7) 35 (nI 119) rfl rfl (by omega) (by omega) (by omega) (by omega)
  obtain ⟨t9, p9, q9, s9, r9⟩ := carry1' (k1 := 8) (n1 := 49) (n := 49) (at0 := 154) (τ := t8) 49 (nI 154) rfl rfl (by omega) (by omega) (by omega) (by omega)
  have K : ∀ a, (a = 0 ∨ 9 ≤ a) → a ≠ 24 → t9.1 a = τ.1 a := fun a h1 h2 => by rw [r9 a (by omega), r8 a (by omega), r7 a (by omega), r6 a (by omega), r5 a (by omega), r4 a (by omega), r3 a (by omega), r2 a (by omega), r1 a (by omega), f0 a h2]
  have w : ∀ a, a ≠ 0 → (up1 (up1 t9 0 0 (t9.1 24 0)) 0 3 ((up1 t9 0 0 (t9.1 24 0)).1 24 1)).1 a = t9.1 a := fun a h => by rw [up1_r h, up1_r h]
  have v : ∀ p, p < 2 → t9.1 24 p = τ.1 10 p := fun p hp => by rw [r9 24 (by omega), r8 24 (by omega), r7 24 (by omega), r6 24 (by omega), r5 24 (by omega), r4 24 (by omega), r3 24 (by omega), r2 24 (by omega), q1 p hp, f0 10 (by omega), Nat.zero_add]
  refine ⟨up1 (up1 t9 0 0 (t9.1 24 0)) 0 3 ((up1 t9 0 0 (t9.1 24 0)).1 24 1), ?_, ⟨?_, ?_⟩, fun j hj => ?_, fun j hj => ?_, fun j hj => ⟨?_, ?_, ?_⟩, fun j hj => ⟨?_, ?_⟩, fun j hj => ?_, ?_, fun j hj => ?_, fun a ha => ?_⟩
  · unfold f_X8_carryAll
    rw [cI_t c0, ap, z_0, cI_t c1, ap, z_1, show (up1 τ 24 0 (τ.1 0 0)).1 0 3 = τ.1 0 3 from by rw [up1_r (by omega)], ← h0, p1, bS, p2, bS, p3, bS, p4, bS, p5, bS, p6, bS, p7, bS, p8, bS, p9, bS, cI_t c0, ap, cI_t c1, ap]
  · rw [up1_ne (by omega), up1_eq]; exact v 0 (by omega)
  · rw [up1_eq, up1_r (by omega)]; exact v 1 (by omega)
  · rw [w 1 (by omega), r9 1 (by omega), r8 1 (by omega), r7 1 (by omega), r6 1 (by omega), r5 1 (by omega), r4 1 (by omega), r3 1 (by omega), q2 j hj, r1 10 (by omega), f0 10 (by omega)]
  · rw [w 2 (by omega), r9 2 (by omega), r8 2 (by omega), r7 2 (by omega), r6 2 (by omega), r5 2 (by omega), r4 2 (by omega), q3 j hj, r2 10 (by omega), r1 10 (by omega), f0 10 (by omega)]
  · rw [w 3 (by omega), r9 3 (by omega), r8 3 (by omega), r7 3 (by omega), r6 3 (by omega), r5 3 (by omega), q4 j hj, r3 10 (by omega), r2 10 (by omega), r1 10 (by omega), f0 10 (by omega)]
  · rw [w 4 (by omega), r9 4 (by omega), r8 4 (by omega), r7 4 (by omega), r6 4 (by omega), q5 j hj, r4 10 (by omega), r3 10 (by omega), r2 10 (by omega), r1 10 (by omega), f0 10 (by omega)]
  · rw [w 5 (by omega), r9 5 (by omega), r8 5 (by omega), r7 5 (by omega), q6 j hj, r5 10 (by omega), r4 10 (by omega), r3 10 (by omega), r2 10 (by omega), r1 10 (by omega), f0 10 (by omega)]
  · rw [w 6 (by omega), r9 6 (by omega), r8 6 (by omega), q7 j hj, r6 10 (by omega), r5 10 (by omega), r4 10 (by omega), r3 10 (by omega), r2 10 (by omega), r1 10 (by omega), f0 10 (by omega)]
  · rw [w 7 (by omega), r9 7 (by omega), q8 j hj, r7 10 (by omega), r6 10 (by omega), r5 10 (by omega), r4 10 (by omega), r3 10 (by omega), r2 10 (by omega), r1 10 (by omega), f0 10 (by omega)]
  · rw [w 8 (by omega), q9 j hj, r8 10 (by omega), r7 10 (by omega), r6 10 (by omega), r5 10 (by omega), r4 10 (by omega), r3 10 (by omega), r2 10 (by omega), r1 10 (by omega), f0 10 (by omega)]
  · show t9.2 = τ.2
    rw [s9, s8, s7, s6, s5, s4, s3, s2, s1, h0]; rfl
  · rw [up1_ne (by omega), up1_ne (by omega), K 0 (by omega) (by omega)]
  · rw [w a (by omega), K a (by omega) ha.2]
theorem ag_back : Ag_back Rel := by
  rintro σ τ ⟨T, H⟩
  rcases H.2.2.2.1 with ⟨e1, e2⟩ | ⟨e1, e2, K, k1, k2, k3⟩
  · exact ⟨-10, _, _, by simp [f_X7_back, e1, host_eq], by simp [f_X8_back, e2, meet_eq], T, RelT_host H⟩
  · obtain ⟨h1, h2, h3, h4, h5, h6, h7, h8, h9, h10⟩ := H
    obtain ⟨σ1, p1, p2, p3, p4⟩ := copy_eq (t := 1) (s := 29) (Or.inr ⟨rfl, rfl⟩) k1 k2
    obtain ⟨τ1, q1, ⟨q2, q3⟩, q4, q5, q6, q7, q8, q9, q10, q11⟩ := rest_eq (τ := τ)
    obtain ⟨⟨m1, m2⟩, m3, m4, m5, m6⟩ := k3
    have hf := k1.2.1
    refine ⟨nI (tf K), up1 σ1 0 10 0, up1 τ1 0 10 0, ?_, ?_, K, k1, ?_, ⟨⟨?_, ?_⟩, fun j hj => ?_, fun j hj => ?_, fun i hi => ?_, fun i k hi hk => ?_⟩, Or.inr ⟨?_, ?_, K, k1, ?_, ?_⟩, ?_, ?_, ?_, Or.inl ⟨up1_eq, up1_eq⟩, ?_, ?_⟩
    · unfold f_X7_back
      rw [if_neg (by rw [e1]; decide), p1, bS, ap, up1_r (by omega), p2.1.2]
    · unfold f_X8_back
      rw [if_neg (by rw [e2]; decide), q1, bS, ap, up1_ne (by omega), q3, m2]
    · exact TelC_congr hf (fun a a1 a2 => by rw [up1_r (by omega)]) p2
    · rw [up1_ne (by omega), q2]; exact m1
    · rw [up1_ne (by omega), q3]; exact m2
    · rw [up1_r (by omega), q4 j hj]; exact m3 j hj
    · rw [up1_r (by omega), q5 j hj]; exact m4 j hj
    · have o3 := (k1.2.2.2.2.1 i hi).2.2.1
      obtain ⟨z1, z2, z3⟩ := q6 i (by omega)
      obtain ⟨g1, g2, g3, g4⟩ := m5 i hi
      refine TelM_find0 (r := τ1.1) _ (fun a a1 a2 => by rw [up1_r (by omega)]) ⟨by rw [z1]; exact g1, by rw [z2]; exact g2, by rw [z3]; exact g3, fun j hj => ⟨by rw [(q7 (5 * i + j) (by omega)).1]; exact (g4 j hj).1, by rw [(q7 (5 * i + j) (by omega)).2]; exact (g4 j hj).2⟩⟩
    · rw [up1_r (by omega), q8 _ (by omega)]; exact m6 i k hi hk
    · rw [up1_ne (by omega), p4 0 (by omega)]; exact e1
    · rw [up1_ne (by omega), q10 13 (by omega)]; exact e2
    · exact TelC_congr hf (fun a a1 a2 => by rw [up1_r (by omega), p4 a (by omega)]) k2
    · rw [up1_r (by omega), q11 10 (by omega)]
      exact ⟨⟨m1, m2⟩, m3, m4, m5, m6⟩
    · exact SheetsR_congr (fun a a1 a2 => by rw [up1_r (by omega), p4 a (by omega)]) (by rw [up1_r (by omega), q11 _ (by omega)]) (by rw [up1_r (by omega), q11 _ (by omega)]) (by rw [up1_r (by omega), q11 _ (by omega)]) h5
    · exact TapeR_congr (by rw [up1_r (by omega), p4 _ (by omega)]) (by rw [up1_r (by omega), p4 _ (by omega)]) (by rw [up1_ne (by omega), q10 _ (by omega)]) (by rw [up1_r (by omega), q11 _ (by omega)]) h6
    · exact WaitR_congr (by rw [up1_ne (by omega), p4 _ (by omega)]) (by rw [up1_r (by omega), p4 _ (by omega)]) (by rw [up1_ne (by omega), q10 _ (by omega)]) (by rw [up1_r (by omega), q11 _ (by omega)]) h7
    · show σ1.2 0 11 = τ1.2 0 12
      rw [p3, q9]; exact h9
    · rw [up1_ne (by omega), p4 0 (by omega), up1_ne (by omega), q10 22 (by omega)]; exact h10
