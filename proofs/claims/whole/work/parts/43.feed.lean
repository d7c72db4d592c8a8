theorem fa_byte_low (x : Int32) : (x &&& 255).toInt8 = x.toInt8 := by
  apply Int8.toBitVec_inj.1
  apply BitVec.eq_of_getLsbD_eq
  intro i hi
  have h2 : (255 : Int32).toBitVec.getLsbD i = true := by
    have : ∀ j : Fin 8, (255 : Int32).toBitVec.getLsbD j.val = true := by decide +kernel
    exact this ⟨i, hi⟩
  have h4 : (x &&& 255).toBitVec.getLsbD i = x.toBitVec.getLsbD i := by
    show (x.toBitVec &&& (255 : Int32).toBitVec).getLsbD i = _
    rw [BitVec.getLsbD_and, h2, Bool.and_true]
  have h3 : i < 32 := by omega
  first
    | (show (((x &&& 255).toBitVec).signExtend 8).getLsbD i = (x.toBitVec.signExtend 8).getLsbD i; rw [BitVec.getLsbD_signExtend, BitVec.getLsbD_signExtend, if_pos h3, if_pos h3, h4])
    | (show (((x &&& 255).toBitVec).setWidth 8).getLsbD i = (x.toBitVec.setWidth 8).getLsbD i; rw [BitVec.getLsbD_setWidth, BitVec.getLsbD_setWidth, h4])
    | (simp [hi, h3, h4]; done)
theorem sh_bit (x : BitVec 64) (n i : Nat) (hn : n ≤ 56) (hi : i < 8) : (x >>> n).getLsbD i = (x.sshiftRight n).getLsbD i := by
  rw [BitVec.getLsbD_ushiftRight, BitVec.getLsbD_sshiftRight]
  simp [show ¬ 64 ≤ i by omega, show n + i < 64 by omega]
theorem sx_bit (x : BitVec 64) (i : Nat) (hi : i < 8) : (x.signExtend 8).getLsbD i = x.getLsbD i := by
  rw [BitVec.getLsbD_signExtend]
  simp [hi, show i < 64 by omega]
theorem byte_shift (w : Int64) : ∀ k, k < 8 → ((w.toUInt64 >>> (((8 : Int32) * nI k).toInt64.toUInt64 &&& Int64.toUInt64 63)).toInt64).toInt8 = (w >>> (((8 : Int32) * nI k).toInt64 &&& 63)).toInt8 := by
  intro k hk
  apply Int8.toBitVec_inj.1
  apply BitVec.eq_of_getLsbD_eq
  intro i hi
  rcases (show k = 0 ∨ k = 1 ∨ k = 2 ∨ k = 3 ∨ k = 4 ∨ k = 5 ∨ k = 6 ∨ k = 7 by omega) with rfl | rfl | rfl | rfl | rfl | rfl | rfl | rfl
  · show ((w.toBitVec >>> 0).signExtend 8).getLsbD i = ((w.toBitVec.sshiftRight 0).signExtend 8).getLsbD i
    rw [sx_bit _ i hi, sx_bit _ i hi, sh_bit _ _ i (by omega) hi]
  · show ((w.toBitVec >>> 8).signExtend 8).getLsbD i = ((w.toBitVec.sshiftRight 8).signExtend 8).getLsbD i
    rw [sx_bit _ i hi, sx_bit _ i hi, sh_bit _ _ i (by omega) hi]
  · show ((w.toBitVec >>> 16).signExtend 8).getLsbD i = ((w.toBitVec.sshiftRight 16).signExtend 8).getLsbD i
    rw [sx_bit _ i hi, sx_bit _ i hi, sh_bit _ _ i (by omega) hi]
  · show ((w.toBitVec >>> 24).signExtend 8).getLsbD i = ((w.toBitVec.sshiftRight 24).signExtend 8).getLsbD i
    rw [sx_bit _ i hi, sx_bit _ i hi, sh_bit _ _ i (by omega) hi]
  · show ((w.toBitVec >>> 32).signExtend 8).getLsbD i = ((w.toBitVec.sshiftRight 32).signExtend 8).getLsbD i
    rw [sx_bit _ i hi, sx_bit _ i hi, sh_bit _ _ i (by omega) hi]
  · show ((w.toBitVec >>> 40).signExtend 8).getLsbD i = ((w.toBitVec.sshiftRight 40).signExtend 8).getLsbD i
    rw [sx_bit _ i hi, sx_bit _ i hi, sh_bit _ _ i (by omega) hi]
  · show ((w.toBitVec >>> 48).signExtend 8).getLsbD i = ((w.toBitVec.sshiftRight 48).signExtend 8).getLsbD i
    rw [sx_bit _ i hi, sx_bit _ i hi, sh_bit _ _ i (by omega) hi]
  · show ((w.toBitVec >>> 56).signExtend 8).getLsbD i = ((w.toBitVec.sshiftRight 56).signExtend 8).getLsbD i
    rw [sx_bit _ i hi, sx_bit _ i hi, sh_bit _ _ i (by omega) hi]
theorem byte_eq (w : Int64) {k : Nat} (hk : k < 8) : ∃ b : Nat, b < 256 ∧ ((w >>> (((8 : Int32) * nI k).toInt64 &&& 63)).toInt32 &&& 255) = nI b ∧ vp_nar .byte ((w.toUInt64 >>> (((8 : Int32) * nI k).toInt64.toUInt64 &&& Int64.toUInt64 63)).toInt64).toInt32.toInt8.toInt32 = (nI b).toInt8.toInt32 := by
  refine ⟨(w >>> (((8 : Int32) * nI k).toInt64 &&& 63)).toInt32.toBitVec.toNat % 2 ^ 8, Nat.mod_lt _ (by decide), pk_and _ 8 (by decide), ?_⟩
  rw [pk_vb, ← pk_and _ (m := 255) 8 (by decide), fa_byte_low, Int64.toInt8_toInt32, Int64.toInt8_toInt32, byte_shift w k hk]
theorem feed_loop (w : Int64) (m : Nat) (hm : m ≤ 8) : ∀ (fu k n : Nat) (σ τ : St), σ.1 58 1 = nI n → τ.1 0 19 = nI n → (∀ j, j < n → ∃ b : Nat, b < 256 ∧ τ.1 14 j = nI b ∧ σ.1 59 j = (nI b).toInt8.toInt32) → k ≤ m → n + (m - k) ≤ 200 → m - k < fu → ∃ σ' τ', f_X4_append_3 fu w (nI m) (nI k) σ = some σ' ∧ f_X8_feed_28 fu w (nI m) (nI k) τ = some (nI (n + (m - k)), τ') ∧ (σ'.1 58 1 = nI (n + (m - k)) ∧ τ'.1 0 19 = nI (n + (m - k)) ∧ ∀ j, j < n + (m - k) → ∃ b : Nat, b < 256 ∧ τ'.1 14 j = nI b ∧ σ'.1 59 j = (nI b).toInt8.toInt32) ∧ σ'.2 = σ.2 ∧ τ'.2 = τ.2 ∧ (∀ a, (a ≠ 58 ∧ a ≠ 59) → σ'.1 a = σ.1 a) ∧ (∀ a, (a ≠ 0 ∧ a ≠ 14) → τ'.1 a = τ.1 a) ∧ ∀ j, j ≠ 19 → τ'.1 0 j = τ.1 0 j := by
  intro fu
  induction fu with
  | zero => intro k n σ τ _ _ _ _ _ h; omega
  | succ fu ih =>
    intro k n σ τ h1 h2 h3 hk hn hfu
    rw [f_X4_append_3, f_X8_feed_28]
    rcases Nat.lt_or_ge k m with q | q
    · obtain ⟨b, b1, b2, b3⟩ := byte_eq w (show k < 8 by omega)
      have g : ¬ nI m ≤ nI k := nI_ge q (by omega)
      have g2 : ¬ (200 : Int32) ≤ nI n := nI_ge (b := 200) (by omega) (by decide)
      have ci := ix_nI (show n < 200 by omega) (by decide)
      have cl := nI_clamp (show n < 2 ^ 31 by omega)
      rw [if_neg g, if_neg g, h1, h2, if_neg g2, cI_t ci, cI_t ci, cl, ap, ap, ap, ap, b2, b3, up1_r (show (58 : Nat) ≠ 59 by omega), up1_r (show (0 : Nat) ≠ 14 by omega), h1, h2, nI_1, nI_1]
      obtain ⟨σ', τ', r1, r2, r3, r4, r5, r6, r7, r8⟩ := ih (k + 1) (n + 1) (up1 (up1 σ 59 n (nI b).toInt8.toInt32) 58 1 (nI (n + 1))) (up1 (up1 τ 14 n (nI b)) 0 19 (nI (n + 1))) up1_eq up1_eq (fun j hj => by
        rw [show (up1 (up1 τ 14 n (nI b)) 0 19 (nI (n + 1))).1 14 = upd (τ.1 14) n (nI b) by rw [up1_r (by omega), up1_row], show (up1 (up1 σ 59 n (nI b).toInt8.toInt32) 58 1 (nI (n + 1))).1 59 = upd (σ.1 59) n (nI b).toInt8.toInt32 by rw [up1_r (by omega), up1_row]]
        unfold upd
        by_cases e : j = n
        · exact ⟨b, b1, by rw [if_pos e], by rw [if_pos e]⟩
        · rw [if_neg e, if_neg e]; exact h3 j (by omega)) (by omega) (by omega) (by omega)
      rw [show n + 1 + (m - (k + 1)) = n + (m - k) by omega] at r2 r3
      exact ⟨σ', τ', r1, r2, r3, r4, r5, fun a ha => by rw [r6 a ha, up1_r ha.1, up1_r ha.2], fun a ha => by rw [r7 a ha, up1_r ha.1, up1_r ha.2], fun j hj => by rw [r8 j hj, up1_ne (by omega), up1_r (by omega)]⟩
    · obtain rfl : k = m := by omega
      have g : nI k ≤ nI k := by rw [I_le]; omega
      rw [if_pos g, if_pos g, h2, Nat.sub_self, Nat.add_zero]
      exact ⟨σ, τ, rfl, rfl, ⟨h1, h2, h3⟩, rfl, rfl, fun _ _ => rfl, fun _ _ => rfl, fun _ _ => rfl⟩
theorem ag_feed : Ag_feed Rel := by
  rintro a0 a1 σ τ ⟨T, H⟩
  obtain ⟨h1, h2, h3, h4, h5, ⟨n, n1, n2, n3, n4⟩, h7, h8, h9, h10⟩ := H
  have HH : RelT T σ τ := ⟨h1, h2, h3, h4, h5, ⟨n, n1, n2, n3, n4⟩, h7, h8, h9, h10⟩
  rcases rng3 a1 1 8 9 1 8 rfl rfl rfl (by decide) (by decide) with c1 | ⟨c1, c2, -⟩ | ⟨m, hm, rfl, c1, c2, -⟩
  · exact ⟨-2, σ, τ, by simp [f_X7_feed, c1], by simp [f_X8_feed, isIn_f τ (Or.inl c1)], T, HH⟩
  · exact ⟨-2, σ, τ, by simp [f_X7_feed, c1, c2], by simp [f_X8_feed, isIn_f τ (Or.inr c2)], T, HH⟩
  · have sub : (200 : Int32) - nI n = nI (200 - n) := pk_sub (a := 200) n1
    rcases Nat.lt_or_ge 200 (n + m) with q | q
    · have g1 : ¬ nI m ≤ nI (200 - n) := nI_ge (by omega) (by omega)
      have g2 : ¬ nI (n + m) ≤ 200 := nI_ge (a := 200) q (by omega)
      refine ⟨-2, σ, τ, ?_, ?_, T, HH⟩
      · rw [f_X7_feed, if_neg c1, if_neg c2, n2, sub, if_neg g1]
      · rw [f_X8_feed, isIn_t τ c1 c2, bS, if_neg one_ne, n3, nI_add, if_neg g2]
    · have g1 : nI m ≤ nI (200 - n) := nI_le (by omega) (by omega)
      have g2 : nI (n + m) ≤ 200 := nI_le (b := 200) q (by decide)
      obtain ⟨σ', τ', r1, r2, r3, r4, r5, r6, r7, r8⟩ := feed_loop a0 m (by omega) FU 0 n σ τ n2 n3 n4 (by omega) (by omega) (FU_big (by omega))
      rw [nI_0] at r1 r2
      rw [Nat.sub_zero] at r2 r3
      refine ⟨nI (n + m), σ', τ', ?_, ?_, T, h1, ?_, ?_, ?_, ?_, ⟨n + m, by omega, r3.1, r3.2.1, r3.2.2⟩, ?_, ?_, ?_, ?_⟩
      · rw [f_X7_feed, if_neg c1, if_neg c2, n2, sub, if_pos g1]
        unfold f_X4_append
        rw [r1, bS, r3.1]
      · rw [f_X8_feed, isIn_t τ c1 c2, bS, if_neg one_ne, n3, nI_add, if_pos g2]
        exact r2
      · exact TelC_congr h1.2.1 (fun a a1 a2 => r6 a (by omega)) h2
      · exact TelM_congr (r8 0 (by omega)) (r8 3 (by omega)) (fun a a1 a2 => r7 a (by omega)) h3
      · exact KeptR_congr (by rw [r6 0 (by omega)]) (r8 13 (by omega)) (fun a a1 a2 => r6 a (by omega)) (r7 10 (by omega)) h4
      · exact SheetsR_congr (fun a a1 a2 => r6 a (by omega)) (r7 11 (by omega)) (r7 12 (by omega)) (r7 13 (by omega)) h5
      · exact WaitR_congr (by rw [r6 0 (by omega)]) (r6 81 (by omega)) (r8 20 (by omega)) (r7 15 (by omega)) h7
      · exact DrawR_congr (by rw [r6 0 (by omega)]) (r6 82 (by omega)) (r8 10 (by omega)) (r7 9 (by omega)) h8
      · rw [r4, r5]; exact h9
      · rw [r6 0 (by omega), r8 22 (by omega)]; exact h10
