/-! the whole TEXT -/
def EndR (σ0 τ0 : St) (f n : Nat) (b : Nat → Nat) (ok : Bool) (p' : Nat) (h' : Nat → Nat → Nat) (wr : Int32) (σ' τ' : St) : Prop := PxC σ0 f n b σ' p' h' ∧ PxM τ0 f n b τ' p' h' wr ∧ Hok f h' ∧ p' ≤ n ∧ ((ok = true ∧ wr = 0 ∧ p' = n) ∨ (ok = false ∧ (wr = 1 ∨ (wr = 0 ∧ p' < n))))
theorem ra_fail (fu : Nat) (x : Int32) (σ : St) : f_X4_readAll_24 (fu + 1) 0 x σ = some (0, σ) := by
  rw [f_X4_readAll_24, if_pos rfl, ite_self, cI_t (show zb 0 = true by decide)]
theorem ch_fail {τ : St} (f5 f35 : Nat) (r : Int32) (h : τ.1 0 24 = 1) : (f_X8_chain_5 (f5 + 1) r τ).bind (fun q => f_X8_text_35 f_X8_text_68 (f35 + 1) q) = f_X8_text_68 τ := by
  have ne : ¬ τ.1 0 24 = 0 := by rw [h]; decide
  rw [f_X8_chain_5, if_neg ne, bS, f_X8_text_35, if_neg ne]
theorem rest_end {σ0 τ0 σ τ : St} {f n k : Nat} {b : Nat → Nat} {h : Nat → Nat → Nat} (hn : n ≤ 200) (hb : ∀ j, j < n → b j < 256) (C : PxC σ0 f n b σ n h) (M : PxM τ0 f n b τ n h 0) (H : Hok f h) (hk : k < 200) (fu f5 f35 : Nat) (S : Int32) : ∃ ok p' h' wr σ' τ', f_X4_readAll_24 (fu + 1) 1 (nI k) σ = some (bI ok, σ') ∧ (f_X8_chain_5 (f5 + 1) S τ).bind (fun q => f_X8_text_35 f_X8_text_68 (f35 + 1) q) = f_X8_text_68 τ' ∧ EndR σ0 τ0 f n b ok p' h' wr σ' τ' := by
  have w24 := M.1.2.2.1
  have h1 : ∃ v, f_X8_here τ = some (v, τ) ∧ ¬ v = 60 := by
    rcases sign_both (x := 60) (c := 60) rfl (by decide) hn hb (Nat.le_refl n) C M with ⟨q, -⟩ | ⟨-, z⟩
    · omega
    · exact z
  have h2 : ∃ v, f_X8_here τ = some (v, τ) ∧ ¬ v = 59 := by
    rcases sign_both (x := 59) (c := 59) rfl (by decide) hn hb (Nat.le_refl n) C M with ⟨q, -⟩ | ⟨-, z⟩
    · omega
    · exact z
  obtain ⟨v1, a1, a2⟩ := h1
  obtain ⟨v2, b1, b2⟩ := h2
  refine ⟨true, n, h, 0, σ, τ, ?_, ?_, C, M, H, Nat.le_refl n, Or.inl ⟨rfl, rfl, rfl⟩⟩
  · rw [f_X4_readAll_24, if_neg (show ¬ (200 : Int32) ≤ nI k from nI_ge (b := 200) hk (by decide)), if_neg one_ne, C.1.1, C.1.2.1, if_pos (nI_le (Nat.le_refl n) (by omega)), cI_t (show zb 1 = true by decide)]
    rfl
  · rw [f_X8_chain_5, if_pos w24, a1, bS, if_neg a2, bS, f_X8_text_35, if_pos w24, b1, bS, if_neg b2]
theorem rest_both {σ0 τ0 : St} {f n : Nat} {b : Nat → Nat} (hf : f ≤ 7) (hn : n ≤ 200) (hb : ∀ j, j < n → b j < 256) : ∀ (m fu f5 f35 p k S : Nat) (h : Nat → Nat → Nat) (σ τ : St), n - p ≤ m → m ≤ 200 → PxC σ0 f n b σ p h → PxM τ0 f n b τ p h 0 → Hok f h → p ≤ n → σ.1 58 4 = nI S → S < 128 → (∀ j, S.testBit j = true → j < f) → k + (n - p) < 200 → m < fu → m < f5 → m < f35 → ∃ ok p' h' wr σ' τ', f_X4_readAll_24 fu 1 (nI k) σ = some (bI ok, σ') ∧ (f_X8_chain_5 f5 (nI S) τ).bind (fun q => f_X8_text_35 f_X8_text_68 f35 q) = f_X8_text_68 τ' ∧ EndR σ0 τ0 f n b ok p' h' wr σ' τ' := by
  intro m
  induction m with
  | zero =>
    intro fu f5 f35 p k S h σ τ hm hm2 C M H hp hS hS2 hS3 hk l1 l2 l3
    obtain rfl : p = n := by omega
    obtain ⟨fu, rfl⟩ : ∃ m, fu = m + 1 := ⟨fu - 1, by omega⟩
    obtain ⟨f5, rfl⟩ : ∃ m, f5 = m + 1 := ⟨f5 - 1, by omega⟩
    obtain ⟨f35, rfl⟩ : ∃ m, f35 = m + 1 := ⟨f35 - 1, by omega⟩
    exact rest_end hn hb C M H (by omega) fu f5 f35 (nI S)
  | succ m ih =>
    intro fu f5 f35 p k S h σ τ hm hm2 C M H hp hS hS2 hS3 hk l1 l2 l3
    obtain ⟨fu, rfl⟩ : ∃ m, fu = m + 1 := ⟨fu - 1, by omega⟩
    obtain ⟨f5, rfl⟩ : ∃ m, f5 = m + 1 := ⟨f5 - 1, by omega⟩
    obtain ⟨f35, rfl⟩ : ∃ m, f35 = m + 1 := ⟨f35 - 1, by omega⟩
    rcases Nat.lt_or_ge p n with q | q
    · have w24 := M.1.2.2.1
      -- a sign that tells, then a group
      have step : ∀ (v p1 : Nat) (σ1 τ1 : St), 1 ≤ v → v ≤ 2 → p < p1 → p1 ≤ n → PxC σ0 f n b σ1 p1 h → PxM τ0 f n b τ1 p1 h 0 → ∃ ok p' h' wr σ' τ', (f_X4_readNextGroup_45 (nI S) (nI v) σ1).bind (fun q7 => f_X4_readAll_24 fu q7.1 (nI (k + 1)) q7.2) = some (bI ok, σ') ∧ ((f_X8_group τ1).bind (fun q2 => f_X8_chain_73 (f_X8_chain_150 (f_X8_chain_5 f5)) FU (nI S) (nI v) q2.1 (0 : Int32) q2.2)).bind (fun q => f_X8_text_35 f_X8_text_68 (f35 + 1) q) = f_X8_text_68 τ' ∧ EndR σ0 τ0 f n b ok p' h' wr σ' τ' := by
        intro v p1 σ1 τ1 hv1 hv2 hp1 hp2 C1 M1
        obtain ⟨ok, p', S', σ', τ', r, g1, g2, gC, gM, gp, gn, gok⟩ := grp_both hf hn hb hp2 C1 M1
        unfold f_X4_readNextGroup_45
        rw [g1, bS, g2, bS]
        cases ok with
        | false =>
          obtain ⟨fu, rfl⟩ : ∃ m, fu = m + 1 := ⟨fu - 1, by omega⟩
          obtain ⟨f5, rfl⟩ : ∃ m, f5 = m + 1 := ⟨f5 - 1, by omega⟩
          have w1 : τ'.1 0 24 = 1 := gM.1.2.2.1
          have ne : ¬ τ'.1 0 24 = 0 := by rw [w1]; decide
          rw [if_pos (show bI false = 0 by decide), bS, ra_fail, show FU = 99999 + 1 from rfl, f_X8_chain_73, if_neg (show ¬ (7 : Int32) ≤ 0 by decide), if_neg ne]
          unfold f_X8_chain_150
          rw [ch_fail f5 f35 _ w1]
          exact ⟨false, p', h, 1, σ', τ', rfl, rfl, gC, gM, H, gn, Or.inr ⟨rfl, Or.inl rfl⟩⟩
        | true =>
          obtain ⟨gp2, gr, gS, gS2, gb⟩ := gok rfl
          subst gr
          have gM0 : PxM τ0 f n b τ' p' (rl S S' v h 0 0) 0 := by rw [rl_0]; exact gM
          have gC0 : PxC σ0 f n b σ' p' (rl S S' v h 0 0) := by rw [rl_0]; exact gC
          obtain ⟨σ2, r1, r2, r3⟩ := relC_out hf hS2 gS2 gb hv2 FU 0 σ' gC0 gS (Nat.zero_le _) (FU_big (by omega))
          obtain ⟨τ2, t1, t2⟩ := relM_out hS2 gS2 (f_X8_chain_150 (f_X8_chain_5 f5)) FU 0 τ' gM0 (Nat.zero_le _) (FU_big (by omega))
          rw [rl_end hf hS3] at r2
          unfold f_X4_relate
          rw [if_neg (show ¬ bI true = 0 by decide), if_neg (show ¬ nI v = 0 from nI_ne0 (by omega) (by omega)), show f_X4_relate_2 FU (nI S) (nI v) 0 σ' = _ from r1, bS, bS, show f_X8_chain_73 (f_X8_chain_150 (f_X8_chain_5 f5)) FU (nI S) (nI v) (nI S') 0 τ' = _ from t1]
          unfold f_X8_chain_150
          exact ih fu f5 (f35 + 1) p' (k + 1) S' _ σ2 τ2 (by omega) (by omega) r2 t2 (Hok_rl H hv2 hS3 gb 7 0) gn r3 gS2 gb (by omega) (by omega) (by omega) (by omega)
      rw [f_X4_readAll_24, if_neg (show ¬ (200 : Int32) ≤ nI k from nI_ge (b := 200) (by omega) (by decide)), if_neg one_ne, C.1.1, C.1.2.1, if_neg (nI_ge q (by omega)), nI_1 k]
      unfold f_X4_readNextGroup
      rw [hS, f_X8_chain_5, if_pos w24]
      rcases sign_both (x := 60) (c := 60) rfl (by decide) hn hb hp C M with ⟨-, s1, s2⟩ | ⟨s1, v, s2, s3⟩
      · have C1 := PxC_at C (p + 1)
        have M1 := PxM_at M (p + 1)
        rw [s1, bS, if_neg one_ne, s2, bS, if_pos rfl, ap, M.1.2.1, nI_1 p]
        unfold f_X4_readNextGroup_30 f_X8_chain_45 f_X8_chain_61
        rcases sign_both (x := 61) (c := 61) rfl (by decide) hn hb (show p + 1 ≤ n by omega) C1 M1 with ⟨q2, u1, u2⟩ | ⟨u1, v2, u2, u3⟩
        · rw [u1, bS, if_neg one_ne, u2, bS, if_pos rfl, if_pos rfl, ap, M1.1.2.1, nI_1 (p + 1)]
          exact step 2 (p + 1 + 1) _ _ (by decide) (by decide) (by omega) (by omega) (PxC_at C1 (p + 1 + 1)) (PxM_at M1 (p + 1 + 1))
        · rw [u1, bS, if_pos rfl, u2, bS, if_neg u3, if_neg (show ¬ (1 : Int32) = 2 by decide), ap, M1.1.2.1, Int32.add_zero]
          exact step 1 (p + 1) _ _ (by decide) (by decide) (by omega) (by omega) C1 (PxM_at M1 (p + 1))
      · rw [s1, bS, if_pos rfl, s2, bS, if_neg s3, bS, f_X8_text_35, if_pos w24]
        rcases sign_both (x := 59) (c := 59) rfl (by decide) hn hb hp C M with ⟨-, u1, u2⟩ | ⟨u1, v2, u2, u3⟩
        · have C1 := PxC_at C (p + 1)
          have M1 := PxM_at M (p + 1)
          rw [u1, bS, if_neg one_ne, u2, bS, if_pos rfl, ap, M.1.2.1, nI_1 p]
          obtain ⟨ok, p', S', σ', τ', r, g1, g2, gC, gM, gp, gn, gok⟩ := grp_both hf hn hb (show p + 1 ≤ n by omega) C1 M1
          unfold f_X4_readNextGroup_45 f_X8_chain
          rw [g1, bS, g2, bS]
          cases ok with
          | false =>
            obtain ⟨fu, rfl⟩ : ∃ m, fu = m + 1 := ⟨fu - 1, by omega⟩
            obtain ⟨f35, rfl⟩ : ∃ m, f35 = m + 1 := ⟨f35 - 1, by omega⟩
            have w1 : τ'.1 0 24 = 1 := gM.1.2.2.1
            rw [if_pos (show bI false = 0 by decide), bS, ra_fail, show FU = 99999 + 1 from rfl, ch_fail 99999 f35 _ w1]
            exact ⟨false, p', h, 1, σ', τ', rfl, rfl, gC, gM, H, gn, Or.inr ⟨rfl, Or.inl rfl⟩⟩
          | true =>
            obtain ⟨gp2, gr, gS, gS2, gb⟩ := gok rfl
            subst gr
            rw [if_neg (show ¬ bI true = 0 by decide), if_pos rfl, bS]
            exact ih fu FU f35 p' (k + 1) S' h σ' τ' (by omega) (by omega) gC gM H gn gS gS2 gb (by omega) (by omega) (FU_big (by omega)) (by omega)
        · obtain ⟨fu, rfl⟩ : ∃ m, fu = m + 1 := ⟨fu - 1, by omega⟩
          rw [u1, bS, if_pos rfl, bS, ra_fail, u2, bS, if_neg u3]
          exact ⟨false, p, h, 0, σ, τ, rfl, rfl, C, M, H, hp, Or.inr ⟨rfl, Or.inr ⟨rfl, q⟩⟩⟩
    · obtain rfl : p = n := by omega
      exact rest_end hn hb C M H (by omega) fu f5 f35 (nI S)
theorem tx2 (kk : St → Option (Int32 × St)) : ∀ (fu k : Nat) (τ : St), k ≤ 49 → 49 - k < fu → ∃ τ', f_X8_text_2 kk fu (nI k) τ = kk τ' ∧ (∀ q, k ≤ q → q < 49 → τ'.1 16 q = 0) ∧ (∀ q, q < k → τ'.1 16 q = τ.1 16 q) ∧ (∀ a, a ≠ 16 → τ'.1 a = τ.1 a) ∧ τ'.2 = τ.2 := by
  intro fu
  induction fu with
  | zero => intro k τ _ h; omega
  | succ fu ih =>
    intro k τ hk hfu
    rw [f_X8_text_2]
    rcases Nat.lt_or_ge k 49 with q | q
    · rw [if_neg (show ¬ (49 : Int32) ≤ nI k from nI_ge (b := 49) q (by decide)), cI_t (ix_nI q (by decide)), ap, nI_clamp (by omega), nI_1]
      obtain ⟨τ', r1, r2, r3, r4, r5⟩ := ih (k + 1) (up1 τ 16 k 0) (by omega) (by omega)
      refine ⟨τ', r1, fun p p1 p2 => ?_, fun p hp => by rw [r3 p (by omega), up1_ne (by omega)], fun a ha => by rw [r4 a ha, up1_r ha], by rw [r5]; rfl⟩
      by_cases e : p = k
      · subst e; rw [r3 p (by omega), up1_eq]
      · exact r2 p (by omega) p2
    · obtain rfl : k = 49 := by omega
      rw [if_pos (show (49 : Int32) ≤ nI 49 by decide)]
      exact ⟨τ, rfl, fun p p1 p2 => by omega, fun _ _ => rfl, fun _ _ => rfl, rfl⟩
theorem tx111 (kk : St → Option (Int32 × St)) : ∀ (fu k : Nat) (τ : St), k ≤ 49 → 49 - k < fu → ∃ τ', f_X8_text_111 kk fu (nI k) τ = kk τ' ∧ (∀ q, k ≤ q → q < 49 → τ'.1 8 q = τ.1 16 q) ∧ (∀ q, q < k → τ'.1 8 q = τ.1 8 q) ∧ (∀ a, a ≠ 8 → τ'.1 a = τ.1 a) ∧ τ'.2 = τ.2 := by
  intro fu
  induction fu with
  | zero => intro k τ _ h; omega
  | succ fu ih =>
    intro k τ hk hfu
    rw [f_X8_text_111]
    rcases Nat.lt_or_ge k 49 with q | q
    · have ck := ix_nI q (by decide)
      rw [if_neg (show ¬ (49 : Int32) ≤ nI k from nI_ge (b := 49) q (by decide)), cI_t ck, cI_t ck, ap, nI_clamp (by omega), nI_1]
      obtain ⟨τ', r1, r2, r3, r4, r5⟩ := ih (k + 1) (up1 τ 8 k (τ.1 16 k)) (by omega) (by omega)
      refine ⟨τ', r1, fun p p1 p2 => ?_, fun p hp => by rw [r3 p (by omega), up1_ne (by omega)], fun a ha => by rw [r4 a ha, up1_r ha], by rw [r5]; rfl⟩
      by_cases e : p = k
      · subst e; rw [r3 p (by omega), up1_eq]
      · rw [r2 p (by omega) p2, up1_r (by omega)]
    · obtain rfl : k = 49 := by omega
      rw [if_pos (show (49 : Int32) ≤ nI 49 by decide)]
      exact ⟨τ, rfl, fun p p1 p2 => by omega, fun _ _ => rfl, fun _ _ => rfl, rfl⟩
/-- the tape is read on both sides -/
theorem read_both {T : Tl} {σ τ : St} (H : RelT T σ τ) : ∃ (n : Nat) (b : Nat → Nat) (ok : Bool) (p' : Nat) (h' : Nat → Nat → Nat) (wr : Int32) (σ' τ' : St), n ≤ 200 ∧ f_X4_readAll (σ.1 1 3) σ = some (bI ok, σ') ∧ f_X8_text τ = f_X8_text_68 τ' ∧ EndR σ τ (tf T) n b ok p' h' wr σ' τ' := by
  obtain ⟨n, n1, n2, n3, n4⟩ := H.2.2.2.2.2.1
  have hf := H.1.2.1
  obtain ⟨b, b2, hb⟩ := skol (f := n) (P := fun j x _ => x < 256 ∧ τ.1 14 j = nI x ∧ σ.1 59 j = (nI x).toInt8.toInt32) (fun j hj => by
    obtain ⟨x, x1, x2, x3⟩ := n4 j hj
    exact ⟨x, 0, x1, x2, x3⟩)
  have hb256 : ∀ j, j < n → b j < 256 := fun j hj => (hb j hj).1
  -- the system's start
  obtain ⟨σA, hA⟩ : ∃ s, s = rw1 (rw1 (up1 (up1 σ 58 2 0) 58 3 (nI (tf T))) 61 (fun j => if j < 7 then 0 else (up1 (up1 σ 58 2 0) 58 3 (nI (tf T))).1 61 j)) 62 (fun j => if j < 7 then 0 else (rw1 (up1 (up1 σ 58 2 0) 58 3 (nI (tf T))) 61 (fun j => if j < 7 then 0 else (up1 (up1 σ 58 2 0) 58 3 (nI (tf T))).1 61 j)).1 62 j) := ⟨_, rfl⟩
  have clr : f_X2_clear 60 (up1 (up1 σ 58 2 0) 58 3 (nI (tf T))) = some σA := by
    unfold f_X2_clear
    rw [fill_Ieq (by decide), bS, fill_Ieq (by decide), bS, hA]
  have fr : ∀ a, a ≠ 61 → a ≠ 62 → σA.1 a = (up1 (up1 σ 58 2 0) 58 3 (nI (tf T))).1 a := fun a a1 a2 => by rw [hA, rw1_r a2, rw1_r a1]
  have m0 : ∀ (k w : Nat), 0 < w → msk (fun _ => (0 : Nat) == w) 7 = 0 := fun _ w hw => msk_0 (fun i _ => by
    show ((0 : Nat) == w) = false
    rw [beq_eq_false_iff_ne]
    omega)
  have CA : PxC σ (tf T) n b σA 0 (fun _ _ => 0) := by
    refine ⟨⟨?_, ?_, ?_⟩, fun j hj => ?_, fun k hk => ⟨?_, ?_⟩, fun a ha => ?_, ?_⟩
    · rw [fr 58 (by omega) (by omega), up1_ne (by omega), up1_ne (by omega)]; exact n2
    · rw [fr 58 (by omega) (by omega), up1_ne (by omega), up1_eq]; rfl
    · rw [fr 58 (by omega) (by omega), up1_eq]
    · rw [fr 59 (by omega) (by omega), up1_r (by omega), up1_r (by omega)]; exact (hb j hj).2.2
    · rw [hA, rw1_r (by omega), rw1_row]
      show (if k < 7 then (0 : Int32) else _) = _
      rw [if_pos hk, m0 k 1 (by decide)]; rfl
    · rw [hA, rw1_row]
      show (if k < 7 then (0 : Int32) else _) = _
      rw [if_pos hk, m0 k 2 (by decide)]; rfl
    · rw [fr a (by omega) (by omega), up1_r (by omega), up1_r (by omega)]
    · rw [hA]; rfl
  -- the reference's start
  obtain ⟨τ1, r1, r2, r3, r4, r5⟩ := tx2 f_X8_text_21 FU 0 τ (by omega) (FU_big (by omega))
  have MA : PxM τ (tf T) n b (up1 (up1 τ1 0 23 0) 0 24 0) 0 (fun _ _ => 0) 0 := by
    refine ⟨⟨?_, ?_, up1_eq, ?_⟩, fun j hj => ?_, fun i k hi hk => ?_, fun a ha => ?_, fun j hj => ?_, r5⟩
    · rw [up1_ne (by omega), up1_ne (by omega), r4 0 (by omega)]; exact n3
    · rw [up1_ne (by omega), up1_eq]; rfl
    · rw [up1_ne (by omega), up1_ne (by omega), r4 0 (by omega)]; exact H.2.2.1.1.2
    · rw [up1_r (by omega), up1_r (by omega), r4 14 (by omega)]; exact (hb j hj).2.1
    · rw [up1_r (by omega), up1_r (by omega), r2 (7 * i + k) (by omega) (by omega)]; rfl
    · rw [up1_r (by omega), up1_r (by omega), r4 a (by omega)]
    · rw [up1_ne (by omega), up1_ne (by omega), r4 0 (by omega)]
  have H0 : Hok (tf T) (fun _ _ => 0) := ⟨fun _ _ => Nat.zero_le _, fun _ _ _ => rfl⟩
  obtain ⟨ok, p', S', σ', τ', r, g1, g2, gC, gM, gp, gn, gok⟩ := grp_both hf n1 hb256 (Nat.zero_le n) CA MA
  unfold f_X4_readAll f_X8_text
  rw [H.2.1.1.2, ap, clr, bS, g1, bS, show f_X8_text_2 f_X8_text_21 FU 0 τ = _ from r1]
  unfold f_X8_text_21 f_X8_chain
  rw [ap, ap, g2, bS]
  cases ok with
  | false =>
    have w1 : τ'.1 0 24 = 1 := gM.1.2.2.1
    refine ⟨n, b, false, p', (fun _ _ => 0), 1, σ', τ', n1, ?_, ?_, gC, gM, H0, gn, Or.inr ⟨rfl, Or.inl rfl⟩⟩
    · exact ra_fail 99999 0 σ'
    · exact ch_fail 99999 99999 r w1
  | true =>
    obtain ⟨gp2, gr, gS, gS2, gb⟩ := gok rfl
    subst gr
    obtain ⟨ok2, p2, h2, wr2, σ2, τ2, u1, u2, u3⟩ := rest_both hf n1 hb256 (n - p') FU FU FU p' 0 S' (fun _ _ => 0) σ' τ' (Nat.le_refl _) (by omega) gC gM H0 gn gS gS2 gb (by omega) (FU_big (by omega)) (FU_big (by omega)) (FU_big (by omega))
    exact ⟨n, b, ok2, p2, h2, wr2, σ2, τ2, n1, u1, u2, u3⟩
def setP (T : Tl) (h : Nat → Nat → Nat) : Tl := (T.1, T.2.1, T.2.2.1, T.2.2.2.1, T.2.2.2.2.1, h)
theorem RelT_text {T : Tl} {σ τ σ' τ' : St} {h : Nat → Nat → Nat} (H : RelT T σ τ) (hh : Hok (tf T) h) (c : ∀ a, (a ≠ 58 ∧ a ≠ 61 ∧ a ≠ 62 ∧ a ≠ 6 ∧ a ≠ 7) → σ'.1 a = σ.1 a) (c1 : σ'.1 58 1 = 0) (cp : PairC (σ'.1 6) (σ'.1 7) h) (c2 : σ'.2 = σ.2) (m : ∀ a, (a ≠ 0 ∧ a ≠ 8 ∧ a ≠ 16) → τ'.1 a = τ.1 a) (m0 : ∀ j, (j ≠ 19 ∧ j ≠ 23 ∧ j ≠ 24) → τ'.1 0 j = τ.1 0 j) (m1 : τ'.1 0 19 = 0) (mp : ∀ i k, i < tf T → k < tf T → τ'.1 8 (7 * i + k) = nI (h i k)) (m2 : τ'.2 = τ.2) : RelT (setP T h) σ' τ' := by
  obtain ⟨h1, h2, h3, h4, h5, h6, h7, h8, h9, h10⟩ := H
  obtain ⟨⟨k1, k2⟩, k3, k4, k5, k6⟩ := h2
  obtain ⟨⟨n1, n2⟩, n3, n4, n5, n6⟩ := h3
  have hf := h1.2.1
  refine ⟨⟨h1.1, h1.2.1, h1.2.2.1, h1.2.2.2.1, h1.2.2.2.2.1, hh.1, hh.2⟩, ⟨⟨by rw [c _ (by omega)]; exact k1, by rw [c _ (by omega)]; exact k2⟩, by rw [c _ (by omega)]; exact k3, by rw [c _ (by omega)]; exact k4, fun i hi => ?_, cp⟩, ⟨⟨by rw [m0 0 (by omega)]; exact n1, by rw [m0 3 (by omega)]; exact n2⟩, by rw [m 1 (by omega)]; exact n3, by rw [m 2 (by omega)]; exact n4, fun i hi => TelM_find0 _ (fun a a1 a2 => m a (by omega)) (n5 i hi), mp⟩, KeptR_congr (by rw [c 0 (by omega)]) (m0 13 (by omega)) (fun a a1 a2 => c a (by omega)) (m 10 (by omega)) h4, SheetsR_congr (fun a a1 a2 => c a (by omega)) (m 11 (by omega)) (m 12 (by omega)) (m 13 (by omega)) h5, ⟨0, by omega, c1, m1, fun j hj => by omega⟩, WaitR_congr (by rw [c 0 (by omega)]) (c 81 (by omega)) (m0 20 (by omega)) (m 15 (by omega)) h7, DrawR_congr (by rw [c 0 (by omega)]) (c 82 (by omega)) (m0 10 (by omega)) (m 9 (by omega)) h8, by rw [c2, m2]; exact h9, by rw [c 0 (by omega), m0 22 (by omega)]; exact h10⟩
  have hi' : i < tf T := hi
  rw [c (1 + 7 + 3 * i) (by omega), c (1 + 8 + 3 * i) (by omega), c (1 + 9 + 3 * i) (by omega)]
  exact k5 i hi
theorem ag_text : Ag_text Rel := by
  rintro σ τ ⟨T, H⟩
  obtain ⟨n, b, ok, p', h', wr, σ', τ', hn, a1, a2, C, M, hh, hp, hok⟩ := read_both H
  have hf := H.1.2.1
  unfold f_X7_text
  rw [a1, a2, bS, ap]
  rcases hok with ⟨rfl, rfl, rfl⟩ | ⟨rfl, hw⟩
  · -- a text
    have w24 := M.1.2.2.1
    unfold f_X8_text_68 f_X8_text_91
    rw [if_neg (show ¬ bI true = 0 by decide), if_pos w24, if_pos (show τ'.1 0 23 = τ'.1 0 19 by rw [M.1.1, M.1.2.1]), ap, if_neg one_ne]
    obtain ⟨σ2, p1, p2, p3, p4⟩ := cpP (a := 5) (b := 60) (σ := up1 σ' 58 1 0) (by omega)
    obtain ⟨τ2, t1, t2, t3, t4, t5⟩ := tx111 f_X8_text_135 FU 0 (up1 τ' 0 19 0) (by omega) (FU_big (by omega))
    have pc : PairC (σ2.1 6) (σ2.1 7) h' := fun k hk => by
      obtain ⟨x1, x2⟩ := p2 k hk
      obtain ⟨y1, y2⟩ := C.2.2.1 k hk
      refine ⟨?_, ?_⟩
      · rw [show σ2.1 6 k = _ from x1, up1_r (by omega)]; exact y1
      · rw [show σ2.1 7 k = _ from x2, up1_r (by omega)]; exact y2
    have rel : RelT (setP T h') σ2 τ2 := RelT_text H hh (fun a ha => by rw [p4 a (by omega), up1_r (by omega)]; exact C.2.2.2.1 a (by omega)) (by rw [p4 58 (by omega), up1_eq]) pc (by rw [p3]; exact C.2.2.2.2) (fun a ha => by rw [t4 a (by omega), up1_r (by omega)]; exact M.2.2.2.1 a (by omega)) (fun j hj => by rw [t4 0 (by omega), up1_ne (by omega)]; exact M.2.2.2.2.1 j (by omega)) (by rw [t4 0 (by omega), up1_eq]) (fun i k hi hk => by rw [t2 (7 * i + k) (by omega) (by omega), up1_r (by omega)]; exact M.2.2.1 i k (by omega) (by omega)) (by rw [t5]; exact M.2.2.2.2.2)
    rw [p1, bS, show f_X2_howMany 5 σ2 = _ from howMany_eq (k0 := 5) (T := setP T h') pc rel.1, bS, show f_X8_text_111 f_X8_text_135 FU 0 (up1 τ' 0 19 0) = _ from t1]
    unfold f_X8_text_135
    rw [pairMany_eq rel.1 rel.2.2.1, bS]
    exact ⟨_, σ2, τ2, rfl, rfl, setP T h', rel⟩
  · -- none
    have e68 : f_X8_text_68 τ' = f_X8_text_90 τ' := by
      unfold f_X8_text_68
      rcases hw with e | ⟨e, e2⟩
      · subst e
        rw [if_neg (show ¬ τ'.1 0 24 = 0 by rw [M.1.2.2.1]; decide)]
      · subst e
        rw [if_pos M.1.2.2.1, if_neg (show ¬ τ'.1 0 23 = τ'.1 0 19 by rw [M.1.1, M.1.2.1]; exact fun z => by have := nI_inj (by omega) (by omega) z; omega)]
    rw [e68]
    unfold f_X8_text_90 f_X8_text_91
    rw [if_pos (show bI false = 0 by decide), ap, if_pos rfl, up1_ne (show ¬ ((58 : Nat) = 58 ∧ 2 = 1) by omega), C.1.2.1, up1_ne (show ¬ ((0 : Nat) = 0 ∧ 23 = 19) by omega), M.1.2.1]
    have rel : RelT (setP T (th T)) (up1 σ' 58 1 0) (up1 τ' 0 19 0) := RelT_text H ⟨H.1.2.2.2.2.2.1, H.1.2.2.2.2.2.2⟩ (fun a ha => by rw [up1_r (by omega)]; exact C.2.2.2.1 a (by omega)) up1_eq (by rw [up1_r (by omega), up1_r (by omega), C.2.2.2.1 6 (by omega), C.2.2.2.1 7 (by omega)]; exact H.2.1.2.2.2.2) C.2.2.2.2 (fun a ha => by rw [up1_r (by omega)]; exact M.2.2.2.1 a (by omega)) (fun j hj => by rw [up1_ne (by omega)]; exact M.2.2.2.2.1 j (by omega)) up1_eq (fun i k hi hk => by rw [up1_r (by omega), M.2.2.2.1 8 (by omega)]; exact H.2.2.1.2.2.2.2 i k hi hk) M.2.2.2.2.2
    exact ⟨_, _, _, rfl, rfl, setP T (th T), rel⟩
