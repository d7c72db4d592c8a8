/-! the reading of a TEXT, on both sides: at place p of the tape, the pairs told so far are h -/
def PxC (σ0 : St) (f n : Nat) (b : Nat → Nat) (σ : St) (p : Nat) (h : Nat → Nat → Nat) : Prop := (σ.1 58 1 = nI n ∧ σ.1 58 2 = nI p ∧ σ.1 58 3 = nI f) ∧ (∀ j, j < n → σ.1 59 j = (nI (b j)).toInt8.toInt32) ∧ PairC (σ.1 61) (σ.1 62) h ∧ (∀ a, (a ≠ 58 ∧ a ≠ 61 ∧ a ≠ 62) → σ.1 a = σ0.1 a) ∧ σ.2 = σ0.2
def PxM (τ0 : St) (f n : Nat) (b : Nat → Nat) (τ : St) (p : Nat) (h : Nat → Nat → Nat) (wr : Int32) : Prop := (τ.1 0 19 = nI n ∧ τ.1 0 23 = nI p ∧ τ.1 0 24 = wr ∧ τ.1 0 3 = nI f) ∧ (∀ j, j < n → τ.1 14 j = nI (b j)) ∧ (∀ i k, i < 7 → k < 7 → τ.1 16 (7 * i + k) = nI (h i k)) ∧ (∀ a, (a ≠ 0 ∧ a ≠ 16) → τ.1 a = τ0.1 a) ∧ (∀ j, (j ≠ 23 ∧ j ≠ 24) → τ.1 0 j = τ0.1 0 j) ∧ τ.2 = τ0.2
theorem PxC_at {σ0 σ : St} {f n p : Nat} {b : Nat → Nat} {h : Nat → Nat → Nat} (H : PxC σ0 f n b σ p h) (q : Nat) : PxC σ0 f n b (up1 σ 58 2 (nI q)) q h :=
  ⟨⟨by rw [up1_ne (by omega)]; exact H.1.1, up1_eq, by rw [up1_ne (by omega)]; exact H.1.2.2⟩, by rw [up1_r (by omega)]; exact H.2.1, by rw [up1_r (by omega), up1_r (by omega)]; exact H.2.2.1, fun a ha => by rw [up1_r (by omega)]; exact H.2.2.2.1 a ha, H.2.2.2.2⟩
theorem PxC_gr {σ0 σ : St} {f n p : Nat} {b : Nat → Nat} {h : Nat → Nat → Nat} (H : PxC σ0 f n b σ p h) (v : Int32) : PxC σ0 f n b (up1 σ 58 4 v) p h :=
  ⟨⟨by rw [up1_ne (by omega)]; exact H.1.1, by rw [up1_ne (by omega)]; exact H.1.2.1, by rw [up1_ne (by omega)]; exact H.1.2.2⟩, by rw [up1_r (by omega)]; exact H.2.1, by rw [up1_r (by omega), up1_r (by omega)]; exact H.2.2.1, fun a ha => by rw [up1_r (by omega)]; exact H.2.2.2.1 a ha, H.2.2.2.2⟩
theorem PxM_at {τ0 τ : St} {f n p : Nat} {b : Nat → Nat} {h : Nat → Nat → Nat} {wr : Int32} (H : PxM τ0 f n b τ p h wr) (q : Nat) : PxM τ0 f n b (up1 τ 0 23 (nI q)) q h wr :=
  ⟨⟨by rw [up1_ne (by omega)]; exact H.1.1, up1_eq, by rw [up1_ne (by omega)]; exact H.1.2.2.1, by rw [up1_ne (by omega)]; exact H.1.2.2.2⟩, by rw [up1_r (by omega)]; exact H.2.1, by rw [up1_r (by omega)]; exact H.2.2.1, fun a ha => by rw [up1_r (by omega)]; exact H.2.2.2.1 a ha, fun j hj => by rw [up1_ne (by omega)]; exact H.2.2.2.2.1 j hj, H.2.2.2.2.2⟩
theorem PxM_wr {τ0 τ : St} {f n p : Nat} {b : Nat → Nat} {h : Nat → Nat → Nat} {wr : Int32} (H : PxM τ0 f n b τ p h wr) : PxM τ0 f n b (up1 τ 0 24 1) p h 1 :=
  ⟨⟨by rw [up1_ne (by omega)]; exact H.1.1, by rw [up1_ne (by omega)]; exact H.1.2.1, up1_eq, by rw [up1_ne (by omega)]; exact H.1.2.2.2⟩, by rw [up1_r (by omega)]; exact H.2.1, by rw [up1_r (by omega)]; exact H.2.2.1, fun a ha => by rw [up1_r (by omega)]; exact H.2.2.2.1 a ha, fun j hj => by rw [up1_ne (by omega)]; exact H.2.2.2.2.1 j hj, H.2.2.2.2.2⟩
theorem byS : ∀ b, b < 256 → ∀ c, c < 62 → ((nI b).toInt8.toInt32 = nI c ↔ b = c) := by decide +kernel
theorem byN : ∀ b, b < 256 → (97 ≤ b ∧ b < 128 → (nI b).toInt8.toInt32 - 97 = nI (b - 97)) ∧ (¬ (97 ≤ b ∧ b < 128) → (nI b).toInt8.toInt32 - 97 < 0) ∧ (97 ≤ b → nI b - 97 = nI (b - 97)) ∧ (b < 97 → nI b - 97 < 0) := by decide +kernel
theorem m1_ne : ∀ c, c < 62 → ¬ (-1 : Int32) = nI c := by decide +kernel
theorem sign_both {σ0 τ0 σ τ : St} {f n p c : Nat} {b : Nat → Nat} {h : Nat → Nat → Nat} {wr x : Int32} (ex : x = nI c) (hc : c < 62) (hn : n ≤ 200) (hb : ∀ j, j < n → b j < 256) (hp : p ≤ n) (C : PxC σ0 f n b σ p h) (M : PxM τ0 f n b τ p h wr) : (p < n ∧ f_X4_skip x σ = some (1, up1 σ 58 2 (nI (p + 1))) ∧ f_X8_here τ = some (x, τ)) ∨ (f_X4_skip x σ = some (0, σ) ∧ ∃ v, f_X8_here τ = some (v, τ) ∧ ¬ v = x) := by
  subst ex
  unfold f_X4_skip f_X8_here
  rw [C.1.1, C.1.2.1, M.1.1, M.1.2.1]
  rcases Nat.lt_or_ge p n with q | q
  · have cp := ix_nI (show p < 200 by omega) (by decide)
    have hbp := hb p q
    rw [if_neg (nI_ge q (by omega)), cI_t cp, nI_clamp (show p < 2 ^ 31 by omega), C.2.1 p q, if_neg (nI_ge q (by omega)), cI_t cp, M.2.1 p q]
    by_cases e : b p = c
    · left
      rw [if_pos ((byS _ hbp c hc).mpr e), ap, nI_1, e]
      exact ⟨q, rfl, rfl⟩
    · right
      rw [if_neg (fun w => e ((byS _ hbp c hc).mp w))]
      exact ⟨rfl, nI (b p), rfl, fun w => e (nI_inj (by omega) (by omega) w)⟩
  · right
    rw [if_pos (nI_le q (by omega)), if_pos (nI_le q (by omega))]
    exact ⟨rfl, -1, rfl, m1_ne c hc⟩
theorem name_both {σ0 τ0 σ τ : St} {f n p : Nat} {b : Nat → Nat} {h : Nat → Nat → Nat} {wr : Int32} (hf : f ≤ 7) (hn : n ≤ 200) (hb : ∀ j, j < n → b j < 256) (hp : p ≤ n) (C : PxC σ0 f n b σ p h) (M : PxM τ0 f n b τ p h wr) : (∃ i, i < f ∧ p < n ∧ f_X4_readName σ = some (1, up1 (up1 σ 58 4 (σ.1 58 4 ||| nI (2 ^ i))) 58 2 (nI (p + 1))) ∧ f_X8_name τ = some (nI (2 ^ i), up1 τ 0 23 (nI (p + 1)))) ∨ (f_X4_readName σ = some (0, σ) ∧ f_X8_name τ = some (0, up1 τ 0 24 1)) := by
  unfold f_X4_readName f_X4_readName_27 f_X8_name f_X8_here f_X8_isFind
  rw [C.1.1, C.1.2.1, C.1.2.2, M.1.1, M.1.2.1]
  rcases Nat.lt_or_ge p n with q | q
  · have cp := ix_nI (show p < 200 by omega) (by decide)
    have hbp := hb p q
    obtain ⟨n1, n2, n3, n4⟩ := byN _ hbp
    rw [if_neg (nI_ge q (by omega)), cI_t cp, nI_clamp (show p < 2 ^ 31 by omega), C.2.1 p q, if_neg (nI_ge q (by omega)), cI_t cp, M.2.1 p q, bS, M.1.2.2.2]
    by_cases e : 97 ≤ b p ∧ b p < 97 + f
    · left
      refine ⟨b p - 97, by omega, q, ?_, ?_⟩
      · rw [n1 ⟨e.1, by omega⟩, if_neg (nI_pos (by omega)), if_pos (nI_lt (by omega) (by omega)), ap, ap, b1 _ (by omega), up1_ne (by omega), C.1.2.1, nI_1]
      · rw [n3 e.1, if_neg (nI_pos (by omega)), if_neg (nI_ge (by omega) (by omega)), bS, if_neg one_ne, ap, b1 _ (by omega), M.1.2.1, nI_1]
    · right
      refine ⟨?_, ?_⟩
      · by_cases e2 : 97 ≤ b p ∧ b p < 128
        · rw [n1 e2, if_neg (nI_pos (by omega)), if_neg (nI_nlt (by omega) (by omega))]
        · rw [if_pos (n2 e2)]
      · by_cases e2 : 97 ≤ b p
        · rw [n3 e2, if_neg (nI_pos (by omega)), if_pos (nI_le (by omega) (by omega)), bS, if_pos rfl, ap]
        · rw [if_pos (n4 (by omega)), bS, if_pos rfl, ap]
  · right
    rw [if_pos (nI_le q (by omega)), if_pos (nI_le q (by omega)), bS, if_pos (show (-1 : Int32) < 0 by decide), if_pos (show (-1 : Int32) - 97 < 0 by decide), bS, if_pos rfl, ap]
    exact ⟨rfl, rfl⟩
/-- how a GROUP was read -/
def GrR (σ0 τ0 : St) (f n : Nat) (b : Nat → Nat) (p : Nat) (h : Nat → Nat → Nat) (ok : Bool) (p' S : Nat) (σ' τ' : St) (r : Int32) : Prop := PxC σ0 f n b σ' p' h ∧ PxM τ0 f n b τ' p' h (if ok = true then 0 else 1) ∧ p ≤ p' ∧ p' ≤ n ∧ (ok = true → p < p' ∧ r = nI S ∧ σ'.1 58 4 = nI S ∧ S < 128 ∧ ∀ j, S.testBit j = true → j < f)
theorem bit_or {f S i : Nat} (hi : i < f) (hS : ∀ j, S.testBit j = true → j < f) : ∀ j, (S ||| 2 ^ i).testBit j = true → j < f := fun j hj => by
  rw [Nat.testBit_or, Nat.testBit_two_pow] at hj
  by_cases c : S.testBit j = true
  · exact hS j c
  · by_cases e : i = j
    · omega
    · simp [c, e] at hj
theorem pow_lt {i : Nat} (hi : i < 7) : 2 ^ i < 128 := Nat.pow_lt_pow_right (n := 7) (by decide) hi
theorem lst_both {σ0 τ0 : St} {f n : Nat} {b : Nat → Nat} {h : Nat → Nat → Nat} (hf : f ≤ 7) (hn : n ≤ 200) (hb : ∀ j, j < n → b j < 256) : ∀ (fu p k S : Nat) (σ τ : St), PxC σ0 f n b σ p h → PxM τ0 f n b τ p h 0 → p ≤ n → σ.1 58 4 = nI S → S < 128 → (∀ j, S.testBit j = true → j < f) → k + (n - p) < 200 → n - p < fu → ∃ ok p' S' σ' τ' r, f_X4_readGroup_26 f_X4_readGroup_57 fu 1 (nI k) σ = some (bI ok, σ') ∧ f_X8_group_29 f_X8_group_65 fu (nI S) τ = some (r, τ') ∧ GrR σ0 τ0 f n b p h ok p' S' σ' τ' r := by
  intro fu
  induction fu with
  | zero => intro p k S σ τ _ _ _ _ _ _ _ h; omega
  | succ fu ih =>
    intro p k S σ τ C M hp hS hS2 hS3 hk hfu
    have w24 := M.1.2.2.1
    rw [f_X4_readGroup_26, f_X8_group_29, if_neg (show ¬ (200 : Int32) ≤ nI k from nI_ge (b := 200) (by omega) (by decide)), if_neg one_ne, if_pos w24]
    rcases sign_both (x := 44) (c := 44) rfl (by decide) hn hb hp C M with ⟨q, s1, s2⟩ | ⟨s1, v, s2, s3⟩
    · rw [s1, bS, if_neg one_ne, s2, bS, if_pos rfl, ap, M.1.2.1, nI_1 p]
      have C1 := PxC_at C (p + 1)
      have M1 := PxM_at M (p + 1)
      rcases name_both hf hn hb (by omega) C1 M1 with ⟨i, hi, q2, t1, t2⟩ | ⟨t1, t2⟩
      · have e4 : (up1 σ 58 2 (nI (p + 1))).1 58 4 = nI S := by rw [up1_ne (by omega)]; exact hS
        have pw := pow_lt (show i < 7 by omega)
        rw [t1, bS, t2, bS, nI_1 k, e4, bOr S hS2 _ pw]
        obtain ⟨ok, p', S', σ', τ', r, g1, g2, g3, g4, g5, g6, g7⟩ := ih (p + 1 + 1) (k + 1) (S ||| 2 ^ i) _ _ (PxC_at (PxC_gr C1 (nI (S ||| 2 ^ i))) (p + 1 + 1)) (PxM_at M1 (p + 1 + 1)) (by omega) (by rw [up1_ne (by omega), up1_eq]) (Nat.or_lt_two_pow (n := 7) hS2 pw) (bit_or hi hS3) (by omega) (by omega)
        exact ⟨ok, p', S', σ', τ', r, g1, g2, g3, g4, by omega, g6, fun z => ⟨by have := (g7 z).1; omega, (g7 z).2⟩⟩
      · rw [t1, bS, t2, bS]
        obtain ⟨fu, rfl⟩ : ∃ m, fu = m + 1 := ⟨fu - 1, by omega⟩
        have M2 := PxM_wr M1
        rw [f_X4_readGroup_26, if_pos (show ((0 : Int32), up1 σ 58 2 (nI (p + 1))).1 = 0 from rfl), ite_self, f_X8_group_29, if_neg (show ¬ (up1 (up1 τ 0 23 (nI (p + 1))) 0 24 1).1 0 24 = 0 by rw [up1_eq]; decide)]
        unfold f_X4_readGroup_57 f_X8_group_65 f_X8_group_86 f_X8_group_103
        rw [if_pos rfl, if_neg (show ¬ (up1 (up1 τ 0 23 (nI (p + 1))) 0 24 1).1 0 24 = 0 by rw [up1_eq]; decide), if_neg (show ¬ (up1 (up1 τ 0 23 (nI (p + 1))) 0 24 1).1 0 24 = 0 by rw [up1_eq]; decide), ap, M2.1.2.1, Int32.add_zero]
        exact ⟨false, p + 1, S, _, _, _, rfl, rfl, C1, PxM_at M2 (p + 1), by omega, by omega, fun z => absurd z (by decide)⟩
    · rw [s1, bS, if_pos rfl, s2, bS, if_neg s3]
      unfold f_X4_readGroup_57 f_X8_group_65
      rw [if_neg one_ne, if_pos w24]
      rcases sign_both (x := 41) (c := 41) rfl (by decide) hn hb hp C M with ⟨q, u1, u2⟩ | ⟨u1, v2, u2, u3⟩
      · rw [u1, bS, if_neg one_ne, u2, bS, if_pos rfl]
        unfold f_X8_group_86 f_X8_group_103
        rw [if_pos w24, ap, M.1.2.1, nI_1]
        exact ⟨true, p + 1, S, _, _, _, rfl, rfl, PxC_at C (p + 1), PxM_at M (p + 1), by omega, by omega, fun _ => ⟨by omega, rfl, by rw [up1_ne (by omega)]; exact hS, hS2, hS3⟩⟩
      · rw [u1, bS, if_pos rfl, u2, bS, if_neg u3, ap]
        have M2 := PxM_wr M
        unfold f_X8_group_86 f_X8_group_103
        rw [if_neg (show ¬ (up1 τ 0 24 1).1 0 24 = 0 by rw [up1_eq]; decide), ap, M2.1.2.1, Int32.add_zero]
        exact ⟨false, p, S, _, _, _, rfl, rfl, C, PxM_at M2 p, by omega, by omega, fun z => absurd z (by decide)⟩
theorem grp_both {σ0 τ0 σ τ : St} {f n p : Nat} {b : Nat → Nat} {h : Nat → Nat → Nat} (hf : f ≤ 7) (hn : n ≤ 200) (hb : ∀ j, j < n → b j < 256) (hp : p ≤ n) (C : PxC σ0 f n b σ p h) (M : PxM τ0 f n b τ p h 0) : ∃ ok p' S' σ' τ' r, f_X4_readGroup σ = some (bI ok, σ') ∧ f_X8_group τ = some (r, τ') ∧ GrR σ0 τ0 f n b p h ok p' S' σ' τ' r := by
  unfold f_X4_readGroup f_X8_group
  rw [ap]
  have C0 := PxC_gr C 0
  have e0 : (up1 σ 58 4 0).1 58 4 = nI 0 := up1_eq
  have z1 : zb 1 = true := by decide
  have z0 : zb 0 = true := by decide
  have b0 : ∀ i, i < 7 → nI 0 ||| nI (2 ^ i) = nI (2 ^ i) := by decide +kernel
  have bt : ∀ i, i < f → ∀ j, (2 ^ i).testBit j = true → j < f := fun i hi j hj => by
    rw [Nat.testBit_two_pow] at hj
    have := of_decide_eq_true hj
    omega
  rcases sign_both (x := 40) (c := 40) rfl (by decide) hn hb hp C0 M with ⟨q, s1, s2⟩ | ⟨s1, v, s2, s3⟩
  · rw [s1, bS, if_neg one_ne, s2, bS, if_pos rfl, ap, M.1.2.1, nI_1]
    have C1 := PxC_at C0 (p + 1)
    have M1 := PxM_at M (p + 1)
    rcases name_both hf hn hb (by omega) C1 M1 with ⟨i, hi, q2, t1, t2⟩ | ⟨t1, t2⟩
    · have e4 : (up1 (up1 σ 58 4 0) 58 2 (nI (p + 1))).1 58 4 = nI 0 := by rw [up1_ne (by omega)]; exact e0
      rw [t1, bS, t2, bS, e4, b0 i (by omega)]
      obtain ⟨ok, p', S', σ', τ', r, g1, g2, g3, g4, g5, g6, g7⟩ := lst_both hf hn hb FU (p + 1 + 1) 0 (2 ^ i) _ _ (PxC_at (PxC_gr C1 (nI (2 ^ i))) (p + 1 + 1)) (PxM_at M1 (p + 1 + 1)) (by omega) (by rw [up1_ne (by omega), up1_eq]) (pow_lt (by omega)) (bt i hi) (by omega) (FU_big (by omega))
      exact ⟨ok, p', S', σ', τ', r, g1, g2, g3, g4, by omega, g6, fun z => ⟨by have := (g7 z).1; omega, (g7 z).2⟩⟩
    · rw [t1, bS, t2, bS, show FU = 99999 + 1 from rfl]
      have M2 := PxM_wr M1
      rw [f_X4_readGroup_26, if_pos (show ((0 : Int32), up1 (up1 σ 58 4 0) 58 2 (nI (p + 1))).1 = 0 from rfl), ite_self, f_X8_group_29, if_neg (show ¬ (up1 (up1 τ 0 23 (nI (p + 1))) 0 24 1).1 0 24 = 0 by rw [up1_eq]; decide)]
      unfold f_X4_readGroup_57 f_X8_group_65 f_X8_group_86 f_X8_group_103
      rw [if_pos rfl, if_neg (show ¬ (up1 (up1 τ 0 23 (nI (p + 1))) 0 24 1).1 0 24 = 0 by rw [up1_eq]; decide), if_neg (show ¬ (up1 (up1 τ 0 23 (nI (p + 1))) 0 24 1).1 0 24 = 0 by rw [up1_eq]; decide), ap, M2.1.2.1, Int32.add_zero]
      exact ⟨false, p + 1, 0, _, _, _, rfl, rfl, C1, PxM_at M2 (p + 1), by omega, by omega, fun z => absurd z (by decide)⟩
  · rw [s1, bS, if_pos rfl, s2, bS, if_neg s3]
    rcases name_both hf hn hb hp C0 M with ⟨i, hi, q2, t1, t2⟩ | ⟨t1, t2⟩
    · rw [t1, bS, t2, bS, e0, b0 i (by omega), cI_t z1]
      exact ⟨true, p + 1, 2 ^ i, _, _, _, rfl, rfl, PxC_at (PxC_gr C0 (nI (2 ^ i))) (p + 1), PxM_at M (p + 1), by omega, by omega, fun _ => ⟨by omega, rfl, by rw [up1_ne (by omega), up1_eq], pow_lt (by omega), bt i hi⟩⟩
    · rw [t1, bS, t2, bS, cI_t z0]
      exact ⟨false, p, 0, _, _, _, rfl, rfl, C0, PxM_wr M, by omega, by omega, fun z => absurd z (by decide)⟩
