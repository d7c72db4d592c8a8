/-! sets of finds: numbers below 128 -/
theorem msk_lt (f : Nat → Bool) : ∀ n, msk f n < 2 ^ n
  | 0 => by simp [msk]
  | n + 1 => by
    have := msk_lt f n
    unfold msk
    rw [Nat.pow_succ]
    by_cases h : f n = true <;> simp [h] <;> omega
theorem msk_bit (f : Nat → Bool) : ∀ n i, (msk f n).testBit i = (decide (i < n) && f i)
  | 0, i => by simp [msk]
  | n + 1, i => by
    have ih := msk_bit f n i
    have hl := msk_lt f n
    unfold msk
    by_cases h : f n = true
    · rw [if_pos h, Nat.add_comm]
      by_cases e : i = n
      · subst e
        rw [Nat.testBit_two_pow_add_eq, ih]
        simp [h]
      · rcases Nat.lt_or_ge i n with q | q
        · rw [Nat.testBit_two_pow_add_gt q, ih]
          simp [q, show i < n + 1 by omega]
        · rw [Nat.testBit_lt_two_pow (Nat.lt_of_lt_of_le (show 2 ^ n + msk f n < 2 ^ (n + 1) by rw [Nat.pow_succ]; omega) (Nat.pow_le_pow_right (by decide) (by omega)))]
          simp [show ¬ i < n + 1 by omega]
    · rw [if_neg h, Nat.add_zero, ih]
      by_cases e : i = n
      · subst e; simp [h]
      · by_cases q : i < n
        · simp [q, show i < n + 1 by omega]
        · simp [q, show ¬ i < n + 1 by omega]
theorem msk_congr {f g : Nat → Bool} : ∀ {n : Nat}, (∀ i, i < n → f i = g i) → msk f n = msk g n
  | 0, _ => rfl
  | n + 1, h => by
    unfold msk
    rw [msk_congr (fun i hi => h i (by omega)), h n (by omega)]
theorem bit_ext {a b : Nat} (ha : a < 128) (hb : b < 128) (h : ∀ i, i < 7 → a.testBit i = b.testBit i) : a = b := by
  apply Nat.eq_of_testBit_eq
  intro i
  rcases Nat.lt_or_ge i 7 with q | q
  · exact h i q
  · rw [Nat.testBit_lt_two_pow (Nat.lt_of_lt_of_le ha (Nat.pow_le_pow_right (n := 2) (by decide) q)), Nat.testBit_lt_two_pow (Nat.lt_of_lt_of_le hb (Nat.pow_le_pow_right (n := 2) (by decide) q))]
theorem bT : ∀ M, M < 128 → ∀ i, i < 7 → (((nI M >>> (nI i &&& 31)) &&& 1 = 0) ↔ M.testBit i = false) := by decide +kernel
theorem bT1 : ∀ M, M < 128 → ∀ i, i < 7 → (((nI M >>> (nI i &&& 31)) &&& 1 = 1) ↔ M.testBit i = true) := by decide +kernel
theorem bO : ∀ M, M < 128 → ∀ i, i < 7 → (nI M ||| ((1 : Int32) <<< (nI i &&& 31))) = nI (M ||| 2 ^ i) := by decide +kernel
theorem bC : ∀ M, M < 128 → ∀ i, i < 7 → (nI M &&& (((1 : Int32) <<< (nI i &&& 31)) ^^^ (-1))) = nI (M &&& (127 - 2 ^ i)) := by decide +kernel
theorem bCb : ∀ M, M < 128 → ∀ i, i < 7 → ∀ j, j < 7 → (M &&& (127 - 2 ^ i)).testBit j = (M.testBit j && !decide (j = i)) := by decide +kernel
theorem bOb : ∀ M, M < 128 → ∀ i, i < 7 → ∀ j, j < 7 → (M ||| 2 ^ i).testBit j = (M.testBit j || decide (j = i)) := by decide +kernel
theorem bO128 : ∀ M, M < 128 → ∀ i, i < 7 → M ||| 2 ^ i < 128 := by decide +kernel
theorem bC128 : ∀ M, M < 128 → ∀ i, i < 7 → M &&& (127 - 2 ^ i) < 128 := by decide +kernel
/-- the JDK's count of bits -/
def bcE (x : Int32) : Int32 := match f_J6_bitCount_0f7a4 x zst with
  | some q => q.1
  | none => 0
theorem bitCount_eq (x : Int32) (σ : St) : f_J6_bitCount_0f7a4 x σ = some (bcE x, σ) := by
  unfold bcE f_J6_bitCount_0f7a4
  rfl
def pop7 (M : Nat) : Nat := (if M.testBit 0 then 1 else 0) + (if M.testBit 1 then 1 else 0) + (if M.testBit 2 then 1 else 0) + (if M.testBit 3 then 1 else 0) + (if M.testBit 4 then 1 else 0) + (if M.testBit 5 then 1 else 0) + (if M.testBit 6 then 1 else 0)
theorem bcE_eq : ∀ M, M < 128 → bcE (nI M) = nI (pop7 M) := by decide +kernel
/-- one more, or one less, in a set -/
theorem msk_set {f : Nat → Bool} {i : Nat} (hi : i < 7) : msk f 7 ||| 2 ^ i = msk (fun j => f j || decide (j = i)) 7 := by
  apply bit_ext (bO128 _ (msk_lt f 7) i hi) (msk_lt _ 7)
  intro j hj
  rw [bOb _ (msk_lt f 7) i hi j hj, msk_bit, msk_bit]
  simp [hj]
theorem msk_clr {f : Nat → Bool} {i : Nat} (hi : i < 7) : msk f 7 &&& (127 - 2 ^ i) = msk (fun j => f j && !decide (j = i)) 7 := by
  apply bit_ext (bC128 _ (msk_lt f 7) i hi) (msk_lt _ 7)
  intro j hj
  rw [bCb _ (msk_lt f 7) i hi j hj, msk_bit, msk_bit]
  simp [hj]
/-! PAIRS, at cell k0 -/
theorem howOf_eq {k0 : Nat} {σ : St} {h : Nat → Nat → Nat} (H : PairC (σ.1 (k0 + 1)) (σ.1 (k0 + 2)) h) (h2 : ∀ i k, h i k ≤ 2) {i k : Nat} (hi : i < 7) (hk : k < 7) : f_X2_howOf k0 (nI i) (nI k) σ = some (nI (h i k), σ) := by
  obtain ⟨a1, a2⟩ := H k hk
  unfold f_X2_howOf
  rw [cI_t (ix_nI hk (by decide)), nI_clamp (by omega), a1, a2, cI_t (ix_nI hk (by decide))]
  have t1 := bT _ (msk_lt (fun i => h i k == 1) 7) i hi
  have t2 := bT _ (msk_lt (fun i => h i k == 2) 7) i hi
  rw [msk_bit] at t1 t2
  simp only [hi, decide_true, Bool.true_and] at t1 t2
  have := h2 i k
  rcases (show h i k = 0 ∨ h i k = 1 ∨ h i k = 2 by omega) with e | e | e
  · rw [if_pos (t1.mpr (by simp [e])), if_pos (t2.mpr (by simp [e])), e]; rfl
  · rw [if_neg (fun q => by have := t1.mp q; simp [e] at this), e]; rfl
  · rw [if_pos (t1.mpr (by simp [e])), if_neg (fun q => by have := t2.mp q; simp [e] at this), e]; rfl
def setH (h : Nat → Nat → Nat) (i k v : Nat) : Nat → Nat → Nat := fun a b => if a = i ∧ b = k then v else h a b
theorem put_eq {k0 : Nat} {σ : St} {h : Nat → Nat → Nat} (H : PairC (σ.1 (k0 + 1)) (σ.1 (k0 + 2)) h) {i k v : Nat} (hi : i < 7) (hk : k < 7) (hv : v ≤ 2) : ∃ σ', f_X2_put k0 (nI i) (nI k) (nI v) σ = some σ' ∧ PairC (σ'.1 (k0 + 1)) (σ'.1 (k0 + 2)) (setH h i k v) ∧ σ'.2 = σ.2 ∧ ∀ a, (a ≠ k0 + 1 ∧ a ≠ k0 + 2) → σ'.1 a = σ.1 a := by
  obtain ⟨a1, a2⟩ := H k hk
  obtain ⟨A, hA, eA⟩ : ∃ A, A = (if v = 1 then nI (msk (fun i => h i k == 1) 7) ||| ((1 : Int32) <<< (nI i &&& 31)) else nI (msk (fun i => h i k == 1) 7) &&& (((1 : Int32) <<< (nI i &&& 31)) ^^^ (-1))) ∧ A = nI (msk (fun a => setH h i k v a k == 1) 7) := by
    refine ⟨_, rfl, ?_⟩
    by_cases e : v = 1
    · rw [if_pos e, bO _ (msk_lt _ 7) i hi, msk_set hi]
      congr 1
      apply msk_congr
      intro a ha
      by_cases q : a = i <;> simp [setH, q, e]
    · rw [if_neg e, bC _ (msk_lt _ 7) i hi, msk_clr hi]
      congr 1
      apply msk_congr
      intro a ha
      by_cases q : a = i <;> simp [setH, q, e]
  obtain ⟨B, hB, eB⟩ : ∃ B, B = (if v = 2 then nI (msk (fun i => h i k == 2) 7) ||| ((1 : Int32) <<< (nI i &&& 31)) else nI (msk (fun i => h i k == 2) 7) &&& (((1 : Int32) <<< (nI i &&& 31)) ^^^ (-1))) ∧ B = nI (msk (fun a => setH h i k v a k == 2) 7) := by
    refine ⟨_, rfl, ?_⟩
    by_cases e : v = 2
    · rw [if_pos e, bO _ (msk_lt _ 7) i hi, msk_set hi]
      congr 1
      apply msk_congr
      intro a ha
      by_cases q : a = i <;> simp [setH, q, e]
    · rw [if_neg e, bC _ (msk_lt _ 7) i hi, msk_clr hi]
      congr 1
      apply msk_congr
      intro a ha
      by_cases q : a = i <;> simp [setH, q, e]
  refine ⟨up1 (up1 σ (k0 + 1) k A) (k0 + 2) k B, ?_, fun c hc => ?_, rfl, fun a ha => by rw [up1_r ha.2, up1_r ha.1]⟩
  · have ci := ix_nI hk (by decide : (7 : Nat) < 2 ^ 31)
    have cl := nI_clamp (show k < 2 ^ 31 by omega)
    have r2 : (up1 σ (k0 + 1) k A).1 (k0 + 2) k = nI (msk (fun i => h i k == 2) 7) := by rw [up1_r (by omega)]; exact a2
    have p38 : f_X2_put_38 k0 (nI k) (nI v) ((1 : Int32) <<< (nI i &&& 31)) A (nI k) (k0 + 1) σ = some (up1 (up1 σ (k0 + 1) k A) (k0 + 2) k B) := by
      unfold f_X2_put_38
      rw [cI_t ci, ap, cl]
      by_cases e : v = 2
      · subst e
        rw [if_pos (by decide), cI_t ci, r2]
        unfold f_X2_put_72
        rw [cI_t ci, ap, cl, hB]
        simp
      · have ne2 : ¬ nI v = (2 : Int32) := fun q => e (nI_inj (b := 2) (by omega) (by decide) q)
        rw [if_neg ne2, cI_t ci, r2]
        unfold f_X2_put_72
        rw [cI_t ci, ap, cl, hB]
        simp [e]
    unfold f_X2_put
    rw [ap, cl, a1]
    by_cases e : v = 1
    · subst e
      rw [if_pos (by decide), cI_t ci]
      rw [if_pos rfl] at hA
      rw [← hA]
      exact p38
    · have ne1 : ¬ nI v = (1 : Int32) := fun q => e (nI_inj (b := 1) (by omega) (by decide) q)
      rw [if_neg ne1, cI_t ci]
      rw [if_neg e] at hA
      rw [← hA]
      exact p38
  · obtain ⟨b1, b2⟩ := H c hc
    by_cases e : c = k
    · subst e
      refine ⟨?_, ?_⟩
      · rw [up1_r (by omega), up1_eq, eA]
      · rw [up1_eq, eB]
    · have e1 : (fun a => setH h i k v a c == 1) = fun a => h a c == 1 := by funext a; simp [setH, e]
      have e2 : (fun a => setH h i k v a c == 2) = fun a => h a c == 2 := by funext a; simp [setH, e]
      rw [e1, e2]
      refine ⟨?_, ?_⟩
      · rw [up1_r (by omega), up1_ne (by omega)]; exact b1
      · rw [up1_ne (by omega), up1_r (by omega)]; exact b2
