/-! THE RELATION of the two sides: one telling T in plain numbers that both hold -/
/-- (years, finds), curve, misses, (kind, odd, ages) of a find, (age, gap) of a find's ages, how i k -/
abbrev Tl : Type := (Nat × Nat) × (Nat → Nat) × (Nat → Nat) × (Nat → Nat × Nat × Nat) × (Nat → Nat → Nat × Nat) × (Nat → Nat → Nat)
def tn (T : Tl) : Nat := T.1.1
def tf (T : Tl) : Nat := T.1.2
def tc (T : Tl) : Nat → Nat := T.2.1
def tm (T : Tl) : Nat → Nat := T.2.2.1
def tk (T : Tl) (i : Nat) : Nat := (T.2.2.2.1 i).1
def to_ (T : Tl) (i : Nat) : Nat := (T.2.2.2.1 i).2.1
def ta (T : Tl) (i : Nat) : Nat := (T.2.2.2.1 i).2.2
def tg (T : Tl) (i j : Nat) : Nat := (T.2.2.2.2.1 i j).1
def tp (T : Tl) (i j : Nat) : Nat := (T.2.2.2.2.1 i j).2
def th (T : Tl) : Nat → Nat → Nat := T.2.2.2.2.2
/-- the set of those i below 7 that are 'w' to k -/
def msk (f : Nat → Bool) : Nat → Nat
  | 0 => 0
  | n + 1 => msk f n + (if f n then 2 ^ n else 0)
def Okt (T : Tl) : Prop := (1 ≤ tn T ∧ tn T ≤ 40) ∧ tf T ≤ 7 ∧ (∀ y, y < 40 → tc T y ≤ 2000) ∧ (∀ d, d < 21 → tm T d ≤ 9) ∧ (∀ i, i < tf T → tk T i ≤ 3 ∧ to_ T i ≤ 9 ∧ ta T i ≤ 5 ∧ (tk T i ≤ 1 → 1 ≤ ta T i) ∧ (2 ≤ tk T i → ta T i = 0) ∧ (∀ j, (j = 0 ∨ j < ta T i) → tg T i j ≤ 2000 ∧ tp T i j ≤ 39) ∧ tp T i 0 = 0) ∧ (∀ i k, th T i k ≤ 2) ∧ (∀ i k, (tf T ≤ i ∨ tf T ≤ k ∨ i = k) → th T i k = 0)
def RowC (f : Nat → Int32) (n : Nat) (g : Nat → Nat) : Prop := ∀ j, j < n → f j = nI (g j)
def FindC (o a g : Nat → Int32) (T : Tl) (i : Nat) : Prop := o 0 = nI (tk T i) ∧ o 1 = nI (to_ T i) ∧ o 2 = nI (ta T i) ∧ ∀ j, (j = 0 ∨ j < ta T i) → a j = nI (tg T i j) ∧ g j = nI (tp T i j)
def PairC (a b : Nat → Int32) (h : Nat → Nat → Nat) : Prop := ∀ k, k < 7 → a k = nI (msk (fun i => h i k == 1) 7) ∧ b k = nI (msk (fun i => h i k == 2) 7)
/-- the system's telling at cell t -/
def TelC (t : Nat) (r : Nat → Nat → Int32) (T : Tl) : Prop := (r t 0 = nI (tn T) ∧ r t 3 = nI (tf T)) ∧ RowC (r (t + 1)) 40 (tc T) ∧ RowC (r (t + 2)) 21 (tm T) ∧ (∀ i, i < tf T → FindC (r (t + 7 + 3 * i)) (r (t + 8 + 3 * i)) (r (t + 9 + 3 * i)) T i) ∧ PairC (r (t + 5)) (r (t + 6)) (th T)
/-- the reference's telling -/
def FindM (r : Nat → Nat → Int32) (T : Tl) (i : Nat) : Prop := r 3 i = nI (tk T i) ∧ r 4 i = nI (to_ T i) ∧ r 5 i = nI (ta T i) ∧ ∀ j, (j = 0 ∨ j < ta T i) → r 6 (5 * i + j) = nI (tg T i j) ∧ r 7 (5 * i + j) = nI (tp T i j)
def TelM (r : Nat → Nat → Int32) (T : Tl) : Prop := (r 0 0 = nI (tn T) ∧ r 0 3 = nI (tf T)) ∧ RowC (r 1) 40 (tc T) ∧ RowC (r 2) 21 (tm T) ∧ (∀ i, i < tf T → FindM r T i) ∧ ∀ i k, i < tf T → k < tf T → r 8 (7 * i + k) = nI (th T i k)
/-- what the reference keeps: one row of 260 -/
def TelK (f : Nat → Int32) (T : Tl) : Prop := (f 0 = nI (tn T) ∧ f 1 = nI (tf T)) ∧ (∀ j, j < 40 → f (2 + j) = nI (tc T j)) ∧ (∀ j, j < 21 → f (42 + j) = nI (tm T j)) ∧ (∀ i, i < tf T → f (63 + i) = nI (tk T i) ∧ f (70 + i) = nI (to_ T i) ∧ f (77 + i) = nI (ta T i) ∧ ∀ j, (j = 0 ∨ j < ta T i) → f (84 + (5 * i + j)) = nI (tg T i j) ∧ f (119 + (5 * i + j)) = nI (tp T i j)) ∧ ∀ i k, i < tf T → k < tf T → f (154 + (7 * i + k)) = nI (th T i k)
def KeptR (σ τ : St) : Prop := (σ.1 0 2 = 0 ∧ τ.1 0 13 = 0) ∨ (σ.1 0 2 = 1 ∧ τ.1 0 13 = 1 ∧ ∃ K : Tl, Okt K ∧ TelC 29 σ.1 K ∧ TelK (τ.1 10) K)
/-- a sheet: its object and its numbers, the reference's sort, size and numbers -/
def SheetR (o f : Nat → Int32) (so si : Int32) (g : Nat → Int32) : Prop := (o 0 = 0 ∧ si = -1) ∨ (o 0 = 1 ∧ (∃ w : Nat, w ≤ 3 ∧ o 1 = nI w ∧ so = nI w) ∧ ∃ n : Nat, n ≤ 60 ∧ o 2 = nI n ∧ si = nI n ∧ ∀ i, i < n → f i = g i)
def SheetsR (σ τ : St) : Prop := ∀ s, s < 4 → SheetR (σ.1 (83 + 2 * s)) (σ.1 (84 + 2 * s)) (τ.1 11 s) (τ.1 12 s) (fun i => τ.1 13 (60 * s + i))
def TapeR (σ τ : St) : Prop := ∃ n : Nat, n ≤ 200 ∧ σ.1 58 1 = nI n ∧ τ.1 0 19 = nI n ∧ ∀ j, j < n → ∃ b : Nat, b < 256 ∧ τ.1 14 j = nI b ∧ σ.1 59 j = (nI b).toInt8.toInt32
def WaitR (σ τ : St) : Prop := ∃ n : Nat, n ≤ 20 ∧ σ.1 0 8 = nI n ∧ τ.1 0 20 = nI n ∧ ∀ j, j < n → σ.1 81 j = τ.1 15 j
def DrawR (σ τ : St) (f : Nat) : Prop := (σ.1 0 10 = 0 ∧ τ.1 0 10 = 0) ∨ (σ.1 0 10 = 1 ∧ τ.1 0 10 = 1 ∧ ∀ i, i < f → σ.1 82 i = τ.1 9 i)
def RelT (T : Tl) (σ τ : St) : Prop := Okt T ∧ TelC 1 σ.1 T ∧ TelM τ.1 T ∧ KeptR σ τ ∧ SheetsR σ τ ∧ TapeR σ τ ∧ WaitR σ τ ∧ DrawR σ τ (tf T) ∧ σ.2 0 11 = τ.2 0 12 ∧ σ.1 0 12 = τ.1 0 22
def Rel (σ τ : St) : Prop := ∃ T : Tl, RelT T σ τ
/-! frames -/
theorem up1_ne {σ : St} {k j a b : Nat} {v : Int32} (h : ¬ (a = k ∧ b = j)) : (up1 σ k j v).1 a b = σ.1 a b := by simp only [up1, if_neg h]
theorem up1_eq {σ : St} {k j : Nat} {v : Int32} : (up1 σ k j v).1 k j = v := by simp [up1]
theorem up1_r {σ : St} {k j a : Nat} {v : Int32} (h : a ≠ k) : (up1 σ k j v).1 a = σ.1 a := (up1_off a h).1
theorem up1_2 {σ : St} {k j : Nat} {v : Int32} : (up1 σ k j v).2 = σ.2 := rfl
theorem up2_1 {σ : St} {k j : Nat} {v : Int64} : (up2 σ k j v).1 = σ.1 := rfl
theorem TelC_congr {t : Nat} {r r' : Nat → Nat → Int32} {T : Tl} (hf : tf T ≤ 7) (h : ∀ a, t ≤ a → a < t + 28 → r' a = r a) (H : TelC t r T) : TelC t r' T := by
  obtain ⟨⟨h1, h2⟩, h3, h4, h5, h6⟩ := H
  refine ⟨⟨?_, ?_⟩, ?_, ?_, fun i hi => ?_, ?_⟩
  · rw [h t (by omega) (by omega)]; exact h1
  · rw [h t (by omega) (by omega)]; exact h2
  · rw [h (t + 1) (by omega) (by omega)]; exact h3
  · rw [h (t + 2) (by omega) (by omega)]; exact h4
  · rw [h (t + 7 + 3 * i) (by omega) (by omega), h (t + 8 + 3 * i) (by omega) (by omega), h (t + 9 + 3 * i) (by omega) (by omega)]; exact h5 i hi
  · rw [h (t + 5) (by omega) (by omega), h (t + 6) (by omega) (by omega)]; exact h6
theorem TelM_congr {r r' : Nat → Nat → Int32} {T : Tl} (h0 : r' 0 0 = r 0 0) (h03 : r' 0 3 = r 0 3) (h : ∀ a, 1 ≤ a → a < 9 → r' a = r a) (H : TelM r T) : TelM r' T := by
  obtain ⟨⟨h1, h2⟩, h3, h4, h5, h6⟩ := H
  refine ⟨⟨by rw [h0]; exact h1, by rw [h03]; exact h2⟩, by rw [h 1 (by omega) (by omega)]; exact h3, by rw [h 2 (by omega) (by omega)]; exact h4, fun i hi => ?_, fun i k hi hk => by rw [h 8 (by omega) (by omega)]; exact h6 i k hi hk⟩
  unfold FindM
  rw [h 3 (by omega) (by omega), h 4 (by omega) (by omega), h 5 (by omega) (by omega), h 6 (by omega) (by omega), h 7 (by omega) (by omega)]
  exact h5 i hi
theorem KeptR_congr {σ σ' τ τ' : St} (h0 : σ'.1 0 2 = σ.1 0 2) (g0 : τ'.1 0 13 = τ.1 0 13) (h : ∀ a, 29 ≤ a → a < 57 → σ'.1 a = σ.1 a) (g : τ'.1 10 = τ.1 10) (H : KeptR σ τ) : KeptR σ' τ' := by
  unfold KeptR
  rw [h0, g0]
  rcases H with H | ⟨a, b, K, k1, k2, k3⟩
  · exact Or.inl H
  · exact Or.inr ⟨a, b, K, k1, TelC_congr k1.2.1 (fun a h1 h2 => h a h1 (by omega)) k2, by rw [g]; exact k3⟩
theorem SheetsR_congr {σ σ' τ τ' : St} (h : ∀ a, 83 ≤ a → a < 91 → σ'.1 a = σ.1 a) (g1 : τ'.1 11 = τ.1 11) (g2 : τ'.1 12 = τ.1 12) (g3 : τ'.1 13 = τ.1 13) (H : SheetsR σ τ) : SheetsR σ' τ' := by
  intro s hs
  rw [h (83 + 2 * s) (by omega) (by omega), h (84 + 2 * s) (by omega) (by omega), g1, g2, g3]
  exact H s hs
theorem TapeR_congr {σ σ' τ τ' : St} (h1 : σ'.1 58 1 = σ.1 58 1) (h2 : σ'.1 59 = σ.1 59) (g1 : τ'.1 0 19 = τ.1 0 19) (g2 : τ'.1 14 = τ.1 14) (H : TapeR σ τ) : TapeR σ' τ' := by
  unfold TapeR
  rw [h1, h2, g1, g2]
  exact H
theorem WaitR_congr {σ σ' τ τ' : St} (h1 : σ'.1 0 8 = σ.1 0 8) (h2 : σ'.1 81 = σ.1 81) (g1 : τ'.1 0 20 = τ.1 0 20) (g2 : τ'.1 15 = τ.1 15) (H : WaitR σ τ) : WaitR σ' τ' := by
  unfold WaitR
  rw [h1, h2, g1, g2]
  exact H
theorem DrawR_congr {σ σ' τ τ' : St} {f : Nat} (h1 : σ'.1 0 10 = σ.1 0 10) (h2 : σ'.1 82 = σ.1 82) (g1 : τ'.1 0 10 = τ.1 0 10) (g2 : τ'.1 9 = τ.1 9) (H : DrawR σ τ f) : DrawR σ' τ' f := by
  unfold DrawR
  rw [h1, h2, g1, g2]
  exact H
/-! small facts on numbers -/
theorem I_lt (a b : Int32) : a < b ↔ a.toInt < b.toInt := Int32.lt_iff_toInt_lt
theorem I_le (a b : Int32) : a ≤ b ↔ a.toInt ≤ b.toInt := Int32.le_iff_toInt_le
theorem I_nat {x : Int32} {n : Nat} (h0 : ¬ x < 0) (h1 : x ≤ nI n) (hn : n < 2 ^ 31) : ∃ j : Nat, j ≤ n ∧ x = nI j := nI_of2 (nI_toInt hn) h0 h1
theorem ix_nI {j n : Nat} (h : j < n) (hn : n < 2 ^ 31) : ix (nI j) n = true := by
  unfold ix
  rw [nI_clamp (by omega)]
  simp [h, nI_pos (show j < 2 ^ 31 by omega)]
theorem nI_inj {a b : Nat} (ha : a < 2 ^ 31) (hb : b < 2 ^ 31) (h : nI a = nI b) : a = b := (nI_eq ha hb).mp h
