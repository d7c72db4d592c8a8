/-! sets as numbers and as ints -/
theorem bOr : ∀ a, a < 128 → ∀ b, b < 128 → nI a ||| nI b = nI (a ||| b) := by decide +kernel
theorem bAnd : ∀ a, a < 128 → ∀ b, b < 128 → nI a &&& nI b = nI (a &&& b) := by decide +kernel
theorem bNot : ∀ a, a < 128 → ∀ b, b < 128 → nI a &&& (nI b ^^^ (-1)) = nI (a &&& (127 - b)) := by decide +kernel
theorem b1 : ∀ i, i < 7 → ((1 : Int32) <<< (nI i &&& 31)) = nI (2 ^ i) := by decide +kernel
/-- subsets in the order of numbers -/
def asc (O : Nat) : List Nat := (List.range 128).filter (fun s => s &&& O == s)
def chkA (O : Nat) : List Nat → Bool
  | [] => false
  | [a] => decide ((nI a - nI O) &&& nI O = 0)
  | a :: b :: t => decide ((nI a - nI O) &&& nI O = nI b) && decide (0 < b) && chkA O (b :: t)
theorem asc_chk : ∀ O, O < 128 → chkA O (asc O) = true := by decide +kernel
theorem asc_hd : ∀ O, O < 128 → (asc O).head? = some 0 := by decide +kernel
theorem asc_len (O : Nat) : (asc O).length ≤ 128 := by
  unfold asc
  exact Nat.le_trans (List.length_filter_le _ _) (by simp)
theorem asc_mem {O s : Nat} : s ∈ asc O ↔ s < 128 ∧ s &&& O = s := by
  unfold asc
  simp
/-- downwards -/
def chkD (O : Nat) : List Nat → Bool
  | [] => true
  | [a] => decide ((nI a - 1) &&& nI O = 0)
  | a :: b :: t => decide ((nI a - 1) &&& nI O = nI b) && chkD O (b :: t)
theorem sb_chk : ∀ O, O < 128 → chkD O (sb O) = true := by decide +kernel
theorem sb_hd : ∀ O, O < 128 → nI O = nI ((sb O).headD 0) := by decide +kernel
def low : Nat → Nat := fun s => if s.testBit 0 then 0 else if s.testBit 1 then 1 else if s.testBit 2 then 2 else if s.testBit 3 then 3 else if s.testBit 4 then 4 else if s.testBit 5 then 5 else 6
theorem low_b : ∀ s, s < 128 → 0 < s → s.testBit (low s) = true ∧ low s < 7 ∧ nI s &&& (nI s - 1) = nI (fl s (low s)) ∧ fl s (low s) < s ∧ ∀ j, j < low s → s.testBit j = false := by decide +kernel
