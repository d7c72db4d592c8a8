theorem cI_t {α : Type} {c : Bool} {x : Option α} (h : c = true) : cI c x = x := by unfold cI; rw [if_pos h]
theorem ap_eq {α β : Type} (x : α) (f : α → β) : ap x f = f x := rfl
theorem bS {α β : Type} (q : α) (f : α → Option β) : (some q).bind f = f q := rfl
/-- what is no scratch: the system's -/
def SameC (σ σ' : St) : Prop := (∀ a, ((1 ≤ a ∧ a < 58) ∨ a = 59 ∨ (81 ≤ a ∧ a < 91)) → σ'.1 a = σ.1 a) ∧ σ'.1 0 = σ.1 0 ∧ σ'.1 58 1 = σ.1 58 1 ∧ σ'.2 0 11 = σ.2 0 11
def SameM (τ τ' : St) : Prop := (∀ a, 1 ≤ a ∧ a ≤ 15 → τ'.1 a = τ.1 a) ∧ (τ'.1 0 0 = τ.1 0 0 ∧ τ'.1 0 3 = τ.1 0 3 ∧ τ'.1 0 10 = τ.1 0 10 ∧ τ'.1 0 13 = τ.1 0 13 ∧ τ'.1 0 19 = τ.1 0 19 ∧ τ'.1 0 20 = τ.1 0 20 ∧ τ'.1 0 22 = τ.1 0 22) ∧ τ'.2 0 12 = τ.2 0 12
theorem RelT_same {T : Tl} {σ σ' τ τ' : St} (hc : SameC σ σ') (hm : SameM τ τ') (H : RelT T σ τ) : RelT T σ' τ' := by
  obtain ⟨c1, c2, c3, c4⟩ := hc
  obtain ⟨m1, ⟨n0, n3, n10, n13, n19, n20, n22⟩, m3⟩ := hm
  obtain ⟨h1, h2, h3, h4, h5, h6, h7, h8, h9, h10⟩ := H
  refine ⟨h1, TelC_congr h1.2.1 (fun a a1 a2 => c1 a (by omega)) h2, TelM_congr n0 n3 (fun a a1 a2 => m1 a (by omega)) h3, KeptR_congr (by rw [c2]) n13 (fun a a1 a2 => c1 a (by omega)) (m1 10 (by omega)) h4, SheetsR_congr (fun a a1 a2 => c1 a (by omega)) (m1 11 (by omega)) (m1 12 (by omega)) (m1 13 (by omega)) h5, TapeR_congr c3 (c1 59 (by omega)) n19 (m1 14 (by omega)) h6, WaitR_congr (by rw [c2]) (c1 81 (by omega)) n20 (m1 15 (by omega)) h7, DrawR_congr (by rw [c2]) (c1 82 (by omega)) n10 (m1 9 (by omega)) h8, by rw [c4, m3]; exact h9, by rw [c2, n22]; exact h10⟩
theorem isIn_eq (x l h : Int32) (τ : St) : f_X8_isIn x l h τ = some (if x < l ∨ h < x then 0 else 1, τ) := by
  unfold f_X8_isIn
  by_cases h1 : x < l
  · simp [h1]
  · by_cases h2 : h < x
    · simp [h1, h2]
    · simp [h1, h2]
theorem ge_iff (a b : Int32) : (¬ a < b) ↔ b ≤ a := by rw [I_lt, I_le]; omega
theorem gt_iff (a b : Int32) : (¬ a ≤ b) ↔ b < a := by rw [I_lt, I_le]; omega
/-- a host finding on both sides -/
theorem host_eq (v : Int32) (σ : St) : f_X7_hostFinding v σ = some (v, up1 σ 0 12 (σ.1 0 12 + 1)) := by
  unfold f_X7_hostFinding; rfl
theorem meet_eq (v : Int32) (τ : St) : f_X8_meet v τ = some (v, up1 τ 0 22 (τ.1 0 22 + 1)) := by
  unfold f_X8_meet; rfl
theorem RelT_host {T : Tl} {σ τ : St} (H : RelT T σ τ) : RelT T (up1 σ 0 12 (σ.1 0 12 + 1)) (up1 τ 0 22 (τ.1 0 22 + 1)) := by
  obtain ⟨h1, h2, h3, h4, h5, h6, h7, h8, h9, h10⟩ := H
  refine ⟨h1, TelC_congr h1.2.1 (fun a a1 a2 => up1_r (by omega)) h2, TelM_congr (up1_ne (by omega)) (up1_ne (by omega)) (fun a a1 a2 => up1_r (by omega)) h3, KeptR_congr (up1_ne (by omega)) (up1_ne (by omega)) (fun a a1 a2 => up1_r (by omega)) (up1_r (by omega)) h4, SheetsR_congr (fun a a1 a2 => up1_r (by omega)) (up1_r (by omega)) (up1_r (by omega)) (up1_r (by omega)) h5, TapeR_congr (up1_ne (by omega)) (up1_r (by omega)) (up1_ne (by omega)) (up1_r (by omega)) h6, WaitR_congr (up1_ne (by omega)) (up1_r (by omega)) (up1_ne (by omega)) (up1_r (by omega)) h7, DrawR_congr (up1_ne (by omega)) (up1_r (by omega)) (up1_ne (by omega)) (up1_r (by omega)) h8, h9, ?_⟩
  rw [up1_eq, up1_eq, h10]
/-- a call that changes the telling alone -/
theorem RelT_tel {T T' : Tl} {σ σ' τ τ' : St} (H : RelT T σ τ) (ho : Okt T') (hc : TelC 1 σ'.1 T') (hm : TelM τ'.1 T') (hf : tf T' = tf T) (c : ∀ a, (a = 0 ∨ 29 ≤ a) → σ'.1 a = σ.1 a) (c2 : σ'.2 = σ.2) (m0 : ∀ j, (j ≠ 0 ∧ j ≠ 3) → τ'.1 0 j = τ.1 0 j) (m : ∀ a, 9 ≤ a → τ'.1 a = τ.1 a) (m2 : τ'.2 = τ.2) : RelT T' σ' τ' := by
  obtain ⟨h1, h2, h3, h4, h5, h6, h7, h8, h9, h10⟩ := H
  refine ⟨ho, hc, hm, KeptR_congr (by rw [c 0 (by omega)]) (m0 13 (by omega)) (fun a a1 a2 => c a (by omega)) (m 10 (by omega)) h4, SheetsR_congr (fun a a1 a2 => c a (by omega)) (m 11 (by omega)) (m 12 (by omega)) (m 13 (by omega)) h5, TapeR_congr (by rw [c 58 (by omega)]) (c 59 (by omega)) (m0 19 (by omega)) (m 14 (by omega)) h6, WaitR_congr (by rw [c 0 (by omega)]) (c 81 (by omega)) (m0 20 (by omega)) (m 15 (by omega)) h7, ?_, by rw [c2, m2]; exact h9, by rw [c 0 (by omega), m0 22 (by omega)]; exact h10⟩
  rw [hf]
  exact DrawR_congr (by rw [c 0 (by omega)]) (c 82 (by omega)) (m0 10 (by omega)) (m 9 (by omega)) h8
theorem rng3 (x lo hi hi1 : Int32) (a b : Nat) (e1 : lo = nI a) (e2 : hi = nI b) (e3 : hi1 = nI (b + 1)) (hb : b < 2 ^ 30) (hab : a ≤ b) : x < lo ∨ (¬ x < lo ∧ hi < x ∧ hi1 ≤ x ∧ ¬ x ≤ hi ∧ ¬ x < hi1) ∨ ∃ j : Nat, (a ≤ j ∧ j ≤ b) ∧ x = nI j ∧ ¬ x < lo ∧ ¬ hi < x ∧ ¬ hi1 ≤ x ∧ x ≤ hi ∧ x < hi1 := by
  subst e1; subst e2; subst e3
  simp only [I_lt, I_le, nI_toInt (show a < 2 ^ 31 by omega), nI_toInt (show b < 2 ^ 31 by omega), nI_toInt (show b + 1 < 2 ^ 31 by omega)]
  rcases Int.lt_or_le x.toInt (a : Int) with q | q
  · exact Or.inl q
  · rcases Int.lt_or_le (b : Int) x.toInt with q2 | q2
    · refine Or.inr (Or.inl ⟨?_, ?_, ?_, ?_, ?_⟩) <;> omega
    · refine Or.inr (Or.inr ⟨x.toInt.toNat, by omega, ?_, ?_, ?_, ?_, ?_, ?_⟩) <;> first | omega | (apply Int32.toInt_inj.mp; rw [nI_toInt (by omega)]; omega)
theorem isIn_t {x l h : Int32} (τ : St) (h1 : ¬ x < l) (h2 : ¬ h < x) : f_X8_isIn x l h τ = some (1, τ) := by simp [f_X8_isIn, h1, h2]
theorem isIn_f {x l h : Int32} (τ : St) (h1 : x < l ∨ h < x) : f_X8_isIn x l h τ = some (0, τ) := by
  unfold f_X8_isIn
  by_cases c : x < l
  · simp [c]
  · simp [c, h1.resolve_left c]
theorem isAge_t {x : Int32} (σ : St) (h1 : ¬ x < 0) (h2 : ¬ 2000 < x) : f_X7_isAge x σ = some (1, σ) := by simp [f_X7_isAge, h1, h2]
theorem isAge_f {x : Int32} (σ : St) (h1 : x < 0 ∨ 2000 < x) : f_X7_isAge x σ = some (0, σ) := by
  unfold f_X7_isAge
  by_cases c : x < 0
  · simp [c]
  · simp [c, h1.resolve_left c]
theorem isDigit_t {x : Int32} (σ : St) (h1 : ¬ x < 0) (h2 : ¬ 9 < x) : f_X7_isDigit x σ = some (1, σ) := by simp [f_X7_isDigit, h1, h2]
theorem isDigit_f {x : Int32} (σ : St) (h1 : x < 0 ∨ 9 < x) : f_X7_isDigit x σ = some (0, σ) := by
  unfold f_X7_isDigit
  by_cases c : x < 0
  · simp [c]
  · simp [c, h1.resolve_left c]
/-- a find's number, on both sides -/
theorem isFind_c {x : Int32} {σ τ : St} {f : Nat} (hf : f ≤ 7) (hc : σ.1 1 3 = nI f) (hm : τ.1 0 3 = nI f) : (f_X7_isFind x σ = some (0, σ) ∧ f_X8_isFind x τ = some (0, τ)) ∨ ∃ i : Nat, i < f ∧ x = nI i ∧ f_X7_isFind x σ = some (1, σ) ∧ f_X8_isFind x τ = some (1, τ) := by
  unfold f_X7_isFind f_X8_isFind
  rw [hc, hm]
  by_cases c1 : x < 0
  · simp [c1]
  · by_cases c2 : nI f ≤ x
    · simp [c1, c2]
    · right
      rw [I_lt] at c1
      rw [I_le, nI_toInt (by omega)] at c2
      have e0 : (0 : Int32).toInt = 0 := rfl
      refine ⟨x.toInt.toNat, by omega, ?_, ?_, ?_⟩
      · apply Int32.toInt_inj.mp
        rw [nI_toInt (by omega)]
        omega
      · rw [if_neg (by rw [I_lt]; omega), if_neg (by rw [I_le, nI_toInt (by omega)]; omega)]
      · rw [if_neg (by rw [I_lt]; omega), if_neg (by rw [I_le, nI_toInt (by omega)]; omega)]
theorem TelM_find0 {r : Nat → Nat → Int32} {T : Tl} {i : Nat} (r' : Nat → Nat → Int32) (h : ∀ a, 3 ≤ a → a ≤ 7 → r' a = r a) (H : FindM r T i) : FindM r' T i := by
  unfold FindM
  rw [h 3 (by omega) (by omega), h 4 (by omega) (by omega), h 5 (by omega) (by omega), h 6 (by omega) (by omega), h 7 (by omega) (by omega)]
  exact H
theorem one_ne : ¬ ((1 : Int32) = 0) := by decide
theorem ag_years : Ag_years Rel := by
  rintro a0 σ τ ⟨T, H⟩
  rcases rng3 a0 1 40 41 1 40 rfl rfl rfl (by decide) (by decide) with c1 | ⟨c1, c2, c3, c4, -⟩ | ⟨j, hj, rfl, c1, c2, c3, c4, c5⟩
  · exact ⟨-2, σ, τ, by simp [f_X7_years, c1], by simp [f_X8_years, isIn_f τ (Or.inl c1)], T, H⟩
  · exact ⟨-2, σ, τ, by simp [f_X7_years, c1, c4], by simp [f_X8_years, isIn_f τ (Or.inr c2)], T, H⟩
  · obtain ⟨⟨k1, k2⟩, k3, k4, k5, k6⟩ := H.2.1
    obtain ⟨⟨m1, m2⟩, m3, m4, m5, m6⟩ := H.2.2.1
    refine ⟨nI (tn T), up1 σ 1 0 (nI j), up1 τ 0 0 (nI j), by simp [f_X7_years, c1, c4, k1], by simp [f_X8_years, isIn_t τ c1 c2, ap, m1], ((j, tf T), T.2), RelT_tel H ⟨hj, H.1.2⟩ ⟨⟨up1_eq, by rw [up1_ne (by omega)]; exact k2⟩, by rw [up1_r (by omega)]; exact k3, by rw [up1_r (by omega)]; exact k4, fun i hi => by rw [up1_r (by omega), up1_r (by omega), up1_r (by omega)]; exact k5 i hi, by rw [up1_r (by omega), up1_r (by omega)]; exact k6⟩ ⟨⟨up1_eq, by rw [up1_ne (by omega)]; exact m2⟩, by rw [up1_r (by omega)]; exact m3, by rw [up1_r (by omega)]; exact m4, fun i hi => TelM_find0 _ (fun a a1 a2 => up1_r (by omega)) (m5 i hi), fun i k hi hk => by rw [up1_r (by omega)]; exact m6 i k hi hk⟩ rfl (fun a ha => up1_r (by omega)) rfl (fun j hj => up1_ne (by omega)) (fun a ha => up1_r (by omega)) rfl⟩
theorem ag_below : Ag_below Rel := by
  rintro σ τ ⟨T, H⟩
  refine ⟨σ.2 0 11, σ, τ, rfl, ?_, T, H⟩
  unfold f_X8_below
  rw [H.2.2.2.2.2.2.2.2.1]
theorem RowC_up {f : Nat → Int32} {n : Nat} {g : Nat → Nat} {j v : Nat} (h : RowC f n g) : RowC (upd f j (nI v)) n (fun y => if y = j then v else g y) := by
  intro y hy
  unfold upd
  by_cases e : y = j
  · simp [e]
  · simp only [e, if_false]; exact h y hy
theorem ag_curve : Ag_curve Rel := by
  rintro a0 a1 σ τ ⟨T, H⟩
  rcases rng3 a0 0 39 40 0 39 rfl rfl rfl (by decide) (by decide) with c1 | ⟨c1, c2, c3, -⟩ | ⟨j, hj, rfl, c1, c2, c3, c4, c5⟩
  · exact ⟨-2, σ, τ, by simp [f_X7_curve, c1], by simp [f_X8_curve, isIn_f τ (Or.inl c1)], T, H⟩
  · exact ⟨-2, σ, τ, by simp [f_X7_curve, c1, c3], by simp [f_X8_curve, isIn_f τ (Or.inr c2)], T, H⟩
  · rcases rng3 a1 0 2000 2001 0 2000 rfl rfl rfl (by decide) (by decide) with d1 | ⟨d1, d2, -⟩ | ⟨v, hv, rfl, d1, d2, -⟩
    · exact ⟨-2, σ, τ, by simp [f_X7_curve, c1, c3, isAge_f σ (Or.inl d1)], by simp [f_X8_curve, isIn_t τ c1 c2, isIn_f τ (Or.inl d1)], T, H⟩
    · exact ⟨-2, σ, τ, by simp [f_X7_curve, c1, c3, isAge_f σ (Or.inr d2)], by simp [f_X8_curve, isIn_t τ c1 c2, isIn_f τ (Or.inr d2)], T, H⟩
    · obtain ⟨⟨k1, k2⟩, k3, k4, k5, k6⟩ := H.2.1
      obtain ⟨⟨m1, m2⟩, m3, m4, m5, m6⟩ := H.2.2.1
      have e1 : σ.1 2 j = nI (tc T j) := k3 j (by omega)
      have e2 : τ.1 1 j = nI (tc T j) := m3 j (by omega)
      refine ⟨nI (tc T j), up1 σ 2 j (nI v), up1 τ 1 j (nI v), by simp [f_X7_curve, c1, c3, isAge_t σ d1 d2, cI_t (ix_nI (show j < 40 by omega) (by decide)), nI_clamp (show j < 2 ^ 31 by omega), ap, e1], by simp [f_X8_curve, isIn_t τ c1 c2, isIn_t τ d1 d2, cI_t (ix_nI (show j < 40 by omega) (by decide)), nI_clamp (show j < 2 ^ 31 by omega), ap, e2], (T.1, fun y => if y = j then v else tc T y, T.2.2), RelT_tel H ⟨H.1.1, H.1.2.1, fun y hy => ?_, H.1.2.2.2⟩ ⟨⟨by rw [up1_r (by omega)]; exact k1, by rw [up1_r (by omega)]; exact k2⟩, by rw [up1_row]; exact RowC_up k3, by rw [up1_r (by omega)]; exact k4, fun i hi => by rw [up1_r (by omega), up1_r (by omega), up1_r (by omega)]; exact k5 i hi, by rw [up1_r (by omega), up1_r (by omega)]; exact k6⟩ ⟨⟨by rw [up1_r (by omega)]; exact m1, by rw [up1_r (by omega)]; exact m2⟩, by rw [up1_row]; exact RowC_up m3, by rw [up1_r (by omega)]; exact m4, fun i hi => TelM_find0 _ (fun a a1 a2 => up1_r (by omega)) (m5 i hi), fun i k hi hk => by rw [up1_r (by omega)]; exact m6 i k hi hk⟩ rfl (fun a ha => up1_r (by omega)) rfl (fun j hj => by rw [up1_r (by omega)]) (fun a ha => up1_r (by omega)) rfl⟩
      show (if y = j then v else tc T y) ≤ 2000
      by_cases e : y = j
      · simp [e]; omega
      · simp only [e, if_false]; exact H.1.2.2.1 y hy
