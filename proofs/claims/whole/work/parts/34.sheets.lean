def setCv (T : Tl) (j v : Nat) : Tl := (T.1, fun y => if y = j then v else tc T y, T.2.2)
theorem RelT_cv {T : Tl} {σ τ : St} (H : RelT T σ τ) {j v : Nat} (hj : j < 40) (hv : v ≤ 2000) : RelT (setCv T j v) (up1 σ 2 j (nI v)) (up1 τ 1 j (nI v)) := by
  obtain ⟨⟨k1, k2⟩, k3, k4, k5, k6⟩ := H.2.1
  obtain ⟨⟨m1, m2⟩, m3, m4, m5, m6⟩ := H.2.2.1
  refine RelT_tel H ⟨H.1.1, H.1.2.1, fun y hy => ?_, H.1.2.2.2⟩ ⟨⟨by rw [up1_r (by omega)]; exact k1, by rw [up1_r (by omega)]; exact k2⟩, by rw [up1_row]; exact RowC_up k3, by rw [up1_r (by omega)]; exact k4, fun i hi => by rw [up1_r (by omega), up1_r (by omega), up1_r (by omega)]; exact k5 i hi, by rw [up1_r (by omega), up1_r (by omega)]; exact k6⟩ ⟨⟨by rw [up1_r (by omega)]; exact m1, by rw [up1_r (by omega)]; exact m2⟩, by rw [up1_row]; exact RowC_up m3, by rw [up1_r (by omega)]; exact m4, fun i hi => TelM_find0 _ (fun a a1 a2 => up1_r (by omega)) (m5 i hi), fun i k hi hk => by rw [up1_r (by omega)]; exact m6 i k hi hk⟩ rfl (fun a ha => up1_r (by omega)) rfl (fun j hj => by rw [up1_r (by omega)]) (fun a ha => up1_r (by omega)) rfl
  show (if y = j then v else tc T y) ≤ 2000
  by_cases e : y = j
  · simp [e]; omega
  · simp only [e, if_false]; exact H.1.2.2.1 y hy
theorem isSort_t {x : Int32} (σ : St) (h1 : ¬ x < 0) (h2 : ¬ 3 < x) : f_X7_isSort x σ = some (1, σ) := by simp [f_X7_isSort, h1, h2]
theorem isSort_f {x : Int32} (σ : St) (h1 : x < 0 ∨ 3 < x) : f_X7_isSort x σ = some (0, σ) := by
  unfold f_X7_isSort
  by_cases c : x < 0
  · simp [c]
  · simp [c, h1.resolve_left c]
theorem mul60 (s i : Nat) : (60 : Int32) * nI s + nI i = nI (60 * s + i) := by
  rw [show (60 : Int32) = nI 60 from rfl, pk_mul, nI_add]
theorem sheet_53 (n s m : Nat) (hs : s < 4) (hm : m ≤ 60) : ∀ (i : Nat) (τ : St), i ≤ m → m - i < n → f_X8_sheet_53 n (nI s) (nI m) (nI i) τ = some (nI m, rw1 τ 13 (fun j => if 60 * s + i ≤ j ∧ j < 60 * s + m then 0 else τ.1 13 j)) := by
  induction n with
  | zero => intro i τ h1 h2; omega
  | succ n ih =>
    intro i τ h1 h2
    rw [f_X8_sheet_53]
    rcases Nat.lt_or_ge i m with q | q
    · rw [if_neg (nI_ge q (by omega)), mul60, cI_t (ix_nI (by omega) (by omega)), ap, nI_clamp (by omega), nI_1, ih (i + 1) _ (by omega) (by omega)]
      congr 2
      apply St_ext
      · intro a b
        by_cases e : a = 13
        · subst e
          by_cases e2 : b = 60 * s + i
          · subst e2; simp [rw1, up1, q]
          · by_cases e3 : 60 * s + (i + 1) ≤ b ∧ b < 60 * s + m
            · simp [rw1, e3, show 60 * s + i ≤ b by omega]
            · simp [rw1, up1, e2, e3]
              intro g1 g2; omega
        · simp [rw1, up1, e]
      · intro a b; rfl
    · obtain rfl : i = m := by omega
      rw [if_pos (by rw [I_le]; omega)]
      congr 2
      apply St_ext
      · intro a b
        by_cases e : a = 13
        · subst e
          simp [rw1]
          intro g1 g2; omega
        · simp [rw1, e]
      · intro a b; rfl
theorem rw1_r {σ : St} {k a : Nat} {f : Nat → Int32} (h : a ≠ k) : (rw1 σ k f).1 a = σ.1 a := (rw1_off a h).1
theorem ag_sheet : Ag_sheet Rel := by
  rintro a0 a1 a2 σ τ ⟨T, H⟩
  rcases isSheet_c a0 σ τ with ⟨e1, e2⟩ | ⟨s, hs, rfl, e1, e2⟩
  · exact ⟨-2, σ, τ, by simp [f_X7_sheet, e1], by simp [f_X8_sheet, e2], T, H⟩
  · rcases rng3 a1 0 3 4 0 3 rfl rfl rfl (by decide) (by decide) with d1 | ⟨d1, d2, -⟩ | ⟨w, hw, rfl, d1, d2, -⟩
    · exact ⟨-2, σ, τ, by simp [f_X7_sheet, e1, isSort_f σ (Or.inl d1)], by simp [f_X8_sheet, e2, isIn_f τ (Or.inl d1)], T, H⟩
    · exact ⟨-2, σ, τ, by simp [f_X7_sheet, e1, isSort_f σ (Or.inr d2)], by simp [f_X8_sheet, e2, isIn_f τ (Or.inr d2)], T, H⟩
    · rcases rng3 a2 0 60 61 0 60 rfl rfl rfl (by decide) (by decide) with g1 | ⟨g1, g2, g3, g4, -⟩ | ⟨n, hn, rfl, g1, g2, g3, g4, -⟩
      · have g4 : a2 ≤ 60 := by rw [I_lt] at g1; rw [I_le]; have : (0 : Int32).toInt = 0 := rfl; have : (60 : Int32).toInt = 60 := rfl; omega
        have g5 : ¬ 0 ≤ a2 := by rw [I_lt] at g1; rw [I_le]; omega
        exact ⟨-13, _, _, by simp [f_X7_sheet, e1, isSort_t σ d1 d2, g4, g5, host_eq], by simp [f_X8_sheet, e2, isIn_t τ d1 d2, g4, g5, meet_eq], T, RelT_host H⟩
      · exact ⟨-2, σ, τ, by simp [f_X7_sheet, e1, isSort_t σ d1 d2, g4], by simp [f_X8_sheet, e2, isIn_t τ d1 d2, g4], T, H⟩
      · have g5 : (0 : Int32) ≤ nI n := nI_pos' (by omega)
        have cl := nI_clamp (show s < 2 ^ 31 by omega)
        have ci := ix_nI hs (by decide)
        have hl := sheet_53 FU s n hs (by omega) 0 (up1 (up1 τ 11 s (nI w)) 12 s (nI n)) (by omega) (by show n - 0 < 100000; omega)
        rw [nI_0] at hl
        refine ⟨nI n, rw1 (up1 (up1 (up1 σ (83 + 2 * s) 0 1) (83 + 2 * s) 1 (nI w)) (83 + 2 * s) 2 (nI n)) (83 + 2 * s + 1) (fun j => if j < 60 then 0 else (up1 (up1 (up1 σ (83 + 2 * s) 0 1) (83 + 2 * s) 1 (nI w)) (83 + 2 * s) 2 (nI n)).1 (83 + 2 * s + 1) j), rw1 (up1 (up1 τ 11 s (nI w)) 12 s (nI n)) 13 (fun j => if 60 * s + 0 ≤ j ∧ j < 60 * s + n then 0 else (up1 (up1 τ 11 s (nI w)) 12 s (nI n)).1 13 j), ?_, ?_, T, ?_⟩
        · simp only [f_X7_sheet, e1, bS, one_ne, if_false, isSort_t σ d1 d2, g4, g5, if_true, cI_t ci, cl, sh_id, f_X3_become, ap]
          rw [fill_Ieq (by omega)]
          rfl
        · simp only [f_X8_sheet, e2, bS, one_ne, if_false, isIn_t τ d1 d2, g4, g5, if_true, cI_t ci, cl, ap]
          exact hl
        · refine RelT_sh H (SheetsR_one hs H.2.2.2.2.1 (fun a a1 a2 a3 a4 => ?_) (fun u hu => ?_) (fun u hu => ?_) (fun u i hu hi => ?_) (Or.inr ⟨?_, ⟨w, by omega, ?_, ?_⟩, n, by omega, ?_, ?_, fun i hi => ?_⟩)) (fun a ha => ?_) rfl (fun a ha => ?_) rfl
          · rw [rw1_r (by omega), up1_r a3, up1_r a3, up1_r a3]
          · rw [rw1_r (by omega), up1_r (by omega), up1_ne (by omega)]
          · rw [rw1_r (by omega), up1_ne (by omega), up1_r (by omega)]
          · rw [rw1_row]
            simp only [show ¬ (60 * s + 0 ≤ 60 * u + i ∧ 60 * u + i < 60 * s + n) by omega, if_false]
            rw [up1_r (by omega), up1_r (by omega)]
          · rw [rw1_r (by omega), up1_ne (by omega), up1_ne (by omega), up1_eq]
          · rw [rw1_r (by omega), up1_ne (by omega), up1_eq]
          · rw [rw1_r (by omega), up1_r (by omega), up1_eq]
          · rw [rw1_r (by omega), up1_eq]
          · rw [rw1_r (by omega), up1_eq]
          · show (rw1 _ (83 + 2 * s + 1) _).1 (84 + 2 * s) i = (rw1 _ 13 _).1 13 (60 * s + i)
            rw [show 84 + 2 * s = 83 + 2 * s + 1 by omega, rw1_row, rw1_row]
            simp only [show i < 60 by omega, show 60 * s + 0 ≤ 60 * s + i ∧ 60 * s + i < 60 * s + n by omega, if_true, and_self]
          · rw [rw1_r (by omega), up1_r (by omega), up1_r (by omega), up1_r (by omega)]
          · rw [rw1_r ha.2.2, up1_r ha.2.1, up1_r ha.1]
theorem nar_char (x : Int32) : (x.toUInt32 % 65536).toInt32 = x &&& 65535 := by
  rw [pk_char, pk_and x 16 (by decide)]
theorem ag_write : Ag_write Rel := by
  rintro a0 a1 a2 σ τ ⟨T, H⟩
  rcases isSheet_c a0 σ τ with ⟨e1, e2⟩ | ⟨s, hs, rfl, e1, e2⟩
  · exact ⟨-2, σ, τ, by simp [f_X7_write, e1], by simp [f_X8_write, e2], T, H⟩
  · have cl := nI_clamp (show s < 2 ^ 31 by omega)
    have ci := ix_nI hs (by decide)
    rcases H.2.2.2.2.1 s hs with ⟨q1, q2⟩ | ⟨q1, ⟨w, hw, w1, w2⟩, n, q3, q4, q5, q6⟩
    · refine ⟨-10, _, _, ?_, ?_, T, RelT_host H⟩
      · simp only [f_X7_write, e1, bS, one_ne, if_false, cI_t ci, cl, sh_id, q1, if_true, host_eq]
      · simp only [f_X8_write, e2, bS, one_ne, if_false, cI_t ci, cl, q2, show ¬ (0 : Int32) ≤ -1 by decide, meet_eq]
    · have g0 : (0 : Int32) ≤ nI n := nI_pos' (by omega)
      have out : ∀ h : (a1 < 0 ∨ (¬ a1 < 0 ∧ nI n ≤ a1)), ∃ (r : Int32) (σ' τ' : St), f_X7_write (nI s) a1 a2 σ = some (r, σ') ∧ f_X8_write (nI s) a1 a2 τ = some (r, τ') ∧ Rel σ' τ' := by
        intro h
        have hf : f_X3_hasFrom (83 + 2 * s) a1 1 σ = some (0, σ) := by
          unfold f_X3_hasFrom
          rw [q4]
          rcases h with h | ⟨h1, h2⟩
          · simp [h]
          · rw [if_neg h1, if_pos]
            rw [I_lt, show (1 : Int32) = nI 1 from rfl, pk_sub_toInt (by omega) (by omega)]
            rw [I_le, nI_toInt (by omega)] at h2
            omega
        refine ⟨-11, _, _, ?_, ?_, T, RelT_host H⟩
        · simp only [f_X7_write, e1, bS, one_ne, if_false, cI_t ci, cl, sh_id, q1, hf, if_true, host_eq]
        · rcases h with h | ⟨h1, h2⟩
          · simp only [f_X8_write, e2, bS, one_ne, if_false, cI_t ci, cl, q5, g0, if_true, h, f_X8_write_40, meet_eq]
          · have h3 : ¬ a1 < nI n := by rw [I_lt]; rw [I_le] at h2; omega
            simp only [f_X8_write, e2, bS, one_ne, if_false, cI_t ci, cl, q5, g0, if_true, h1, h3, f_X8_write_40, meet_eq]
      by_cases c1 : a1 < 0
      · exact out (Or.inl c1)
      · by_cases c2 : nI n ≤ a1
        · exact out (Or.inr ⟨c1, c2⟩)
        · obtain ⟨i, hi, rfl⟩ : ∃ i : Nat, i < n ∧ a1 = nI i := by
            rcases pk_ix a1 (n := n) (by omega) with h | h | h
            · exact absurd h c1
            · exact absurd h c2
            · exact h
          have c3 : nI i < nI n := nI_lt hi (by omega)
          have hf : f_X3_hasFrom (83 + 2 * s) (nI i) 1 σ = some (1, σ) := by
            unfold f_X3_hasFrom
            rw [q4, if_neg c1, if_neg]
            rw [I_lt, show (1 : Int32) = nI 1 from rfl, pk_sub_toInt (by omega) (by omega), nI_toInt (by omega)]
            omega
          have cli := nI_clamp (show i < 2 ^ 31 by omega)
          have ci60 := ix_nI (show i < 60 by omega) (by decide)
          have ci240 := ix_nI (show 60 * s + i < 240 by omega) (by decide)
          have cl240 := nI_clamp (show 60 * s + i < 2 ^ 31 by omega)
          have qv : σ.1 (83 + 2 * s + 1) i = τ.1 13 (60 * s + i) := by
            rw [show 83 + 2 * s + 1 = 84 + 2 * s by omega]; exact q6 i hi
          have key : ∀ v : Int32, RelT T (up1 σ (83 + 2 * s + 1) i v) (up1 τ 13 (60 * s + i) v) := by
            intro v
            refine RelT_sh H (SheetsR_one hs H.2.2.2.2.1 (fun a a1 a2 a3 a4 => up1_r (by omega)) (fun u hu => by rw [up1_r (by omega)]) (fun u hu => by rw [up1_r (by omega)]) (fun u j hu hj => up1_ne (by omega)) (Or.inr ⟨by rw [up1_r (by omega)]; exact q1, ⟨w, hw, by rw [up1_r (by omega)]; exact w1, by rw [up1_r (by omega)]; exact w2⟩, n, q3, by rw [up1_r (by omega)]; exact q4, by rw [up1_r (by omega)]; exact q5, fun j hj => ?_⟩)) (fun a ha => up1_r (by omega)) rfl (fun a ha => up1_r ha.2.2) rfl
            show _ = (up1 τ 13 (60 * s + i) v).1 13 (60 * s + j)
            rw [show 84 + 2 * s = 83 + 2 * s + 1 by omega, up1_row, up1_row]
            unfold upd
            by_cases e : j = i
            · simp [e]
            · simp only [e, show ¬ 60 * s + j = 60 * s + i by omega, if_false]
              have := q6 j hj
              rwa [show 84 + 2 * s = 83 + 2 * s + 1 by omega] at this
          have fin : ∀ v : Int32, f_X3_narrowed (83 + 2 * s) a2 σ = some (v, σ) → (if nI w = 0 then f_X8_write_113 (τ.1 13 (60 * s + i)) a2.toInt8.toInt32 (nI (60 * s + i)) τ else if nI w = 1 then f_X8_write_113 (τ.1 13 (60 * s + i)) a2.toInt16.toInt32 (nI (60 * s + i)) τ else if nI w = 2 then f_X8_write_113 (τ.1 13 (60 * s + i)) (a2 &&& 65535) (nI (60 * s + i)) τ else f_X8_write_113 (τ.1 13 (60 * s + i)) a2 (nI (60 * s + i)) τ) = some (τ.1 13 (60 * s + i), up1 τ 13 (60 * s + i) v) → ∃ (r : Int32) (σ' τ' : St), f_X7_write (nI s) (nI i) a2 σ = some (r, σ') ∧ f_X8_write (nI s) (nI i) a2 τ = some (r, τ') ∧ Rel σ' τ' := by
            intro v hv1 hv2
            refine ⟨τ.1 13 (60 * s + i), _, _, ?_, ?_, T, key v⟩
            · simp only [f_X7_write, e1, bS, one_ne, if_false, cI_t ci, cl, sh_id, q1, hf, cI_t ci60, cli, ap, hv1, qv]
            · simp only [f_X8_write, e2, bS, one_ne, if_false, cI_t ci, cl, q5, g0, if_true, c1, c3, mul60, cI_t ci240, cl240, ap, w2]
              exact hv2
          have e113 : ∀ v : Int32, f_X8_write_113 (τ.1 13 (60 * s + i)) v (nI (60 * s + i)) τ = some (τ.1 13 (60 * s + i), up1 τ 13 (60 * s + i) v) := fun v => by
            simp only [f_X8_write_113, cI_t ci240, cl240, ap]
          rcases (show w = 0 ∨ w = 1 ∨ w = 2 ∨ w = 3 by omega) with rfl | rfl | rfl | rfl
          · exact fin a2.toInt8.toInt32 (by unfold f_X3_narrowed; rw [w1, if_pos (by decide)]) (by rw [if_pos (by decide)]; exact e113 _)
          · exact fin a2.toInt16.toInt32 (by unfold f_X3_narrowed; rw [w1, if_neg (by decide), if_pos (by decide)]) (by rw [if_neg (by decide), if_pos (by decide)]; exact e113 _)
          · exact fin (a2 &&& 65535) (by unfold f_X3_narrowed; rw [w1, if_neg (by decide), if_neg (by decide), if_pos (by decide), nar_char]) (by rw [if_neg (by decide), if_neg (by decide), if_pos (by decide)]; exact e113 _)
          · exact fin a2 (by unfold f_X3_narrowed; rw [w1, if_neg (by decide), if_neg (by decide), if_neg (by decide)]) (by rw [if_neg (by decide), if_neg (by decide), if_neg (by decide)]; exact e113 _)
