theorem St_ext {σ τ : St} (h1 : ∀ a b, σ.1 a b = τ.1 a b) (h2 : ∀ a b, σ.2 a b = τ.2 a b) : σ = τ := Prod.ext (funext fun a => funext fun b => h1 a b) (funext fun a => funext fun b => h2 a b)
theorem fl_id (i : Nat) : 4 + 4 + 3 * i = 8 + 3 * i := by omega
def setF (T : Tl) (i : Nat) (x : Nat × Nat × Nat) : Tl := (T.1, T.2.1, T.2.2.1, fun k => if k = i then x else T.2.2.2.1 k, T.2.2.2.2)
theorem ag_odd : Ag_odd Rel := by
  rintro a0 a1 σ τ ⟨T, H⟩
  rcases isFind_c (x := a0) H.1.2.1 H.2.1.1.2 H.2.2.1.1.2 with ⟨e1, e2⟩ | ⟨i, hi, rfl, e1, e2⟩
  · exact ⟨-2, σ, τ, by simp [f_X7_odd, e1], by simp [f_X8_odd, e2], T, H⟩
  · rcases rng3 a1 0 9 10 0 9 rfl rfl rfl (by decide) (by decide) with d1 | ⟨d1, d2, -⟩ | ⟨v, hv, rfl, d1, d2, -⟩
    · exact ⟨-2, σ, τ, by simp [f_X7_odd, e1, isDigit_f σ (Or.inl d1)], by simp [f_X8_odd, e2, isIn_f τ (Or.inl d1)], T, H⟩
    · exact ⟨-2, σ, τ, by simp [f_X7_odd, e1, isDigit_f σ (Or.inr d2)], by simp [f_X8_odd, e2, isIn_f τ (Or.inr d2)], T, H⟩
    · have hi7 : i < 7 := Nat.lt_of_lt_of_le hi H.1.2.1
      obtain ⟨⟨k1, k2⟩, k3, k4, k5, k6⟩ := H.2.1
      obtain ⟨⟨m1, m2⟩, m3, m4, m5, m6⟩ := H.2.2.1
      have p1 : σ.1 (8 + 3 * i) 1 = nI (to_ T i) := by have := (k5 i hi).2.1; rwa [show 1 + 7 + 3 * i = 8 + 3 * i by omega] at this
      have p2 : τ.1 4 i = nI (to_ T i) := (m5 i hi).2.1
      have t1 : ∀ k, tk (setF T i (tk T i, v, ta T i)) k = tk T k := fun k => by
        by_cases e : k = i <;> simp [tk, setF, e]
      have t2 : ∀ k, ta (setF T i (tk T i, v, ta T i)) k = ta T k := fun k => by
        by_cases e : k = i <;> simp [ta, setF, e]
      have t3 : ∀ k, to_ (setF T i (tk T i, v, ta T i)) k = if k = i then v else to_ T k := fun k => by
        by_cases e : k = i <;> simp [to_, setF, e]
      refine ⟨nI (to_ T i), up1 σ (8 + 3 * i) 1 (nI v), up1 τ 4 i (nI v), by simp [f_X7_odd, e1, isDigit_t σ d1 d2, cI_t (ix_nI hi7 (by decide)), nI_clamp (show i < 2 ^ 31 by omega), ap, p1], by simp [f_X8_odd, e2, isIn_t τ d1 d2, cI_t (ix_nI hi7 (by decide)), nI_clamp (show i < 2 ^ 31 by omega), ap, p2], setF T i (tk T i, v, ta T i), RelT_tel H ⟨H.1.1, H.1.2.1, H.1.2.2.1, H.1.2.2.2.1, fun k hk => ?_, H.1.2.2.2.2.2⟩ ⟨⟨by rw [up1_r (by omega)]; exact k1, by rw [up1_r (by omega)]; exact k2⟩, by rw [up1_r (by omega)]; exact k3, by rw [up1_r (by omega)]; exact k4, fun k hk => ?_, by rw [up1_r (by omega), up1_r (by omega)]; exact k6⟩ ⟨⟨by rw [up1_r (by omega)]; exact m1, by rw [up1_r (by omega)]; exact m2⟩, by rw [up1_r (by omega)]; exact m3, by rw [up1_r (by omega)]; exact m4, fun k hk => ?_, fun i k hi hk => by rw [up1_r (by omega)]; exact m6 i k hi hk⟩ rfl (fun a ha => up1_r (by have := H.1.2.1; omega)) rfl (fun j hj => by rw [up1_r (by omega)]) (fun a ha => up1_r (by omega)) rfl⟩
      · have hq := H.1.2.2.2.2.1 k hk
        rw [t1, t2, t3]
        refine ⟨hq.1, ?_, hq.2.2⟩
        by_cases e : k = i
        · simp [e]; omega
        · simp only [e, if_false]; exact hq.2.1
      · have hq := k5 k hk
        unfold FindC at hq ⊢
        rw [t1, t2, t3, show (up1 σ (8 + 3 * i) 1 (nI v)).1 (1 + 8 + 3 * k) = σ.1 (1 + 8 + 3 * k) from up1_r (by omega), show (up1 σ (8 + 3 * i) 1 (nI v)).1 (1 + 9 + 3 * k) = σ.1 (1 + 9 + 3 * k) from up1_r (by omega)]
        by_cases e : k = i
        · subst e
          rw [show 1 + 7 + 3 * k = 8 + 3 * k by omega] at hq ⊢
          rw [up1_row]
          exact ⟨by simp [upd, hq.1], by simp [upd], by simp [upd, hq.2.2.1], hq.2.2.2⟩
        · rw [up1_r (by omega)]
          simp only [e, if_false]
          exact hq
      · have hq := m5 k hk
        unfold FindM at hq ⊢
        rw [t1, t2, t3, show (up1 τ 4 i (nI v)).1 3 = τ.1 3 from up1_r (by omega), show (up1 τ 4 i (nI v)).1 5 = τ.1 5 from up1_r (by omega), show (up1 τ 4 i (nI v)).1 6 = τ.1 6 from up1_r (by omega), show (up1 τ 4 i (nI v)).1 7 = τ.1 7 from up1_r (by omega), up1_row]
        refine ⟨hq.1, ?_, hq.2.2⟩
        by_cases e : k = i
        · simp [upd, e]
        · simp only [upd, e, if_false]; exact hq.2.1
/-! rows filled by the JDK -/
theorem fill_I (n k0 n0 : Nat) (v : Int32) (h0 : n0 < 2 ^ 30) : ∀ (i : Nat) (σ : St), i ≤ n0 → n0 - i < n → f_J7_fill_53178_5 n k0 n0 v (nI i) (nI n0) σ = some (rw1 σ k0 (fun j => if i ≤ j ∧ j < n0 then v else σ.1 k0 j)) := by
  induction n with
  | zero => intro i σ h1 h2; omega
  | succ n ih =>
    intro i σ h1 h2
    rw [f_J7_fill_53178_5]
    rcases Nat.lt_or_ge i n0 with q | q
    · rw [if_neg (nI_ge q (by omega)), cI_t (ix_nI q (by omega)), ap, nI_clamp (by omega), nI_1, ih (i + 1) _ (by omega) (by omega)]
      congr 1
      apply St_ext
      · intro a b
        by_cases e : a = k0
        · subst e
          by_cases e2 : b = i
          · subst e2; simp [rw1, up1, q]
          · by_cases e3 : i + 1 ≤ b ∧ b < n0
            · simp [rw1, e3, show i ≤ b by omega]
            · simp [rw1, up1, e2, e3]
              intro g1 g2; omega
        · simp [rw1, up1, e]
      · intro a b; rfl
    · obtain rfl : i = n0 := by omega
      rw [if_pos (by rw [I_le]; omega)]
      congr 1
      apply St_ext
      · intro a b
        by_cases e : a = k0
        · subst e
          simp [rw1]
          intro g1 g2; omega
        · simp [rw1, e]
      · intro a b; rfl
theorem fill_Ieq {k0 n0 : Nat} {v : Int32} {σ : St} (h0 : n0 < 10000) : f_J7_fill_53178 k0 n0 v σ = some (rw1 σ k0 (fun j => if j < n0 then v else σ.1 k0 j)) := by
  unfold f_J7_fill_53178
  have := fill_I FU k0 n0 v (by omega) 0 σ (by omega) (by show n0 - 0 < 100000; omega)
  simpa [nI_0] using this
theorem fill_L (n k0 n0 : Nat) (v : Int64) (h0 : n0 < 2 ^ 30) : ∀ (i : Nat) (σ : St), i ≤ n0 → n0 - i < n → f_J7_fill_d0a16_6 n k0 n0 v (nI i) (nI n0) σ = some (rw2 σ k0 (fun j => if i ≤ j ∧ j < n0 then v else σ.2 k0 j)) := by
  induction n with
  | zero => intro i σ h1 h2; omega
  | succ n ih =>
    intro i σ h1 h2
    rw [f_J7_fill_d0a16_6]
    rcases Nat.lt_or_ge i n0 with q | q
    · rw [if_neg (nI_ge q (by omega)), cI_t (ix_nI q (by omega)), ap, nI_clamp (by omega), nI_1, ih (i + 1) _ (by omega) (by omega)]
      congr 1
      apply St_ext
      · intro a b; rfl
      · intro a b
        by_cases e : a = k0
        · subst e
          by_cases e2 : b = i
          · subst e2; simp [rw2, up2, q]
          · by_cases e3 : i + 1 ≤ b ∧ b < n0
            · simp [rw2, e3, show i ≤ b by omega]
            · simp [rw2, up2, e2, e3]
              intro g1 g2; omega
        · simp [rw2, up2, e]
    · obtain rfl : i = n0 := by omega
      rw [if_pos (by rw [I_le]; omega)]
      congr 1
      apply St_ext
      · intro a b; rfl
      · intro a b
        by_cases e : a = k0
        · subst e
          simp [rw2]
          intro g1 g2; omega
        · simp [rw2, e]
theorem fill_Leq {k0 n0 : Nat} {v : Int64} {σ : St} (h0 : n0 < 10000) : f_J7_fill_d0a16 k0 n0 v σ = some (rw2 σ k0 (fun j => if j < n0 then v else σ.2 k0 j)) := by
  unfold f_J7_fill_d0a16
  have := fill_L FU k0 n0 v (by omega) 0 σ (by omega) (by show n0 - 0 < 100000; omega)
  simpa [nI_0] using this
