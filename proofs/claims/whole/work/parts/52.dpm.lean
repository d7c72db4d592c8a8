/-! the reference's way: by years, a set after a set -/
def sb (R : Nat) : List Nat := (List.range 128).reverse.filter (fun s => decide (0 < s) && (s &&& R == s))
def pS (w : Wt) (y s : Nat) : Nat := pr (fun i => if s.testBit i = true then w i y else 1) 7
def okR (A N : Rl) (p s : Nat) : Prop := (∀ j k, s.testBit k = true → A j k → p.testBit j = true) ∧ ∀ j k, s.testBit k = true → N j k → (p ||| s).testBit j = true
noncomputable def tm2 (A N : Rl) (w : Wt) (y : Nat) (u : Nat → Nat) (S p s : Nat) : Nat := ind (p ||| s = S) * (u p * (pS w y s * ind (okR A N p s)))
def rst (M p : Nat) : Nat := M &&& (127 - p)
noncomputable def UU (A N : Rl) (M : Nat) (w : Wt) : Nat → Nat → Nat
  | 0 => fun S => ind (S = 0)
  | y + 1 => fun S => UU A N M w y S + ls (fun p => ls (fun s => tm2 A N w y (UU A N M w y) S p s) (sb (rst M p))) (List.range (M + 1))
theorem rst_bit : ∀ M, M < 128 → ∀ p, p < 128 → ∀ j, j < 7 → (rst M p).testBit j = (M.testBit j && !p.testBit j) := by
  intro M hM p hp j hj
  unfold rst
  rw [Nat.testBit_and]
  have : 127 - p = 2 ^ 7 - (p + 1) := by omega
  rw [this, Nat.testBit_two_pow_sub_succ (show p < 2 ^ 7 by omega)]
  simp [hj]
theorem sb_mem {R s : Nat} : s ∈ sb R ↔ s < 128 ∧ 0 < s ∧ s &&& R = s := by
  unfold sb
  simp
theorem bit128 {S j : Nat} (hS : S < 128) (hj : S.testBit j = true) : j < 7 := by
  rcases Nat.lt_or_ge j 7 with q | q
  · exact q
  · rw [Nat.testBit_lt_two_pow (Nat.lt_of_lt_of_le hS (Nat.pow_le_pow_right (n := 2) (by decide) q))] at hj
    exact absurd hj (by decide)
theorem sb_bit {M p s : Nat} (hM : M < 128) (hp : p < 128) (hs : s ∈ sb (rst M p)) {j : Nat} (hj : s.testBit j = true) : j < 7 ∧ M.testBit j = true ∧ p.testBit j = false := by
  obtain ⟨h1, h2, h3⟩ := sb_mem.mp hs
  have h7 := bit128 h1 hj
  have : (s &&& rst M p).testBit j = true := by rw [h3]; exact hj
  rw [Nat.testBit_and, rst_bit M hM p hp j h7] at this
  simp at this
  exact ⟨h7, this.2.1, this.2.2⟩
theorem pS_ind {y s i : Nat} (h : s.testBit i = false) : Ind i (fun w => pS w y s) := by
  unfold pS
  refine ind_pr (F := fun j w => if s.testBit j = true then w j y else 1) (fun j _ => ?_)
  by_cases e : j = i
  · subst e; simp only [h]; exact ind_c 1
  · by_cases b : s.testBit j = true
    · simp only [b, if_true]; exact ind_w e
    · simp only [b]; exact ind_c 1
theorem pS_lin {n y s i : Nat} (hy : y < n) (hi : i < 7) (h : s.testBit i = true) : Lin n i (fun w => pS w y s) := by
  unfold pS
  refine lin_pr (F := fun j w => if s.testBit j = true then w j y else 1) hi ?_ (fun j _ e => ?_)
  · simp only [h, if_true]; exact lin_w hy
  · by_cases b : s.testBit j = true
    · simp only [b, if_true]; exact ind_w e
    · simp only [b]; exact ind_c 1
theorem LI_U {n M : Nat} {A N : Rl} (hM : M < 128) : ∀ {y : Nat}, y ≤ n → LI n (fun w => UU A N M w y)
  | 0, _ => LI_0 n
  | y + 1, hy => fun S i => by
    have ih := LI_U (n := n) (A := A) (N := N) hM (show y ≤ n by omega)
    have key : ∀ p, p ∈ List.range (M + 1) → ∀ s, s ∈ sb (rst M p) → (S.testBit i = true → Lin n i (fun w => tm2 A N w y (UU A N M w y) S p s)) ∧ (S.testBit i = false → Ind i (fun w => tm2 A N w y (UU A N M w y) S p s)) := by
      intro p hp s hs
      have hp : p < 128 := by simp at hp; omega
      unfold tm2
      by_cases e : p ||| s = S
      · simp only [ind_t e, Nat.one_mul]
        subst e
        rw [Nat.testBit_or]
        refine ⟨fun hb => ?_, fun hb => ?_⟩
        · by_cases b : s.testBit i = true
          · obtain ⟨b1, b2, b3⟩ := sb_bit hM hp hs b
            exact lin_mul' ((ih p i).2 b3) (lin_mul (pS_lin (by omega) b1 b) (ind_c _))
          · have b' : s.testBit i = false := by simpa using b
            rw [b', Bool.or_false] at hb
            exact lin_mul ((ih p i).1 hb) (ind_mul (pS_ind b') (ind_c _))
        · simp at hb
          exact ind_mul ((ih p i).2 hb.1) (ind_mul (pS_ind hb.2) (ind_c _))
      · simp only [ind_f e, Nat.zero_mul]
        exact ⟨fun _ => lin_zero, fun _ => ind_c 0⟩
    exact ⟨fun hb => lin_add ((ih S i).1 hb) (lin_ls (F := fun p w => ls (fun s => tm2 A N w y (UU A N M w y) S p s) (sb (rst M p))) (fun p hp => lin_ls (F := fun s w => tm2 A N w y (UU A N M w y) S p s) (fun s hs => (key p hp s hs).1 hb))), fun hb => ind_add ((ih S i).2 hb) (ind_ls (F := fun p w => ls (fun s => tm2 A N w y (UU A N M w y) S p s) (sb (rst M p))) (fun p hp => ind_ls (F := fun s w => tm2 A N w y (UU A N M w y) S p s) (fun s hs => (key p hp s hs).2 hb)))⟩
theorem ls_one {F : Nat → Nat} {x0 : Nat} : ∀ {l : List Nat}, l.Nodup → x0 ∈ l → (∀ x, x ∈ l → x ≠ x0 → F x = 0) → ls F l = F x0
  | [], _, h, _ => by simp at h
  | x :: l, hn, h, hz => by
    rw [List.nodup_cons] at hn
    unfold ls
    by_cases e : x = x0
    · subst e
      rw [ls_zero, Nat.add_zero]
      intro z hz1
      exact hz z (by simp [hz1]) (fun e => hn.1 (e ▸ hz1))
    · rw [hz x (by simp) e, Nat.zero_add]
      exact ls_one hn.2 (by simpa [Ne.symm e] using h) (fun z hz1 => hz z (by simp [hz1]))
theorem sb_nodup (R : Nat) : (sb R).Nodup := by
  unfold sb
  exact List.Pairwise.filter _ (List.pairwise_reverse.mpr ((List.nodup_range (n := 128)).imp (fun h => Ne.symm h)))
/-- on single givings -/
def Qm (m : Nat → Bool) (A N : Rl) (g : Nat → Nat) (y S : Nat) : Prop := ∀ k, S.testBit k = true → m k = true ∧ g k < y ∧ (∀ j, A j k → S.testBit j = true ∧ g j < g k) ∧ ∀ j, N j k → S.testBit j = true ∧ g j ≤ g k
theorem pr_one {F : Nat → Nat} : ∀ {n : Nat}, (∀ i, i < n → F i = 1) → pr F n = 1
  | 0, _ => rfl
  | n + 1, h => by
    unfold pr
    rw [pr_one (fun i hi => h i (by omega)), h n (by omega)]
theorem pS_dl {g : Nat → Nat} {w : Wt} {y s : Nat} (hs : s < 128) (hw : ∀ i, s.testBit i = true → w i y = ind (g i = y)) : pS w y s = ind (∀ i, s.testBit i = true → g i = y) := by
  unfold pS
  by_cases h : ∀ i, s.testBit i = true → g i = y
  · rw [ind_t h, pr_one]
    intro i hi
    by_cases b : s.testBit i = true
    · rw [if_pos b, hw i b, ind_t (h i b)]
    · rw [if_neg b]
  · rw [ind_f h]
    have : ∃ i, s.testBit i = true ∧ ¬ g i = y := by
      apply Classical.byContradiction
      intro q
      exact h (fun i hi => Classical.byContradiction (fun x => q ⟨i, hi, x⟩))
    obtain ⟨i, b, e⟩ := this
    exact pr_zero (bit128 hs b) (by rw [if_pos b, hw i b, ind_f e])
theorem Qm_U {f n : Nat} {m : Nat → Bool} {A N : Rl} (H : Mem f m A N) {g : Nat → Nat} {w : Wt} (hw : ∀ i, m i = true → ∀ y, y < n → w i y = ind (g i = y)) : ∀ y, y ≤ n → ∀ S, S < 128 → UU A N (msk m 7) w y S = ind (Qm m A N g y S)
  | 0, _, S, _ => by
    refine ind_iff ⟨fun e k hk => by subst e; simp at hk, fun q => ?_⟩
    apply Nat.eq_of_testBit_eq
    intro k
    rw [Nat.zero_testBit]
    by_cases hk : S.testBit k = true
    · have := (q k hk).2.1
      omega
    · simpa using hk
  | y + 1, hy, S, hS => by
    have ih := Qm_U H hw y (by omega)
    have hM : msk m 7 < 128 := msk_lt m 7
    have em := msk_all H.1 H.2.1
    have tv : ∀ p, p ∈ List.range (msk m 7 + 1) → ∀ s, s ∈ sb (rst (msk m 7) p) → tm2 A N w y (UU A N (msk m 7) w y) S p s = ind (p ||| s = S ∧ Qm m A N g y p ∧ (∀ i, s.testBit i = true → g i = y) ∧ okR A N p s) := by
      intro p hp s hs
      have hp : p < 128 := by simp at hp; omega
      have hs1 := (sb_mem.mp hs).1
      unfold tm2
      rw [ih p hp, pS_dl hs1 (g := g) (fun i hi => hw i (by have := (sb_bit hM hp hs hi).2.1; rw [em] at this; exact this) y (by omega)), ind_and, ind_and, ind_and]
    show UU A N (msk m 7) w y S + ls _ _ = _
    rw [ih S hS]
    by_cases c : ∃ k, S.testBit k = true ∧ g k = y
    · obtain ⟨k0, k1, k2⟩ := c
      have z : ¬ Qm m A N g y S := fun q => by have := (q k0 k1).2.1; omega
      rw [ind_f z, Nat.zero_add]
      have s0e := msk_bit (fun k => S.testBit k && decide (g k = y)) 7
      have p0e := msk_bit (fun k => S.testBit k && !decide (g k = y)) 7
      have s0l := msk_lt (fun k => S.testBit k && decide (g k = y)) 7
      have p0l := msk_lt (fun k => S.testBit k && !decide (g k = y)) 7
      generalize msk (fun k => S.testBit k && decide (g k = y)) 7 = s0 at s0e s0l
      generalize msk (fun k => S.testBit k && !decide (g k = y)) 7 = p0 at p0e p0l
      have s0b : ∀ k, s0.testBit k = true ↔ S.testBit k = true ∧ g k = y := fun k => by
        rw [s0e]; simp
        exact fun a _ => bit128 hS a
      have p0b : ∀ k, p0.testBit k = true ↔ S.testBit k = true ∧ ¬ g k = y := fun k => by
        rw [p0e]; simp
        exact fun a _ => bit128 hS a
      have uniq : ∀ p s, (p ||| s = S ∧ Qm m A N g y p ∧ (∀ i, s.testBit i = true → g i = y) ∧ okR A N p s) → p = p0 ∧ s = s0 := by
        rintro p s ⟨e, q, hs, -⟩
        subst e
        refine ⟨Nat.eq_of_testBit_eq (fun k => ?_), Nat.eq_of_testBit_eq (fun k => ?_)⟩
        · rw [Bool.eq_iff_iff, p0b, Nat.testBit_or, Bool.or_eq_true]
          refine ⟨fun h => ⟨Or.inl h, fun t => ?_⟩, fun h => h.1.resolve_right (fun t => h.2 (hs k t))⟩
          have := (q k h).2.1; omega
        · rw [Bool.eq_iff_iff, s0b, Nat.testBit_or, Bool.or_eq_true]
          refine ⟨fun h => ⟨Or.inr h, hs k h⟩, fun h => h.1.resolve_left (fun t => ?_)⟩
          have := (q k t).2.1; omega
      by_cases Q : Qm m A N g (y + 1) S
      · rw [ind_t Q]
        have hSM : ∀ k, S.testBit k = true → (msk m 7).testBit k = true := fun k hk => by rw [em]; exact (Q k hk).1
        have pS0 : p0 ||| s0 = S := Nat.eq_of_testBit_eq (fun k => by
          rw [Bool.eq_iff_iff, Nat.testBit_or, Bool.or_eq_true, p0b, s0b]
          exact ⟨fun h => h.elim And.left And.left, fun h => by
            by_cases t : g k = y
            · exact Or.inr ⟨h, t⟩
            · exact Or.inl ⟨h, t⟩⟩)
        have hp0 : p0 ∈ List.range (msk m 7 + 1) := by
          rw [List.mem_range]
          have : p0 &&& msk m 7 = p0 := Nat.eq_of_testBit_eq (fun k => by
            rw [Nat.testBit_and, Bool.eq_iff_iff, Bool.and_eq_true]
            exact ⟨And.left, fun h => ⟨h, hSM k ((p0b k).mp h).1⟩⟩)
          have : p0 ≤ msk m 7 := by rw [← this]; exact Nat.and_le_right
          omega
        have hs0 : s0 ∈ sb (rst (msk m 7) p0) := by
          rw [sb_mem]
          refine ⟨s0l, ?_, Nat.eq_of_testBit_eq (fun k => ?_)⟩
          · have : s0.testBit k0 = true := (s0b k0).mpr ⟨k1, k2⟩
            rcases Nat.eq_zero_or_pos s0 with e | e
            · rw [e] at this; simp at this
            · exact e
          · rw [Nat.testBit_and, Bool.eq_iff_iff, Bool.and_eq_true]
            refine ⟨And.left, fun h => ⟨h, ?_⟩⟩
            have h2 := (s0b k).mp h
            rw [rst_bit _ hM _ p0l k (bit128 s0l h), Bool.and_eq_true]
            refine ⟨hSM k h2.1, ?_⟩
            have : ¬ p0.testBit k = true := fun t => ((p0b k).mp t).2 h2.2
            simpa using this
        have good : p0 ||| s0 = S ∧ Qm m A N g y p0 ∧ (∀ i, s0.testBit i = true → g i = y) ∧ okR A N p0 s0 := by
          refine ⟨pS0, fun k hk => ?_, fun i hi => ((s0b i).mp hi).2, fun j k hk hj => ?_, fun j k hk hj => ?_⟩
          · obtain ⟨h1, h2⟩ := (p0b k).mp hk
            obtain ⟨q1, q2, q3, q4⟩ := Q k h1
            refine ⟨q1, by omega, fun j hj => ⟨(p0b j).mpr ⟨(q3 j hj).1, ?_⟩, (q3 j hj).2⟩, fun j hj => ⟨(p0b j).mpr ⟨(q4 j hj).1, ?_⟩, (q4 j hj).2⟩⟩
            · have := (q3 j hj).2; omega
            · have := (q4 j hj).2; omega
          · obtain ⟨h1, h2⟩ := (s0b k).mp hk
            obtain ⟨q1, q2, q3, q4⟩ := Q k h1
            refine (p0b j).mpr ⟨(q3 j hj).1, ?_⟩
            have := (q3 j hj).2; omega
          · rw [pS0]
            exact ((Q k ((s0b k).mp hk).1).2.2.2 j hj).1
        rw [ls_one (x0 := p0) List.nodup_range hp0, ls_one (x0 := s0) (sb_nodup _) hs0, tv p0 hp0 s0 hs0, ind_t good]
        · intro s hs hne
          rw [tv p0 hp0 s hs]
          exact ind_f (fun t => hne (uniq p0 s t).2)
        · intro p hp hne
          refine ls_zero (fun s hs => ?_)
          rw [tv p hp s hs]
          exact ind_f (fun t => hne (uniq p s t).1)
      · rw [ind_f Q]
        refine ls_zero (fun p hp => ls_zero (fun s hs => ?_))
        rw [tv p hp s hs]
        refine ind_f (fun ⟨e, q, hs1, ok⟩ => Q ?_)
        have hp7 : p < 128 := by simp at hp; omega
        intro k hk
        subst e
        rw [Nat.testBit_or, Bool.or_eq_true] at hk
        rcases hk with hk | hk
        · obtain ⟨q1, q2, q3, q4⟩ := q k hk
          exact ⟨q1, by omega, fun j hj => ⟨by rw [Nat.testBit_or, (q3 j hj).1]; rfl, (q3 j hj).2⟩, fun j hj => ⟨by rw [Nat.testBit_or, (q4 j hj).1]; rfl, (q4 j hj).2⟩⟩
        · have e := hs1 k hk
          have mk := (sb_bit hM hp7 hs hk).2.1
          rw [em] at mk
          refine ⟨mk, by omega, fun j hj => ?_, fun j hj => ?_⟩
          · have t := ok.1 j k hk hj
            have := (q j t).2.1
            exact ⟨by rw [Nat.testBit_or, t]; rfl, by omega⟩
          · have t := ok.2 j k hk hj
            refine ⟨t, ?_⟩
            rw [Nat.testBit_or, Bool.or_eq_true] at t
            rcases t with t | t
            · have := (q j t).2.1; omega
            · have := hs1 j t; omega
    · have c : ∀ k, S.testBit k = true → ¬ g k = y := fun k h1 h2 => c ⟨k, h1, h2⟩
      rw [ls_zero, Nat.add_zero]
      · refine ind_iff ⟨fun q k hk => ?_, fun q k hk => ?_⟩
        · obtain ⟨q1, q2, q3, q4⟩ := q k hk
          exact ⟨q1, by omega, q3, q4⟩
        · obtain ⟨q1, q2, q3, q4⟩ := q k hk
          have := c k hk
          exact ⟨q1, by omega, q3, q4⟩
      · intro p hp
        refine ls_zero (fun s hs => ?_)
        rw [tv p hp s hs]
        refine ind_f (fun ⟨e, q, hs1, ok⟩ => ?_)
        have h0 := (sb_mem.mp hs).2.1
        have : ∃ k, s.testBit k = true := by
          apply Classical.byContradiction
          intro t
          have : s = 0 := Nat.eq_of_testBit_eq (fun k => by
            rw [Nat.zero_testBit]
            have : ¬ s.testBit k = true := fun u => t ⟨k, u⟩
            simpa using this)
          omega
        obtain ⟨k, hk⟩ := this
        refine c k ?_ (hs1 k hk)
        rw [← e, Nat.testBit_or, hk, Bool.or_true]
theorem UU_CC {f n : Nat} (h0 : 0 < n) {m : Nat → Bool} {A N : Rl} (H : Mem f m A N) (w : Wt) : UU A N (msk m 7) w n (msk m 7) = CC n f m A N w := by
  have e := msk_all H.1 H.2.1
  have hM : msk m 7 < 128 := msk_lt m 7
  have L := LI_U (n := n) (A := A) (N := N) hM (Nat.le_refl n) (msk m 7)
  rw [expand (k := f) (m := m) (C := fun w => UU A N (msk m 7) w n (msk m 7)) h0 (fun i _ hi => (L i).1 (by rw [e]; exact hi)) (fun i _ hi => (L i).2 (by rw [e]; exact hi)) w]
  refine gs_congr (fun g hg => ?_)
  show _ * UU A N (msk m 7) (dw g f w) n (msk m 7) = _
  congr 1
  rw [Qm_U (m := m) (g := g) H (n := n) (fun i hi y _ => ?_) n (Nat.le_refl n) _ hM]
  · refine ind_iff ⟨fun q j k => ⟨fun hj => ?_, fun hj => ?_⟩, fun q k hk => ?_⟩
    · exact ((q k (by rw [e]; exact (H.2.2.1 j k hj).2.1)).2.2.1 j hj).2
    · exact ((q k (by rw [e]; exact (H.2.2.2 j k hj).2)).2.2.2 j hj).2
    · rw [e] at hk
      exact ⟨hk, hg k (H.2.1 k hk), fun j hj => ⟨by rw [e]; exact (H.2.2.1 j k hj).1, (q j k).1 hj⟩, fun j hj => ⟨by rw [e]; exact (H.2.2.2 j k hj).1, (q j k).2 hj⟩⟩
  · unfold dw
    rw [if_pos (H.2.1 i hi)]
    unfold dl
    by_cases q : y = g i
    · rw [if_pos q, ind_t q.symm]
    · rw [if_neg q, ind_f (Ne.symm q)]
