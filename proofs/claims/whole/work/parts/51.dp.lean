/-! THE TWO WAYS OF COUNTING in plain numbers. A j k: j is ahead of k; N j k: j is not later than k -/
noncomputable def ind (p : Prop) : Nat := @ite Nat p (Classical.propDecidable p) 1 0
theorem ind_t {p : Prop} (h : p) : ind p = 1 := by unfold ind; rw [if_pos h]
theorem ind_f {p : Prop} (h : ¬ p) : ind p = 0 := by unfold ind; rw [if_neg h]
theorem ind_iff {p q : Prop} (h : p ↔ q) : ind p = ind q := by rw [propext h]
theorem ind_and {p q : Prop} : ind (p ∧ q) = ind p * ind q := by
  by_cases h : p
  · rw [ind_t h, Nat.one_mul]; exact ind_iff ⟨fun x => x.2, fun x => ⟨h, x⟩⟩
  · rw [ind_f h, Nat.zero_mul, ind_f (fun x => h x.1)]
theorem ind_le (p : Prop) : ind p ≤ 1 := by
  by_cases h : p
  · rw [ind_t h]; exact Nat.le_refl _
  · rw [ind_f h]; omega
def fl (S i : Nat) : Nat := S ^^^ 2 ^ i
theorem fl_bit (S i j : Nat) : (fl S i).testBit j = (S.testBit j ^^ decide (i = j)) := by
  unfold fl
  rw [Nat.testBit_xor, Nat.testBit_two_pow]
theorem fl_ne {S i j : Nat} (h : i ≠ j) : (fl S i).testBit j = S.testBit j := by rw [fl_bit]; simp [h]
theorem fl_eq (S i : Nat) : (fl S i).testBit i = !S.testBit i := by rw [fl_bit]; simp
theorem fl_fl (S i : Nat) : fl (fl S i) i = S := by unfold fl; rw [Nat.xor_assoc, Nat.xor_self, Nat.xor_zero]
theorem fl_lt {S i : Nat} (hS : S < 128) (hi : i < 7) : fl S i < 128 := by
  have : 2 ^ i < 2 ^ 7 := Nat.pow_lt_pow_right (by decide) hi
  exact Nat.xor_lt_two_pow (n := 7) hS this
abbrev Rl : Type := Nat → Nat → Prop
def cdF (A : Rl) (i S : Nat) : Prop := S.testBit i = true ∧ ∀ j, A j i → S.testBit j = true
def cdB (A : Rl) (i S : Nat) : Prop := S.testBit i = false ∧ ∀ j, A j i → S.testBit j = true
def opn (N : Rl) (S : Nat) : Prop := ∃ k j, S.testBit k = true ∧ N j k ∧ S.testBit j = false
noncomputable def plF (A : Rl) (w : Wt) (y i : Nat) (r : Nat → Nat) : Nat → Nat := fun S => r S + ind (cdF A i S) * (r (fl S i) * w i y)
noncomputable def plB (A : Rl) (w : Wt) (y i : Nat) (b : Nat → Nat) : Nat → Nat := fun S => b S + ind (cdB A i S) * (b (fl S i) * w i y)
noncomputable def clF (N : Rl) (r : Nat → Nat) : Nat → Nat := fun S => ind (¬ opn N S) * r S
noncomputable def rk (A : Rl) (w : Wt) (y : Nat) : List Nat → (Nat → Nat) → Nat → Nat
  | [], r => r
  | i :: l, r => rk A w y l (plF A w y i r)
noncomputable def bk (A : Rl) (w : Wt) (y : Nat) : List Nat → (Nat → Nat) → Nat → Nat
  | [], b => b
  | i :: l, b => plB A w y i (bk A w y l b)
noncomputable def RR (od : List Nat) (A N : Rl) (w : Wt) : Nat → Nat → Nat
  | 0 => fun S => ind (S = 0)
  | y + 1 => clF N (rk A w y od (RR od A N w y))
/-- from the end: BB n d is what comes at year n - d -/
noncomputable def BB (od : List Nat) (A N : Rl) (n M : Nat) (w : Wt) : Nat → Nat → Nat
  | 0 => fun S => ind (S = M)
  | d + 1 => bk A w (n - (d + 1)) od (clF N (BB od A N n M w d))
/-! linear in the rows of the set, not touched by the others -/
def LI (n : Nat) (X : Wt → Nat → Nat) : Prop := ∀ S i, (S.testBit i = true → Lin n i (fun w => X w S)) ∧ (S.testBit i = false → Ind i (fun w => X w S))
theorem LI_0 (n : Nat) : LI n (fun _ S => ind (S = 0)) := fun S i => ⟨fun h => by
    have : ¬ S = 0 := fun e => by subst e; simp at h
    simp only [ind_f this]
    exact lin_zero, fun _ => ind_c _⟩
theorem LI_pl {n y : Nat} (hy : y < n) {A : Rl} {X : Wt → Nat → Nat} (i : Nat) (h : LI n X) : LI n (fun w => plF A w y i (X w)) := fun S j => by
  unfold plF
  by_cases c : cdF A i S
  · simp only [ind_t c, Nat.one_mul]
    by_cases e : j = i
    · subst e
      refine ⟨fun hb => lin_add ((h S j).1 hb) (lin_mul' ((h (fl S j) j).2 (by rw [fl_eq, hb]; rfl)) (lin_w hy)), fun hb => ?_⟩
      rw [c.1] at hb
      exact absurd hb (by decide)
    · have q : (fl S i).testBit j = S.testBit j := fl_ne (Ne.symm e)
      exact ⟨fun hb => lin_add ((h S j).1 hb) (lin_mul ((h (fl S i) j).1 (by rw [q, hb])) (ind_w (Ne.symm e))), fun hb => ind_add ((h S j).2 hb) (ind_mul ((h (fl S i) j).2 (by rw [q, hb])) (ind_w (Ne.symm e)))⟩
  · simp only [ind_f c, Nat.zero_mul, Nat.add_zero]
    exact h S j
theorem LI_rk {n y : Nat} (hy : y < n) {A : Rl} : ∀ (l : List Nat) {X : Wt → Nat → Nat}, LI n X → LI n (fun w => rk A w y l (X w))
  | [], _, h => h
  | i :: l, _, h => LI_rk hy l (LI_pl hy i h)
theorem LI_cl {n : Nat} {N : Rl} {X : Wt → Nat → Nat} (h : LI n X) : LI n (fun w => clF N (X w)) := fun S j => ⟨fun hb => lin_mul' (ind_c _) ((h S j).1 hb), fun hb => ind_mul (ind_c _) ((h S j).2 hb)⟩
theorem LI_RR {n : Nat} {od : List Nat} {A N : Rl} : ∀ {y : Nat}, y ≤ n → LI n (fun w => RR od A N w y)
  | 0, _ => LI_0 n
  | y + 1, h => LI_cl (LI_rk (by omega) od (LI_RR (by omega)))
/-! on single givings -/
def Qt (m : Nat → Bool) (A N : Rl) (g : Nat → Nat) (y : Nat) (P : Nat → Prop) (S : Nat) : Prop := ∀ k, S.testBit k = true → m k = true ∧ (g k < y ∨ (g k = y ∧ P k)) ∧ (∀ j, A j k → S.testBit j = true ∧ g j < g k) ∧ (g k < y → ∀ j, N j k → S.testBit j = true ∧ g j ≤ g k)
theorem Qt_pl {m : Nat → Bool} {A N : Rl} {g : Nat → Nat} {w : Wt} {y i : Nat} {P : Nat → Prop} {r : Nat → Nat} (hw : w i y = ind (g i = y)) (hm : m i = true) (hA : ∀ j k, A j k → j ≠ k) (hP : ¬ P i) (hr : ∀ j, A j i → ¬ P j) (h : ∀ S, r S = ind (Qt m A N g y P S)) (S : Nat) : plF A w y i r S = ind (Qt m A N g y (fun k => P k ∨ k = i) S) := by
  unfold plF
  rw [h, h, hw]
  by_cases e : g i = y
  · rw [ind_t e, Nat.mul_one]
    by_cases hb : S.testBit i = true
    · have z : ¬ Qt m A N g y P S := fun q => by
        rcases (q i hb).2.1 with c | c
        · omega
        · exact hP c.2
      rw [ind_f z, Nat.zero_add, ← ind_and]
      refine ind_iff ⟨fun ⟨c, q⟩ k hk => ?_, fun q => ⟨⟨hb, fun j hj => ((q i hb).2.2.1 j hj).1⟩, fun k hk => ?_⟩⟩
      · by_cases ek : k = i
        · subst ek
          refine ⟨hm, Or.inr ⟨e, Or.inr rfl⟩, fun j hj => ⟨c.2 j hj, ?_⟩, fun x => by omega⟩
          have hj2 := hA j k hj
          have := (q j (by rw [fl_ne (Ne.symm hj2)]; exact c.2 j hj)).2.1
          rcases this with t | t
          · omega
          · exact absurd t.2 (hr j hj)
        · obtain ⟨q1, q2, q3, q4⟩ := q k (by rw [fl_ne (Ne.symm ek)]; exact hk)
          have back : ∀ j, (fl S i).testBit j = true → S.testBit j = true := fun j hj => by
            by_cases ej : i = j
            · subst ej; rw [fl_eq, hb] at hj; exact absurd hj (by decide)
            · rw [fl_ne ej] at hj; exact hj
          exact ⟨q1, q2.imp id (fun x => ⟨x.1, Or.inl x.2⟩), fun j hj => ⟨back j (q3 j hj).1, (q3 j hj).2⟩, fun x j hj => ⟨back j (q4 x j hj).1, (q4 x j hj).2⟩⟩
      · have ek : k ≠ i := fun ek => by subst ek; rw [fl_eq, hb] at hk; exact absurd hk (by decide)
        rw [fl_ne (Ne.symm ek)] at hk
        obtain ⟨q1, q2, q3, q4⟩ := q k hk
        have fw : ∀ j, j ≠ i → S.testBit j = true → (fl S i).testBit j = true := fun j hj hs => by rw [fl_ne (Ne.symm hj)]; exact hs
        have le : g k ≤ y := by rcases q2 with x | x <;> omega
        refine ⟨q1, q2.imp id (fun x => ⟨x.1, x.2.resolve_right ek⟩), fun j hj => ⟨fw j (fun ej => ?_) (q3 j hj).1, (q3 j hj).2⟩, fun x j hj => ⟨fw j (fun ej => ?_) (q4 x j hj).1, (q4 x j hj).2⟩⟩
        · have := (q3 j hj).2
          rw [ej] at this; omega
        · have := (q4 x j hj).2
          rw [ej] at this; omega
    · have z : ¬ cdF A i S := fun q => hb q.1
      rw [ind_f z, Nat.zero_mul, Nat.add_zero]
      refine ind_iff ⟨fun q k hk => ?_, fun q k hk => ?_⟩
      · obtain ⟨q1, q2, q3, q4⟩ := q k hk
        exact ⟨q1, q2.imp id (fun x => ⟨x.1, Or.inl x.2⟩), q3, q4⟩
      · obtain ⟨q1, q2, q3, q4⟩ := q k hk
        refine ⟨q1, q2.imp id (fun x => ⟨x.1, x.2.resolve_right (fun ek => ?_)⟩), q3, q4⟩
        subst ek; exact hb hk
  · rw [ind_f e, Nat.mul_zero, Nat.mul_zero, Nat.add_zero]
    refine ind_iff ⟨fun q k hk => ?_, fun q k hk => ?_⟩
    · obtain ⟨q1, q2, q3, q4⟩ := q k hk
      exact ⟨q1, q2.imp id (fun x => ⟨x.1, Or.inl x.2⟩), q3, q4⟩
    · obtain ⟨q1, q2, q3, q4⟩ := q k hk
      refine ⟨q1, q2.imp id (fun x => ⟨x.1, x.2.resolve_right (fun ek => ?_)⟩), q3, q4⟩
      subst ek; exact e x.1
/-- the order within a year: whoever is ahead comes later -/
def Topo (A : Rl) : List Nat → Prop
  | [] => True
  | i :: l => (∀ j, A j i → j ∈ l) ∧ i ∉ l ∧ Topo A l
theorem Qt_rk {m : Nat → Bool} {A N : Rl} {g : Nat → Nat} {w : Wt} {y : Nat} (hA : ∀ j k, A j k → j ≠ k) : ∀ (l : List Nat) (P : Nat → Prop) (r : Nat → Nat), Topo A l → (∀ i, i ∈ l → m i = true ∧ w i y = ind (g i = y) ∧ ¬ P i) → (∀ S, r S = ind (Qt m A N g y P S)) → ∀ S, rk A w y l r S = ind (Qt m A N g y (fun k => P k ∨ k ∈ l) S)
  | [], P, r, _, _, h, S => by
    show r S = _
    rw [h]
    exact ind_iff (by simp)
  | i :: l, P, r, ht, hl, h, S => by
    show rk A w y l (plF A w y i r) S = _
    obtain ⟨h1, h2, h3⟩ := hl i (by simp)
    have nx := Qt_pl (N := N) (P := P) (r := r) h2 h1 hA h3 (fun j hj => (hl j (by simp [ht.1 j hj])).2.2) h
    rw [Qt_rk hA l (fun k => P k ∨ k = i) _ ht.2.2 (fun k hk => ⟨(hl k (by simp [hk])).1, (hl k (by simp [hk])).2.1, fun q => by
      rcases q with q | q
      · exact (hl k (by simp [hk])).2.2 q
      · subst q; exact ht.2.1 hk⟩) nx S]
    exact ind_iff (by simp [or_assoc])
theorem Qt_cl {m : Nat → Bool} {A N : Rl} {g : Nat → Nat} {y : Nat} {P : Nat → Prop} {r : Nat → Nat} (hP : ∀ k, m k = true → P k) (h : ∀ S, r S = ind (Qt m A N g y P S)) (S : Nat) : clF N r S = ind (Qt m A N g (y + 1) (fun _ => False) S) := by
  unfold clF
  rw [h, ← ind_and]
  refine ind_iff ⟨fun ⟨c, q⟩ k hk => ?_, fun q => ⟨fun ⟨k, j, hk, hj, hb⟩ => ?_, fun k hk => ?_⟩⟩
  · obtain ⟨q1, q2, q3, q4⟩ := q k hk
    refine ⟨q1, Or.inl (by rcases q2 with x | x <;> omega), q3, fun _ j hj => ?_⟩
    rcases q2 with x | x
    · exact q4 x j hj
    · have hb : S.testBit j = true := by
        by_cases t : S.testBit j = true
        · exact t
        · exact absurd ⟨k, j, hk, hj, by simpa using t⟩ c
      refine ⟨hb, ?_⟩
      rcases (q j hb).2.1 with z | z <;> omega
  · have t := (q k hk).2.1
    have := ((q k hk).2.2.2 (t.elim id (fun x => x.2.elim)) j hj).1
    rw [hb] at this
    exact absurd this (by decide)
  · obtain ⟨q1, q2, q3, q4⟩ := q k hk
    have : g k < y + 1 := q2.elim id (fun x => x.2.elim)
    refine ⟨q1, ?_, q3, fun x => q4 (by omega)⟩
    by_cases e : g k = y
    · exact Or.inr ⟨e, hP k q1⟩
    · exact Or.inl (by omega)
theorem Qt_RR {m : Nat → Bool} {A N : Rl} {g : Nat → Nat} {w : Wt} {od : List Nat} (hA : ∀ j k, A j k → j ≠ k) (ht : Topo A od) (hod : ∀ k, k ∈ od ↔ m k = true) {n : Nat} (hw : ∀ i, m i = true → ∀ y, y < n → w i y = ind (g i = y)) : ∀ y, y ≤ n → ∀ S, RR od A N w y S = ind (Qt m A N g y (fun _ => False) S)
  | 0, _, S => by
    refine ind_iff ⟨fun e k hk => by subst e; simp at hk, fun q => ?_⟩
    apply Nat.eq_of_testBit_eq
    intro k
    rw [Nat.zero_testBit]
    by_cases hk : S.testBit k = true
    · rcases (q k hk).2.1 with x | x
      · omega
      · exact x.2.elim
    · simpa using hk
  | y + 1, hy, S => by
    refine Qt_cl (P := fun k => False ∨ k ∈ od) (fun k hk => Or.inr ((hod k).mpr hk)) ?_ S
    exact Qt_rk hA od _ _ ht (fun i hi => ⟨(hod i).mp hi, hw i ((hod i).mp hi) y (by omega), id⟩) (Qt_RR hA ht hod hw y (by omega))
def okg (m : Nat → Bool) (A N : Rl) (g : Nat → Nat) : Prop := ∀ j k, (A j k → g j < g k) ∧ (N j k → g j ≤ g k)
noncomputable def CC (n f : Nat) (m : Nat → Bool) (A N : Rl) (w : Wt) : Nat := gs n f (fun g => pr (fun i => coef m w i (g i)) f * ind (okg m A N g))
/-- pairs are of members, members below f, the set of all -/
def Mem (f : Nat) (m : Nat → Bool) (A N : Rl) : Prop := f ≤ 7 ∧ (∀ k, m k = true → k < f) ∧ (∀ j k, A j k → m j = true ∧ m k = true ∧ j ≠ k) ∧ (∀ j k, N j k → m j = true ∧ m k = true)
theorem msk_all {m : Nat → Bool} {f : Nat} (hf : f ≤ 7) (hm : ∀ k, m k = true → k < f) (k : Nat) : (msk m 7).testBit k = m k := by
  rw [msk_bit]
  by_cases h : m k = true
  · have := hm k h
    simp [h, show k < 7 by omega]
  · simp [h]
theorem Qt_end {f n : Nat} {m : Nat → Bool} {A N : Rl} (H : Mem f m A N) {g : Nat → Nat} (hg : ∀ i, i < f → g i < n) : Qt m A N g n (fun _ => False) (msk m 7) ↔ okg m A N g := by
  have e := msk_all H.1 H.2.1
  refine ⟨fun q j k => ⟨fun hj => ?_, fun hj => ?_⟩, fun q k hk => ?_⟩
  · exact ((q k (by rw [e]; exact (H.2.2.1 j k hj).2.1)).2.2.1 j hj).2
  · have hk := (H.2.2.2 j k hj).2
    exact ((q k (by rw [e]; exact hk)).2.2.2 (hg k (H.2.1 k hk)) j hj).2
  · rw [e] at hk
    refine ⟨hk, Or.inl (hg k (H.2.1 k hk)), fun j hj => ⟨by rw [e]; exact (H.2.2.1 j k hj).1, (q j k).1 hj⟩, fun _ j hj => ⟨by rw [e]; exact (H.2.2.2 j k hj).1, (q j k).2 hj⟩⟩
theorem RR_CC {f n : Nat} (h0 : 0 < n) {m : Nat → Bool} {A N : Rl} (H : Mem f m A N) {od : List Nat} (ht : Topo A od) (hod : ∀ k, k ∈ od ↔ m k = true) (w : Wt) : RR od A N w n (msk m 7) = CC n f m A N w := by
  have e := msk_all H.1 H.2.1
  have L := LI_RR (n := n) (od := od) (A := A) (N := N) (Nat.le_refl n) (msk m 7)
  rw [expand (k := f) (m := m) (C := fun w => RR od A N w n (msk m 7)) h0 (fun i _ hi => (L i).1 (by rw [e]; exact hi)) (fun i _ hi => (L i).2 (by rw [e]; exact hi)) w]
  refine gs_congr (fun g hg => ?_)
  show _ * RR od A N (dw g f w) n (msk m 7) = _
  congr 1
  rw [Qt_RR (m := m) (g := g) (fun j k h => (H.2.2.1 j k h).2.2) ht hod (n := n) (fun i hi y _ => ?_) n (Nat.le_refl n)]
  · exact ind_iff (Qt_end H hg)
  · unfold dw
    rw [if_pos (H.2.1 i hi)]
    unfold dl
    by_cases q : y = g i
    · rw [if_pos q, ind_t q.symm]
    · rw [if_neg q, ind_f (Ne.symm q)]
