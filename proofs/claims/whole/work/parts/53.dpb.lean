/-! forwards and backwards meet -/
noncomputable def dot (r b : Nat → Nat) : Nat := ls (fun S => r S * b S) (List.range 128)
theorem rng_fl : ∀ i, i < 7 → (List.range 128).filter (fun S => S.testBit i) = ((List.range 128).filter (fun S => !S.testBit i)).map (fun S => fl S i) := by decide +kernel
theorem ls_flip (i : Nat) (hi : i < 7) (F : Nat → Nat) : ls (fun S => if S.testBit i = true then F (fl S i) else 0) (List.range 128) = ls (fun S => if (!S.testBit i) = true then F S else 0) (List.range 128) := by
  rw [ls_filter (fun S => S.testBit i) (fun S => F (fl S i)), ls_filter (fun S => !S.testBit i) F, rng_fl i hi, ls_map]
  exact ls_congr (fun x _ => by rw [fl_fl])
theorem dot_pl {A : Rl} {w : Wt} {y i : Nat} (hi : i < 7) (hA : ∀ j k, A j k → j ≠ k) (r b : Nat → Nat) : dot (plF A w y i r) b = dot r (plB A w y i b) := by
  unfold dot plF plB
  have e1 : ls (fun S => (r S + ind (cdF A i S) * (r (fl S i) * w i y)) * b S) (List.range 128) = ls (fun S => r S * b S) (List.range 128) + ls (fun S => if S.testBit i = true then (fun S => ind (cdB A i S) * (r S * w i y) * b (fl S i)) (fl S i) else 0) (List.range 128) := by
    rw [← ls_add]
    refine ls_congr (fun S _ => ?_)
    rw [Nat.add_mul]
    congr 1
    by_cases hb : S.testBit i = true
    · rw [if_pos hb]
      show _ = ind (cdB A i (fl S i)) * (r (fl S i) * w i y) * b (fl (fl S i) i)
      rw [fl_fl]
      congr 2
      refine ind_iff ⟨fun c => ⟨by rw [fl_eq, hb]; rfl, fun j hj => ?_⟩, fun c => ⟨hb, fun j hj => ?_⟩⟩
      · rw [fl_ne (Ne.symm (hA j i hj))]; exact c.2 j hj
      · rw [← fl_ne (S := S) (Ne.symm (hA j i hj))]; exact c.2 j hj
    · rw [if_neg hb, ind_f (fun c => hb c.1), Nat.zero_mul, Nat.zero_mul]
  have e2 : ls (fun S => r S * (b S + ind (cdB A i S) * (b (fl S i) * w i y))) (List.range 128) = ls (fun S => r S * b S) (List.range 128) + ls (fun S => if (!S.testBit i) = true then (fun S => ind (cdB A i S) * (r S * w i y) * b (fl S i)) S else 0) (List.range 128) := by
    rw [← ls_add]
    refine ls_congr (fun S _ => ?_)
    rw [Nat.mul_add]
    refine congrArg (fun t => r S * b S + t) ?_
    by_cases hb : (!S.testBit i) = true
    · rw [if_pos hb]
      show _ = ind (cdB A i S) * (r S * w i y) * b (fl S i)
      rw [Nat.mul_left_comm, Nat.mul_assoc (ind _), Nat.mul_assoc, Nat.mul_comm (w i y)]
    · rw [if_neg hb, ind_f (fun c => hb (by rw [c.1]; rfl)), Nat.zero_mul, Nat.mul_zero]
  rw [e1, e2, ls_flip i hi (fun S => ind (cdB A i S) * (r S * w i y) * b (fl S i))]
theorem dot_rk {A : Rl} {w : Wt} {y : Nat} (hA : ∀ j k, A j k → j ≠ k) : ∀ (l : List Nat) (r b : Nat → Nat), (∀ i, i ∈ l → i < 7) → dot (rk A w y l r) b = dot r (bk A w y l b)
  | [], r, b, _ => rfl
  | i :: l, r, b, h => by
    show dot (rk A w y l (plF A w y i r)) b = dot r (plB A w y i (bk A w y l b))
    rw [dot_rk hA l _ _ (fun j hj => h j (by simp [hj])), dot_pl (h i (by simp)) hA]
theorem dot_cl {N : Rl} (r b : Nat → Nat) : dot (clF N r) b = dot r (clF N b) := by
  unfold dot clF
  exact ls_congr (fun S _ => by rw [Nat.mul_assoc, Nat.mul_left_comm])
theorem dot_RB {A N : Rl} {w : Wt} {od : List Nat} {n M : Nat} (hA : ∀ j k, A j k → j ≠ k) (ho : ∀ i, i ∈ od → i < 7) (hM : M < 128) : ∀ d, d ≤ n → dot (RR od A N w (n - d)) (BB od A N n M w d) = RR od A N w n M
  | 0, _ => by
    unfold dot
    rw [ls_one (x0 := M) List.nodup_range (by simpa using hM)]
    · show RR od A N w n M * ind (M = M) = _
      rw [ind_t rfl, Nat.mul_one]
    · intro x _ hx
      show _ * ind (x = M) = 0
      rw [ind_f hx, Nat.mul_zero]
  | d + 1, h => by
    show dot (RR od A N w (n - (d + 1))) (bk A w (n - (d + 1)) od (clF N (BB od A N n M w d))) = _
    rw [← dot_rk hA od _ _ ho, ← dot_cl, ← dot_RB hA ho hM d (by omega), show n - d = n - (d + 1) + 1 by omega]
    rfl
/-! what can't be is 0 -/
theorem rk_zero {A : Rl} {w : Wt} {y i : Nat} : ∀ (l : List Nat) (r : Nat → Nat), (i ∈ l → w i y = 0) → (∀ S, S.testBit i = true → r S = 0) → ∀ S, S.testBit i = true → rk A w y l r S = 0
  | [], r, _, h, S, hS => h S hS
  | k :: l, r, hw, h, S, hS => by
    refine rk_zero l (plF A w y k r) (fun hi => hw (by simp [hi])) (fun S hS => ?_) S hS
    unfold plF
    rw [h S hS, Nat.zero_add]
    by_cases e : k = i
    · subst e; rw [hw (by simp), Nat.mul_zero, Nat.mul_zero]
    · rw [h (fl S k) (by rw [fl_ne e]; exact hS), Nat.zero_mul, Nat.mul_zero]
theorem RR_zero {A N : Rl} {w : Wt} {od : List Nat} {i : Nat} : ∀ y, (∀ z, z < y → w i z = 0) → ∀ S, S.testBit i = true → RR od A N w y S = 0
  | 0, _, S, hS => ind_f (fun e => by subst e; simp at hS)
  | y + 1, hw, S, hS => by
    show _ * rk A w y od (RR od A N w y) S = 0
    rw [rk_zero od _ (fun _ => hw y (by omega)) (RR_zero y (fun z hz => hw z (by omega))) S hS, Nat.mul_zero]
theorem bk_zero {A : Rl} {w : Wt} {y i : Nat} : ∀ (l : List Nat) (b : Nat → Nat), (i ∈ l → w i y = 0) → (∀ S, S.testBit i = false → b S = 0) → ∀ S, S.testBit i = false → bk A w y l b S = 0
  | [], b, _, h, S, hS => h S hS
  | k :: l, b, hw, h, S, hS => by
    have ih := bk_zero (A := A) (w := w) (y := y) l b (fun hi => hw (by simp [hi])) h
    show plB A w y k (bk A w y l b) S = 0
    unfold plB
    rw [ih S hS, Nat.zero_add]
    by_cases e : k = i
    · subst e; rw [hw (by simp), Nat.mul_zero, Nat.mul_zero]
    · rw [ih (fl S k) (by rw [fl_ne e]; exact hS), Nat.zero_mul, Nat.mul_zero]
theorem BB_zero {A N : Rl} {w : Wt} {od : List Nat} {i n M : Nat} (hM : M.testBit i = true) : ∀ d, d ≤ n → (∀ z, n - d ≤ z → z < n → w i z = 0) → ∀ S, S.testBit i = false → BB od A N n M w d S = 0
  | 0, _, _, S, hS => ind_f (fun e => by subst e; rw [hM] at hS; exact absurd hS (by decide))
  | d + 1, hd, hw, S, hS => by
    refine bk_zero od _ (fun _ => hw _ (Nat.le_refl _) (by omega)) (fun S hS => ?_) S hS
    unfold clF
    rw [BB_zero hM d (by omega) (fun z h1 h2 => hw z (by omega) h2) S hS, Nat.mul_zero]
/-- the rest isn't touched by rows of the set -/
def LB (X : Wt → Nat → Nat) : Prop := ∀ S i, S.testBit i = true → Ind i (fun w => X w S)
theorem LB_bk {A : Rl} {y : Nat} : ∀ (l : List Nat) {X : Wt → Nat → Nat}, LB X → LB (fun w => bk A w y l (X w))
  | [], _, h => h
  | k :: l, X, h => fun S i hS => by
    have ih := LB_bk (A := A) (y := y) l h
    show Ind i (fun w => bk A w y l (X w) S + ind (cdB A k S) * (bk A w y l (X w) (fl S k) * w k y))
    by_cases c : cdB A k S
    · have e : k ≠ i := fun e => by subst e; rw [c.1] at hS; exact absurd hS (by decide)
      exact ind_add (ih S i hS) (ind_mul (ind_c _) (ind_mul (ih (fl S k) i (by rw [fl_ne e]; exact hS)) (ind_w e)))
    · simp only [ind_f c, Nat.zero_mul, Nat.add_zero]
      exact ih S i hS
theorem LB_cl {N : Rl} {X : Wt → Nat → Nat} (h : LB X) : LB (fun w => clF N (X w)) := fun S i hS => ind_mul (ind_c _) (h S i hS)
theorem LB_BB {A N : Rl} {od : List Nat} {n M : Nat} : ∀ d, LB (fun w => BB od A N n M w d)
  | 0 => fun _ _ _ => ind_c _
  | d + 1 => LB_bk od (LB_cl (LB_BB d))
/-- the find i held to the year y -/
def at1 (w : Wt) (i y : Nat) : Wt := ur w i (fun z => if z = y then w i y else 0)
theorem rk_app {A : Rl} {w : Wt} {y : Nat} : ∀ (l l' : List Nat) (r : Nat → Nat), rk A w y (l ++ l') r = rk A w y l' (rk A w y l r)
  | [], _, _ => rfl
  | _ :: l, l', _ => rk_app l l' _
theorem bk_app {A : Rl} {w : Wt} {y : Nat} : ∀ (l l' : List Nat) (b : Nat → Nat), bk A w y (l ++ l') b = bk A w y l (bk A w y l' b)
  | [], _, _ => rfl
  | i :: l, l', b => by
    show plB A w y i (bk A w y (l ++ l') b) = plB A w y i (bk A w y l (bk A w y l' b))
    rw [bk_app l l' b]
theorem meet_eq1 {f n y i : Nat} (h0 : 0 < n) {m : Nat → Bool} {A N : Rl} (H : Mem f m A N) {l1 l2 : List Nat} (ht : Topo A (l1 ++ i :: l2)) (hod : ∀ k, k ∈ (l1 ++ i :: l2) ↔ m k = true) (hn1 : i ∉ l1) (hn2 : i ∉ l2) (w : Wt) (hy : y < n) : ls (fun S => ind (cdB A i S) * (rk A w y l1 (RR (l1 ++ i :: l2) A N w y) S * w i y * bk A w y l2 (clF N (BB (l1 ++ i :: l2) A N n (msk m 7) w (n - (y + 1)))) (fl S i))) (List.range 128) = CC n f m A N (at1 w i y) := by
  have hM : msk m 7 < 128 := msk_lt m 7
  have em := msk_all H.1 H.2.1
  have hA : ∀ j k, A j k → j ≠ k := fun j k h => (H.2.2.1 j k h).2.2
  have hlt : ∀ k, k ∈ (l1 ++ i :: l2) → k < 7 := fun k hk => by have := H.2.1 k ((hod k).mp hk); have := H.1; omega
  have mi : m i = true := (hod i).mp (by simp)
  rw [← RR_CC h0 H ht hod]
  generalize hod' : l1 ++ i :: l2 = od at *
  have hr : ∀ z, z ≠ y → at1 w i y i z = 0 := fun z hz => by unfold at1; rw [ur_eq]; simp [hz]
  have hry : at1 w i y i y = w i y := by unfold at1; rw [ur_eq]; simp
  have D := dot_RB (N := N) (w := at1 w i y) (od := od) (n := n) (M := msk m 7) hA hlt hM (n - y) (Nat.sub_le n y)
  rw [show n - (n - y) = y by omega, show n - y = (n - (y + 1)) + 1 by omega] at D
  rw [← D]
  show _ = dot _ (bk A (at1 w i y) (n - (n - (y + 1) + 1)) od (clF N (BB od A N n (msk m 7) (at1 w i y) (n - (y + 1)))))
  rw [show n - (n - (y + 1) + 1) = y by omega]
  have B1 : ∀ S, bk A (at1 w i y) y od (clF N (BB od A N n (msk m 7) (at1 w i y) (n - (y + 1)))) S = bk A (at1 w i y) y l1 (plB A (at1 w i y) y i (bk A (at1 w i y) y l2 (clF N (BB od A N n (msk m 7) (at1 w i y) (n - (y + 1)))))) S := fun S => by rw [← hod', bk_app]; rfl
  rw [show bk A (at1 w i y) y od (clF N (BB od A N n (msk m 7) (at1 w i y) (n - (y + 1)))) = _ from funext B1, ← dot_rk hA l1 _ _ (fun j hj => hlt j (by rw [← hod']; simp [hj]))]
  unfold dot
  refine ls_congr (fun S _ => ?_)
  have Lr := LI_rk (n := n) hy (A := A) l1 (LI_RR (n := n) (od := od) (A := A) (N := N) (show y ≤ n by omega)) S i
  have Lb := LB_bk (A := A) (y := y) l2 (LB_cl (N := N) (LB_BB (A := A) (N := N) (od := od) (n := n) (M := msk m 7) (n - (y + 1)))) (fl S i) i
  by_cases hb : S.testBit i = true
  · rw [ind_f (fun c : cdB A i S => by rw [c.1] at hb; exact absurd hb (by decide)), Nat.zero_mul]
    rw [rk_zero l1 _ (fun h => absurd h hn1) (RR_zero y (fun z hz => hr z (by omega))) S hb, Nat.zero_mul]
  · have hb' : S.testBit i = false := by simpa using hb
    have e1 : rk A (at1 w i y) y l1 (RR od A N (at1 w i y) y) S = rk A w y l1 (RR od A N w y) S := Lr.2 hb' w _
    have e2 : bk A (at1 w i y) y l2 (clF N (BB od A N n (msk m 7) (at1 w i y) (n - (y + 1)))) (fl S i) = bk A w y l2 (clF N (BB od A N n (msk m 7) w (n - (y + 1)))) (fl S i) := Lb (by rw [fl_eq, hb']; rfl) w _
    have e3 : bk A (at1 w i y) y l2 (clF N (BB od A N n (msk m 7) (at1 w i y) (n - (y + 1)))) S = 0 := by
      refine bk_zero l2 _ (fun h => absurd h hn2) (fun S hS => ?_) S hb'
      unfold clF
      rw [BB_zero (by rw [em]; exact mi) _ (by omega) (fun z h1 h2 => hr z (by omega)) S hS, Nat.mul_zero]
    unfold plB
    rw [e1, e2, e3, hry, Nat.zero_add]
    rw [Nat.mul_left_comm (rk A w y l1 (RR od A N w y) S), Nat.mul_assoc (rk A w y l1 (RR od A N w y) S), Nat.mul_comm (w i y)]
