/-! SUMS OVER GIVINGS: lists, rows, linear functions of rows -/
def ls (F : Nat → Nat) : List Nat → Nat
  | [] => 0
  | x :: l => F x + ls F l
theorem ls_congr {F G : Nat → Nat} : ∀ {l : List Nat}, (∀ x, x ∈ l → F x = G x) → ls F l = ls G l
  | [], _ => rfl
  | x :: l, h => by
    unfold ls
    rw [h x (by simp), ls_congr (fun y hy => h y (by simp [hy]))]
theorem ls_zero {F : Nat → Nat} : ∀ {l : List Nat}, (∀ x, x ∈ l → F x = 0) → ls F l = 0
  | [], _ => rfl
  | x :: l, h => by
    unfold ls
    rw [h x (by simp), ls_zero (fun y hy => h y (by simp [hy]))]
theorem ls_add (F G : Nat → Nat) : ∀ l, ls (fun x => F x + G x) l = ls F l + ls G l
  | [] => rfl
  | x :: l => by
    unfold ls
    rw [ls_add F G l]
    omega
theorem ls_mul (c : Nat) (F : Nat → Nat) : ∀ l, ls (fun x => c * F x) l = c * ls F l
  | [] => rfl
  | x :: l => by
    unfold ls
    rw [ls_mul c F l, Nat.mul_add]
theorem ls_mulr (c : Nat) (F : Nat → Nat) (l : List Nat) : ls (fun x => F x * c) l = ls F l * c := by
  rw [Nat.mul_comm, ← ls_mul]
  exact ls_congr (fun x _ => Nat.mul_comm _ _)
theorem ls_filter (p : Nat → Bool) (F : Nat → Nat) : ∀ l, ls (fun x => if p x = true then F x else 0) l = ls F (l.filter p)
  | [] => rfl
  | x :: l => by
    by_cases h : p x = true
    · rw [List.filter_cons_of_pos h]; unfold ls; rw [if_pos h, ls_filter p F l]
    · rw [List.filter_cons_of_neg h]
      show (if p x = true then F x else 0) + ls _ l = _
      rw [if_neg h, ls_filter p F l, Nat.zero_add]
theorem ls_map (h : Nat → Nat) (F : Nat → Nat) : ∀ l, ls F (l.map h) = ls (fun x => F (h x)) l
  | [] => rfl
  | x :: l => by
    show F (h x) + ls F (l.map h) = F (h x) + _
    rw [ls_map h F l]
theorem ls_app (F : Nat → Nat) : ∀ l l', ls F (l ++ l') = ls F l + ls F l'
  | [], l' => by simp [ls]
  | x :: l, l' => by
    show F x + ls F (l ++ l') = F x + ls F l + ls F l'
    rw [ls_app F l l']; omega
theorem sm_mul (c : Nat) (F : Nat → Nat) : ∀ n, sm (fun x => c * F x) n = c * sm F n
  | 0 => rfl
  | n + 1 => by
    unfold sm
    rw [sm_mul c F n, Nat.mul_add]
theorem sm_mulr (c : Nat) (F : Nat → Nat) (n : Nat) : sm (fun x => F x * c) n = sm F n * c := by
  rw [Nat.mul_comm, ← sm_mul]
  exact sm_congr (fun x _ => Nat.mul_comm _ _)
theorem sm_ls (F : Nat → Nat → Nat) (l : List Nat) : ∀ n, sm (fun y => ls (fun x => F x y) l) n = ls (fun x => sm (F x) n) l
  | 0 => by rw [ls_zero]; rfl; intro x _; rfl
  | n + 1 => by
    show sm (fun y => ls (fun x => F x y) l) n + ls (fun x => F x n) l = _
    rw [sm_ls F l n, ← ls_add]
    rfl
theorem sm_one {F : Nat → Nat} {n j : Nat} (hj : j < n) (h : ∀ i, i < n → i ≠ j → F i = 0) : sm F n = F j := by
  induction n with
  | zero => omega
  | succ n ih =>
    unfold sm
    by_cases e : j = n
    · subst e
      rw [sm_zero (fun i hi => h i (by omega) (by omega)), Nat.zero_add]
    · rw [ih (by omega) (fun i hi => h i (by omega)), h n (by omega) (by omega), Nat.add_zero]
theorem sm_lele {F G : Nat → Nat} : ∀ {n : Nat}, (∀ i, i < n → F i ≤ G i) → sm F n ≤ sm G n
  | 0, _ => Nat.le_refl _
  | n + 1, h => by
    unfold sm
    exact Nat.add_le_add (sm_lele (fun i hi => h i (by omega))) (h n (by omega))
abbrev Wt : Type := Nat → Nat → Nat
def dl (y : Nat) : Nat → Nat := fun z => if z = y then 1 else 0
def ur (w : Wt) (i : Nat) (r : Nat → Nat) : Wt := fun j => if j = i then r else w j
theorem ur_eq {w : Wt} {i : Nat} {r : Nat → Nat} : ur w i r i = r := by simp [ur]
theorem ur_ne {w : Wt} {i j : Nat} {r : Nat → Nat} (h : j ≠ i) : ur w i r j = w j := by simp [ur, h]
def Lin (n i : Nat) (C : Wt → Nat) : Prop := ∀ w, C w = sm (fun y => w i y * C (ur w i (dl y))) n
def Ind (i : Nat) (C : Wt → Nat) : Prop := ∀ w r, C (ur w i r) = C w
theorem lin_zero {n i : Nat} : Lin n i (fun _ => 0) := fun w => by
  rw [sm_zero]
  intro y _; rfl
theorem ind_c {i : Nat} (c : Nat) : Ind i (fun _ => c) := fun _ _ => rfl
theorem lin_add {n i : Nat} {A B : Wt → Nat} (a : Lin n i A) (b : Lin n i B) : Lin n i (fun w => A w + B w) := fun w => by
  show A w + B w = sm (fun y => w i y * (A (ur w i (dl y)) + B (ur w i (dl y)))) n
  rw [a w, b w, ← sm_add]
  exact sm_congr (fun y _ => (Nat.mul_add _ _ _).symm)
theorem ind_add {i : Nat} {A B : Wt → Nat} (a : Ind i A) (b : Ind i B) : Ind i (fun w => A w + B w) := fun w r => by
  show A _ + B _ = _
  rw [a w r, b w r]
theorem lin_mul {n i : Nat} {A B : Wt → Nat} (a : Lin n i A) (b : Ind i B) : Lin n i (fun w => A w * B w) := fun w => by
  show A w * B w = sm (fun y => w i y * (A (ur w i (dl y)) * B (ur w i (dl y)))) n
  rw [a w, ← sm_mulr]
  refine sm_congr (fun y _ => ?_)
  rw [b w, Nat.mul_assoc]
theorem lin_mul' {n i : Nat} {A B : Wt → Nat} (a : Ind i A) (b : Lin n i B) : Lin n i (fun w => A w * B w) := fun w => by
  have := lin_mul b a w
  simp only [Nat.mul_comm (A _)]
  exact this
theorem ind_mul {i : Nat} {A B : Wt → Nat} (a : Ind i A) (b : Ind i B) : Ind i (fun w => A w * B w) := fun w r => by
  show A _ * B _ = _
  rw [a w r, b w r]
theorem lin_ls {n i : Nat} {F : Nat → Wt → Nat} : ∀ {l : List Nat}, (∀ x, x ∈ l → Lin n i (F x)) → Lin n i (fun w => ls (fun x => F x w) l)
  | [], _ => lin_zero
  | x :: l, h => lin_add (h x (by simp)) (lin_ls (fun y hy => h y (by simp [hy])))
theorem ind_ls {i : Nat} {F : Nat → Wt → Nat} : ∀ {l : List Nat}, (∀ x, x ∈ l → Ind i (F x)) → Ind i (fun w => ls (fun x => F x w) l)
  | [], _ => ind_c 0
  | x :: l, h => ind_add (h x (by simp)) (ind_ls (fun y hy => h y (by simp [hy])))
theorem lin_w {n i y : Nat} (hy : y < n) : Lin n i (fun w => w i y) := fun w => by
  show w i y = sm (fun z => w i z * ur w i (dl z) i y) n
  rw [sm_one hy]
  · rw [ur_eq]; simp [dl]
  · intro z _ hz
    rw [ur_eq]; simp [dl, Ne.symm hz]
theorem ind_w {i j y : Nat} (h : j ≠ i) : Ind i (fun w => w j y) := fun w r => by
  show ur w i r j y = _
  rw [ur_ne h]
theorem ind_pr {i : Nat} {F : Nat → Wt → Nat} : ∀ {k : Nat}, (∀ j, j < k → Ind i (F j)) → Ind i (fun w => pr (fun j => F j w) k)
  | 0, _ => ind_c 1
  | k + 1, h => ind_mul (ind_pr (fun j hj => h j (by omega))) (h k (by omega))
theorem lin_pr {n i : Nat} {F : Nat → Wt → Nat} : ∀ {k : Nat}, i < k → Lin n i (F i) → (∀ j, j < k → j ≠ i → Ind i (F j)) → Lin n i (fun w => pr (fun j => F j w) k)
  | 0, h, _, _ => by omega
  | k + 1, h, hl, hi => by
    by_cases e : i = k
    · subst e
      exact lin_mul' (ind_pr (fun j hj => hi j (by omega) (by omega))) hl
    · exact lin_mul (lin_pr (k := k) (by omega) hl (fun j hj => hi j (by omega))) (hi k (by omega) (Ne.symm e))
/-! the sum over givings -/
def un (g : Nat → Nat) (k y : Nat) : Nat → Nat := fun j => if j = k then y else g j
def gs (n : Nat) : Nat → ((Nat → Nat) → Nat) → Nat
  | 0, F => F (fun _ => 0)
  | k + 1, F => sm (fun y => gs n k (fun g => F (un g k y))) n
theorem gs_congr {n : Nat} : ∀ {k : Nat} {F G : (Nat → Nat) → Nat}, (∀ g, (∀ i, i < k → g i < n) → F g = G g) → gs n k F = gs n k G
  | 0, F, G, h => h _ (fun i hi => by omega)
  | k + 1, F, G, h => by
    unfold gs
    refine sm_congr (fun y hy => gs_congr (fun g hg => h _ (fun i hi => ?_)))
    unfold un
    by_cases e : i = k
    · rw [if_pos e]; exact hy
    · rw [if_neg e]; exact hg i (by omega)
theorem gs_le {n : Nat} : ∀ {k : Nat} {F G : (Nat → Nat) → Nat}, (∀ g, (∀ i, i < k → g i < n) → F g ≤ G g) → gs n k F ≤ gs n k G
  | 0, F, G, h => h _ (fun i hi => by omega)
  | k + 1, F, G, h => by
    unfold gs
    refine sm_lele (fun y hy => gs_le (fun g hg => h _ (fun i hi => ?_)))
    unfold un
    by_cases e : i = k
    · rw [if_pos e]; exact hy
    · rw [if_neg e]; exact hg i (by omega)
theorem gs_mul {n : Nat} (c : Nat) : ∀ (k : Nat) (F : (Nat → Nat) → Nat), gs n k (fun g => c * F g) = c * gs n k F
  | 0, F => rfl
  | k + 1, F => by
    unfold gs
    rw [← sm_mul]
    exact sm_congr (fun y _ => gs_mul c k _)
theorem gs_add {n : Nat} : ∀ (k : Nat) (F G : (Nat → Nat) → Nat), gs n k (fun g => F g + G g) = gs n k F + gs n k G
  | 0, F, G => rfl
  | k + 1, F, G => by
    unfold gs
    rw [← sm_add]
    exact sm_congr (fun y _ => gs_add k _ _)
theorem gs_zero {n k : Nat} {F : (Nat → Nat) → Nat} (h : ∀ g, (∀ i, i < k → g i < n) → F g = 0) : gs n k F = 0 := by
  rw [gs_congr (G := fun g => 0 * 0) h, gs_mul, Nat.zero_mul]
theorem gs_sm {n k : Nat} (F : Nat → (Nat → Nat) → Nat) : ∀ m, sm (fun y => gs n k (F y)) m = gs n k (fun g => sm (fun y => F y g) m)
  | 0 => (gs_zero (fun g _ => rfl)).symm
  | m + 1 => by
    show sm (fun y => gs n k (F y)) m + gs n k (F m) = _
    rw [gs_sm F m, ← gs_add]
    rfl
def dw (g : Nat → Nat) (k : Nat) (w : Wt) : Wt := fun j => if j < k then dl (g j) else w j
def coef (m : Nat → Bool) (w : Wt) (i y : Nat) : Nat := if m i = true then w i y else if y = 0 then 1 else 0
theorem pr_congr {f g : Nat → Nat} : ∀ {n : Nat}, (∀ i, i < n → f i = g i) → pr f n = pr g n
  | 0, _ => rfl
  | n + 1, h => by
    unfold pr
    rw [pr_congr (fun i hi => h i (by omega)), h n (by omega)]
theorem expand {n : Nat} (h0 : 0 < n) {m : Nat → Bool} {C : Wt → Nat} : ∀ {k : Nat}, (∀ i, i < k → m i = true → Lin n i C) → (∀ i, i < k → m i = false → Ind i C) → ∀ w, C w = gs n k (fun g => pr (fun i => coef m w i (g i)) k * C (dw g k w))
  | 0, _, _, w => by
    show C w = 1 * C (dw _ 0 w)
    rw [Nat.one_mul]
    congr 1
  | k + 1, hl, hi, w => by
    have e : C w = sm (fun y => coef m w k y * C (ur w k (dl y))) n := by
      by_cases hm : m k = true
      · have := hl k (by omega) hm w
        rw [this]
        exact sm_congr (fun y _ => by unfold coef; rw [if_pos hm])
      · rw [sm_one h0]
        · unfold coef
          rw [if_neg hm, if_pos rfl, Nat.one_mul, hi k (by omega) (by simpa using hm)]
        · intro y _ hy
          unfold coef
          rw [if_neg hm, if_neg hy, Nat.zero_mul]
    rw [e]
    show _ = sm (fun y => gs n k (fun g => pr (fun i => coef m w i (un g k y i)) (k + 1) * C (dw (un g k y) (k + 1) w))) n
    refine sm_congr (fun y _ => ?_)
    rw [expand (k := k) h0 (fun i h => hl i (by omega)) (fun i h => hi i (by omega)) (ur w k (dl y)), ← gs_mul]
    refine gs_congr (fun g _ => ?_)
    have e1 : pr (fun i => coef m w i (un g k y i)) (k + 1) = coef m w k y * pr (fun i => coef m (ur w k (dl y)) i (g i)) k := by
      show pr (fun i => coef m w i (un g k y i)) k * coef m w k (un g k y k) = _
      rw [Nat.mul_comm]
      congr 1
      · simp [un]
      · refine pr_congr (fun i hi => ?_)
        unfold coef un
        rw [ur_ne (by omega), if_neg (show ¬ i = k by omega)]
    have e2 : dw (un g k y) (k + 1) w = dw g k (ur w k (dl y)) := by
      funext j
      unfold dw un
      by_cases q : j < k
      · rw [if_pos q, if_pos (by omega), if_neg (by omega)]
      · rw [if_neg q]
        by_cases q2 : j = k
        · subst q2
          rw [if_pos (by omega), if_pos rfl, ur_eq]
        · rw [if_neg (by omega), ur_ne q2]
    rw [e1, e2, Nat.mul_assoc]
