/-! backwards -/
theorem CC_nil {n f : Nat} {m : Nat → Bool} {A N : Rl} {w : Wt} {j : Nat} (hj : m j = true) (hf : j < f) (hz : ∀ y, y < n → w j y = 0) : CC n f m A N w = 0 := by
  unfold CC
  refine gs_zero (fun g hg => ?_)
  rw [pr_zero hf, Nat.zero_mul]
  unfold coef
  rw [if_pos hj]
  exact hz _ (hg j hf)
theorem CC_ring {G : Wg} (ho : Okw G) (h : Ring G) (w : Wt) : CC (wn G) (wf G) (wm G) (wA G) (wN G) w = 0 := by
  obtain ⟨l, ⟨k0, m0, n0⟩, h⟩ := h
  unfold CC
  refine gs_zero (fun g _ => ?_)
  rw [ind_f, Nat.mul_zero]
  intro ok
  have : ∀ b k, g k ≤ b → wm G k = true → k ∉ l → False := by
    intro b
    induction b with
    | zero =>
      intro k hk hm hn
      obtain ⟨j, hj, _⟩ := h k hm hn
      have := (ok j k).1 hj
      omega
    | succ b ih =>
      intro k hk hm hn
      obtain ⟨j, hj, jn⟩ := h k hm hn
      have := (ok j k).1 hj
      exact ih j (by omega) (ho.2.2.2.2.2.2 j k (by unfold wA at hj; omega)).1 jn
  exact this _ k0 (Nat.le_refl _) m0 n0
theorem ls_erase {F : Nat → Nat} {x : Nat} : ∀ {l : List Nat}, x ∈ l → ls F l = F x + ls F (l.erase x)
  | [], h => by simp at h
  | a :: l, h => by
    by_cases e : a = x
    · subst e; rw [List.erase_cons_head]; rfl
    · rw [List.erase_cons_tail (by simpa using e)]
      show F a + ls F l = F x + (F a + ls F (l.erase x))
      rw [ls_erase (l := l) (by
        rcases List.mem_cons.mp h with q | q
        · exact absurd q.symm e
        · exact q)]
      omega
theorem ls_img {F h : Nat → Nat} : ∀ {l l' : List Nat}, l'.Nodup → l.Nodup → (∀ c, c ∈ l → h c ∈ l') → (∀ c d, c ∈ l → d ∈ l → h c = h d → c = d) → (∀ x, x ∈ l' → (∀ c, c ∈ l → h c ≠ x) → F x = 0) → ls F l' = ls (fun c => F (h c)) l
  | [], l', _, _, _, _, hz => ls_zero (fun x hx => hz x hx (fun c hc => by simp at hc))
  | a :: t, l', n', n, hm, hi, hz => by
    rw [ls_erase (hm a (by simp))]
    show _ = F (h a) + ls (fun c => F (h c)) t
    rw [List.nodup_cons] at n
    rw [ls_img (l := t) (l' := l'.erase (h a)) (n'.erase _) n.2 (fun c hc => ?_) (fun c d hc hd => hi c d (by simp [hc]) (by simp [hd])) (fun x hx hne => ?_)]
    · rw [List.Nodup.mem_erase_iff n']
      refine ⟨fun e => ?_, hm c (by simp [hc])⟩
      have := hi c a (by simp [hc]) (by simp) e
      exact n.1 (this ▸ hc)
    · rw [List.Nodup.mem_erase_iff n'] at hx
      refine hz x hx.2 (fun c hc e => ?_)
      rcases List.mem_cons.mp hc with q | q
      · subst q; exact hx.1 e.symm
      · exact hne c q e
theorem mul128 (y S : Nat) : nI y * (128 : Int32) + nI S = nI (128 * y + S) := by
  rw [show (128 : Int32) = nI 128 from rfl, pk_mul, nI_add, Nat.mul_comm]
theorem take_loop {i L O : Nat} {W : Int64} (hi : i < 7) (hL : L < 128) (hO : O < 128) (iL : L.testBit i = false) (iO : O.testBit i = false) (hd : ∀ j, O.testBit j = true → L.testBit j = false) : ∀ (t : List Nat) (fu a k : Nat) (σ : St), chkA O (a :: t) = true → (∀ c, c ∈ a :: t → c < 128 ∧ c &&& O = c) → (a :: t).Nodup → k + (a :: t).length ≤ 128 → (a :: t).length < fu → ∃ σ', f_X0_takeUp_42 fu (nI i) (nI L) (nI O) W (nI a) (nI k) σ = some σ' ∧ σ'.1 = σ.1 ∧ (∀ c, c ≠ 78 → σ'.2 c = σ.2 c) ∧ ∀ T, ((∃ c, c ∈ a :: t ∧ T = L ||| c) → σ'.2 78 T = σ.2 78 T + σ.2 78 (fl T i) * W) ∧ (¬ (∃ c, c ∈ a :: t ∧ T = L ||| c) → σ'.2 78 T = σ.2 78 T) := by
  intro t
  induction t with
  | nil =>
    intro fu a k σ hc ha hn hk hf
    obtain ⟨fu, rfl⟩ : ∃ n, fu = n + 1 := ⟨fu - 1, by simp at hf; omega⟩
    obtain ⟨a1, a2⟩ := ha a (by simp)
    have hS : L ||| a < 128 := Nat.or_lt_two_pow (n := 7) hL a1
    have iS : (L ||| a).testBit i = false := by
      rw [Nat.testBit_or, iL]
      have : ¬ a.testBit i = true := fun q => by have := and_sub a2 q; rw [iO] at this; exact absurd this (by decide)
      simpa using this
    have hT : fl (L ||| a) i < 128 := fl_lt hS hi
    simp at hk
    rw [f_X0_takeUp_42, if_neg (show ¬ (128 : Int32) ≤ nI k from nI_ge (b := 128) (by omega) (by decide)), bOr L hL a a1, bO _ hS i hi, or_fl iS, cI_t (ix_nI hS (by decide)), cI_t (ix_nI hT (by decide)), cI_t (ix_nI hS (by decide)), nI_clamp (show L ||| a < 2 ^ 31 by omega), nI_clamp (show fl (L ||| a) i < 2 ^ 31 by omega), ap]
    unfold f_X0_nextSubset
    simp only [chkA, decide_eq_true_eq] at hc
    rw [bS, hc, if_pos rfl]
    refine ⟨_, rfl, rfl, fun c hc => up2_r hc, fun T => ⟨?_, ?_⟩⟩
    · rintro ⟨c, hc1, rfl⟩
      have : c = a := by simpa using hc1
      subst this
      rw [up2_eq]
    · intro h
      rw [up2_ne]
      rintro ⟨-, e⟩
      exact h ⟨a, by simp, e⟩
  | cons b t ih =>
    intro fu a k σ hc ha hn hk hf
    obtain ⟨fu, rfl⟩ : ∃ n, fu = n + 1 := ⟨fu - 1, by simp at hf; omega⟩
    obtain ⟨a1, a2⟩ := ha a (by simp)
    have hS : L ||| a < 128 := Nat.or_lt_two_pow (n := 7) hL a1
    have iS : ∀ c, c ∈ a :: b :: t → (L ||| c).testBit i = false := fun c hc => by
      rw [Nat.testBit_or, iL]
      have : ¬ c.testBit i = true := fun q => by have := and_sub (ha c hc).2 q; rw [iO] at this; exact absurd this (by decide)
      simpa using this
    have iSa := iS a (by simp)
    have hT : fl (L ||| a) i < 128 := fl_lt hS hi
    simp at hk hf
    rw [f_X0_takeUp_42, if_neg (show ¬ (128 : Int32) ≤ nI k from nI_ge (b := 128) (by omega) (by decide)), bOr L hL a a1, bO _ hS i hi, or_fl iSa, cI_t (ix_nI hS (by decide)), cI_t (ix_nI hT (by decide)), cI_t (ix_nI hS (by decide)), nI_clamp (show L ||| a < 2 ^ 31 by omega), nI_clamp (show fl (L ||| a) i < 2 ^ 31 by omega), ap]
    unfold f_X0_nextSubset
    simp only [chkA, Bool.and_eq_true, decide_eq_true_eq] at hc
    obtain ⟨⟨c1, c2⟩, c3⟩ := hc
    have b1 := (ha b (by simp)).1
    rw [bS, c1, if_neg (nI_ne0 c2 (by omega)), nI_1]
    rw [List.nodup_cons] at hn
    obtain ⟨σ', r1, r2, r3, r4⟩ := ih fu b (k + 1) (up2 σ 78 (L ||| a) (σ.2 78 (L ||| a) + σ.2 78 (fl (L ||| a) i) * W)) c3 (fun c hc => ha c (by simp at hc ⊢; exact Or.inr hc)) hn.2 (by simp; omega) (by simp; omega)
    refine ⟨σ', r1, r2, fun c hc => by rw [r3 c hc, up2_r hc], fun T => ⟨?_, ?_⟩⟩
    · rintro ⟨c, hc1, rfl⟩
      by_cases e : c = a
      · subst e
        rw [(r4 (L ||| c)).2, up2_eq]
        rintro ⟨d, hd1, hd2⟩
        have := or_inj hd a2 (ha d (by simp at hd1 ⊢; exact Or.inr hd1)).2 hd2
        subst this
        exact hn.1 hd1
      · have hc3 : c ∈ b :: t := by simpa [e] using hc1
        have ne1 : L ||| c ≠ L ||| a := fun q => e (or_inj hd (ha c hc1).2 a2 q)
        have ne2 : fl (L ||| c) i ≠ L ||| a := fun q => by
          have : (fl (L ||| c) i).testBit i = true := by rw [fl_eq, iS c hc1]; rfl
          rw [q, iSa] at this
          exact absurd this (by decide)
        rw [(r4 _).1 ⟨c, hc3, rfl⟩, up2_ne (fun q => ne1 q.2), up2_ne (fun q => ne2 q.2)]
    · intro h
      rw [(r4 T).2 (fun ⟨c, hc1, hc2⟩ => h ⟨c, by simp at hc1 ⊢; exact Or.inr hc1, hc2⟩), up2_ne]
      rintro ⟨-, e⟩
      exact h ⟨a, by simp, e⟩
theorem meet_loop {i L O y : Nat} {W : Int64} {σ : St} {V : Nat → Nat} (hi : i < 7) (hL : L < 128) (hO : O < 128) (hy : y < 40) (iL : L.testBit i = false) (iO : O.testBit i = false) : ∀ (t : List Nat) (fu a k s : Nat), chkA O (a :: t) = true → (∀ c, c ∈ a :: t → c < 128 ∧ c &&& O = c) → k + (a :: t).length ≤ 128 → (a :: t).length < fu → (∀ c, c ∈ a :: t → σ.2 79 (128 * y + (L ||| c)) * W * σ.2 78 (fl (L ||| c) i) = lN (V c)) → f_X0_meet_45 fu (nI i) (nI y) (nI L) (nI O) W (lN s) (nI a) (nI k) σ = some (lN (s + ls V (a :: t)), σ) := by
  intro t
  induction t with
  | nil =>
    intro fu a k s hc ha hk hf hV
    obtain ⟨fu, rfl⟩ : ∃ n, fu = n + 1 := ⟨fu - 1, by simp at hf; omega⟩
    obtain ⟨a1, a2⟩ := ha a (by simp)
    have hS : L ||| a < 128 := Nat.or_lt_two_pow (n := 7) hL a1
    have iS : (L ||| a).testBit i = false := by
      rw [Nat.testBit_or, iL]
      have : ¬ a.testBit i = true := fun q => by have := and_sub a2 q; rw [iO] at this; exact absurd this (by decide)
      simpa using this
    have hT : fl (L ||| a) i < 128 := fl_lt hS hi
    simp at hk
    rw [f_X0_meet_45, if_neg (show ¬ (128 : Int32) ≤ nI k from nI_ge (b := 128) (by omega) (by decide)), bOr L hL a a1, bO _ hS i hi, or_fl iS, mul128, cI_t (ix_nI (show 128 * y + (L ||| a) < 5120 by omega) (by decide)), cI_t (ix_nI hT (by decide)), nI_clamp (show 128 * y + (L ||| a) < 2 ^ 31 by omega), nI_clamp (show fl (L ||| a) i < 2 ^ 31 by omega), hV a (by simp), lN_add, ap]
    unfold f_X0_nextSubset
    simp only [chkA, decide_eq_true_eq] at hc
    rw [bS, hc, if_pos rfl]
    simp [ls]
  | cons b t ih =>
    intro fu a k s hc ha hk hf hV
    obtain ⟨fu, rfl⟩ : ∃ n, fu = n + 1 := ⟨fu - 1, by simp at hf; omega⟩
    obtain ⟨a1, a2⟩ := ha a (by simp)
    have hS : L ||| a < 128 := Nat.or_lt_two_pow (n := 7) hL a1
    have iS : (L ||| a).testBit i = false := by
      rw [Nat.testBit_or, iL]
      have : ¬ a.testBit i = true := fun q => by have := and_sub a2 q; rw [iO] at this; exact absurd this (by decide)
      simpa using this
    have hT : fl (L ||| a) i < 128 := fl_lt hS hi
    simp at hk hf
    rw [f_X0_meet_45, if_neg (show ¬ (128 : Int32) ≤ nI k from nI_ge (b := 128) (by omega) (by decide)), bOr L hL a a1, bO _ hS i hi, or_fl iS, mul128, cI_t (ix_nI (show 128 * y + (L ||| a) < 5120 by omega) (by decide)), cI_t (ix_nI hT (by decide)), nI_clamp (show 128 * y + (L ||| a) < 2 ^ 31 by omega), nI_clamp (show fl (L ||| a) i < 2 ^ 31 by omega), hV a (by simp), lN_add, ap]
    unfold f_X0_nextSubset
    simp only [chkA, Bool.and_eq_true, decide_eq_true_eq] at hc
    obtain ⟨⟨c1, c2⟩, c3⟩ := hc
    have b1 := (ha b (by simp)).1
    rw [bS, c1, if_neg (nI_ne0 c2 (by omega)), nI_1, ih fu b (k + 1) (s + V a) c3 (fun c hc => ha c (by simp at hc ⊢; exact Or.inr hc)) (by simp; omega) (by simp; omega) (fun c hc => hV c (by simp at hc ⊢; exact Or.inr hc))]
    show some (lN (s + V a + ls V (b :: t)), σ) = some (lN (s + (V a + ls V (b :: t))), σ)
    rw [Nat.add_assoc]
noncomputable abbrev bF (G : Wg) (rl : List Nat) (y r : Nat) : Nat → Nat := bk (wA G) (we G) y ((rl.take r).reverse) (clF (wN G) (BB rl.reverse (wA G) (wN G) (wn G) (wM G) (we G) (wn G - (y + 1))))
theorem bF_step {G : Wg} {rl : List Nat} {y r : Nat} (h : r < rl.length) : bF G rl y (r + 1) = plB (wA G) (we G) y (rl.getD r 0) (bF G rl y r) := by
  unfold bF
  rw [take_succ' h, List.reverse_append]
  rfl
theorem bF_zero {G : Wg} (ho : Okw G) {rl : List Nat} {fa fb : Nat → Nat} {ol : List Nat} (h2 : PrP G rl fa fb ol) {y r k S : Nat} (hy : y < wn G) (hk : (bgn rl fb y).testBit k = true) (hb : S.testBit k = false) : bF G rl y r S = 0 := by
  obtain ⟨k7, kr, kb⟩ := (bgn_bit rl fb y k).mp hk
  have mk := h2.1.2 k kr
  have kf := ho.2.2.1 k mk
  have hw : ∀ z, y ≤ z → z < wn G → we G k z = 0 := fun z hz hz2 => Classical.byContradiction (fun q => by have := (h2.2.2.1 k kf).2.2.1 z hz2 q; omega)
  refine bk_zero _ _ (fun _ => hw y (Nat.le_refl _) hy) (fun S hS => ?_) S hb
  unfold clF
  rw [BB_zero (by rw [M_bit ho]; exact mk) _ (by omega) (fun z h1 h2 => hw z (by omega) h2) S hS, Nat.mul_zero]
theorem RR_zero' {A N : Rl} {w : Wt} {od : List Nat} {i : Nat} (hi : i ∉ od) : ∀ y, ∀ S, S.testBit i = true → RR od A N w y S = 0
  | 0, S, hS => ind_f (fun e => by subst e; simp at hS)
  | y + 1, S, hS => by
    show _ * rk A w y od (RR od A N w y) S = 0
    rw [rk_zero od _ (fun h => absurd h hi) (RR_zero' hi y) S hS, Nat.mul_zero]
theorem rF_zero' {G : Wg} (ho : Okw G) {rl : List Nat} {fa fb : Nat → Nat} {ol : List Nat} (h2 : PrP G rl fa fb ol) {y p k S : Nat} (hy : y < wn G) (hk : ¬ (bgn rl fa y).testBit k = true) (hb : S.testBit k = true) : rF G rl y p S = 0 := by
  by_cases m : wm G k = true
  · have kf := ho.2.2.1 k m
    have := ho.2.1
    refine rF_zero h2 hy kf hb (Classical.byContradiction (fun q => hk ((bgn_bit rl fa y k).mpr ⟨by omega, h2.2.1 k m, by omega⟩)))
  · have kr : k ∉ rl.reverse := fun q => m (h2.1.2 k (List.mem_reverse.mp q))
    exact rk_zero _ _ (fun h => absurd (List.mem_of_mem_take h) kr) (RR_zero' kr y) S hb
def BwI (σ : St) (rl : List Nat) (fa : Nat → Nat) (y : Nat) (b : Nat → Nat) : Prop := ∀ S, sub S (bgn rl fa y) → σ.2 78 S = lN (b S)
theorem take_eq {σ : St} {G : Wg} {rl : List Nat} {fa fb : Nat → Nat} {ol : List Nat} {i y : Nat} (ho : Okw G) (h : PlC σ G rl fa fb ol i y) : ∃ σ', f_X0_takeUp (nI i) (nI y) σ = some σ' ∧ σ'.1 = σ.1 ∧ (∀ c, c ≠ 78 → σ'.2 c = σ.2 c) ∧ ∀ T, ((∃ c, c ∈ asc (OO G rl fa fb i y) ∧ T = LL G rl fb i y ||| c) → σ'.2 78 T = σ.2 78 T + σ.2 78 (fl T i) * lN (we G i y)) ∧ (¬ (∃ c, c ∈ asc (OO G rl fa fb i y) ∧ T = LL G rl fb i y ||| c) → σ'.2 78 T = σ.2 78 T) := by
  have iL := PlC_i ho h
  obtain ⟨h1, h2, h3, h4, h5⟩ := h
  have hf := ho.2.1
  have hn := ho.1.2
  have i7 : i < 7 := by omega
  have hL := LL_lt G rl fb i y
  have hO := OO_lt G rl fa fb i y
  have ob := fun j => OO_bit G rl fa fb i7 y j
  unfold f_X0_takeUp
  rw [least_eq ho h1 h3 h4, bS, cI_t (ix_nI (show y < 40 by omega) (by decide)), nI_clamp (show y < 2 ^ 31 by omega), (h1.2.2.1 y h4).1, bNot _ (bgn_lt _ _ _) _ hL, bC _ (Nat.lt_of_le_of_lt Nat.and_le_left (bgn_lt _ _ _)) i i7, ap, weightAt_eq h1.1 ho h3 h4, bS]
  obtain ⟨t, et⟩ := asc_cons hO
  have hl := asc_len (OO G rl fa fb i y)
  have hnd := asc_nodup (OO G rl fa fb i y)
  have hck := asc_chk _ hO
  have hmem := fun c => asc_mem (O := OO G rl fa fb i y) (s := c)
  rw [et] at hl hnd hck hmem ⊢
  exact take_loop i7 hL hO iL (by
    have : ¬ (OO G rl fa fb i y).testBit i = true := fun q => ((ob i).mp q).2.2 rfl
    simpa using this) (fun j hj => ((ob j).mp hj).2.1) t FU 0 0 σ hck (fun c hc => (hmem c).mp hc) hnd (by omega) (FU_big (by omega))
theorem LL_A {G : Wg} (ho : Okw G) {rl : List Nat} {fb : Nat → Nat} {i j y : Nat} (hj : wA G j i) : (LL G rl fb i y).testBit j = true := by
  have := (Okw_mem ho).2.2.1 j i hj
  have := ho.2.2.1 j this.1
  have := ho.2.1
  unfold LL
  rw [Nat.testBit_or, msk_bit, Bool.or_eq_true]
  right
  unfold wA at hj
  simp only [hj, decide_eq_true (show j < 7 by omega), Bool.true_and]
  rfl
theorem LL_E {G : Wg} {rl : List Nat} {fb : Nat → Nat} {i j y : Nat} (hj : (bgn rl fb y).testBit j = true) : (LL G rl fb i y).testBit j = true := by
  unfold LL
  rw [Nat.testBit_or, hj]
  rfl
theorem LL_cases {G : Wg} {rl : List Nat} {fb : Nat → Nat} {i j y : Nat} (h : (LL G rl fb i y).testBit j = true) : (bgn rl fb y).testBit j = true ∨ wA G j i := by
  unfold LL at h
  rw [Nat.testBit_or, Bool.or_eq_true] at h
  refine h.imp id (fun q => ?_)
  rw [msk_bit] at q
  simp at q
  exact q.2
theorem bgn_i {G : Wg} (ho : Okw G) {rl : List Nat} {fa fb : Nat → Nat} {ol : List Nat} (h2 : PrP G rl fa fb ol) {i y : Nat} (hi : i ∈ rl) (hy : y < wn G) (hw : we G i y ≠ 0) : (bgn rl fa y).testBit i = true := by
  have kf := ho.2.2.1 i (h2.1.2 i hi)
  have := ho.2.1
  exact (bgn_bit rl fa y i).mpr ⟨by omega, hi, ((h2.2.2.1 i kf).2.2.1 y hy hw).1⟩
theorem not_sub {S T : Nat} (h : ¬ sub S T) : ∃ k, S.testBit k = true ∧ T.testBit k = false := by
  apply Classical.byContradiction
  intro q
  apply h
  intro j hj
  apply Classical.byContradiction
  intro t
  exact q ⟨j, hj, by simpa using t⟩
theorem bw_step {σ : St} {G : Wg} {rl : List Nat} {fa fb : Nat → Nat} {ol : List Nat} (ho : Okw G) (h1 : PrC σ G rl fa fb ol) (h2 : PrP G rl fa fb ol) {y r : Nat} (hy : y < wn G) (hr : r < rl.length) (hI : BwI σ rl fa y (bF G rl y r)) (hw : we G (rl.getD r 0) y ≠ 0) : ∃ σ', f_X0_takeUp (nI (rl.getD r 0)) (nI y) σ = some σ' ∧ σ'.1 = σ.1 ∧ (∀ c, c ≠ 78 → σ'.2 c = σ.2 c) ∧ BwI σ' rl fa y (bF G rl y (r + 1)) := by
  have hmem : rl.getD r 0 ∈ rl := getD_mem hr
  have e := bF_step (G := G) (y := y) hr
  generalize rl.getD r 0 = i at hw hmem e ⊢
  have hm := h2.1.2 i hmem
  have hi := ho.2.2.1 i hm
  have hf := ho.2.1
  have hPl : PlC σ G rl fa fb ol i y := ⟨h1, h2, hi, hy, hw⟩
  have iL := PlC_i ho hPl
  obtain ⟨σ', r1, r2, r3, r4⟩ := take_eq ho hPl
  refine ⟨σ', r1, r2, r3, fun T hT => ?_⟩
  rw [e]
  unfold plB
  have T7 := sub_lt hT (bgn_lt rl fa y)
  by_cases hb : T.testBit i = true
  · rw [(r4 T).2, hI T hT, ind_f (fun q => by rw [q.1] at hb; exact absurd hb (by decide)), Nat.zero_mul, Nat.add_zero]
    rintro ⟨c, hc, eT⟩
    rw [eT, Nat.testBit_or, iL, Bool.false_or] at hb
    exact ((OO_bit G rl fa fb (show i < 7 by omega) y i).mp (and_sub (asc_mem.mp hc).2 hb)).2.2 rfl
  · have hb' : T.testBit i = false := by simpa using hb
    have en := enum_iff (G := G) (rl := rl) (fa := fa) (fb := fb) (y := y) (S := T) (show i < 7 by omega) iL T7 hb'
    have hT2 : sub (fl T i) (bgn rl fa y) := fun j hj => by
      by_cases ej : i = j
      · subst ej; exact bgn_i ho h2 hmem hy hw
      · rw [fl_ne ej] at hj; exact hT j hj
    by_cases c : cdB (wA G) i T
    · rw [ind_t c, Nat.one_mul]
      by_cases d : sub (bgn rl fb y) T
      · have hLS : sub (LL G rl fb i y) T := fun j hj => (LL_cases hj).elim (d j) (c.2 j)
        rw [(r4 T).1 (en.mpr ⟨hLS, fun j hj => Or.inr (hT j hj)⟩), hI T hT, hI _ hT2, lN_mul, lN_add]
      · obtain ⟨k, k1, k2⟩ := not_sub d
        have kne : i ≠ k := fun q => by
          subst q
          rw [LL_E k1] at iL
          exact absurd iL (by decide)
        rw [(r4 T).2 (fun q => d (fun j hj => (en.mp q).1 j (LL_E hj))), hI T hT, bF_zero ho h2 hy k1 (S := fl T i) (by rw [fl_ne kne]; exact k2), Nat.zero_mul, Nat.add_zero]
    · rw [ind_f c, Nat.zero_mul, Nat.add_zero, (r4 T).2 (fun q => c ⟨hb', fun j hj => (en.mp q).1 j (LL_A ho hj)⟩), hI T hT]
theorem rev_split {rl : List Nat} {r : Nat} (h : r < rl.length) : rl.reverse.take (rl.length - 1 - r) ++ rl.getD r 0 :: (rl.take r).reverse = rl.reverse := by
  have e1 : (rl.take r).reverse = rl.reverse.drop (rl.length - r) := List.reverse_take
  have e2 : rl.reverse.drop (rl.length - 1 - r) = rl.getD r 0 :: rl.reverse.drop (rl.length - r) := by
    have hl : rl.length - 1 - r < rl.reverse.length := by simp; omega
    rw [List.drop_eq_getElem_cons hl, show rl.length - 1 - r + 1 = rl.length - r by omega]
    congr 1
    rw [List.getElem_reverse, List.getD_eq_getElem?_getD, List.getElem?_eq_getElem h]
    simp only [Option.getD_some]
    congr 1
    omega
  rw [e1, ← e2, List.take_append_drop]
theorem meet_val {σ : St} {G : Wg} {rl : List Nat} {fa fb : Nat → Nat} {ol : List Nat} (ho : Okw G) (h1 : PrC σ G rl fa fb ol) (h2 : PrP G rl fa fb ol) {y r : Nat} (hy : y < wn G) (hr : r < rl.length) (hI : BwI σ rl fa y (bF G rl y r)) (hw : we G (rl.getD r 0) y ≠ 0) (hSe : ∀ S, sub S (wM G) → sub (bgn rl fb y) S → σ.2 79 (128 * y + S) = lN (rF G rl y (rl.length - 1 - r) S)) : f_X0_meet (nI (rl.getD r 0)) (nI y) σ = some (lN (CC (wn G) (wf G) (wm G) (wA G) (wN G) (at1 (we G) (rl.getD r 0) y)), σ) := by
  have hmem : rl.getD r 0 ∈ rl := getD_mem hr
  have hsp := rev_split hr
  generalize rl.getD r 0 = i at hw hmem hsp ⊢
  have hm := h2.1.2 i hmem
  have hi := ho.2.2.1 i hm
  have hf := ho.2.1
  have hn := ho.1
  have i7 : i < 7 := by omega
  have hPl : PlC σ G rl fa fb ol i y := ⟨h1, h2, hi, hy, hw⟩
  have iL := PlC_i ho hPl
  have hL := LL_lt G rl fb i y
  have hO := OO_lt G rl fa fb i y
  have ob := fun j => OO_bit G rl fa fb i7 y j
  have iO : (OO G rl fa fb i y).testBit i = false := by
    have : ¬ (OO G rl fa fb i y).testBit i = true := fun q => ((ob i).mp q).2.2 rfl
    simpa using this
  unfold f_X0_meet
  rw [least_eq ho h1 hi hy, bS, cI_t (ix_nI (show y < 40 by omega) (by decide)), nI_clamp (show y < 2 ^ 31 by omega), (h1.2.2.1 y hy).1, bNot _ (bgn_lt _ _ _) _ hL, bC _ (Nat.lt_of_le_of_lt Nat.and_le_left (bgn_lt _ _ _)) i i7, ap, weightAt_eq h1.1 ho hi hy, bS]
  have mq := meet_eq1 (n := wn G) (y := y) hn.1 (Okw_mem ho) (l1 := rl.reverse.take (rl.length - 1 - r)) (i := i) (l2 := (rl.take r).reverse) (by rw [hsp]; exact h2.1.1) (fun k => by rw [hsp]; exact rev_all h2 k) (fun q => by
    have nd := topo_nodup h2.1.1
    rw [← hsp] at nd
    exact (List.nodup_append.mp nd).2.2 i q i (by simp) rfl) (fun q => by
    have nd := topo_nodup h2.1.1
    rw [← hsp] at nd
    exact (List.nodup_cons.mp (List.nodup_append.mp nd).2.1).1 q) (we G) hy
  rw [hsp] at mq
  have zero : ∀ x, x ∈ List.range 128 → (∀ c, c ∈ asc (OO G rl fa fb i y) → LL G rl fb i y ||| c ≠ x) → (fun S => ind (cdB (wA G) i S) * (rF G rl y (rl.length - 1 - r) S * we G i y * bF G rl y r (fl S i))) x = 0 := fun x hx hne => by
    show ind (cdB (wA G) i x) * (rF G rl y (rl.length - 1 - r) x * we G i y * bF G rl y r (fl x i)) = 0
    rw [List.mem_range] at hx
    by_cases cb : cdB (wA G) i x
    · have en := enum_iff (G := G) (rl := rl) (fa := fa) (fb := fb) (y := y) (S := x) i7 iL hx cb.1
      by_cases d : sub (bgn rl fb y) x
      · have hLS : sub (LL G rl fb i y) x := fun j hj => (LL_cases hj).elim (d j) (cb.2 j)
        have : ∃ j, x.testBit j = true ∧ ¬ (bgn rl fa y).testBit j = true := by
          apply Classical.byContradiction
          intro q
          obtain ⟨c, c1, c2⟩ := en.mpr ⟨hLS, fun j hj => Or.inr (Classical.byContradiction (fun t => q ⟨j, hj, t⟩))⟩
          exact hne c c1 c2.symm
        obtain ⟨j, j1, j2⟩ := this
        rw [rF_zero' ho h2 hy j2 j1, Nat.zero_mul, Nat.zero_mul, Nat.mul_zero]
      · obtain ⟨k, k1, k2⟩ := not_sub d
        have kne : i ≠ k := fun q => by
          subst q
          rw [LL_E k1] at iL
          exact absurd iL (by decide)
        rw [bF_zero ho h2 hy k1 (S := fl x i) (by rw [fl_ne kne]; exact k2), Nat.mul_zero, Nat.mul_zero]
    · rw [ind_f cb, Nat.zero_mul]
  have im := ls_img (F := fun S => ind (cdB (wA G) i S) * (rF G rl y (rl.length - 1 - r) S * we G i y * bF G rl y r (fl S i))) (h := fun c => LL G rl fb i y ||| c) (l := asc (OO G rl fa fb i y)) (l' := List.range 128) List.nodup_range (asc_nodup _) (fun c hc => List.mem_range.mpr (Nat.or_lt_two_pow (n := 7) hL (asc_mem.mp hc).1)) (fun c d hc hd q => or_inj (fun j hj => ((ob j).mp hj).2.1) (asc_mem.mp hc).2 (asc_mem.mp hd).2 q) zero
  have hV : ∀ c, c ∈ asc (OO G rl fa fb i y) → σ.2 79 (128 * y + (LL G rl fb i y ||| c)) * lN (we G i y) * σ.2 78 (fl (LL G rl fb i y ||| c) i) = lN ((fun c => (fun S => ind (cdB (wA G) i S) * (rF G rl y (rl.length - 1 - r) S * we G i y * bF G rl y r (fl S i))) (LL G rl fb i y ||| c)) c) := fun c hc => by
    show _ = lN (ind (cdB (wA G) i (LL G rl fb i y ||| c)) * (rF G rl y (rl.length - 1 - r) (LL G rl fb i y ||| c) * we G i y * bF G rl y r (fl (LL G rl fb i y ||| c) i)))
    have ic : (LL G rl fb i y ||| c).testBit i = false := by
      rw [Nat.testBit_or, iL, Bool.false_or]
      have : ¬ c.testBit i = true := fun q => by have := and_sub (asc_mem.mp hc).2 q; rw [iO] at this; exact absurd this (by decide)
      simpa using this
    have hsL : ∀ j, (LL G rl fb i y).testBit j = true → (LL G rl fb i y ||| c).testBit j = true := fun j hj => by rw [Nat.testBit_or, hj]; rfl
    have hsM : sub (LL G rl fb i y ||| c) (wM G) := fun j hj => by
      rw [M_bit ho]
      rw [Nat.testBit_or, Bool.or_eq_true] at hj
      rcases hj with q | q
      · rcases LL_cases q with t | t
        · exact h2.1.2 j ((bgn_bit _ _ _ _).mp t).2.1
        · exact ((Okw_mem ho).2.2.1 j i t).1
      · exact h2.1.2 j ((bgn_bit _ _ _ _).mp ((ob j).mp (and_sub (asc_mem.mp hc).2 q)).1).2.1
    rw [ind_t ⟨ic, fun j hj => hsL j (LL_A ho hj)⟩, Nat.one_mul, hSe _ hsM (fun j hj => hsL j (LL_E hj))]
    by_cases d : sub (LL G rl fb i y ||| c) (bgn rl fa y)
    · rw [hI (fl (LL G rl fb i y ||| c) i) (fun j hj => by
        by_cases ej : i = j
        · subst ej; exact bgn_i ho h2 hmem hy hw
        · rw [fl_ne ej] at hj; exact d j hj), lN_mul, lN_mul]
    · obtain ⟨k, k1, k2⟩ := not_sub d
      rw [rF_zero' ho h2 hy (by rw [k2]; decide) k1, Nat.zero_mul, Nat.zero_mul, show lN 0 = (0 : Int64) from rfl, Int64.zero_mul, Int64.zero_mul]
  obtain ⟨t, et⟩ := asc_cons hO
  have hl := asc_len (OO G rl fa fb i y)
  have hck := asc_chk _ hO
  have hmem := fun c => asc_mem (O := OO G rl fa fb i y) (s := c)
  rw [et] at hl hck hmem hV im
  have := meet_loop (σ := σ) (W := lN (we G i y)) i7 hL hO (show y < 40 by omega) iL iO t FU 0 0 0 hck (fun c hc => (hmem c).mp hc) (by omega) (FU_big (by omega)) hV
  refine Eq.trans this ?_
  rw [← im, Nat.zero_add]
  exact congrArg (fun v => some (lN v, σ)) mq
