/-! forwards -/
def sub (S T : Nat) : Prop := ∀ j, S.testBit j = true → T.testBit j = true
theorem or_fl {S i : Nat} (h : S.testBit i = false) : S ||| 2 ^ i = fl S i := Nat.eq_of_testBit_eq (fun j => by
  rw [Nat.testBit_or, fl_bit, Nat.testBit_two_pow]
  by_cases e : i = j
  · subst e; rw [h]; simp
  · simp [e])
def LL (G : Wg) (rl : List Nat) (fb : Nat → Nat) (i y : Nat) : Nat := bgn rl fb y ||| msk (fun j => wh G j i == 1) 7
def OO (G : Wg) (rl : List Nat) (fa fb : Nat → Nat) (i y : Nat) : Nat := (bgn rl fa y &&& (127 - LL G rl fb i y)) &&& (127 - 2 ^ i)
theorem LL_lt (G : Wg) (rl : List Nat) (fb : Nat → Nat) (i y : Nat) : LL G rl fb i y < 128 := Nat.or_lt_two_pow (n := 7) (bgn_lt _ _ _) (msk_lt _ 7)
theorem OO_lt (G : Wg) (rl : List Nat) (fa fb : Nat → Nat) (i y : Nat) : OO G rl fa fb i y < 128 := Nat.lt_of_le_of_lt Nat.and_le_left (Nat.lt_of_le_of_lt Nat.and_le_left (bgn_lt _ _ _))
theorem OO_bit (G : Wg) (rl : List Nat) (fa fb : Nat → Nat) {i : Nat} (hi : i < 7) (y j : Nat) : (OO G rl fa fb i y).testBit j = true ↔ (bgn rl fa y).testBit j = true ∧ (LL G rl fb i y).testBit j = false ∧ j ≠ i := by
  have hl : bgn rl fa y &&& (127 - LL G rl fb i y) < 128 := Nat.lt_of_le_of_lt Nat.and_le_left (bgn_lt _ _ _)
  have h2 : 2 ^ i < 128 := Nat.pow_lt_pow_right (a := 2) (n := 7) (by decide) hi
  rcases Nat.lt_or_ge j 7 with q | q
  · have e1 := rst_bit _ hl _ h2 j q
    have e2 := rst_bit _ (bgn_lt rl fa y) _ (LL_lt G rl fb i y) j q
    unfold rst at e1 e2
    unfold OO
    rw [e1, e2, Nat.testBit_two_pow]
    rw [Bool.and_eq_true, Bool.and_eq_true, Bool.not_eq_true', Bool.not_eq_true', decide_eq_false_iff_not, and_assoc]
    exact ⟨fun h => ⟨h.1, h.2.1, fun e => h.2.2 e.symm⟩, fun h => ⟨h.1, h.2.1, fun e => h.2.2 e.symm⟩⟩
  · constructor
    · intro h
      have := bit128 (OO_lt G rl fa fb i y) h
      omega
    · intro h
      have := bit128 (bgn_lt rl fa y) h.1
      omega
theorem and_sub {c O : Nat} (h : c &&& O = c) {j : Nat} (hj : c.testBit j = true) : O.testBit j = true := by
  have : (c &&& O).testBit j = true := by rw [h]; exact hj
  rw [Nat.testBit_and, Bool.and_eq_true] at this
  exact this.2
theorem or_inj {L O c d : Nat} (hd : ∀ j, O.testBit j = true → L.testBit j = false) (hc : c &&& O = c) (h2 : d &&& O = d) (e : L ||| c = L ||| d) : c = d := Nat.eq_of_testBit_eq (fun j => by
  have t : (L ||| c).testBit j = (L ||| d).testBit j := by rw [e]
  rw [Nat.testBit_or, Nat.testBit_or] at t
  by_cases l : L.testBit j = true
  · have a : ¬ c.testBit j = true := fun q => by rw [hd j (and_sub hc q)] at l; exact absurd l (by decide)
    have b : ¬ d.testBit j = true := fun q => by rw [hd j (and_sub h2 q)] at l; exact absurd l (by decide)
    simp at a b
    rw [a, b]
  · simp at l
    rw [l] at t
    simpa using t)
theorem up2_eq {σ : St} {k j : Nat} {v : Int64} : (up2 σ k j v).2 k j = v := by simp [up2]
theorem up2_ne {σ : St} {k j a b : Nat} {v : Int64} (h : ¬ (a = k ∧ b = j)) : (up2 σ k j v).2 a b = σ.2 a b := by simp only [up2, if_neg h]
theorem up2_r {σ : St} {k j a : Nat} {v : Int64} (h : a ≠ k) : (up2 σ k j v).2 a = σ.2 a := (up2_off a h).2
theorem place_loop {i L O : Nat} {W : Int64} (hi : i < 7) (hL : L < 128) (hO : O < 128) (iL : L.testBit i = false) (iO : O.testBit i = false) (hd : ∀ j, O.testBit j = true → L.testBit j = false) : ∀ (t : List Nat) (fu a k : Nat) (σ : St), chkA O (a :: t) = true → (∀ c, c ∈ a :: t → c < 128 ∧ c &&& O = c) → (a :: t).Nodup → k + (a :: t).length ≤ 128 → (a :: t).length < fu → ∃ σ', f_X0_place_42 fu (nI i) (nI L) (nI O) W (nI a) (nI k) σ = some σ' ∧ σ'.1 = σ.1 ∧ (∀ c, c ≠ 77 → σ'.2 c = σ.2 c) ∧ ∀ T, (T.testBit i = true ∧ (∃ c, c ∈ a :: t ∧ fl T i = L ||| c) → σ'.2 77 T = σ.2 77 T + σ.2 77 (fl T i) * W) ∧ (¬ (T.testBit i = true ∧ ∃ c, c ∈ a :: t ∧ fl T i = L ||| c) → σ'.2 77 T = σ.2 77 T) := by
  intro t
  induction t with
  | nil =>
    intro fu a k σ hc ha hn hk hf
    obtain ⟨fu, rfl⟩ : ∃ n, fu = n + 1 := ⟨fu - 1, by simp at hf; omega⟩
    obtain ⟨a1, a2⟩ := ha a (by simp)
    have hS : L ||| a < 128 := Nat.or_lt_two_pow (n := 7) hL a1
    have iS : (L ||| a).testBit i = false := by
      rw [Nat.testBit_or, iL]
      have : ¬ a.testBit i = true := fun q => by have := and_sub a2 q; rw [iO] at this; exact absurd this (by decide)
      simpa using this
    have hT : fl (L ||| a) i < 128 := fl_lt hS hi
    simp at hk
    rw [f_X0_place_42, if_neg (show ¬ (128 : Int32) ≤ nI k from nI_ge (b := 128) (by omega) (by decide)), bOr L hL a a1, bO _ hS i hi, or_fl iS, cI_t (ix_nI hT (by decide)), cI_t (ix_nI hS (by decide)), cI_t (ix_nI hT (by decide)), nI_clamp (show L ||| a < 2 ^ 31 by omega), nI_clamp (show fl (L ||| a) i < 2 ^ 31 by omega), ap]
    unfold f_X0_nextSubset
    simp only [chkA, decide_eq_true_eq] at hc
    rw [bS, hc, if_pos rfl]
    refine ⟨_, rfl, rfl, fun c hc => up2_r hc, fun T => ⟨?_, ?_⟩⟩
    · rintro ⟨hb, c, hc1, hc2⟩
      have : c = a := by simpa using hc1
      subst this
      have e : T = fl (L ||| c) i := by rw [← hc2, fl_fl]
      rw [hc2, e, up2_eq]
    · intro h
      rw [up2_ne]
      rintro ⟨-, e⟩
      exact h ⟨by rw [e, fl_eq, iS]; rfl, a, by simp, by rw [e, fl_fl]⟩
  | cons b t ih =>
    intro fu a k σ hc ha hn hk hf
    obtain ⟨fu, rfl⟩ : ∃ n, fu = n + 1 := ⟨fu - 1, by simp at hf; omega⟩
    obtain ⟨a1, a2⟩ := ha a (by simp)
    have hS : L ||| a < 128 := Nat.or_lt_two_pow (n := 7) hL a1
    have iS : (L ||| a).testBit i = false := by
      rw [Nat.testBit_or, iL]
      have : ¬ a.testBit i = true := fun q => by have := and_sub a2 q; rw [iO] at this; exact absurd this (by decide)
      simpa using this
    have hT : fl (L ||| a) i < 128 := fl_lt hS hi
    simp at hk hf
    rw [f_X0_place_42, if_neg (show ¬ (128 : Int32) ≤ nI k from nI_ge (b := 128) (by omega) (by decide)), bOr L hL a a1, bO _ hS i hi, or_fl iS, cI_t (ix_nI hT (by decide)), cI_t (ix_nI hS (by decide)), cI_t (ix_nI hT (by decide)), nI_clamp (show L ||| a < 2 ^ 31 by omega), nI_clamp (show fl (L ||| a) i < 2 ^ 31 by omega), ap]
    unfold f_X0_nextSubset
    simp only [chkA, Bool.and_eq_true, decide_eq_true_eq] at hc
    obtain ⟨⟨c1, c2⟩, c3⟩ := hc
    have b1 := (ha b (by simp)).1
    rw [bS, c1, if_neg (nI_ne0 c2 (by omega)), nI_1]
    rw [List.nodup_cons] at hn
    obtain ⟨σ', r1, r2, r3, r4⟩ := ih fu b (k + 1) (up2 σ 77 (fl (L ||| a) i) (σ.2 77 (fl (L ||| a) i) + σ.2 77 (L ||| a) * W)) c3 (fun c hc => ha c (by simp at hc ⊢; exact Or.inr hc)) hn.2 (by simp; omega) (by simp; omega)
    refine ⟨σ', r1, r2, fun c hc => by rw [r3 c hc, up2_r hc], fun T => ⟨?_, ?_⟩⟩
    · rintro ⟨hb, c, hc1, hc2⟩
      have iT : (fl T i).testBit i = false := by rw [fl_eq, hb]; rfl
      have ne2 : fl T i ≠ fl (L ||| a) i := fun e => by
        have : (fl (L ||| a) i).testBit i = true := by rw [fl_eq, iS]; rfl
        rw [← e, iT] at this
        exact absurd this (by decide)
      by_cases e : c = a
      · subst e
        have eT : T = fl (L ||| c) i := by rw [← hc2, fl_fl]
        rw [(r4 T).2, hc2, eT, up2_eq]
        rintro ⟨-, d, hd1, hd2⟩
        rw [hc2] at hd2
        have := or_inj hd a2 (ha d (by simp at hd1 ⊢; exact Or.inr hd1)).2 hd2
        subst this
        exact hn.1 hd1
      · have hc3 : c ∈ b :: t := by simpa [e] using hc1
        have ne1 : T ≠ fl (L ||| a) i := fun eT => by
          rw [eT, fl_fl] at hc2
          exact e (or_inj hd a2 (ha c hc1).2 hc2).symm
        rw [(r4 T).1 ⟨hb, c, hc3, hc2⟩, up2_ne (by omega), up2_ne (by omega)]
    · intro h
      rw [(r4 T).2 (fun ⟨hb, c, hc1, hc2⟩ => h ⟨hb, c, by simp at hc1 ⊢; exact Or.inr hc1, hc2⟩), up2_ne]
      rintro ⟨-, e⟩
      exact h ⟨by rw [e, fl_eq, iS]; rfl, a, by simp, by rw [e, fl_fl]⟩
theorem asc_nodup (O : Nat) : (asc O).Nodup := List.Pairwise.filter _ List.nodup_range
theorem asc_cons {O : Nat} (hO : O < 128) : ∃ t, asc O = 0 :: t := by
  have := asc_hd O hO
  cases h : asc O with
  | nil => rw [h] at this; simp at this
  | cons a t => rw [h] at this; simp at this; subst this; exact ⟨t, rfl⟩
/-- what a placing needs to know of a find and a year -/
def PlC (σ : St) (G : Wg) (rl : List Nat) (fa fb : Nat → Nat) (ol : List Nat) (i y : Nat) : Prop := PrC σ G rl fa fb ol ∧ PrP G rl fa fb ol ∧ i < wf G ∧ y < wn G ∧ we G i y ≠ 0
theorem PlC_i {σ : St} {G : Wg} {rl : List Nat} {fa fb : Nat → Nat} {ol : List Nat} {i y : Nat} (ho : Okw G) (h : PlC σ G rl fa fb ol i y) : (LL G rl fb i y).testBit i = false := by
  obtain ⟨h1, h2, h3, h4, h5⟩ := h
  have hF := (h2.2.2.1 i h3).2.2.1 y h4 h5
  have hh : ¬ wh G i i = 1 := fun e => (ho.2.2.2.2.2.2 i i (by omega)).2.2 rfl
  unfold LL
  rw [Nat.testBit_or, msk_bit]
  have : ¬ (bgn rl fb y).testBit i = true := fun q => by
    have := ((bgn_bit rl fb y i).mp q).2.2
    omega
  simp at this
  simp [this, hh]
theorem least_eq {σ : St} {G : Wg} {rl : List Nat} {fa fb : Nat → Nat} {ol : List Nat} {i y : Nat} (ho : Okw G) (h1 : PrC σ G rl fa fb ol) (h3 : i < wf G) (h4 : y < wn G) : f_X0_leastBefore (nI i) (nI y) σ = some (nI (LL G rl fb i y), σ) := by
  have hf := ho.2.1
  have hn := ho.1.2
  unfold f_X0_leastBefore
  rw [cI_t (ix_nI (show y < 40 by omega) (by decide)), cI_t (ix_nI (show i < 7 by omega) (by decide)), nI_clamp (by omega), nI_clamp (by omega), (h1.2.2.1 y h4).2, (h1.1.2.2.2 i (by omega)).1, bOr _ (bgn_lt _ _ _) _ (msk_lt _ 7)]
  rfl
theorem place_eq {σ : St} {G : Wg} {rl : List Nat} {fa fb : Nat → Nat} {ol : List Nat} {i y : Nat} (ho : Okw G) (h : PlC σ G rl fa fb ol i y) : ∃ σ', f_X0_place (nI i) (nI y) σ = some σ' ∧ σ'.1 = σ.1 ∧ (∀ c, c ≠ 77 → σ'.2 c = σ.2 c) ∧ ∀ T, (T.testBit i = true ∧ (∃ c, c ∈ asc (OO G rl fa fb i y) ∧ fl T i = LL G rl fb i y ||| c) → σ'.2 77 T = σ.2 77 T + σ.2 77 (fl T i) * lN (we G i y)) ∧ (¬ (T.testBit i = true ∧ ∃ c, c ∈ asc (OO G rl fa fb i y) ∧ fl T i = LL G rl fb i y ||| c) → σ'.2 77 T = σ.2 77 T) := by
  have iL := PlC_i ho h
  obtain ⟨h1, h2, h3, h4, h5⟩ := h
  have hf := ho.2.1
  have hn := ho.1.2
  have i7 : i < 7 := by omega
  have hL := LL_lt G rl fb i y
  have hO := OO_lt G rl fa fb i y
  have ob := fun j => OO_bit G rl fa fb i7 y j
  unfold f_X0_place
  rw [least_eq ho h1 h3 h4, bS, cI_t (ix_nI (show y < 40 by omega) (by decide)), nI_clamp (show y < 2 ^ 31 by omega), (h1.2.2.1 y h4).1, bNot _ (bgn_lt _ _ _) _ hL, bC _ (Nat.lt_of_le_of_lt Nat.and_le_left (bgn_lt _ _ _)) i i7, ap, weightAt_eq h1.1 ho h3 h4, bS]
  obtain ⟨t, et⟩ := asc_cons hO
  have hl := asc_len (OO G rl fa fb i y)
  have hnd := asc_nodup (OO G rl fa fb i y)
  have hck := asc_chk _ hO
  have hmem := fun c => asc_mem (O := OO G rl fa fb i y) (s := c)
  rw [et] at hl hnd hck hmem ⊢
  exact place_loop i7 hL hO iL (by
    have : ¬ (OO G rl fa fb i y).testBit i = true := fun q => ((ob i).mp q).2.2 rfl
    simpa using this) (fun j hj => ((ob j).mp hj).2.1) t FU 0 0 σ hck (fun c hc => (hmem c).mp hc) hnd (by omega) (FU_big (by omega))
theorem enum_iff {G : Wg} {rl : List Nat} {fa fb : Nat → Nat} {i y S : Nat} (i7 : i < 7) (iL : (LL G rl fb i y).testBit i = false) (hS : S < 128) (iS : S.testBit i = false) : (∃ c, c ∈ asc (OO G rl fa fb i y) ∧ S = LL G rl fb i y ||| c) ↔ sub (LL G rl fb i y) S ∧ ∀ j, S.testBit j = true → (LL G rl fb i y).testBit j = true ∨ (bgn rl fa y).testBit j = true := by
  have ob := fun j => OO_bit G rl fa fb i7 y j
  constructor
  · rintro ⟨c, hc, rfl⟩
    refine ⟨fun j hj => by rw [Nat.testBit_or, hj]; rfl, fun j hj => ?_⟩
    rw [Nat.testBit_or, Bool.or_eq_true] at hj
    exact hj.imp id (fun q => ((ob j).mp (and_sub (asc_mem.mp hc).2 q)).1)
  · rintro ⟨h1, h2⟩
    refine ⟨S &&& OO G rl fa fb i y, asc_mem.mpr ⟨Nat.lt_of_le_of_lt Nat.and_le_left hS, by rw [Nat.and_assoc, Nat.and_self]⟩, Nat.eq_of_testBit_eq (fun j => ?_)⟩
    rw [Nat.testBit_or, Nat.testBit_and, Bool.eq_iff_iff, Bool.or_eq_true, Bool.and_eq_true, ob]
    constructor
    · intro hj
      by_cases l : (LL G rl fb i y).testBit j = true
      · exact Or.inl l
      · refine Or.inr ⟨hj, (h2 j hj).resolve_left l, by simpa using l, fun e => ?_⟩
        subst e
        rw [iS] at hj
        exact absurd hj (by decide)
    · rintro (hj | hj)
      · exact h1 j hj
      · exact hj.1
/-- where the ways stand: sets of members that hold whoever must have been placed -/
def FwI (σ : St) (G : Wg) (rl : List Nat) (fb : Nat → Nat) (y : Nat) (r : Nat → Nat) : Prop := ∀ S, sub S (wM G) → sub (bgn rl fb y) S → σ.2 77 S = lN (r S)
theorem M_bit {G : Wg} (ho : Okw G) (j : Nat) : (wM G).testBit j = wm G j := msk_all ho.2.1 ho.2.2.1 j
theorem sub_lt {S M : Nat} (h : sub S M) (hM : M < 128) : S < 128 := by
  have : S &&& M = S := Nat.eq_of_testBit_eq (fun j => by
    rw [Nat.testBit_and, Bool.eq_iff_iff, Bool.and_eq_true]
    exact ⟨And.left, fun q => ⟨q, h j q⟩⟩)
  rw [← this]
  exact Nat.lt_of_le_of_lt Nat.and_le_right hM
theorem cl_loop {σ0 : St} {k1 : Nat} {ol : List Nat} (hol : ∀ S, S ∈ ol → S < 128) (hl : ol.length ≤ 128) : ∀ (fu o : Nat) (σ : St), σ.1 70 8 = nI ol.length → (∀ o, o < ol.length → σ.1 76 o = nI (ol.getD o 0)) → o ≤ ol.length → ol.length - o < fu → ∃ σ', f_X0_clearOpenSets_2 fu k1 128 (nI o) σ = some σ' ∧ σ'.1 = σ.1 ∧ (∀ c, c ≠ k1 → σ'.2 c = σ.2 c) ∧ ∀ S, σ'.2 k1 S = if S ∈ ol.drop o then 0 else σ.2 k1 S := by
  intro fu
  induction fu with
  | zero => intro o σ _ _ _ h; omega
  | succ fu ih =>
    intro o σ h1 h2 ho hfu
    rw [f_X0_clearOpenSets_2, h1]
    rcases Nat.lt_or_ge o ol.length with q | q
    · have hS := hol _ (getD_mem q)
      have ed : ol.drop o = ol.getD o 0 :: ol.drop (o + 1) := by
        rw [List.drop_eq_getElem_cons q, List.getD_eq_getElem?_getD, List.getElem?_eq_getElem q]
        rfl
      rw [if_neg (nI_ge q (by omega)), cI_t (ix_nI (show o < 128 by omega) (by decide)), nI_clamp (show o < 2 ^ 31 by omega), h2 o q, cI_t (ix_nI hS (by decide)), nI_clamp (show ol.getD o 0 < 2 ^ 31 by omega), ap, nI_1]
      obtain ⟨σ', r1, r2, r3, r4⟩ := ih (o + 1) (up2 σ k1 (ol.getD o 0) 0) h1 h2 (by omega) (by omega)
      refine ⟨σ', r1, r2, fun c hc => by rw [r3 c hc, up2_r hc], fun S => ?_⟩
      rw [r4 S, ed]
      by_cases c : S ∈ ol.drop (o + 1)
      · rw [if_pos c, if_pos (by simp [c])]
      · rw [if_neg c]
        by_cases e : S = ol.getD o 0
        · subst e; rw [up2_eq, if_pos (by simp)]
        · rw [up2_ne (by omega), if_neg (by simp only [List.mem_cons, not_or]; exact ⟨e, c⟩)]
    · obtain rfl : o = ol.length := by omega
      rw [if_pos (by rw [I_le]; omega)]
      exact ⟨σ, rfl, rfl, fun _ _ => rfl, fun S => by simp⟩
theorem clear_eq {σ : St} {G : Wg} {rl : List Nat} {fa fb : Nat → Nat} {ol : List Nat} (k1 : Nat) (h1 : PrC σ G rl fa fb ol) (h2 : PrP G rl fa fb ol) : ∃ σ', f_X0_clearOpenSets k1 128 σ = some σ' ∧ σ'.1 = σ.1 ∧ (∀ c, c ≠ k1 → σ'.2 c = σ.2 c) ∧ ∀ S (r : Nat → Nat), sub S (wM G) → σ.2 k1 S = lN (r S) → σ'.2 k1 S = lN (clF (wN G) r S) := by
  have hM : wM G < 128 := msk_lt _ 7
  have hl := h2.2.2.2.2
  obtain ⟨σ', r1, r2, r3, r4⟩ := cl_loop (σ0 := σ) (k1 := k1) (fun S hS => by have := ((h2.2.2.2.1 S).mp hS).1; omega) hl FU 0 σ h1.2.2.2.1 h1.2.2.2.2 (by omega) (FU_big (by omega))
  refine ⟨σ', r1, r2, r3, fun S r hS e => ?_⟩
  rw [r4 S, List.drop_zero]
  unfold clF
  have hle : S ≤ wM G := by
    have : S &&& wM G = S := Nat.eq_of_testBit_eq (fun j => by
      rw [Nat.testBit_and, Bool.eq_iff_iff, Bool.and_eq_true]
      exact ⟨And.left, fun q => ⟨q, hS j q⟩⟩)
    rw [← this]; exact Nat.and_le_right
  by_cases c : opn (wN G) S
  · rw [if_pos ((h2.2.2.2.1 S).mpr ⟨hle, c⟩), ind_f (fun q => q c), Nat.zero_mul]; rfl
  · rw [if_neg (fun q => c ((h2.2.2.2.1 S).mp q).2), ind_t c, Nat.one_mul, e]
theorem PrC_fr {σ σ' : St} {G : Wg} {rl : List Nat} {fa fb : Nat → Nat} {ol : List Nat} (h : PrC σ G rl fa fb ol) (h1 : σ'.1 = σ.1) (h2 : σ'.2 64 = σ.2 64) : PrC σ' G rl fa fb ol := by
  refine ⟨WgC_fr h.1 (fun _ _ _ => by rw [h1]) h2, ?_⟩
  have := h.2
  unfold RkS at this ⊢
  rw [h1]
  exact this
theorem m1a (x : Int32) : x + (-1) = x - 1 := by rw [Int32.sub_eq_add_neg]
theorem rev_get {rl : List Nat} {s : Nat} (h : s < rl.length) : rl.reverse.getD (rl.length - 1 - s) 0 = rl.getD s 0 := by
  rw [List.getD_eq_getElem?_getD, List.getD_eq_getElem?_getD, List.getElem?_reverse (by omega), show rl.length - 1 - (rl.length - 1 - s) = s by omega]
noncomputable abbrev rF (G : Wg) (rl : List Nat) (y p : Nat) : Nat → Nat := rk (wA G) (we G) y (rl.reverse.take p) (RR rl.reverse (wA G) (wN G) (we G) y)
theorem rF_step {G : Wg} {rl : List Nat} {y p : Nat} (h : p < rl.length) : rF G rl y (p + 1) = plF (wA G) (we G) y (rl.reverse.getD p 0) (rF G rl y p) := by
  unfold rF
  rw [take_succ' (by simpa using h), rk_app]
  rfl
theorem rF_zero {G : Wg} {rl : List Nat} {fa fb : Nat → Nat} {ol : List Nat} (h2 : PrP G rl fa fb ol) {y p k S : Nat} (hy : y < wn G) (hk : k < wf G) (hb : S.testBit k = true) (hf : y < fa k) : rF G rl y p S = 0 := by
  have hw : ∀ z, z ≤ y → we G k z = 0 := fun z hz => Classical.byContradiction (fun q => by have := (h2.2.2.1 k hk).2.2.1 z (by omega) q; omega)
  exact rk_zero _ _ (fun _ => hw y (Nat.le_refl _)) (RR_zero y (fun z hz => hw z (by omega))) S hb
/-- what the watched find's placing saw -/
def Seen (σ : St) (G : Wg) (rl : List Nat) (fb : Nat → Nat) (x2 : Int32) (y P : Nat) : Prop := ∀ p, p < P → nI (rl.reverse.getD p 0) = x2 → we G (rl.reverse.getD p 0) y ≠ 0 → ∀ S, sub S (wM G) → sub (bgn rl fb y) S → σ.2 79 (128 * y + S) = lN (rF G rl y p S)
theorem fw_step {σ : St} {G : Wg} {rl : List Nat} {fa fb : Nat → Nat} {ol : List Nat} (ho : Okw G) (h1 : PrC σ G rl fa fb ol) (h2 : PrP G rl fa fb ol) {y p : Nat} (hy : y < wn G) (hp : p < rl.length) (hI : FwI σ G rl fb y (rF G rl y p)) (hw : we G (rl.reverse.getD p 0) y ≠ 0) : ∃ σ', f_X0_place (nI (rl.reverse.getD p 0)) (nI y) σ = some σ' ∧ σ'.1 = σ.1 ∧ (∀ c, c ≠ 77 → σ'.2 c = σ.2 c) ∧ FwI σ' G rl fb y (rF G rl y (p + 1)) := by
  have hmem : rl.reverse.getD p 0 ∈ rl := List.mem_reverse.mp (getD_mem (l := rl.reverse) (by simpa using hp))
  have e := rF_step (G := G) (y := y) hp
  generalize rl.reverse.getD p 0 = i at hw hmem e ⊢
  have hm := h2.1.2 i hmem
  have hi := ho.2.2.1 i hm
  have hf := ho.2.1
  have hM : wM G < 128 := msk_lt _ 7
  have hPl : PlC σ G rl fa fb ol i y := ⟨h1, h2, hi, hy, hw⟩
  have iL := PlC_i ho hPl
  obtain ⟨σ', r1, r2, r3, r4⟩ := place_eq ho hPl
  refine ⟨σ', r1, r2, r3, fun T hT hE => ?_⟩
  rw [e]
  unfold plF
  have T7 := sub_lt hT hM
  by_cases hb : T.testBit i = true
  · have iS : (fl T i).testBit i = false := by rw [fl_eq, hb]; rfl
    have hS7 : fl T i < 128 := fl_lt T7 (by omega)
    have flT : ∀ j, (fl T i).testBit j = true → T.testBit j = true := fun j hj => by
      by_cases ej : i = j
      · subst ej; exact hb
      · rw [fl_ne ej] at hj; exact hj
    have hS : sub (fl T i) (wM G) := fun j hj => hT j (flT j hj)
    have en := enum_iff (G := G) (rl := rl) (fa := fa) (fb := fb) (y := y) (show i < 7 by omega) iL hS7 iS
    have hE2 : sub (bgn rl fb y) (fl T i) := fun j hj => by
      have : i ≠ j := fun ej => by
        subst ej
        unfold LL at iL
        rw [Nat.testBit_or, hj] at iL
        simp at iL
      rw [fl_ne this]; exact hE j hj
    by_cases c : cdF (wA G) i T
    · rw [ind_t c, Nat.one_mul]
      have hLS : sub (LL G rl fb i y) (fl T i) := fun j hj => by
        unfold LL at hj
        rw [Nat.testBit_or, Bool.or_eq_true] at hj
        rcases hj with q | q
        · exact hE2 j q
        · rw [msk_bit] at q
          simp at q
          have hA : wA G j i := q.2
          have := (Okw_mem ho).2.2.1 j i hA
          rw [fl_ne (Ne.symm this.2.2)]
          exact c.2 j hA
      by_cases d : ∀ j, (fl T i).testBit j = true → (LL G rl fb i y).testBit j = true ∨ (bgn rl fa y).testBit j = true
      · rw [(r4 T).1 ⟨hb, en.mpr ⟨hLS, d⟩⟩, hI T hT hE, hI (fl T i) hS hE2, lN_mul, lN_add]
      · rw [(r4 T).2 (fun q => d (en.mp q.2).2), hI T hT hE]
        have : rF G rl y p (fl T i) = 0 := by
          apply Classical.byContradiction
          intro z
          apply d
          intro j hj
          right
          have mj : wm G j = true := by rw [← M_bit ho]; exact hS j hj
          have j7 := ho.2.2.1 j mj
          rw [bgn_bit]
          refine ⟨by omega, h2.2.1 j mj, Classical.byContradiction (fun u => z ?_)⟩
          exact rF_zero h2 hy j7 hj (by omega)
        rw [this, Nat.zero_mul, Nat.add_zero]
    · rw [ind_f c, Nat.zero_mul, Nat.add_zero, (r4 T).2, hI T hT hE]
      rintro ⟨-, q⟩
      apply c
      refine ⟨hb, fun j hj => flT j ((en.mp q).1 j ?_)⟩
      have := (Okw_mem ho).2.2.1 j i hj
      have := ho.2.2.1 j this.1
      unfold LL
      rw [Nat.testBit_or, msk_bit, Bool.or_eq_true]
      right
      unfold wA at hj
      simp only [hj, decide_eq_true (show j < 7 by omega), Bool.true_and]
      rfl
  · rw [(r4 T).2 (fun q => hb q.1), hI T hT hE, ind_f (fun q => hb q.1), Nat.zero_mul, Nat.add_zero]
theorem fw_loop {G : Wg} {rl : List Nat} {fa fb : Nat → Nat} {ol : List Nat} (ho : Okw G) (h2 : PrP G rl fa fb ol) {y : Nat} (hy : y < wn G) (x2 : Int32) (kk : St → Option St) : ∀ (fu p : Nat) (σ : St), PrC σ G rl fa fb ol → FwI σ G rl fb y (rF G rl y p) → Seen σ G rl fb x2 y p → p ≤ rl.length → rl.length - p < fu → ∃ σ', f_X0_goForward_7 kk fu (nI y) x2 (nI (rl.length - p) - 1) σ = kk σ' ∧ σ'.1 = σ.1 ∧ (∀ c, (c ≠ 77 ∧ c ≠ 79) → σ'.2 c = σ.2 c) ∧ FwI σ' G rl fb y (rF G rl y rl.length) ∧ Seen σ' G rl fb x2 y rl.length ∧ ∀ z, z ≠ y → ∀ S, S < 128 → σ'.2 79 (128 * z + S) = σ.2 79 (128 * z + S) := by
  have hf := ho.2.1
  have hn := ho.1.2
  have hl := RkP_len ho h2.1
  have hM : wM G < 128 := msk_lt _ 7
  have nd : rl.reverse.Nodup := topo_nodup h2.1.1
  intro fu
  induction fu with
  | zero => intro p σ _ _ _ _ h; omega
  | succ fu ih =>
    intro p σ h1 hI hSe hp hfu
    rw [f_X0_goForward_7]
    rcases Nat.lt_or_ge p rl.length with q | q
    · have hs : rl.length - p = (rl.length - p - 1) + 1 := by omega
      have rg := rev_get (rl := rl) (s := rl.length - p - 1) (by omega)
      rw [show rl.length - 1 - (rl.length - p - 1) = p by omega] at rg
      have hmem : rl.reverse.getD p 0 ∈ rl := List.mem_reverse.mp (getD_mem (l := rl.reverse) (by simpa using q))
      have hi := ho.2.2.1 _ (h2.1.2 _ hmem)
      have e3 : nI (rl.length - p) - 1 = nI (rl.length - p - 1) := by
        rw [hs, nI_pred]
        rfl
      have e4 : nI (rl.length - p - 1) + (-1) = nI (rl.length - (p + 1)) - 1 := by
        rw [m1a, show rl.length - (p + 1) = rl.length - p - 1 by omega]
      rw [e3, if_neg (nI_pos (by omega)), cI_t (ix_nI (show rl.length - p - 1 < 7 by omega) (by decide)), nI_clamp (show rl.length - p - 1 < 2 ^ 31 by omega), h1.2.1.2 _ (by omega), ← rg, ap, weightAt_eq h1.1 ho hi hy, bS]
      have hlt := we_lt ho (rl.reverse.getD p 0) y
      by_cases z : we G (rl.reverse.getD p 0) y = 0
      · rw [z, if_pos (show lN 0 = (0 : Int64) from rfl)]
        unfold f_X0_goForward_70
        rw [e4]
        refine ih (p + 1) σ h1 (fun S s1 s2 => ?_) (fun p' hp' e w => ?_) (by omega) (by omega)
        · rw [hI S s1 s2, rF_step q]
          unfold plF
          rw [z, Nat.mul_zero, Nat.mul_zero, Nat.add_zero]
        · by_cases ep : p' = p
          · subst ep; exact absurd z w
          · exact hSe p' (by omega) e w
      · rw [if_neg (fun e => z ((lN_0 (by omega)).mp e))]
        have step : ∀ σ1 : St, σ1.1 = σ.1 → (∀ c, c ≠ 79 → σ1.2 c = σ.2 c) → (∀ z, z ≠ y → ∀ S, S < 128 → σ1.2 79 (128 * z + S) = σ.2 79 (128 * z + S)) → Seen σ1 G rl fb x2 y (p + 1) → ∃ σ', f_X0_goForward_63 (f_X0_goForward_7 kk fu) (nI y) x2 (nI (rl.length - p - 1)) (nI (rl.reverse.getD p 0)) σ1 = kk σ' ∧ σ'.1 = σ.1 ∧ (∀ c, (c ≠ 77 ∧ c ≠ 79) → σ'.2 c = σ.2 c) ∧ FwI σ' G rl fb y (rF G rl y rl.length) ∧ Seen σ' G rl fb x2 y rl.length ∧ ∀ z, z ≠ y → ∀ S, S < 128 → σ'.2 79 (128 * z + S) = σ.2 79 (128 * z + S) := fun σ1 a1 a2 a3 a4 => by
          have h1' : PrC σ1 G rl fa fb ol := PrC_fr h1 a1 (a2 64 (by omega))
          obtain ⟨σ2, r1, r2, r3, r4⟩ := fw_step ho h1' h2 hy q (fun S s1 s2 => by rw [a2 77 (by omega)]; exact hI S s1 s2) z
          unfold f_X0_goForward_63 f_X0_goForward_70
          rw [r1, bS, e4]
          obtain ⟨σ3, p1, p2, p3, p4, p5, p6⟩ := ih (p + 1) σ2 (PrC_fr h1' r2 (r3 64 (by omega))) r4 (fun p' hp' e w S s1 s2 => by rw [r3 79 (by omega)]; exact a4 p' hp' e w S s1 s2) (by omega) (by omega)
          exact ⟨σ3, p1, p2.trans (r2.trans a1), fun c hc => by rw [p3 c hc, r3 c hc.1, a2 c hc.2], p4, p5, fun z hz S hS => by rw [p6 z hz S hS, r3 79 (by omega), a3 z hz S hS]⟩
        by_cases ex : nI (rl.reverse.getD p 0) = x2
        · have cp : cpk 0 (nI y * 128) 128 128 5120 = true := by
            have e128 : nI y * (128 : Int32) = nI (128 * y) := by rw [show (128 : Int32) = nI 128 from rfl, pk_mul, Nat.mul_comm]
            unfold cpk
            rw [e128, nI_clamp (by omega)]
            have h128 : (128 : Int32).toNatClampNeg = 128 := by decide
            have n1 : ¬ nI (128 * y) < 0 := nI_pos (by omega)
            rw [h128, z_0]
            simp only [n1, not_false_eq_true, decide_true, Bool.true_and]
            simp
            omega
          have e128 : nI y * (128 : Int32) = nI (128 * y) := by rw [show (128 : Int32) = nI 128 from rfl, pk_mul, Nat.mul_comm]
          have h128 : (128 : Int32).toNatClampNeg = 128 := by decide
          rw [if_pos ex, cI_t cp, ap, e128, nI_clamp (show 128 * y < 2 ^ 31 by omega), h128, z_0]
          refine step _ rfl (fun c hc => (rw2_off c hc).2) (fun z hz S hS => ?_) (fun p' hp' e w S s1 s2 => ?_)
          · rw [rw2_row, pk_cpy_out (by omega)]
          · by_cases ep : p' = p
            · subst ep
              have := sub_lt s1 hM
              rw [rw2_row, pk_cpy_in (by omega) (by omega), show 0 + (128 * y + S - 128 * y) = S by omega]
              exact hI S s1 s2
            · exfalso
              have i1 : rl.reverse.getD p' 0 < 7 := by
                have := ho.2.2.1 _ (h2.1.2 _ (List.mem_reverse.mp (getD_mem (l := rl.reverse) (r := p') (by simp; omega))))
                omega
              have e5 : rl.reverse.getD p' 0 = rl.reverse.getD p 0 := nI_inj (by omega) (by omega) (e.trans ex.symm)
              exact ep ((List.getD_inj (by simp; omega) (by simp; omega) nd).mp e5)
        · rw [if_neg ex]
          refine step σ rfl (fun _ _ => rfl) (fun _ _ _ _ => rfl) (fun p' hp' e w => ?_)
          by_cases ep : p' = p
          · subst ep; exact absurd e ex
          · exact hSe p' (by omega) e w
    · obtain rfl : p = rl.length := by omega
      rw [Nat.sub_self, if_pos (by decide)]
      exact ⟨σ, rfl, rfl, fun _ _ => rfl, hI, hSe, fun _ _ _ _ => rfl⟩
theorem bgn_mono {rl : List Nat} {fa : Nat → Nat} {y z : Nat} (h : y ≤ z) : sub (bgn rl fa y) (bgn rl fa z) := fun j hj => by
  rw [bgn_bit] at hj ⊢
  exact ⟨hj.1, hj.2.1, by omega⟩
theorem goF_eq {σ : St} {G : Wg} {rl : List Nat} {fa fb : Nat → Nat} {ol : List Nat} (ho : Okw G) (h1 : PrC σ G rl fa fb ol) (h2 : PrP G rl fa fb ol) {y : Nat} (hy : y < wn G) (x2 : Int32) (hI : FwI σ G rl fb y (RR rl.reverse (wA G) (wN G) (we G) y)) : ∃ σ', f_X0_goForward (nI y) x2 σ = some σ' ∧ σ'.1 = σ.1 ∧ (∀ c, (c ≠ 77 ∧ c ≠ 79) → σ'.2 c = σ.2 c) ∧ FwI σ' G rl fb (y + 1) (RR rl.reverse (wA G) (wN G) (we G) (y + 1)) ∧ Seen σ' G rl fb x2 y rl.length ∧ ∀ z, z ≠ y → ∀ S, S < 128 → σ'.2 79 (128 * z + S) = σ.2 79 (128 * z + S) := by
  have hl := RkP_len ho h2.1
  obtain ⟨σ1, r1, r2, r3, r4, r5, r6⟩ := fw_loop ho h2 hy x2 f_X0_goForward_76 FU 0 σ h1 hI (fun p hp => by omega) (by omega) (FU_big (by omega))
  unfold f_X0_goForward
  rw [ap, h1.2.1.1]
  rw [Nat.sub_zero] at r1
  rw [r1]
  unfold f_X0_goForward_76
  obtain ⟨σ2, p1, p2, p3, p4⟩ := clear_eq 77 (PrC_fr h1 r2 (r3 64 (by omega))) h2
  rw [p1, bS]
  refine ⟨σ2, rfl, p2.trans r2, fun c hc => by rw [p3 c hc.1, r3 c hc], fun S s1 s2 => ?_, fun p hp e w S s1 s2 => by rw [p3 79 (by omega)]; exact r5 p hp e w S s1 s2, fun z hz S hS => by rw [p3 79 (by omega)]; exact r6 z hz S hS⟩
  have := p4 S (rF G rl y rl.length) s1 (r4 S s1 (fun j hj => s2 j (bgn_mono (Nat.le_succ y) j hj)))
  rw [this]
  unfold rF
  rw [List.take_of_length_le (by simp)]
  rfl
theorem ca_loop {G : Wg} {rl : List Nat} {fa fb : Nat → Nat} {ol : List Nat} (ho : Okw G) (h2 : PrP G rl fa fb ol) : ∀ (fu y : Nat) (σ : St), PrC σ G rl fa fb ol → FwI σ G rl fb y (RR rl.reverse (wA G) (wN G) (we G) y) → y ≤ wn G → wn G - y < fu → ∃ σ', f_X0_countAll_26 fu (nI y) σ = some (lN (RR rl.reverse (wA G) (wN G) (we G) (wn G) (wM G)), σ') ∧ σ'.1 = σ.1 ∧ ∀ c, (c ≠ 77 ∧ c ≠ 79) → σ'.2 c = σ.2 c := by
  have hn := ho.1.2
  have hM : wM G < 128 := msk_lt _ 7
  intro fu
  induction fu with
  | zero => intro y σ _ _ _ h; omega
  | succ fu ih =>
    intro y σ h1 hI hy hfu
    rw [f_X0_countAll_26, h1.1.1.1]
    rcases Nat.lt_or_ge y (wn G) with q | q
    · obtain ⟨σ1, r1, r2, r3, r4, -, -⟩ := goF_eq ho h1 h2 q (-1) hI
      rw [if_neg (nI_ge q (by omega)), r1, bS, nI_1]
      obtain ⟨σ2, p1, p2, p3⟩ := ih (y + 1) σ1 (PrC_fr h1 r2 (r3 64 (by omega))) r4 (by omega) (by omega)
      exact ⟨σ2, p1, p2.trans r2, fun c hc => (p3 c hc).trans (r3 c hc)⟩
    · obtain rfl : y = wn G := by omega
      rw [if_pos (by rw [I_le]; omega), h1.1.1.2.2, cI_t (ix_nI hM (by decide)), nI_clamp (by omega), hI _ (fun _ h => h) (fun j hj => by
        rw [bgn_bit] at hj
        rw [M_bit ho]
        exact h2.1.2 j hj.2.1)]
      exact ⟨σ, rfl, rfl, fun _ _ => rfl⟩
noncomputable abbrev Cw (G : Wg) : Nat := CC (wn G) (wf G) (wm G) (wA G) (wN G) (we G)
theorem RR_0 {G : Wg} {rl : List Nat} {fb : Nat → Nat} {σ : St} : FwI (up2 (rw2 σ 77 (fun j => if j < 128 then 0 else σ.2 77 j)) 77 0 1) G rl fb 0 (RR rl.reverse (wA G) (wN G) (we G) 0) := fun S s1 _ => by
  have := sub_lt s1 (msk_lt (wm G) 7)
  show _ = lN (ind (S = 0))
  by_cases e : S = 0
  · subst e; rw [up2_eq, ind_t rfl]; rfl
  · rw [up2_ne (by omega), rw2_row, if_pos this, ind_f e]; rfl
theorem rev_all {G : Wg} {rl : List Nat} {fa fb : Nat → Nat} {ol : List Nat} (h2 : PrP G rl fa fb ol) (k : Nat) : k ∈ rl.reverse ↔ wm G k = true := by
  rw [List.mem_reverse]
  exact ⟨h2.1.2 k, h2.2.1 k⟩
/-- THE CLASS COUNTS -/
theorem countAll_eq {σ : St} {G : Wg} (ho : Okw G) (H : WgC σ G) : ∃ σ', f_X0_countAll σ = some (lN (Cw G), σ') ∧ (∀ c, (c < 70 ∨ 76 < c) → σ'.1 c = σ.1 c) ∧ ∀ c, (c ≠ 77 ∧ c ≠ 79) → σ'.2 c = σ.2 c := by
  have hn := ho.1
  obtain ⟨σ1, o, f1, g1⟩ := prepare_eq ho H
  unfold f_X0_countAll
  rcases o with ⟨o, z⟩ | ⟨rl, fa, fb, ol, o, h1, h2⟩
  · have : Cw G = 0 := z.elim (nil_zero ho) (ring_zero ho)
    rw [o, bS, if_pos rfl, this]
    exact ⟨σ1, rfl, f1, fun c _ => by rw [g1]⟩
  · rw [o, bS, if_neg one_ne, fill_Leq (by decide), bS, cI_t (by decide), z_0, ap]
    have hI0 : FwI (up2 (rw2 σ1 77 (fun j => if j < 128 then 0 else σ1.2 77 j)) 77 0 1) G rl fb 0 (RR rl.reverse (wA G) (wN G) (we G) 0) := RR_0
    have e1 : (up2 (rw2 σ1 77 (fun j => if j < 128 then 0 else σ1.2 77 j)) 77 0 1).1 = σ1.1 := rfl
    have e2 : ∀ c, c ≠ 77 → (up2 (rw2 σ1 77 (fun j => if j < 128 then 0 else σ1.2 77 j)) 77 0 1).2 c = σ1.2 c := fun c hc => by rw [up2_r hc]; exact (rw2_off c hc).2
    generalize up2 (rw2 σ1 77 (fun j => if j < 128 then 0 else σ1.2 77 j)) 77 0 1 = σ0 at hI0 e1 e2 ⊢
    obtain ⟨σ2, r1, r2, r3⟩ := ca_loop ho h2 FU 0 σ0 (PrC_fr h1 e1 (e2 64 (by omega))) hI0 (by omega) (FU_big (by omega))
    rw [show f_X0_countAll_26 FU 0 σ0 = _ from r1]
    unfold wM
    rw [RR_CC hn.1 (Okw_mem ho) h2.1.1 (rev_all h2)]
    refine ⟨σ2, rfl, fun c hc => by rw [r2, e1]; exact f1 c hc, fun c hc => ?_⟩
    rw [r3 c hc, e2 c hc.1, g1]
