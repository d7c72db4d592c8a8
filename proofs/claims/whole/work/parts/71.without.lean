/-! without -/
def mw (T : Tl) (i : Nat) : Nat → Bool := fun j => allm T j && !decide (j = i)
def hwo (T : Tl) (i : Nat) : Nat → Nat → Nat := fun a b => if a = i ∨ b = i then 0 else th T a b
def Gw (T : Tl) (i : Nat) : Wg := ((tn T, tf T), mw T i, wq T, (fun _ => 0), (fun _ => tn T), hwo T i)
theorem mw_iff {T : Tl} {i j : Nat} : mw T i j = true ↔ j < tf T ∧ j ≠ i := by
  unfold mw allm
  simp
theorem Okm_mw (T : Tl) (i : Nat) : Okm T (mw T i) := fun _ h => (mw_iff.mp h).1
theorem Okw_Gw {T : Tl} (ho : Okt T) (i : Nat) : Okw (Gw T i) := by
  obtain ⟨o1, o2, o3, o4, o5, o6, o7⟩ := Okw_G0 ho
  refine ⟨o1, o2, fun k hk => (mw_iff.mp hk).1, o4, o5, fun a b => ?_, fun a b => ?_⟩
  · show hwo T i a b ≤ 2
    unfold hwo
    by_cases c : a = i ∨ b = i
    · rw [if_pos c]; decide
    · rw [if_neg c]; exact o6 a b
  · show hwo T i a b ≠ 0 → mw T i a = true ∧ mw T i b = true ∧ a ≠ b
    unfold hwo
    by_cases c : a = i ∨ b = i
    · rw [if_pos c]; exact fun q => absurd rfl q
    · rw [if_neg c]
      intro q
      obtain ⟨p1, p2, p3⟩ := o7 a b q
      exact ⟨mw_iff.mpr ⟨Okm_all T a p1, fun e => c (Or.inl e)⟩, mw_iff.mpr ⟨Okm_all T b p2, fun e => c (Or.inr e)⟩, p3⟩
theorem leave_eq {σ0 σ : St} {T : Tl} (ho : Okt T) (h : CS σ0 σ (G0 T)) {i : Nat} (hi : i < tf T) : ∃ σ', f_X6_leaveOut (nI i) σ = some σ' ∧ CS σ0 σ' (Gw T i) := by
  have hf := ho.2.1
  have h7 : i < 7 := by omega
  have e63 : σ.1 63 2 = nI (msk (allm T) 7) := h.1.1.2.2
  obtain ⟨σ2, r1, r2, r3, r4⟩ := forget_eq (k0 := 67) h7 (σ := up1 σ 63 2 (nI (msk (mw T i) 7))) (h := th T) (by rw [up1_r (by omega), up1_r (by omega)]; exact h.1.2.2.2)
  unfold f_X6_leaveOut
  rw [e63, bC _ (msk_lt _ 7) i h7, msk_clr h7, ap, show f_X2_forget 67 (nI i) (up1 σ 63 2 (nI (msk (fun j => allm T j && !decide (j = i)) 7))) = some σ2 from r1, bS]
  refine ⟨σ2, rfl, ⟨⟨?_, ?_, ?_⟩, by rw [r3]; exact h.1.2.1, ?_, r2⟩, Okw_Gw ho i, h.2.2.tr ⟨fun c hc => by rw [r4 c (by omega), up1_r (by omega)], fun c _ => by rw [r3]; rfl⟩⟩
  · rw [r4 63 (by omega), up1_ne (by omega)]; exact h.1.1.1
  · rw [r4 63 (by omega), up1_ne (by omega)]; exact h.1.1.2.1
  · rw [r4 63 (by omega), up1_eq]; rfl
  · rw [r4 65 (by omega), r4 66 (by omega), up1_r (by omega), up1_r (by omega)]; exact h.1.2.2.1
theorem Cw_Gw {T : Tl} (ho : Okt T) {i : Nat} : Cw (Gw T i) = Cm T (mw T i) (wgt T) := by
  refine CC_congr (fun k hk _ y hy => ?_) (fun j k => ?_) (fun j k => ?_)
  · show (if 0 ≤ y ∧ y < tn T then (if k < tf T then wgt T k y else 0) else 0) = wgt T k y
    rw [if_pos ⟨Nat.zero_le y, hy⟩, if_pos (show k < tf T from hk)]
  · show (hwo T i j k = 1) ↔ (th T j k = 1 ∧ mw T i j = true ∧ mw T i k = true)
    unfold hwo
    by_cases c : j = i ∨ k = i
    · rw [if_pos c]
      refine ⟨fun q => absurd q (by decide), fun q => ?_⟩
      rcases c with c | c
      · exact absurd c (mw_iff.mp q.2.1).2
      · exact absurd c (mw_iff.mp q.2.2).2
    · rw [if_neg c]
      exact ⟨fun q => ⟨q, mw_iff.mpr ⟨(th_in ho (by decide) q).1, fun e => c (Or.inl e)⟩, mw_iff.mpr ⟨(th_in ho (by decide) q).2.1, fun e => c (Or.inr e)⟩⟩, fun q => q.1⟩
  · show (hwo T i j k = 2) ↔ (th T j k = 2 ∧ mw T i j = true ∧ mw T i k = true)
    unfold hwo
    by_cases c : j = i ∨ k = i
    · rw [if_pos c]
      refine ⟨fun q => absurd q (by decide), fun q => ?_⟩
      rcases c with c | c
      · exact absurd c (mw_iff.mp q.2.1).2
      · exact absurd c (mw_iff.mp q.2.2).2
    · rw [if_neg c]
      exact ⟨fun q => ⟨q, mw_iff.mpr ⟨(th_in ho (by decide) q).1, fun e => c (Or.inl e)⟩, mw_iff.mpr ⟨(th_in ho (by decide) q).2.1, fun e => c (Or.inr e)⟩⟩, fun q => q.1⟩
theorem ag_without : Ag_without Rel := by
  rintro a0 σ τ ⟨T, H⟩
  unfold f_X7_without f_X8_without
  rcases isFind_c (x := a0) H.1.2.1 H.2.1.1.2 H.2.2.1.1.2 with ⟨e1, e2⟩ | ⟨i, hi, rfl, e1, e2⟩
  · rw [e1, e2]
    exact ⟨-2, σ, τ, rfl, rfl, T, H⟩
  · rw [e1, e2, bS, bS, if_neg one_ne, if_neg one_ne]
    have hf := H.1.2.1
    have h7 : i < 7 := by omega
    obtain ⟨σ1, a1, a2⟩ := weigh_eq H.1 (by decide) H.2.1
    have b1 := bigM_eq H.1 (Okm_all T) H.2.2.1
    rw [show BigQ (sW T) (allm T) (tf T) = bigT T from rfl] at b1
    have b2 := bigM_eq H.1 (Okm_mw T i) H.2.2.1
    rw [a1, bS, all_eq H.1 H.2.2.1, bS, ap, all_eq H.1 H.2.2.1, bS, b1, bS, bC _ (msk_lt _ 7) i h7, msk_clr h7]
    cases hb : bigT T with
    | true => exact ⟨-5, σ1, τ, rfl, rfl, T, RelT_same a2.2.2.C SameN.rf.M H⟩
    | false =>
      have hle := TT_le H.1 hb
      obtain ⟨σ2, c1, c2⟩ := leave_eq H.1 a2 hi
      have hs : ∀ k, k < wf (Gw T i) → sm (wv (Gw T i) k) (wn (Gw T i)) = sW T k := fun k hk => sm_congr (fun y _ => by
        show (if k < tf T then wgt T k y else 0) = wgt T k y
        rw [if_pos (show k < tf T from hk)])
      have d1 := bigC_eq c2.2.1 c2.1 (fun k hk => by rw [hs k hk]; exact sW_lt H.1 hk)
      have bb : BigQ (fun k => sm (wv (Gw T i) k) (wn (Gw T i))) (wm (Gw T i)) (wf (Gw T i)) = BigQ (sW T) (mw T i) (tf T) := by
        unfold BigQ
        rw [bst_congr (s' := sW T) (fun k hk => hs k hk)]
        rfl
      rw [bb] at d1
      rw [if_neg (by decide : ¬ false = true), if_pos (show (0 : Int64) ≤ lN (TT T) from (pk_lLE (a := 0) (by decide) (by omega)).mpr (Nat.zero_le _)), c1, bS, d1, bS, if_pos (show bI false = 0 by decide), show f_X8_isBig (nI (msk (fun j => allm T j && !decide (j = i)) 7)) τ = _ from b2, bS]
      cases hb2 : BigQ (sW T) (mw T i) (tf T) with
      | true => exact ⟨-5, σ2, τ, rfl, rfl, T, RelT_same c2.2.2.C SameN.rf.M H⟩
      | false =>
        obtain ⟨σ3, g1, g2⟩ := CS_count c2
        rw [Cw_Gw H.1] at g1
        have hle2 : Cm T (mw T i) (wgt T) ≤ 4000000000000000 := CC_big (by have := H.1.1.1; omega) hb2
        obtain ⟨τ1, τ2, k1, k2, k3, k4, -, -⟩ := totM H.1 H.2.2.1
        have t2 := k4.tel H.2.2.1
        obtain ⟨τ3, l1, l2, l3, l4, l5⟩ := laym_eq H.1 (Okm_mw T i) t2
        have s3 : SameN τ2 τ3 := ⟨fun c c1 c2 => l3 c (by omega), l4, by rw [l5 0 (by omega)]⟩
        obtain ⟨τ4, m1, m2, m3⟩ := count_eq H.1 (Okm_mw T i) l2 (s3.tel t2).1.1
        have s4 : SameN τ τ4 := k4.tr (s3.tr ⟨fun c _ _ => by rw [m2], fun j _ => by rw [m2], by rw [m3 0 (by omega)]⟩)
        rw [if_pos (show bI false = 0 by decide), g1, bS, if_pos (show bI false = 0 by decide), all_eq H.1 H.2.2.1, bS, k1, bS, k2, bS, show f_X8_lay_ (nI (msk (fun j => allm T j && !decide (j = i)) 7)) τ2 = _ from l1, bS, m1, bS]
        by_cases z : Cm T (mw T i) (wgt T) = 0
        · rw [if_pos ((lN_0 (by omega)).mpr z), if_pos ((lN_0 (by omega)).mpr z)]
          exact ⟨-4, σ3, τ4, rfl, rfl, T, RelT_same g2.2.2.C s4.M H⟩
        · rw [if_neg (fun e => z ((lN_0 (by omega)).mp e)), if_neg (fun e => z ((lN_0 (by omega)).mp e))]
          obtain ⟨r, σ5, τ5, p1, p2, p3⟩ := frac_fin H g2.2.2 s4 (a := TT T) (b := Cm T (mw T i) (wgt T)) (by omega) (by omega) (by omega)
          rw [p1, p2]
          exact ⟨r, σ5, τ5, rfl, rfl, p3⟩
