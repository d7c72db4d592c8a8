section
variable {p : Program} {l : Launch} {e : Env} {s : State} {m : MethodId} {args : Array Value} {below : List Frame} {meth : Method} {c : Code} {D : va_G} {ca : Nat → ClassId} {ad : Nat → Nat}
def f_X6_weightAt (x1 : Int32) (x2 : Int32) (σ : St) : Option (Int64 × St) := cI (ix x1 7) ((if x2 < (σ.1 65 x1.toNatClampNeg) then some ((0 : Int64), σ) else cI (ix x1 7) ((if x2 ≤ (σ.1 66 x1.toNatClampNeg) then cI (ix ((x1 * (40 : Int32)) + x2) 280) (some ((σ.2 64 ((x1 * (40 : Int32)) + x2).toNatClampNeg), σ)) else some ((0 : Int64), σ)))))
set_option maxRecDepth 20000 in
theorem m_X6_weightAt {l : Launch} {D : va_G} {ca : Nat → ClassId} {ad : Nat → Nat} {x1 : Int32} {x2 : Int32} {σ : St} {R : Int64 × St} (h : f_X6_weightAt x1 x2 σ = some R) : gM l D ca ad 91 LC yX6_weightAt cX6_weightAt 3 (some .long) rm_X6_weightAt [.ref 63, .int x1, .int x2] σ (some (.long R.1)) R.2 := by
  refine gM_of (by decide) (Nat.le_of_ble_eq_true rfl) (fun p e s m args below meth c C => ?_)
  refine g_ent (ls' := [(0, .ref 63), (1, .int x1), (2, .int x2)]) rfl ?_
  unfold f_X6_weightAt at h
  refine g_iload_n C 2 dX6_weightAt_0 rfl ?_
  refine g_aload_n C 0 dX6_weightAt_1 rfl ?_
  refine g_getR C 4 65 rfl q_X6_25 rfl rfl dX6_weightAt_2 ?_
  refine g_iload_n C 1 dX6_weightAt_5 rfl ?_
  obtain ⟨hi1, h⟩ := cI_some h
  refine g_iald C 7 rfl ho_11 hi1 dX6_weightAt_6 ?_
  refine g_icmp_lt C 20 dX6_weightAt_7 (by decide) (fun hc2 => ?_) (fun hc2 => ?_)
  · have h := ite_t hc2 h
    refine g_lconst C (0 : Int64) dX6_weightAt_20 rfl ?_
    refine g_goto C 35 dX6_weightAt_21 (by decide) ?_
    obtain rfl := Option.some.inj h
    exact g_lret C dX6_weightAt_35
  · have h := ite_f hc2 h
    refine g_iload_n C 2 dX6_weightAt_10 rfl ?_
    refine g_aload_n C 0 dX6_weightAt_11 rfl ?_
    refine g_getR C 5 66 rfl q_X6_29 rfl rfl dX6_weightAt_12 ?_
    refine g_iload_n C 1 dX6_weightAt_15 rfl ?_
    obtain ⟨hi3, h⟩ := cI_some h
    refine g_iald C 7 rfl ho_11 hi3 dX6_weightAt_16 ?_
    refine g_icmp_le C 24 dX6_weightAt_17 (by decide) (fun hc4 => ?_) (fun hc4 => ?_)
    · have h := ite_t hc4 h
      refine g_aload_n C 0 dX6_weightAt_24 rfl ?_
      refine g_getR C 3 64 rfl q_X6_21 rfl rfl dX6_weightAt_25 ?_
      refine g_iload_n C 1 dX6_weightAt_28 rfl ?_
      refine g_bipush C (40 : Int32) dX6_weightAt_29 rfl ?_
      refine g_imul C dX6_weightAt_31 ?_
      refine g_iload_n C 2 dX6_weightAt_32 rfl ?_
      refine g_iadd C dX6_weightAt_33 ?_
      obtain ⟨hi5, h⟩ := cI_some h
      refine g_lald C 280 rfl ho_19 hi5 dX6_weightAt_34 ?_
      obtain rfl := Option.some.inj h
      exact g_lret C dX6_weightAt_35
    · have h := ite_f hc4 h
      refine g_lconst C (0 : Int64) dX6_weightAt_20 rfl ?_
      refine g_goto C 35 dX6_weightAt_21 (by decide) ?_
      obtain rfl := Option.some.inj h
      exact g_lret C dX6_weightAt_35
def f_X6_isMember (x1 : Int32) (σ : St) : Option (Int32 × St) := (if (((σ.1 63 2) >>> (x1 &&& 31)) &&& (1 : Int32)) = 0 then some ((0 : Int32), σ) else some ((1 : Int32), σ))
set_option maxRecDepth 20000 in
theorem m_X6_isMember {l : Launch} {D : va_G} {ca : Nat → ClassId} {ad : Nat → Nat} {x1 : Int32} {σ : St} {R : Int32 × St} (h : f_X6_isMember x1 σ = some R) : gM l D ca ad 91 LC yX6_isMember cX6_isMember 2 (some .boolean) rm_X6_isMember [.ref 63, .int x1] σ (some (.int R.1)) R.2 := by
  refine gM_of (by decide) (Nat.le_of_ble_eq_true rfl) (fun p e s m args below meth c C => ?_)
  refine g_ent (ls' := [(0, .ref 63), (1, .int x1)]) rfl ?_
  unfold f_X6_isMember at h
  refine g_aload_n C 0 dX6_isMember_0 rfl ?_
  refine g_getI C 2 rfl q_X6_18 rfl dX6_isMember_1 ?_
  refine g_iload_n C 1 dX6_isMember_4 rfl ?_
  refine g_ishr C dX6_isMember_5 ?_
  refine g_iconst C (1 : Int32) dX6_isMember_6 rfl ?_
  refine g_iand C dX6_isMember_7 ?_
  refine g_if_eq C 15 dX6_isMember_8 (by decide) (fun hc1 => ?_) (fun hc1 => ?_)
  · have h := ite_t hc1 h
    refine g_iconst C (0 : Int32) dX6_isMember_15 rfl ?_
    obtain rfl := Option.some.inj h
    exact g_zret C nz0 dX6_isMember_16
  · have h := ite_f hc1 h
    refine g_iconst C (1 : Int32) dX6_isMember_11 rfl ?_
    refine g_goto C 16 dX6_isMember_12 (by decide) ?_
    obtain rfl := Option.some.inj h
    exact g_zret C nz1 dX6_isMember_16
def f_X5_copyFrom_48 (kk77 : Nat → Nat → St → Option (St)) : Nat → Nat → Nat → Int32 → St → Option (St)
  | 0, _, _, _, _ => none
  | n + 1, k0, k1, x2, σ => (if (σ.1 k1 3) ≤ x2 then kk77 k0 k1 σ else cI (ix x2 7) (cI (ix x2 7) ((f_X1_copyFrom ((k0 + 3) + 4 + 3 * x2.toNatClampNeg) ((k1 + 3) + 4 + 3 * x2.toNatClampNeg) σ).bind (fun q4 => (f_X5_copyFrom_48 kk77 n) k0 k1 (x2 + (1 : Int32)) q4))))
set_option maxRecDepth 20000 in
theorem s_X5_copyFrom_48 {R : St} (C : gC p s m args meth c D ca ad 91 LC RX5 cX5_copyFrom 3 none) {kk77 : Nat → Nat → St → Option (St)} (HK77 : ∀ (k0 : Nat) (hk0 : LC k0 = 5) (k1 : Nat) (hk1 : LC k1 = 5) (σ : St), kk77 k0 k1 σ = some R → G p l e rm_X5_copyFrom s m args below meth c D ca ad 91 LC 3 (gEnd below args s D ca ad 91 LC none R) 77 [(0, .ref k0), (1, .ref k1)] [] σ) : ∀ (n : Nat) (k0 : Nat) (hk0 : LC k0 = 5) (k1 : Nat) (hk1 : LC k1 = 5) (x2 : Int32) (σ : St), f_X5_copyFrom_48 kk77 n k0 k1 x2 σ = some R → G p l e rm_X5_copyFrom s m args below meth c D ca ad 91 LC 3 (gEnd below args s D ca ad 91 LC none R) 48 [(0, .ref k0), (1, .ref k1), (2, .int x2)] [] σ := by
  intro n
  induction n with
  | zero =>
    intro k0 hk0 k1 hk1 x2 σ h
    have h : none = some R := h
    cases h
  | succ n ih =>
    intro k0 hk0 k1 hk1 x2 σ h
    rw [f_X5_copyFrom_48] at h
    refine g_iload_n C 2 dX5_copyFrom_48 rfl ?_
    refine g_aload_n C 1 dX5_copyFrom_49 rfl ?_
    refine g_getI C 3 hk1 q_X5_22 rfl dX5_copyFrom_50 ?_
    refine g_icmp_ge C 77 dX5_copyFrom_53 (by decide) (fun hc1 => ?_) (fun hc1 => ?_)
    · have h := ite_t hc1 h
      exact g_sub [0, 1] rfl (HK77 k0 hk0 k1 hk1 σ h)
    · have h := ite_f hc1 h
      refine g_aload_n C 0 dX5_copyFrom_56 rfl ?_
      refine g_getR C 4 (k0 + 3) hk0 q_X5_27 rfl rfl dX5_copyFrom_57 ?_
      refine g_iload_n C 2 dX5_copyFrom_60 rfl ?_
      obtain ⟨hi2, h⟩ := cI_some h
      refine g_aald3 C (sc_5_4 hk0) ho_22 hi2 dX5_copyFrom_61 ?_
      refine g_aload_n C 1 dX5_copyFrom_62 rfl ?_
      refine g_getR C 4 (k1 + 3) hk1 q_X5_27 rfl rfl dX5_copyFrom_63 ?_
      refine g_iload_n C 2 dX5_copyFrom_66 rfl ?_
      obtain ⟨hi3, h⟩ := cI_some h
      refine g_aald3 C (sc_5_4 hk1) ho_22 hi3 dX5_copyFrom_67 ?_
      obtain ⟨q4, hq4, h⟩ := bd h
      refine g_callVV C [.ref ((k1 + 3) + 4 + 3 * x2.toNatClampNeg)] qv_X5_51 (m_X1_copyFrom (sc_f (sc_5_4 hk0) (ix_lt hi2)) (sc_f (sc_5_4 hk1) (ix_lt hi3)) hq4) (sc_f (sc_5_4 hk0) (ix_lt hi2)) (by decide) rfl rfl rfl ⟨rfl, rfl⟩ ⟨by decide, by decide⟩ (Nat.le_of_ble_eq_true rfl) dX5_copyFrom_68 ?_
      refine g_iinc C 2 [(2, .int (x2 + (1 : Int32))), (0, .ref k0), (1, .ref k1)] dX5_copyFrom_71 rfl rfl (by decide) rfl ?_
      refine g_goto C 48 dX5_copyFrom_74 (by decide) ?_
      exact g_sub [1, 2, 0] rfl (ih k0 hk0 k1 hk1 (x2 + (1 : Int32)) q4 h)
def f_X5_copyFrom_77 (k0 : Nat) (k1 : Nat) (σ : St) : Option (St) := (f_X2_copyFrom (k0 + 4) (k1 + 4) σ).bind (fun q1 => some q1)
set_option maxRecDepth 20000 in
theorem s_X5_copyFrom_77 {R : St} (C : gC p s m args meth c D ca ad 91 LC RX5 cX5_copyFrom 3 none) (k0 : Nat) (hk0 : LC k0 = 5) (k1 : Nat) (hk1 : LC k1 = 5) (σ : St) (h : f_X5_copyFrom_77 k0 k1 σ = some R) : G p l e rm_X5_copyFrom s m args below meth c D ca ad 91 LC 3 (gEnd below args s D ca ad 91 LC none R) 77 [(0, .ref k0), (1, .ref k1)] [] σ := by
  unfold f_X5_copyFrom_77 at h
  refine g_aload_n C 0 dX5_copyFrom_77 rfl ?_
  refine g_getR C 5 (k0 + 4) hk0 q_X5_34 rfl rfl dX5_copyFrom_78 ?_
  refine g_aload_n C 1 dX5_copyFrom_81 rfl ?_
  refine g_getR C 5 (k1 + 4) hk1 q_X5_34 rfl rfl dX5_copyFrom_82 ?_
  obtain ⟨q1, hq1, h⟩ := bd h
  refine g_callVV C [.ref (k1 + 4)] qv_X5_55 (m_X2_copyFrom (sc_5_5 hk0) (sc_5_5 hk1) hq1) (sc_5_5 hk0) (by decide) rfl rfl rfl ⟨rfl, rfl⟩ ⟨by decide, by decide⟩ (Nat.le_of_ble_eq_true rfl) dX5_copyFrom_85 ?_
  obtain rfl := Option.some.inj h
  exact g_vret C dX5_copyFrom_88
def f_X5_copyFrom (k0 : Nat) (k1 : Nat) (σ : St) : Option (St) := ap (up1 σ k0 0 (σ.1 k1 0)) fun σ1 => cI (cpk (0 : Int32) (0 : Int32) (40 : Int32) 40 40) (ap (rw1 σ1 (k0 + 1) (va_cpy (σ1.1 (k1 + 1)) (σ1.1 (k0 + 1)) (0 : Int32).toNatClampNeg (0 : Int32).toNatClampNeg (40 : Int32).toNatClampNeg)) fun σ3 => cI (cpk (0 : Int32) (0 : Int32) (21 : Int32) 21 21) (ap (rw1 σ3 (k0 + 2) (va_cpy (σ3.1 (k1 + 2)) (σ3.1 (k0 + 2)) (0 : Int32).toNatClampNeg (0 : Int32).toNatClampNeg (21 : Int32).toNatClampNeg)) fun σ5 => ap (up1 σ5 k0 3 (σ5.1 k1 3)) fun σ6 => (f_X5_copyFrom_48 (f_X5_copyFrom_77) FU) k0 k1 (0 : Int32) σ6))
set_option maxRecDepth 20000 in
theorem m_X5_copyFrom {l : Launch} {D : va_G} {ca : Nat → ClassId} {ad : Nat → Nat} {k0 : Nat} {k1 : Nat} {σ : St} {R : St} (hk0 : LC k0 = 5) (hk1 : LC k1 = 5) (h : f_X5_copyFrom k0 k1 σ = some R) : gM l D ca ad 91 LC yX5_copyFrom cX5_copyFrom 3 none rm_X5_copyFrom [.ref k0, .ref k1] σ none R := by
  refine gM_of (by decide) (Nat.le_of_ble_eq_true rfl) (fun p e s m args below meth c C => ?_)
  refine g_ent (ls' := [(0, .ref k0), (1, .ref k1)]) rfl ?_
  unfold f_X5_copyFrom at h
  refine g_aload_n C 0 dX5_copyFrom_0 rfl ?_
  refine g_aload_n C 1 dX5_copyFrom_1 rfl ?_
  refine g_getI C 0 hk1 q_X5_9 rfl dX5_copyFrom_2 ?_
  refine g_putI C 0 hk0 qp_X5_9 rfl dX5_copyFrom_5 ?_
  refine g_nmS (fun σ1 eσ1 => ?_)
  have h := ap_at eσ1 h
  refine g_aload_n C 1 dX5_copyFrom_8 rfl ?_
  refine g_getR C 1 (k1 + 1) hk1 q_X5_15 rfl rfl dX5_copyFrom_9 ?_
  refine g_iconst C (0 : Int32) dX5_copyFrom_12 rfl ?_
  refine g_aload_n C 0 dX5_copyFrom_13 rfl ?_
  refine g_getR C 1 (k0 + 1) hk0 q_X5_15 rfl rfl dX5_copyFrom_14 ?_
  refine g_iconst C (0 : Int32) dX5_copyFrom_17 rfl ?_
  refine g_bipush C (40 : Int32) dX5_copyFrom_18 rfl ?_
  obtain ⟨hz2, h⟩ := cI_some h
  refine g_copyI C 40 40 qa_X5_45 (sc_5_1 hk1) ho_14 (sc_5_1 hk0) ho_14 hz2 (by decide) (Nat.le_of_ble_eq_true rfl) dX5_copyFrom_20 ?_
  refine g_nmS (fun σ3 eσ3 => ?_)
  have h := ap_at eσ3 h
  refine g_aload_n C 1 dX5_copyFrom_23 rfl ?_
  refine g_getR C 2 (k1 + 2) hk1 q_X5_19 rfl rfl dX5_copyFrom_24 ?_
  refine g_iconst C (0 : Int32) dX5_copyFrom_27 rfl ?_
  refine g_aload_n C 0 dX5_copyFrom_28 rfl ?_
  refine g_getR C 2 (k0 + 2) hk0 q_X5_19 rfl rfl dX5_copyFrom_29 ?_
  refine g_iconst C (0 : Int32) dX5_copyFrom_32 rfl ?_
  refine g_bipush C (21 : Int32) dX5_copyFrom_33 rfl ?_
  obtain ⟨hz4, h⟩ := cI_some h
  refine g_copyI C 21 21 qa_X5_45 (sc_5_2 hk1) ho_13 (sc_5_2 hk0) ho_13 hz4 (by decide) (Nat.le_of_ble_eq_true rfl) dX5_copyFrom_35 ?_
  refine g_nmS (fun σ5 eσ5 => ?_)
  have h := ap_at eσ5 h
  refine g_aload_n C 0 dX5_copyFrom_38 rfl ?_
  refine g_aload_n C 1 dX5_copyFrom_39 rfl ?_
  refine g_getI C 3 hk1 q_X5_22 rfl dX5_copyFrom_40 ?_
  refine g_putI C 3 hk0 qp_X5_22 rfl dX5_copyFrom_43 ?_
  refine g_nmS (fun σ6 eσ6 => ?_)
  have h := ap_at eσ6 h
  refine g_iconst C (0 : Int32) dX5_copyFrom_46 rfl ?_
  refine g_istore_n C [(2, .int (0 : Int32)), (0, .ref k0), (1, .ref k1)] dX5_copyFrom_47 (by decide) rfl ?_
  exact g_sub [1, 2, 0] rfl ((s_X5_copyFrom_48 C (s_X5_copyFrom_77 C) FU) k0 hk0 k1 hk1 (0 : Int32) σ6 h)
def f_X5_plainOfAges_5 : Nat → Nat → Nat → Int32 → Int32 → Int32 → St → Option (Int32 × St)
  | 0, _, _, _, _, _, _ => none
  | n + 1, k0, k1, x2, x3, x4, σ => (if (σ.1 k1 2) ≤ x4 then some (x3, σ) else cI (ix x4 5) (ap (x2 + (σ.1 (k1 + 2) x4.toNatClampNeg)) fun z3 => (if z3 < 0 then some ((0 : Int32), σ) else (if z3 < (σ.1 k0 0) then cI (ix x4 5) (cI (ix z3 40) (ap (iabs ((σ.1 (k1 + 1) x4.toNatClampNeg) - (σ.1 (k0 + 1) z3.toNatClampNeg))) fun z8 => (if z8 ≤ (20 : Int32) then cI (ix z8 21) (ap (x3 * (σ.1 (k0 + 2) z8.toNatClampNeg)) fun z11 => (f_X5_plainOfAges_5 n) k0 k1 x2 z11 (x4 + (1 : Int32)) σ) else some ((0 : Int32), σ)))) else some ((0 : Int32), σ)))))
set_option maxRecDepth 20000 in
theorem s_X5_plainOfAges_5 {R : Int32 × St} (C : gC p s m args meth c D ca ad 91 LC RX5 cX5_plainOfAges 7 (some .int)) : ∀ (n : Nat) (k0 : Nat) (hk0 : LC k0 = 5) (k1 : Nat) (hk1 : LC k1 = 1) (x2 : Int32) (x3 : Int32) (x4 : Int32) (σ : St), f_X5_plainOfAges_5 n k0 k1 x2 x3 x4 σ = some R → G p l e rm_X5_plainOfAges s m args below meth c D ca ad 91 LC 7 (gEnd below args s D ca ad 91 LC (some (.int R.1)) R.2) 5 [(0, .ref k0), (1, .ref k1), (2, .int x2), (3, .int x3), (4, .int x4)] [] σ := by
  intro n
  induction n with
  | zero =>
    intro k0 hk0 k1 hk1 x2 x3 x4 σ h
    have h : none = some R := h
    cases h
  | succ n ih =>
    intro k0 hk0 k1 hk1 x2 x3 x4 σ h
    rw [f_X5_plainOfAges_5] at h
    refine g_iload C 4 dX5_plainOfAges_5 rfl ?_
    refine g_aload_n C 1 dX5_plainOfAges_7 rfl ?_
    refine g_getI C 2 hk1 q_X5_68 rfl dX5_plainOfAges_8 ?_
    refine g_icmp_ge C 86 dX5_plainOfAges_11 (by decide) (fun hc1 => ?_) (fun hc1 => ?_)
    · have h := ite_t hc1 h
      refine g_iload_n C 3 dX5_plainOfAges_86 rfl ?_
      obtain rfl := Option.some.inj h
      exact g_iret C dX5_plainOfAges_87
    · have h := ite_f hc1 h
      refine g_iload_n C 2 dX5_plainOfAges_14 rfl ?_
      refine g_aload_n C 1 dX5_plainOfAges_15 rfl ?_
      refine g_getR C 4 (k1 + 2) hk1 q_X5_71 rfl rfl dX5_plainOfAges_16 ?_
      refine g_iload C 4 dX5_plainOfAges_19 rfl ?_
      obtain ⟨hi2, h⟩ := cI_some h
      refine g_iald C 5 (sc_1_4 hk1) ho_10 hi2 dX5_plainOfAges_21 ?_
      refine g_iadd C dX5_plainOfAges_22 ?_
      refine g_nmI (fun z3 ez3 => ?_)
      have h := ap_at ez3 h
      refine g_istore C [(5, .int z3), (0, .ref k0), (1, .ref k1), (2, .int x2), (3, .int x3), (4, .int x4)] dX5_plainOfAges_23 (by decide) rfl ?_
      refine g_iload C 0 dX5_plainOfAges_25 rfl ?_
      refine g_if_lt C 39 dX5_plainOfAges_27 (by decide) (fun hc4 => ?_) (fun hc4 => ?_)
      · have h := ite_t hc4 h
        refine g_iconst C (0 : Int32) dX5_plainOfAges_39 rfl ?_
        obtain rfl := Option.some.inj h
        exact g_iret C dX5_plainOfAges_40
      · have h := ite_f hc4 h
        refine g_iload C 0 dX5_plainOfAges_30 rfl ?_
        refine g_aload_n C 1 dX5_plainOfAges_32 rfl ?_
        refine g_getI C 0 hk0 q_X5_9 rfl dX5_plainOfAges_33 ?_
        refine g_icmp_lt C 41 dX5_plainOfAges_36 (by decide) (fun hc5 => ?_) (fun hc5 => ?_)
        · have h := ite_t hc5 h
          refine g_aload_n C 2 dX5_plainOfAges_41 rfl ?_
          refine g_getR C 3 (k1 + 1) hk1 q_X5_61 rfl rfl dX5_plainOfAges_42 ?_
          refine g_iload C 5 dX5_plainOfAges_45 rfl ?_
          obtain ⟨hi6, h⟩ := cI_some h
          refine g_iald C 5 (sc_1_3 hk1) ho_10 hi6 dX5_plainOfAges_47 ?_
          refine g_aload_n C 1 dX5_plainOfAges_48 rfl ?_
          refine g_getR C 1 (k0 + 1) hk0 q_X5_15 rfl rfl dX5_plainOfAges_49 ?_
          refine g_iload C 0 dX5_plainOfAges_52 rfl ?_
          obtain ⟨hi7, h⟩ := cI_some h
          refine g_iald C 40 (sc_5_1 hk0) ho_14 hi7 dX5_plainOfAges_54 ?_
          refine g_isub C dX5_plainOfAges_55 ?_
          refine g_abs C qx_X5_74 (by decide) (Nat.le_of_ble_eq_true rfl) (Nat.zero_le _) (Nat.zero_le _) dX5_plainOfAges_56 ?_
          refine g_nmI (fun z8 ez8 => ?_)
          have h := ap_at ez8 h
          refine g_istore C [(6, .int z8), (5, .int z3), (0, .ref k0), (1, .ref k1), (2, .int x2), (3, .int x3), (4, .int x4)] dX5_plainOfAges_59 (by decide) rfl ?_
          refine g_iload C 0 dX5_plainOfAges_61 rfl ?_
          refine g_bipush C (20 : Int32) dX5_plainOfAges_63 rfl ?_
          refine g_icmp_le C 70 dX5_plainOfAges_65 (by decide) (fun hc9 => ?_) (fun hc9 => ?_)
          · have h := ite_t hc9 h
            refine g_iload_n C 5 dX5_plainOfAges_70 rfl ?_
            refine g_aload_n C 2 dX5_plainOfAges_71 rfl ?_
            refine g_getR C 2 (k0 + 2) hk0 q_X5_19 rfl rfl dX5_plainOfAges_72 ?_
            refine g_iload C 0 dX5_plainOfAges_75 rfl ?_
            obtain ⟨hi10, h⟩ := cI_some h
            refine g_iald C 21 (sc_5_2 hk0) ho_13 hi10 dX5_plainOfAges_77 ?_
            refine g_imul C dX5_plainOfAges_78 ?_
            refine g_nmI (fun z11 ez11 => ?_)
            have h := ap_at ez11 h
            refine g_istore_n C [(3, .int z11), (6, .int z8), (5, .int z3), (0, .ref k0), (1, .ref k1), (2, .int x2), (4, .int x4)] dX5_plainOfAges_79 (by decide) rfl ?_
            refine g_iinc C 6 [(4, .int (x4 + (1 : Int32))), (3, .int z11), (6, .int z8), (5, .int z3), (0, .ref k0), (1, .ref k1), (2, .int x2)] dX5_plainOfAges_80 rfl rfl (by decide) rfl ?_
            refine g_goto C 5 dX5_plainOfAges_83 (by decide) ?_
            exact g_sub [4, 5, 6, 1, 0] rfl (ih k0 hk0 k1 hk1 x2 z11 (x4 + (1 : Int32)) σ h)
          · have h := ite_f hc9 h
            refine g_iconst C (0 : Int32) dX5_plainOfAges_68 rfl ?_
            obtain rfl := Option.some.inj h
            exact g_iret C dX5_plainOfAges_69
        · have h := ite_f hc5 h
          refine g_iconst C (0 : Int32) dX5_plainOfAges_39 rfl ?_
          obtain rfl := Option.some.inj h
          exact g_iret C dX5_plainOfAges_40
def f_X5_plainOfAges (k0 : Nat) (k1 : Nat) (x2 : Int32) (σ : St) : Option (Int32 × St) := (f_X5_plainOfAges_5 FU) k0 k1 x2 (1 : Int32) (0 : Int32) σ
set_option maxRecDepth 20000 in
theorem m_X5_plainOfAges {l : Launch} {D : va_G} {ca : Nat → ClassId} {ad : Nat → Nat} {k0 : Nat} {k1 : Nat} {x2 : Int32} {σ : St} {R : Int32 × St} (hk0 : LC k0 = 5) (hk1 : LC k1 = 1) (h : f_X5_plainOfAges k0 k1 x2 σ = some R) : gM l D ca ad 91 LC yX5_plainOfAges cX5_plainOfAges 7 (some .int) rm_X5_plainOfAges [.ref k0, .ref k1, .int x2] σ (some (.int R.1)) R.2 := by
  refine gM_of (by decide) (Nat.le_of_ble_eq_true rfl) (fun p e s m args below meth c C => ?_)
  refine g_ent (ls' := [(0, .ref k0), (1, .ref k1), (2, .int x2)]) rfl ?_
  unfold f_X5_plainOfAges at h
  refine g_iconst C (1 : Int32) dX5_plainOfAges_0 rfl ?_
  refine g_istore_n C [(3, .int (1 : Int32)), (0, .ref k0), (1, .ref k1), (2, .int x2)] dX5_plainOfAges_1 (by decide) rfl ?_
  refine g_iconst C (0 : Int32) dX5_plainOfAges_2 rfl ?_
  refine g_istore C [(4, .int (0 : Int32)), (3, .int (1 : Int32)), (0, .ref k0), (1, .ref k1), (2, .int x2)] dX5_plainOfAges_3 (by decide) rfl ?_
  exact g_sub [2, 3, 4, 1, 0] rfl ((s_X5_plainOfAges_5 C FU) k0 hk0 k1 hk1 x2 (1 : Int32) (0 : Int32) σ h)
def f_X5_plainAt (k0 : Nat) (k1 : Nat) (x2 : Int32) (σ : St) : Option (Int32 × St) := (if (σ.1 k1 0) = (2 : Int32) then some ((1 : Int32), σ) else (if (σ.1 k1 0) = (3 : Int32) then cI (ix (0 : Int32) 5) ((if (σ.1 (k1 + 1) (0 : Int32).toNatClampNeg) = x2 then some ((1 : Int32), σ) else some ((0 : Int32), σ))) else (f_X5_plainOfAges k0 k1 x2 σ).bind (fun q6 => some (q6.1, q6.2))))
set_option maxRecDepth 20000 in
theorem m_X5_plainAt {l : Launch} {D : va_G} {ca : Nat → ClassId} {ad : Nat → Nat} {k0 : Nat} {k1 : Nat} {x2 : Int32} {σ : St} {R : Int32 × St} (hk0 : LC k0 = 5) (hk1 : LC k1 = 1) (h : f_X5_plainAt k0 k1 x2 σ = some R) : gM l D ca ad 91 LC yX5_plainAt cX5_plainAt 3 (some .int) rm_X5_plainAt [.ref k0, .ref k1, .int x2] σ (some (.int R.1)) R.2 := by
  refine gM_of (by decide) (Nat.le_of_ble_eq_true rfl) (fun p e s m args below meth c C => ?_)
  refine g_ent (ls' := [(0, .ref k0), (1, .ref k1), (2, .int x2)]) rfl ?_
  unfold f_X5_plainAt at h
  refine g_aload_n C 1 dX5_plainAt_0 rfl ?_
  refine g_getI C 0 hk1 q_X5_58 rfl dX5_plainAt_1 ?_
  by_cases hc2 : (σ.1 k1 0) = (2 : Int32)
  · have h := ite_t hc2 h
    refine g_lookup C 32 dX5_plainAt_4 rfl (by rw [hc2] <;> rfl) (by decide) ?_
    refine g_iconst C (1 : Int32) dX5_plainAt_32 rfl ?_
    obtain rfl := Option.some.inj h
    exact g_iret C dX5_plainAt_33
  · have h := ite_f hc2 h
    by_cases hc3 : (σ.1 k1 0) = (3 : Int32)
    · have h := ite_t hc3 h
      refine g_lookup C 34 dX5_plainAt_4 rfl (by rw [hc3] <;> rfl) (by decide) ?_
      refine g_aload_n C 1 dX5_plainAt_34 rfl ?_
      refine g_getR C 3 (k1 + 1) hk1 q_X5_61 rfl rfl dX5_plainAt_35 ?_
      refine g_iconst C (0 : Int32) dX5_plainAt_38 rfl ?_
      obtain ⟨hi4, h⟩ := cI_some h
      refine g_iald C 5 (sc_1_3 hk1) ho_10 hi4 dX5_plainAt_39 ?_
      refine g_iload_n C 2 dX5_plainAt_40 rfl ?_
      refine g_icmp_ne C 48 dX5_plainAt_41 (by decide) (fun hc5 => ?_) (fun hc5 => ?_)
      · have h := ite_f hc5 h
        refine g_iconst C (0 : Int32) dX5_plainAt_48 rfl ?_
        obtain rfl := Option.some.inj h
        exact g_iret C dX5_plainAt_49
      · have h := ite_t hc5 h
        refine g_iconst C (1 : Int32) dX5_plainAt_44 rfl ?_
        refine g_goto C 49 dX5_plainAt_45 (by decide) ?_
        obtain rfl := Option.some.inj h
        exact g_iret C dX5_plainAt_49
    · have h := ite_f hc3 h
      refine g_lookup C 50 dX5_plainAt_4 rfl (sw_23 hc2 hc3) (by decide) ?_
      refine g_aload_n C 0 dX5_plainAt_50 rfl ?_
      refine g_aload_n C 1 dX5_plainAt_51 rfl ?_
      refine g_iload_n C 2 dX5_plainAt_52 rfl ?_
      obtain ⟨q6, hq6, h⟩ := bd h
      refine g_callVI C [.ref k1, .int x2] qv_X5_64 (m_X5_plainOfAges hk0 hk1 hq6) hk0 (by decide) rfl rfl rfl ⟨rfl, rfl⟩ ⟨by decide, by decide⟩ (Nat.le_of_ble_eq_true rfl) dX5_plainAt_53 ?_
      obtain rfl := Option.some.inj h
      exact g_iret C dX5_plainAt_56
def f_X5_meanPlain_4 (kk27 : Nat → Int32 → St → Option (Int32 × St)) : Nat → Nat → Nat → Int32 → Int32 → St → Option (Int32 × St)
  | 0, _, _, _, _, _ => none
  | n + 1, k0, k1, x2, x3, σ => (if (σ.1 k0 0) ≤ x3 then kk27 k0 x2 σ else (f_X5_plainAt k0 k1 x3 σ).bind (fun q2 => (f_X5_meanPlain_4 kk27 n) k0 k1 (x2 + q2.1) (x3 + (1 : Int32)) q2.2))
set_option maxRecDepth 20000 in
theorem s_X5_meanPlain_4 {R : Int32 × St} (C : gC p s m args meth c D ca ad 91 LC RX5 cX5_meanPlain 4 (some .int)) {kk27 : Nat → Int32 → St → Option (Int32 × St)} (HK27 : ∀ (k0 : Nat) (hk0 : LC k0 = 5) (x2 : Int32) (σ : St), kk27 k0 x2 σ = some R → G p l e rm_X5_meanPlain s m args below meth c D ca ad 91 LC 4 (gEnd below args s D ca ad 91 LC (some (.int R.1)) R.2) 27 [(0, .ref k0), (2, .int x2)] [] σ) : ∀ (n : Nat) (k0 : Nat) (hk0 : LC k0 = 5) (k1 : Nat) (hk1 : LC k1 = 1) (x2 : Int32) (x3 : Int32) (σ : St), f_X5_meanPlain_4 kk27 n k0 k1 x2 x3 σ = some R → G p l e rm_X5_meanPlain s m args below meth c D ca ad 91 LC 4 (gEnd below args s D ca ad 91 LC (some (.int R.1)) R.2) 4 [(0, .ref k0), (1, .ref k1), (2, .int x2), (3, .int x3)] [] σ := by
  intro n
  induction n with
  | zero =>
    intro k0 hk0 k1 hk1 x2 x3 σ h
    have h : none = some R := h
    cases h
  | succ n ih =>
    intro k0 hk0 k1 hk1 x2 x3 σ h
    rw [f_X5_meanPlain_4] at h
    refine g_iload_n C 3 dX5_meanPlain_4 rfl ?_
    refine g_aload_n C 0 dX5_meanPlain_5 rfl ?_
    refine g_getI C 0 hk0 q_X5_9 rfl dX5_meanPlain_6 ?_
    refine g_icmp_ge C 27 dX5_meanPlain_9 (by decide) (fun hc1 => ?_) (fun hc1 => ?_)
    · have h := ite_t hc1 h
      exact g_sub [0, 2] rfl (HK27 k0 hk0 x2 σ h)
    · have h := ite_f hc1 h
      refine g_iload_n C 2 dX5_meanPlain_12 rfl ?_
      refine g_aload_n C 0 dX5_meanPlain_13 rfl ?_
      refine g_aload_n C 1 dX5_meanPlain_14 rfl ?_
      refine g_iload_n C 3 dX5_meanPlain_15 rfl ?_
      obtain ⟨q2, hq2, h⟩ := bd h
      refine g_callVI C [.ref k1, .int x3] qv_X5_78 (m_X5_plainAt hk0 hk1 hq2) hk0 (by decide) rfl rfl rfl ⟨rfl, rfl⟩ ⟨by decide, by decide⟩ (Nat.le_of_ble_eq_true rfl) dX5_meanPlain_16 ?_
      refine g_iadd C dX5_meanPlain_19 ?_
      refine g_istore_n C [(2, .int (x2 + q2.1)), (0, .ref k0), (1, .ref k1), (3, .int x3)] dX5_meanPlain_20 (by decide) rfl ?_
      refine g_iinc C 3 [(3, .int (x3 + (1 : Int32))), (2, .int (x2 + q2.1)), (0, .ref k0), (1, .ref k1)] dX5_meanPlain_21 rfl rfl (by decide) rfl ?_
      refine g_goto C 4 dX5_meanPlain_24 (by decide) ?_
      exact g_sub [2, 3, 1, 0] rfl (ih k0 hk0 k1 hk1 (x2 + q2.1) (x3 + (1 : Int32)) q2.2 h)
def f_X5_meanPlain_27 (k0 : Nat) (x2 : Int32) (σ : St) : Option (Int32 × St) := (if (σ.1 k0 0) ≤ 0 then some ((0 : Int32), σ) else cI (!decide ((σ.1 k0 0) = 0)) (some ((x2 / (σ.1 k0 0)), σ)))
set_option maxRecDepth 20000 in
theorem s_X5_meanPlain_27 {R : Int32 × St} (C : gC p s m args meth c D ca ad 91 LC RX5 cX5_meanPlain 4 (some .int)) (k0 : Nat) (hk0 : LC k0 = 5) (x2 : Int32) (σ : St) (h : f_X5_meanPlain_27 k0 x2 σ = some R) : G p l e rm_X5_meanPlain s m args below meth c D ca ad 91 LC 4 (gEnd below args s D ca ad 91 LC (some (.int R.1)) R.2) 27 [(0, .ref k0), (2, .int x2)] [] σ := by
  unfold f_X5_meanPlain_27 at h
  refine g_aload_n C 0 dX5_meanPlain_27 rfl ?_
  refine g_getI C 0 hk0 q_X5_9 rfl dX5_meanPlain_28 ?_
  refine g_if_le C 43 dX5_meanPlain_31 (by decide) (fun hc1 => ?_) (fun hc1 => ?_)
  · have h := ite_t hc1 h
    refine g_iconst C (0 : Int32) dX5_meanPlain_43 rfl ?_
    obtain rfl := Option.some.inj h
    exact g_iret C dX5_meanPlain_44
  · have h := ite_f hc1 h
    refine g_iload_n C 1 dX5_meanPlain_34 rfl ?_
    refine g_aload_n C 0 dX5_meanPlain_35 rfl ?_
    refine g_getI C 0 hk0 q_X5_9 rfl dX5_meanPlain_36 ?_
    obtain ⟨hz2, h⟩ := cI_some h
    refine g_idiv C dX5_meanPlain_39 (by simpa using hz2) ?_
    refine g_goto C 44 dX5_meanPlain_40 (by decide) ?_
    obtain rfl := Option.some.inj h
    exact g_iret C dX5_meanPlain_44
def f_X5_meanPlain (k0 : Nat) (k1 : Nat) (σ : St) : Option (Int32 × St) := (f_X5_meanPlain_4 (f_X5_meanPlain_27) FU) k0 k1 (0 : Int32) (0 : Int32) σ
set_option maxRecDepth 20000 in
theorem m_X5_meanPlain {l : Launch} {D : va_G} {ca : Nat → ClassId} {ad : Nat → Nat} {k0 : Nat} {k1 : Nat} {σ : St} {R : Int32 × St} (hk0 : LC k0 = 5) (hk1 : LC k1 = 1) (h : f_X5_meanPlain k0 k1 σ = some R) : gM l D ca ad 91 LC yX5_meanPlain cX5_meanPlain 4 (some .int) rm_X5_meanPlain [.ref k0, .ref k1] σ (some (.int R.1)) R.2 := by
  refine gM_of (by decide) (Nat.le_of_ble_eq_true rfl) (fun p e s m args below meth c C => ?_)
  refine g_ent (ls' := [(0, .ref k0), (1, .ref k1)]) rfl ?_
  unfold f_X5_meanPlain at h
  refine g_iconst C (0 : Int32) dX5_meanPlain_0 rfl ?_
  refine g_istore_n C [(2, .int (0 : Int32)), (0, .ref k0), (1, .ref k1)] dX5_meanPlain_1 (by decide) rfl ?_
  refine g_iconst C (0 : Int32) dX5_meanPlain_2 rfl ?_
  refine g_istore_n C [(3, .int (0 : Int32)), (2, .int (0 : Int32)), (0, .ref k0), (1, .ref k1)] dX5_meanPlain_3 (by decide) rfl ?_
  exact g_sub [2, 3, 1, 0] rfl ((s_X5_meanPlain_4 C (s_X5_meanPlain_27 C) FU) k0 hk0 k1 hk1 (0 : Int32) (0 : Int32) σ h)
def f_X5_yearsThatWeigh_38 (kk11 : Nat → Nat → Int32 → Int32 → Int32 → St → Option (Int32 × St)) (k0 : Nat) (k1 : Nat) (x2 : Int32) (x3 : Int32) (x4 : Int32) (σ : St) : Option (Int32 × St) := kk11 k0 k1 x2 x3 (x4 + (1 : Int32)) σ
set_option maxRecDepth 20000 in
theorem s_X5_yearsThatWeigh_38 {R : Int32 × St} (C : gC p s m args meth c D ca ad 91 LC RX5 cX5_yearsThatWeigh 5 (some .int)) {kk11 : Nat → Nat → Int32 → Int32 → Int32 → St → Option (Int32 × St)} (HK11 : ∀ (k0 : Nat) (hk0 : LC k0 = 5) (k1 : Nat) (hk1 : LC k1 = 1) (x2 : Int32) (x3 : Int32) (x4 : Int32) (σ : St), kk11 k0 k1 x2 x3 x4 σ = some R → G p l e rm_X5_yearsThatWeigh s m args below meth c D ca ad 91 LC 5 (gEnd below args s D ca ad 91 LC (some (.int R.1)) R.2) 11 [(0, .ref k0), (1, .ref k1), (2, .int x2), (3, .int x3), (4, .int x4)] [] σ) (k0 : Nat) (hk0 : LC k0 = 5) (k1 : Nat) (hk1 : LC k1 = 1) (x2 : Int32) (x3 : Int32) (x4 : Int32) (σ : St) (h : f_X5_yearsThatWeigh_38 kk11 k0 k1 x2 x3 x4 σ = some R) : G p l e rm_X5_yearsThatWeigh s m args below meth c D ca ad 91 LC 5 (gEnd below args s D ca ad 91 LC (some (.int R.1)) R.2) 38 [(0, .ref k0), (1, .ref k1), (2, .int x2), (3, .int x3), (4, .int x4)] [] σ := by
  unfold f_X5_yearsThatWeigh_38 at h
  refine g_iinc C 4 [(4, .int (x4 + (1 : Int32))), (0, .ref k0), (1, .ref k1), (2, .int x2), (3, .int x3)] dX5_yearsThatWeigh_38 rfl rfl (by decide) rfl ?_
  refine g_goto C 11 dX5_yearsThatWeigh_41 (by decide) ?_
  exact g_sub [1, 2, 3, 4, 0] rfl (HK11 k0 hk0 k1 hk1 x2 x3 (x4 + (1 : Int32)) σ h)
def f_X5_yearsThatWeigh_11 : Nat → Nat → Nat → Int32 → Int32 → Int32 → St → Option (Int32 × St)
  | 0, _, _, _, _, _, _ => none
  | n + 1, k0, k1, x2, x3, x4, σ => (if (σ.1 k0 0) ≤ x4 then some (x3, σ) else (f_X5_plainAt k0 k1 x4 σ).bind (fun q2 => (f_X1_weightFrom k1 q2.1 x2 q2.2).bind (fun q3 => (if q3.1 ≤ 0 then (f_X5_yearsThatWeigh_38 (f_X5_yearsThatWeigh_11 n)) k0 k1 x2 x3 x4 q3.2 else (f_X5_yearsThatWeigh_38 (f_X5_yearsThatWeigh_11 n)) k0 k1 x2 (x3 + (1 : Int32)) x4 q3.2))))
set_option maxRecDepth 20000 in
theorem s_X5_yearsThatWeigh_11 {R : Int32 × St} (C : gC p s m args meth c D ca ad 91 LC RX5 cX5_yearsThatWeigh 5 (some .int)) : ∀ (n : Nat) (k0 : Nat) (hk0 : LC k0 = 5) (k1 : Nat) (hk1 : LC k1 = 1) (x2 : Int32) (x3 : Int32) (x4 : Int32) (σ : St), f_X5_yearsThatWeigh_11 n k0 k1 x2 x3 x4 σ = some R → G p l e rm_X5_yearsThatWeigh s m args below meth c D ca ad 91 LC 5 (gEnd below args s D ca ad 91 LC (some (.int R.1)) R.2) 11 [(0, .ref k0), (1, .ref k1), (2, .int x2), (3, .int x3), (4, .int x4)] [] σ := by
  intro n
  induction n with
  | zero =>
    intro k0 hk0 k1 hk1 x2 x3 x4 σ h
    have h : none = some R := h
    cases h
  | succ n ih =>
    intro k0 hk0 k1 hk1 x2 x3 x4 σ h
    rw [f_X5_yearsThatWeigh_11] at h
    refine g_iload C 4 dX5_yearsThatWeigh_11 rfl ?_
    refine g_aload_n C 0 dX5_yearsThatWeigh_13 rfl ?_
    refine g_getI C 0 hk0 q_X5_9 rfl dX5_yearsThatWeigh_14 ?_
    refine g_icmp_ge C 44 dX5_yearsThatWeigh_17 (by decide) (fun hc1 => ?_) (fun hc1 => ?_)
    · have h := ite_t hc1 h
      refine g_iload_n C 3 dX5_yearsThatWeigh_44 rfl ?_
      obtain rfl := Option.some.inj h
      exact g_iret C dX5_yearsThatWeigh_45
    · have h := ite_f hc1 h
      refine g_aload_n C 1 dX5_yearsThatWeigh_20 rfl ?_
      refine g_aload_n C 0 dX5_yearsThatWeigh_21 rfl ?_
      refine g_aload_n C 1 dX5_yearsThatWeigh_22 rfl ?_
      refine g_iload C 4 dX5_yearsThatWeigh_23 rfl ?_
      obtain ⟨q2, hq2, h⟩ := bd h
      refine g_callVI C [.ref k1, .int x4] qv_X5_78 (m_X5_plainAt hk0 hk1 hq2) hk0 (by decide) rfl rfl rfl ⟨rfl, rfl⟩ ⟨by decide, by decide⟩ (Nat.le_of_ble_eq_true rfl) dX5_yearsThatWeigh_25 ?_
      refine g_iload_n C 2 dX5_yearsThatWeigh_28 rfl ?_
      obtain ⟨q3, hq3, h⟩ := bd h
      refine g_callVI C [.int q2.1, .int x2] qv_X5_85 (m_X1_weightFrom hk1 hq3) hk1 (by decide) rfl rfl rfl ⟨rfl, rfl⟩ ⟨by decide, by decide⟩ (Nat.le_of_ble_eq_true rfl) dX5_yearsThatWeigh_29 ?_
      refine g_if_le C 38 dX5_yearsThatWeigh_32 (by decide) (fun hc4 => ?_) (fun hc4 => ?_)
      · have h := ite_t hc4 h
        exact g_sub [0, 1, 2, 3, 4] rfl ((s_X5_yearsThatWeigh_38 C ih) k0 hk0 k1 hk1 x2 x3 x4 q3.2 h)
      · have h := ite_f hc4 h
        refine g_iinc C 3 [(3, .int (x3 + (1 : Int32))), (0, .ref k0), (1, .ref k1), (2, .int x2), (4, .int x4)] dX5_yearsThatWeigh_35 rfl rfl (by decide) rfl ?_
        exact g_sub [1, 2, 3, 0, 4] rfl ((s_X5_yearsThatWeigh_38 C ih) k0 hk0 k1 hk1 x2 (x3 + (1 : Int32)) x4 q3.2 h)
def f_X5_yearsThatWeigh (k0 : Nat) (k1 : Nat) (σ : St) : Option (Int32 × St) := (f_X5_meanPlain k0 k1 σ).bind (fun q1 => (f_X5_yearsThatWeigh_11 FU) k0 k1 q1.1 (0 : Int32) (0 : Int32) q1.2)
set_option maxRecDepth 20000 in
theorem m_X5_yearsThatWeigh {l : Launch} {D : va_G} {ca : Nat → ClassId} {ad : Nat → Nat} {k0 : Nat} {k1 : Nat} {σ : St} {R : Int32 × St} (hk0 : LC k0 = 5) (hk1 : LC k1 = 1) (h : f_X5_yearsThatWeigh k0 k1 σ = some R) : gM l D ca ad 91 LC yX5_yearsThatWeigh cX5_yearsThatWeigh 5 (some .int) rm_X5_yearsThatWeigh [.ref k0, .ref k1] σ (some (.int R.1)) R.2 := by
  refine gM_of (by decide) (Nat.le_of_ble_eq_true rfl) (fun p e s m args below meth c C => ?_)
  refine g_ent (ls' := [(0, .ref k0), (1, .ref k1)]) rfl ?_
  unfold f_X5_yearsThatWeigh at h
  refine g_aload_n C 0 dX5_yearsThatWeigh_0 rfl ?_
  refine g_aload_n C 1 dX5_yearsThatWeigh_1 rfl ?_
  obtain ⟨q1, hq1, h⟩ := bd h
  refine g_callVI C [.ref k1] qv_X5_81 (m_X5_meanPlain hk0 hk1 hq1) hk0 (by decide) rfl rfl rfl ⟨rfl, rfl⟩ ⟨by decide, by decide⟩ (Nat.le_of_ble_eq_true rfl) dX5_yearsThatWeigh_2 ?_
  refine g_istore_n C [(2, .int q1.1), (0, .ref k0), (1, .ref k1)] dX5_yearsThatWeigh_5 (by decide) rfl ?_
  refine g_iconst C (0 : Int32) dX5_yearsThatWeigh_6 rfl ?_
  refine g_istore_n C [(3, .int (0 : Int32)), (2, .int q1.1), (0, .ref k0), (1, .ref k1)] dX5_yearsThatWeigh_7 (by decide) rfl ?_
  refine g_iconst C (0 : Int32) dX5_yearsThatWeigh_8 rfl ?_
  refine g_istore C [(4, .int (0 : Int32)), (3, .int (0 : Int32)), (2, .int q1.1), (0, .ref k0), (1, .ref k1)] dX5_yearsThatWeigh_9 (by decide) rfl ?_
  exact g_sub [3, 4, 2, 1, 0] rfl ((s_X5_yearsThatWeigh_11 C FU) k0 hk0 k1 hk1 q1.1 (0 : Int32) (0 : Int32) q1.2 h)
def f_X6_limit (x1 : Int32) (x2 : Int32) (x3 : Int32) (σ : St) : Option (St) := cI (ix x1 7) (ap (up1 σ 65 x1.toNatClampNeg x2) fun σ2 => cI (ix x1 7) (ap (up1 σ2 66 x1.toNatClampNeg x3) fun σ4 => some σ4))
set_option maxRecDepth 20000 in
theorem m_X6_limit {l : Launch} {D : va_G} {ca : Nat → ClassId} {ad : Nat → Nat} {x1 : Int32} {x2 : Int32} {x3 : Int32} {σ : St} {R : St} (h : f_X6_limit x1 x2 x3 σ = some R) : gM l D ca ad 91 LC yX6_limit cX6_limit 4 none rm_X6_limit [.ref 63, .int x1, .int x2, .int x3] σ none R := by
  refine gM_of (by decide) (Nat.le_of_ble_eq_true rfl) (fun p e s m args below meth c C => ?_)
  refine g_ent (ls' := [(0, .ref 63), (1, .int x1), (2, .int x2), (3, .int x3)]) rfl ?_
  unfold f_X6_limit at h
  refine g_aload_n C 0 dX6_limit_0 rfl ?_
  refine g_getR C 4 65 rfl q_X6_25 rfl rfl dX6_limit_1 ?_
  refine g_iload_n C 1 dX6_limit_4 rfl ?_
  refine g_iload_n C 2 dX6_limit_5 rfl ?_
  obtain ⟨hi1, h⟩ := cI_some h
  refine g_iast C 7 rfl ho_11 hi1 dX6_limit_6 ?_
  refine g_nmS (fun σ2 eσ2 => ?_)
  have h := ap_at eσ2 h
  refine g_aload_n C 0 dX6_limit_7 rfl ?_
  refine g_getR C 5 66 rfl q_X6_29 rfl rfl dX6_limit_8 ?_
  refine g_iload_n C 1 dX6_limit_11 rfl ?_
  refine g_iload_n C 3 dX6_limit_12 rfl ?_
  obtain ⟨hi3, h⟩ := cI_some h
  refine g_iast C 7 rfl ho_11 hi3 dX6_limit_13 ?_
  refine g_nmS (fun σ4 eσ4 => ?_)
  have h := ap_at eσ4 h
  obtain rfl := Option.some.inj h
  exact g_vret C dX6_limit_14
def f_X6_load_66 (kk107 : Nat → Int32 → St → Option (St)) : Nat → Nat → Int32 → Nat → Int32 → Int32 → St → Option (St)
  | 0, _, _, _, _, _, _ => none
  | n + 1, k1, x2, k3, x4, x5, σ => (if (σ.1 63 0) ≤ x5 then kk107 k1 x2 σ else (f_X5_plainAt k1 k3 x5 σ).bind (fun q2 => (f_X1_weightFrom k3 q2.1 x4 q2.2).bind (fun q3 => cI (ix ((x2 * (40 : Int32)) + x5) 280) (ap (up2 q3.2 64 ((x2 * (40 : Int32)) + x5).toNatClampNeg q3.1.toInt64) fun σ5 => (f_X6_load_66 kk107 n) k1 x2 k3 x4 (x5 + (1 : Int32)) σ5))))
set_option maxRecDepth 20000 in
theorem s_X6_load_66 {R : St} (C : gC p s m args meth c D ca ad 91 LC RX6 cX6_load 6 none) {kk107 : Nat → Int32 → St → Option (St)} (HK107 : ∀ (k1 : Nat) (hk1 : LC k1 = 5) (x2 : Int32) (σ : St), kk107 k1 x2 σ = some R → G p l e rm_X6_load s m args below meth c D ca ad 91 LC 6 (gEnd below args s D ca ad 91 LC none R) 107 [(0, .ref 63), (1, .ref k1), (2, .int x2)] [] σ) : ∀ (n : Nat) (k1 : Nat) (hk1 : LC k1 = 5) (x2 : Int32) (k3 : Nat) (hk3 : LC k3 = 1) (x4 : Int32) (x5 : Int32) (σ : St), f_X6_load_66 kk107 n k1 x2 k3 x4 x5 σ = some R → G p l e rm_X6_load s m args below meth c D ca ad 91 LC 6 (gEnd below args s D ca ad 91 LC none R) 66 [(0, .ref 63), (1, .ref k1), (2, .int x2), (3, .ref k3), (4, .int x4), (5, .int x5)] [] σ := by
  intro n
  induction n with
  | zero =>
    intro k1 hk1 x2 k3 hk3 x4 x5 σ h
    have h : none = some R := h
    cases h
  | succ n ih =>
    intro k1 hk1 x2 k3 hk3 x4 x5 σ h
    rw [f_X6_load_66] at h
    refine g_iload C 5 dX6_load_66 rfl ?_
    refine g_aload_n C 0 dX6_load_68 rfl ?_
    refine g_getI C 0 rfl q_X6_9 rfl dX6_load_69 ?_
    refine g_icmp_ge C 107 dX6_load_72 (by decide) (fun hc1 => ?_) (fun hc1 => ?_)
    · have h := ite_t hc1 h
      exact g_sub [0, 1, 2] rfl (HK107 k1 hk1 x2 σ h)
    · have h := ite_f hc1 h
      refine g_aload_n C 0 dX6_load_75 rfl ?_
      refine g_getR C 3 64 rfl q_X6_21 rfl rfl dX6_load_76 ?_
      refine g_iload_n C 2 dX6_load_79 rfl ?_
      refine g_bipush C (40 : Int32) dX6_load_80 rfl ?_
      refine g_imul C dX6_load_82 ?_
      refine g_iload C 5 dX6_load_83 rfl ?_
      refine g_iadd C dX6_load_85 ?_
      refine g_aload_n C 3 dX6_load_86 rfl ?_
      refine g_aload_n C 1 dX6_load_87 rfl ?_
      refine g_aload_n C 3 dX6_load_88 rfl ?_
      refine g_iload C 5 dX6_load_89 rfl ?_
      obtain ⟨q2, hq2, h⟩ := bd h
      refine g_callVI C [.ref k3, .int x5] qv_X6_56 (m_X5_plainAt hk1 hk3 hq2) hk1 (by decide) rfl rfl rfl ⟨rfl, rfl⟩ ⟨by decide, by decide⟩ (Nat.le_of_ble_eq_true rfl) dX6_load_91 ?_
      refine g_iload C 4 dX6_load_94 rfl ?_
      obtain ⟨q3, hq3, h⟩ := bd h
      refine g_callVI C [.int q2.1, .int x4] qv_X6_60 (m_X1_weightFrom hk3 hq3) hk3 (by decide) rfl rfl rfl ⟨rfl, rfl⟩ ⟨by decide, by decide⟩ (Nat.le_of_ble_eq_true rfl) dX6_load_96 ?_
      refine g_i2l C dX6_load_99 ?_
      obtain ⟨hi4, h⟩ := cI_some h
      refine g_last C 280 rfl ho_19 hi4 dX6_load_100 ?_
      refine g_nmS (fun σ5 eσ5 => ?_)
      have h := ap_at eσ5 h
      refine g_iinc C 5 [(5, .int (x5 + (1 : Int32))), (0, .ref 63), (1, .ref k1), (2, .int x2), (3, .ref k3), (4, .int x4)] dX6_load_101 rfl rfl (by decide) rfl ?_
      refine g_goto C 66 dX6_load_104 (by decide) ?_
      exact g_sub [1, 2, 3, 4, 5, 0] rfl (ih k1 hk1 x2 k3 hk3 x4 (x5 + (1 : Int32)) σ5 h)
def f_X6_load_107 (kk41 : Nat → Int32 → St → Option (St)) (k1 : Nat) (x2 : Int32) (σ : St) : Option (St) := (f_X6_limit x2 (0 : Int32) ((σ.1 63 0) - (1 : Int32)) σ).bind (fun q1 => kk41 k1 (x2 + (1 : Int32)) q1)
set_option maxRecDepth 20000 in
theorem s_X6_load_107 {R : St} (C : gC p s m args meth c D ca ad 91 LC RX6 cX6_load 6 none) {kk41 : Nat → Int32 → St → Option (St)} (HK41 : ∀ (k1 : Nat) (hk1 : LC k1 = 5) (x2 : Int32) (σ : St), kk41 k1 x2 σ = some R → G p l e rm_X6_load s m args below meth c D ca ad 91 LC 6 (gEnd below args s D ca ad 91 LC none R) 41 [(0, .ref 63), (1, .ref k1), (2, .int x2)] [] σ) (k1 : Nat) (hk1 : LC k1 = 5) (x2 : Int32) (σ : St) (h : f_X6_load_107 kk41 k1 x2 σ = some R) : G p l e rm_X6_load s m args below meth c D ca ad 91 LC 6 (gEnd below args s D ca ad 91 LC none R) 107 [(0, .ref 63), (1, .ref k1), (2, .int x2)] [] σ := by
  unfold f_X6_load_107 at h
  refine g_aload_n C 0 dX6_load_107 rfl ?_
  refine g_iload_n C 2 dX6_load_108 rfl ?_
  refine g_iconst C (0 : Int32) dX6_load_109 rfl ?_
  refine g_aload_n C 0 dX6_load_110 rfl ?_
  refine g_getI C 0 rfl q_X6_9 rfl dX6_load_111 ?_
  refine g_iconst C (1 : Int32) dX6_load_114 rfl ?_
  refine g_isub C dX6_load_115 ?_
  obtain ⟨q1, hq1, h⟩ := bd h
  refine g_callVV C [.int x2, .int (0 : Int32), .int ((σ.1 63 0) - (1 : Int32))] qv_X6_66 (m_X6_limit hq1) rfl (by decide) rfl rfl rfl ⟨rfl, rfl⟩ ⟨by decide, by decide⟩ (Nat.le_of_ble_eq_true rfl) dX6_load_116 ?_
  refine g_iinc C 2 [(2, .int (x2 + (1 : Int32))), (0, .ref 63), (1, .ref k1)] dX6_load_119 rfl rfl (by decide) rfl ?_
  refine g_goto C 41 dX6_load_122 (by decide) ?_
  exact g_sub [1, 2, 0] rfl (HK41 k1 hk1 (x2 + (1 : Int32)) q1 h)
def f_X6_load_41 : Nat → Nat → Int32 → St → Option (St)
  | 0, _, _, _ => none
  | n + 1, k1, x2, σ => (if (σ.1 63 1) ≤ x2 then some σ else cI (ix x2 7) ((f_X5_meanPlain k1 ((k1 + 3) + 4 + 3 * x2.toNatClampNeg) σ).bind (fun q3 => (f_X6_load_66 (f_X6_load_107 (f_X6_load_41 n)) FU) k1 x2 ((k1 + 3) + 4 + 3 * x2.toNatClampNeg) q3.1 (0 : Int32) q3.2)))
set_option maxRecDepth 20000 in
theorem s_X6_load_41 {R : St} (C : gC p s m args meth c D ca ad 91 LC RX6 cX6_load 6 none) : ∀ (n : Nat) (k1 : Nat) (hk1 : LC k1 = 5) (x2 : Int32) (σ : St), f_X6_load_41 n k1 x2 σ = some R → G p l e rm_X6_load s m args below meth c D ca ad 91 LC 6 (gEnd below args s D ca ad 91 LC none R) 41 [(0, .ref 63), (1, .ref k1), (2, .int x2)] [] σ := by
  intro n
  induction n with
  | zero =>
    intro k1 hk1 x2 σ h
    have h : none = some R := h
    cases h
  | succ n ih =>
    intro k1 hk1 x2 σ h
    rw [f_X6_load_41] at h
    refine g_iload_n C 2 dX6_load_41 rfl ?_
    refine g_aload_n C 0 dX6_load_42 rfl ?_
    refine g_getI C 1 rfl q_X6_15 rfl dX6_load_43 ?_
    refine g_icmp_ge C 125 dX6_load_46 (by decide) (fun hc1 => ?_) (fun hc1 => ?_)
    · have h := ite_t hc1 h
      obtain rfl := Option.some.inj h
      exact g_vret C dX6_load_125
    · have h := ite_f hc1 h
      refine g_aload_n C 1 dX6_load_49 rfl ?_
      refine g_getR C 4 (k1 + 3) hk1 q_X6_48 rfl rfl dX6_load_50 ?_
      refine g_iload_n C 2 dX6_load_53 rfl ?_
      obtain ⟨hi2, h⟩ := cI_some h
      refine g_aald3 C (sc_5_4 hk1) ho_22 hi2 dX6_load_54 ?_
      refine g_astore_n C [(3, .ref ((k1 + 3) + 4 + 3 * x2.toNatClampNeg)), (0, .ref 63), (1, .ref k1), (2, .int x2)] dX6_load_55 (by decide) rfl ?_
      refine g_aload_n C 2 dX6_load_56 rfl ?_
      refine g_aload_n C 0 dX6_load_57 rfl ?_
      obtain ⟨q3, hq3, h⟩ := bd h
      refine g_callVI C [.ref ((k1 + 3) + 4 + 3 * x2.toNatClampNeg)] qv_X6_52 (m_X5_meanPlain hk1 (sc_f (sc_5_4 hk1) (ix_lt hi2)) hq3) hk1 (by decide) rfl rfl rfl ⟨rfl, rfl⟩ ⟨by decide, by decide⟩ (Nat.le_of_ble_eq_true rfl) dX6_load_58 ?_
      refine g_istore C [(4, .int q3.1), (3, .ref ((k1 + 3) + 4 + 3 * x2.toNatClampNeg)), (0, .ref 63), (1, .ref k1), (2, .int x2)] dX6_load_61 (by decide) rfl ?_
      refine g_iconst C (0 : Int32) dX6_load_63 rfl ?_
      refine g_istore C [(5, .int (0 : Int32)), (4, .int q3.1), (3, .ref ((k1 + 3) + 4 + 3 * x2.toNatClampNeg)), (0, .ref 63), (1, .ref k1), (2, .int x2)] dX6_load_64 (by decide) rfl ?_
      exact g_sub [3, 4, 5, 2, 1, 0] rfl ((s_X6_load_66 C (s_X6_load_107 C ih) FU) k1 hk1 x2 ((k1 + 3) + 4 + 3 * x2.toNatClampNeg) (sc_f (sc_5_4 hk1) (ix_lt hi2)) q3.1 (0 : Int32) q3.2 h)
def f_X6_load (k1 : Nat) (σ : St) : Option (St) := ap (up1 σ 63 0 (σ.1 k1 0)) fun σ1 => ap (up1 σ1 63 1 (σ1.1 k1 3)) fun σ2 => ap (up1 σ2 63 2 (((1 : Int32) <<< ((σ2.1 63 1) &&& 31)) - (1 : Int32))) fun σ3 => (f_X2_copyFrom 67 (k1 + 4) σ3).bind (fun q4 => (f_X6_load_41 FU) k1 (0 : Int32) q4)
set_option maxRecDepth 20000 in
theorem m_X6_load {l : Launch} {D : va_G} {ca : Nat → ClassId} {ad : Nat → Nat} {k1 : Nat} {σ : St} {R : St} (hk1 : LC k1 = 5) (h : f_X6_load k1 σ = some R) : gM l D ca ad 91 LC yX6_load cX6_load 6 none rm_X6_load [.ref 63, .ref k1] σ none R := by
  refine gM_of (by decide) (Nat.le_of_ble_eq_true rfl) (fun p e s m args below meth c C => ?_)
  refine g_ent (ls' := [(0, .ref 63), (1, .ref k1)]) rfl ?_
  unfold f_X6_load at h
  refine g_aload_n C 0 dX6_load_0 rfl ?_
  refine g_aload_n C 1 dX6_load_1 rfl ?_
  refine g_getI C 0 hk1 q_X6_39 rfl dX6_load_2 ?_
  refine g_putI C 0 rfl qp_X6_9 rfl dX6_load_5 ?_
  refine g_nmS (fun σ1 eσ1 => ?_)
  have h := ap_at eσ1 h
  refine g_aload_n C 0 dX6_load_8 rfl ?_
  refine g_aload_n C 1 dX6_load_9 rfl ?_
  refine g_getI C 3 hk1 q_X6_42 rfl dX6_load_10 ?_
  refine g_putI C 1 rfl qp_X6_15 rfl dX6_load_13 ?_
  refine g_nmS (fun σ2 eσ2 => ?_)
  have h := ap_at eσ2 h
  refine g_aload_n C 0 dX6_load_16 rfl ?_
  refine g_iconst C (1 : Int32) dX6_load_17 rfl ?_
  refine g_aload_n C 0 dX6_load_18 rfl ?_
  refine g_getI C 1 rfl q_X6_15 rfl dX6_load_19 ?_
  refine g_ishl C dX6_load_22 ?_
  refine g_iconst C (1 : Int32) dX6_load_23 rfl ?_
  refine g_isub C dX6_load_24 ?_
  refine g_putI C 2 rfl qp_X6_18 rfl dX6_load_25 ?_
  refine g_nmS (fun σ3 eσ3 => ?_)
  have h := ap_at eσ3 h
  refine g_aload_n C 0 dX6_load_28 rfl ?_
  refine g_getR C 6 67 rfl q_X6_35 rfl rfl dX6_load_29 ?_
  refine g_aload_n C 1 dX6_load_32 rfl ?_
  refine g_getR C 5 (k1 + 4) hk1 q_X6_43 rfl rfl dX6_load_33 ?_
  obtain ⟨q4, hq4, h⟩ := bd h
  refine g_callVV C [.ref (k1 + 4)] qv_X6_44 (m_X2_copyFrom rfl (sc_5_5 hk1) hq4) rfl (by decide) rfl rfl rfl ⟨rfl, rfl⟩ ⟨by decide, by decide⟩ (Nat.le_of_ble_eq_true rfl) dX6_load_36 ?_
  refine g_iconst C (0 : Int32) dX6_load_39 rfl ?_
  refine g_istore_n C [(2, .int (0 : Int32)), (0, .ref 63), (1, .ref k1)] dX6_load_40 (by decide) rfl ?_
  exact g_sub [1, 2, 0] rfl ((s_X6_load_41 C FU) k1 hk1 (0 : Int32) q4 h)
def f_X6_leaveOut (x1 : Int32) (σ : St) : Option (St) := ap (up1 σ 63 2 ((σ.1 63 2) &&& (((1 : Int32) <<< (x1 &&& 31)) ^^^ (-1 : Int32)))) fun σ1 => (f_X2_forget 67 x1 σ1).bind (fun q2 => some q2)
set_option maxRecDepth 20000 in
theorem m_X6_leaveOut {l : Launch} {D : va_G} {ca : Nat → ClassId} {ad : Nat → Nat} {x1 : Int32} {σ : St} {R : St} (h : f_X6_leaveOut x1 σ = some R) : gM l D ca ad 91 LC yX6_leaveOut cX6_leaveOut 2 none rm_X6_leaveOut [.ref 63, .int x1] σ none R := by
  refine gM_of (by decide) (Nat.le_of_ble_eq_true rfl) (fun p e s m args below meth c C => ?_)
  refine g_ent (ls' := [(0, .ref 63), (1, .int x1)]) rfl ?_
  unfold f_X6_leaveOut at h
  refine g_aload_n C 0 dX6_leaveOut_0 rfl ?_
  refine g_dup C rfl dX6_leaveOut_1 ?_
  refine g_getI C 2 rfl q_X6_18 rfl dX6_leaveOut_2 ?_
  refine g_iconst C (1 : Int32) dX6_leaveOut_5 rfl ?_
  refine g_iload_n C 1 dX6_leaveOut_6 rfl ?_
  refine g_ishl C dX6_leaveOut_7 ?_
  refine g_iconst C (-1 : Int32) dX6_leaveOut_8 rfl ?_
  refine g_ixor C dX6_leaveOut_9 ?_
  refine g_iand C dX6_leaveOut_10 ?_
  refine g_putI C 2 rfl qp_X6_18 rfl dX6_leaveOut_11 ?_
  refine g_nmS (fun σ1 eσ1 => ?_)
  have h := ap_at eσ1 h
  refine g_aload_n C 0 dX6_leaveOut_14 rfl ?_
  refine g_getR C 6 67 rfl q_X6_35 rfl rfl dX6_leaveOut_15 ?_
  refine g_iload_n C 1 dX6_leaveOut_18 rfl ?_
  obtain ⟨q2, hq2, h⟩ := bd h
  refine g_callVV C [.int x1] qv_X6_70 (m_X2_forget rfl hq2) rfl (by decide) rfl rfl rfl ⟨rfl, rfl⟩ ⟨by decide, by decide⟩ (Nat.le_of_ble_eq_true rfl) dX6_leaveOut_19 ?_
  obtain rfl := Option.some.inj h
  exact g_vret C dX6_leaveOut_22
def f_X6_level_3 : Nat → Int32 → Int64 → Int32 → St → Option (St)
  | 0, _, _, _, _ => none
  | n + 1, x1, x2, x4, σ => (if (σ.1 63 0) ≤ x4 then some σ else cI (ix ((x1 * (40 : Int32)) + x4) 280) (ap (up2 σ 64 ((x1 * (40 : Int32)) + x4).toNatClampNeg x2) fun σ3 => (f_X6_level_3 n) x1 x2 (x4 + (1 : Int32)) σ3))
set_option maxRecDepth 20000 in
theorem s_X6_level_3 {R : St} (C : gC p s m args meth c D ca ad 91 LC RX6 cX6_level 5 none) : ∀ (n : Nat) (x1 : Int32) (x2 : Int64) (x4 : Int32) (σ : St), f_X6_level_3 n x1 x2 x4 σ = some R → G p l e rm_X6_level s m args below meth c D ca ad 91 LC 5 (gEnd below args s D ca ad 91 LC none R) 3 [(0, .ref 63), (1, .int x1), (2, .long x2), (4, .int x4)] [] σ := by
  intro n
  induction n with
  | zero =>
    intro x1 x2 x4 σ h
    have h : none = some R := h
    cases h
  | succ n ih =>
    intro x1 x2 x4 σ h
    rw [f_X6_level_3] at h
    refine g_iload C 3 dX6_level_3 rfl ?_
    refine g_aload_n C 0 dX6_level_5 rfl ?_
    refine g_getI C 0 rfl q_X6_9 rfl dX6_level_6 ?_
    refine g_icmp_ge C 31 dX6_level_9 (by decide) (fun hc1 => ?_) (fun hc1 => ?_)
    · have h := ite_t hc1 h
      obtain rfl := Option.some.inj h
      exact g_vret C dX6_level_31
    · have h := ite_f hc1 h
      refine g_aload_n C 0 dX6_level_12 rfl ?_
      refine g_getR C 3 64 rfl q_X6_21 rfl rfl dX6_level_13 ?_
      refine g_iload_n C 1 dX6_level_16 rfl ?_
      refine g_bipush C (40 : Int32) dX6_level_17 rfl ?_
      refine g_imul C dX6_level_19 ?_
      refine g_iload C 3 dX6_level_20 rfl ?_
      refine g_iadd C dX6_level_22 ?_
      refine g_lload_n C 2 dX6_level_23 rfl ?_
      obtain ⟨hi2, h⟩ := cI_some h
      refine g_last C 280 rfl ho_19 hi2 dX6_level_24 ?_
      refine g_nmS (fun σ3 eσ3 => ?_)
      have h := ap_at eσ3 h
      refine g_iinc C 3 [(4, .int (x4 + (1 : Int32))), (0, .ref 63), (1, .int x1), (2, .long x2)] dX6_level_25 rfl rfl (by decide) rfl ?_
      refine g_goto C 3 dX6_level_28 (by decide) ?_
      exact g_sub [1, 2, 3, 0] rfl (ih x1 x2 (x4 + (1 : Int32)) σ3 h)
def f_X6_level (x1 : Int32) (x2 : Int64) (σ : St) : Option (St) := (f_X6_level_3 FU) x1 x2 (0 : Int32) σ
set_option maxRecDepth 20000 in
theorem m_X6_level {l : Launch} {D : va_G} {ca : Nat → ClassId} {ad : Nat → Nat} {x1 : Int32} {x2 : Int64} {σ : St} {R : St} (h : f_X6_level x1 x2 σ = some R) : gM l D ca ad 91 LC yX6_level cX6_level 5 none rm_X6_level [.ref 63, .int x1, .long x2] σ none R := by
  refine gM_of (by decide) (Nat.le_of_ble_eq_true rfl) (fun p e s m args below meth c C => ?_)
  refine g_ent (ls' := [(0, .ref 63), (1, .int x1), (2, .long x2)]) rfl ?_
  unfold f_X6_level at h
  refine g_iconst C (0 : Int32) dX6_level_0 rfl ?_
  refine g_istore C [(4, .int (0 : Int32)), (0, .ref 63), (1, .int x1), (2, .long x2)] dX6_level_1 (by decide) rfl ?_
  exact g_sub [1, 2, 3, 0] rfl ((s_X6_level_3 C FU) x1 x2 (0 : Int32) σ h)
def f_X6_multiplyByYears_2 : Nat → Int32 → Int32 → St → Option (St)
  | 0, _, _, _ => none
  | n + 1, x1, x2, σ => (if (σ.1 63 0) ≤ x2 then some σ else cI (ix ((x1 * (40 : Int32)) + x2) 280) (cI (ix ((x1 * (40 : Int32)) + x2) 280) (ap (up2 σ 64 ((x1 * (40 : Int32)) + x2).toNatClampNeg ((σ.2 64 ((x1 * (40 : Int32)) + x2).toNatClampNeg) * x2.toInt64)) fun σ4 => (f_X6_multiplyByYears_2 n) x1 (x2 + (1 : Int32)) σ4)))
set_option maxRecDepth 20000 in
theorem s_X6_multiplyByYears_2 {R : St} (C : gC p s m args meth c D ca ad 91 LC RX6 cX6_multiplyByYears 3 none) : ∀ (n : Nat) (x1 : Int32) (x2 : Int32) (σ : St), f_X6_multiplyByYears_2 n x1 x2 σ = some R → G p l e rm_X6_multiplyByYears s m args below meth c D ca ad 91 LC 3 (gEnd below args s D ca ad 91 LC none R) 2 [(0, .ref 63), (1, .int x1), (2, .int x2)] [] σ := by
  intro n
  induction n with
  | zero =>
    intro x1 x2 σ h
    have h : none = some R := h
    cases h
  | succ n ih =>
    intro x1 x2 σ h
    rw [f_X6_multiplyByYears_2] at h
    refine g_iload_n C 2 dX6_multiplyByYears_2 rfl ?_
    refine g_aload_n C 0 dX6_multiplyByYears_3 rfl ?_
    refine g_getI C 0 rfl q_X6_9 rfl dX6_multiplyByYears_4 ?_
    refine g_icmp_ge C 32 dX6_multiplyByYears_7 (by decide) (fun hc1 => ?_) (fun hc1 => ?_)
    · have h := ite_t hc1 h
      obtain rfl := Option.some.inj h
      exact g_vret C dX6_multiplyByYears_32
    · have h := ite_f hc1 h
      refine g_aload_n C 0 dX6_multiplyByYears_10 rfl ?_
      refine g_getR C 3 64 rfl q_X6_21 rfl rfl dX6_multiplyByYears_11 ?_
      refine g_iload_n C 1 dX6_multiplyByYears_14 rfl ?_
      refine g_bipush C (40 : Int32) dX6_multiplyByYears_15 rfl ?_
      refine g_imul C dX6_multiplyByYears_17 ?_
      refine g_iload_n C 2 dX6_multiplyByYears_18 rfl ?_
      refine g_iadd C dX6_multiplyByYears_19 ?_
      refine g_dup2 C rfl rfl dX6_multiplyByYears_20 ?_
      obtain ⟨hi2, h⟩ := cI_some h
      refine g_lald C 280 rfl ho_19 hi2 dX6_multiplyByYears_21 ?_
      refine g_iload_n C 2 dX6_multiplyByYears_22 rfl ?_
      refine g_i2l C dX6_multiplyByYears_23 ?_
      refine g_lmul C dX6_multiplyByYears_24 ?_
      obtain ⟨hi3, h⟩ := cI_some h
      refine g_last C 280 rfl ho_19 hi3 dX6_multiplyByYears_25 ?_
      refine g_nmS (fun σ4 eσ4 => ?_)
      have h := ap_at eσ4 h
      refine g_iinc C 2 [(2, .int (x2 + (1 : Int32))), (0, .ref 63), (1, .int x1)] dX6_multiplyByYears_26 rfl rfl (by decide) rfl ?_
      refine g_goto C 2 dX6_multiplyByYears_29 (by decide) ?_
      exact g_sub [1, 2, 0] rfl (ih x1 (x2 + (1 : Int32)) σ4 h)
def f_X6_multiplyByYears (x1 : Int32) (σ : St) : Option (St) := (f_X6_multiplyByYears_2 FU) x1 (0 : Int32) σ
set_option maxRecDepth 20000 in
theorem m_X6_multiplyByYears {l : Launch} {D : va_G} {ca : Nat → ClassId} {ad : Nat → Nat} {x1 : Int32} {σ : St} {R : St} (h : f_X6_multiplyByYears x1 σ = some R) : gM l D ca ad 91 LC yX6_multiplyByYears cX6_multiplyByYears 3 none rm_X6_multiplyByYears [.ref 63, .int x1] σ none R := by
  refine gM_of (by decide) (Nat.le_of_ble_eq_true rfl) (fun p e s m args below meth c C => ?_)
  refine g_ent (ls' := [(0, .ref 63), (1, .int x1)]) rfl ?_
  unfold f_X6_multiplyByYears at h
  refine g_iconst C (0 : Int32) dX6_multiplyByYears_0 rfl ?_
  refine g_istore_n C [(2, .int (0 : Int32)), (0, .ref 63), (1, .int x1)] dX6_multiplyByYears_1 (by decide) rfl ?_
  exact g_sub [1, 2, 0] rfl ((s_X6_multiplyByYears_2 C FU) x1 (0 : Int32) σ h)
def f_X6_sumOfWeights_5 : Nat → Int32 → Int64 → Int32 → St → Option (Int64 × St)
  | 0, _, _, _, _ => none
  | n + 1, x1, x2, x4, σ => (if (σ.1 63 0) ≤ x4 then some (x2, σ) else cI (ix ((x1 * (40 : Int32)) + x4) 280) (ap (x2 + (σ.2 64 ((x1 * (40 : Int32)) + x4).toNatClampNeg)) fun z3 => (f_X6_sumOfWeights_5 n) x1 z3 (x4 + (1 : Int32)) σ))
set_option maxRecDepth 20000 in
theorem s_X6_sumOfWeights_5 {R : Int64 × St} (C : gC p s m args meth c D ca ad 91 LC RX6 cX6_sumOfWeights 5 (some .long)) : ∀ (n : Nat) (x1 : Int32) (x2 : Int64) (x4 : Int32) (σ : St), f_X6_sumOfWeights_5 n x1 x2 x4 σ = some R → G p l e rm_X6_sumOfWeights s m args below meth c D ca ad 91 LC 5 (gEnd below args s D ca ad 91 LC (some (.long R.1)) R.2) 5 [(0, .ref 63), (1, .int x1), (2, .long x2), (4, .int x4)] [] σ := by
  intro n
  induction n with
  | zero =>
    intro x1 x2 x4 σ h
    have h : none = some R := h
    cases h
  | succ n ih =>
    intro x1 x2 x4 σ h
    rw [f_X6_sumOfWeights_5] at h
    refine g_iload C 3 dX6_sumOfWeights_5 rfl ?_
    refine g_aload_n C 0 dX6_sumOfWeights_7 rfl ?_
    refine g_getI C 0 rfl q_X6_9 rfl dX6_sumOfWeights_8 ?_
    refine g_icmp_ge C 35 dX6_sumOfWeights_11 (by decide) (fun hc1 => ?_) (fun hc1 => ?_)
    · have h := ite_t hc1 h
      refine g_lload_n C 2 dX6_sumOfWeights_35 rfl ?_
      obtain rfl := Option.some.inj h
      exact g_lret C dX6_sumOfWeights_36
    · have h := ite_f hc1 h
      refine g_lload_n C 2 dX6_sumOfWeights_14 rfl ?_
      refine g_aload_n C 0 dX6_sumOfWeights_15 rfl ?_
      refine g_getR C 3 64 rfl q_X6_21 rfl rfl dX6_sumOfWeights_16 ?_
      refine g_iload_n C 1 dX6_sumOfWeights_19 rfl ?_
      refine g_bipush C (40 : Int32) dX6_sumOfWeights_20 rfl ?_
      refine g_imul C dX6_sumOfWeights_22 ?_
      refine g_iload C 3 dX6_sumOfWeights_23 rfl ?_
      refine g_iadd C dX6_sumOfWeights_25 ?_
      obtain ⟨hi2, h⟩ := cI_some h
      refine g_lald C 280 rfl ho_19 hi2 dX6_sumOfWeights_26 ?_
      refine g_ladd C dX6_sumOfWeights_27 ?_
      refine g_nmL (fun z3 ez3 => ?_)
      have h := ap_at ez3 h
      refine g_lstore_n C [(2, .long z3), (0, .ref 63), (1, .int x1), (4, .int x4)] dX6_sumOfWeights_28 (by decide) rfl ?_
      refine g_iinc C 3 [(4, .int (x4 + (1 : Int32))), (2, .long z3), (0, .ref 63), (1, .int x1)] dX6_sumOfWeights_29 rfl rfl (by decide) rfl ?_
      refine g_goto C 5 dX6_sumOfWeights_32 (by decide) ?_
      exact g_sub [2, 3, 1, 0] rfl (ih x1 z3 (x4 + (1 : Int32)) σ h)
def f_X6_sumOfWeights (x1 : Int32) (σ : St) : Option (Int64 × St) := (f_X6_sumOfWeights_5 FU) x1 (0 : Int64) (0 : Int32) σ
set_option maxRecDepth 20000 in
theorem m_X6_sumOfWeights {l : Launch} {D : va_G} {ca : Nat → ClassId} {ad : Nat → Nat} {x1 : Int32} {σ : St} {R : Int64 × St} (h : f_X6_sumOfWeights x1 σ = some R) : gM l D ca ad 91 LC yX6_sumOfWeights cX6_sumOfWeights 5 (some .long) rm_X6_sumOfWeights [.ref 63, .int x1] σ (some (.long R.1)) R.2 := by
  refine gM_of (by decide) (Nat.le_of_ble_eq_true rfl) (fun p e s m args below meth c C => ?_)
  refine g_ent (ls' := [(0, .ref 63), (1, .int x1)]) rfl ?_
  unfold f_X6_sumOfWeights at h
  refine g_lconst C (0 : Int64) dX6_sumOfWeights_0 rfl ?_
  refine g_lstore_n C [(2, .long (0 : Int64)), (0, .ref 63), (1, .int x1)] dX6_sumOfWeights_1 (by decide) rfl ?_
  refine g_iconst C (0 : Int32) dX6_sumOfWeights_2 rfl ?_
  refine g_istore C [(4, .int (0 : Int32)), (2, .long (0 : Int64)), (0, .ref 63), (1, .int x1)] dX6_sumOfWeights_3 (by decide) rfl ?_
  exact g_sub [2, 3, 1, 0] rfl ((s_X6_sumOfWeights_5 C FU) x1 (0 : Int64) (0 : Int32) σ h)
def f_X6_isBig_70 (kk7 : Int64 → Int32 → Int32 → St → Option (Int32 × St)) (x1 : Int64) (x3 : Int32) (x4 : Int32) (σ : St) : Option (Int32 × St) := kk7 x1 x3 (x4 + (1 : Int32)) σ
set_option maxRecDepth 20000 in
theorem s_X6_isBig_70 {R : Int32 × St} (C : gC p s m args meth c D ca ad 91 LC RX6 cX6_isBig 7 (some .boolean)) {kk7 : Int64 → Int32 → Int32 → St → Option (Int32 × St)} (HK7 : ∀ (x1 : Int64) (x3 : Int32) (x4 : Int32) (σ : St), kk7 x1 x3 x4 σ = some R → G p l e rm_X6_isBig s m args below meth c D ca ad 91 LC 7 (gEnd below args s D ca ad 91 LC (some (.int R.1)) R.2) 7 [(0, .ref 63), (1, .long x1), (3, .int x3), (4, .int x4)] [] σ) (x1 : Int64) (x3 : Int32) (x4 : Int32) (σ : St) (h : f_X6_isBig_70 kk7 x1 x3 x4 σ = some R) : G p l e rm_X6_isBig s m args below meth c D ca ad 91 LC 7 (gEnd below args s D ca ad 91 LC (some (.int R.1)) R.2) 70 [(0, .ref 63), (1, .long x1), (3, .int x3), (4, .int x4)] [] σ := by
  unfold f_X6_isBig_70 at h
  refine g_iinc C 3 [(4, .int (x4 + (1 : Int32))), (0, .ref 63), (1, .long x1), (3, .int x3)] dX6_isBig_70 rfl rfl (by decide) rfl ?_
  refine g_goto C 7 dX6_isBig_73 (by decide) ?_
  exact g_sub [1, 2, 3, 0] rfl (HK7 x1 x3 (x4 + (1 : Int32)) σ h)
def f_X6_isBig_60 (kk7 : Int64 → Int32 → Int32 → St → Option (Int32 × St)) (x1 : Int64) (x4 : Int32) (σ : St) : Option (Int32 × St) := (f_X6_isBig_70 kk7) x1 (1 : Int32) x4 σ
set_option maxRecDepth 20000 in
theorem s_X6_isBig_60 {R : Int32 × St} (C : gC p s m args meth c D ca ad 91 LC RX6 cX6_isBig 7 (some .boolean)) {kk7 : Int64 → Int32 → Int32 → St → Option (Int32 × St)} (HK7 : ∀ (x1 : Int64) (x3 : Int32) (x4 : Int32) (σ : St), kk7 x1 x3 x4 σ = some R → G p l e rm_X6_isBig s m args below meth c D ca ad 91 LC 7 (gEnd below args s D ca ad 91 LC (some (.int R.1)) R.2) 7 [(0, .ref 63), (1, .long x1), (3, .int x3), (4, .int x4)] [] σ) (x1 : Int64) (x4 : Int32) (σ : St) (h : f_X6_isBig_60 kk7 x1 x4 σ = some R) : G p l e rm_X6_isBig s m args below meth c D ca ad 91 LC 7 (gEnd below args s D ca ad 91 LC (some (.int R.1)) R.2) 60 [(0, .ref 63), (1, .long x1), (4, .int x4)] [] σ := by
  unfold f_X6_isBig_60 at h
  refine g_iconst C (1 : Int32) dX6_isBig_60 rfl ?_
  refine g_istore_n C [(3, .int (1 : Int32)), (0, .ref 63), (1, .long x1), (4, .int x4)] dX6_isBig_61 (by decide) rfl ?_
  refine g_goto C 70 dX6_isBig_62 (by decide) ?_
  exact g_sub [1, 2, 0, 3] rfl ((s_X6_isBig_70 C HK7) x1 (1 : Int32) x4 σ h)
def f_X6_isBig_7 : Nat → Int64 → Int32 → Int32 → St → Option (Int32 × St)
  | 0, _, _, _, _ => none
  | n + 1, x1, x3, x4, σ => (if (σ.1 63 1) ≤ x4 then cI (zb x3) (some (x3, σ)) else (f_X6_isMember x4 σ).bind (fun q3 => (if q3.1 = 0 then (f_X6_isBig_70 (f_X6_isBig_7 n)) x1 x3 x4 q3.2 else (f_X6_sumOfWeights x4 q3.2).bind (fun q5 => (if q5.1 = (0 : Int64) then some ((0 : Int32), q5.2) else (if x3 = 0 then cI (!decide (q5.1 = 0)) ((if x1 ≤ ((4000000000000000 : Int64) / q5.1) then (f_X6_isBig_70 (f_X6_isBig_7 n)) (x1 * q5.1) x3 x4 q5.2 else (f_X6_isBig_60 (f_X6_isBig_7 n)) x1 x4 q5.2)) else (f_X6_isBig_60 (f_X6_isBig_7 n)) x1 x4 q5.2))))))
set_option maxRecDepth 20000 in
theorem s_X6_isBig_7 {R : Int32 × St} (C : gC p s m args meth c D ca ad 91 LC RX6 cX6_isBig 7 (some .boolean)) : ∀ (n : Nat) (x1 : Int64) (x3 : Int32) (x4 : Int32) (σ : St), f_X6_isBig_7 n x1 x3 x4 σ = some R → G p l e rm_X6_isBig s m args below meth c D ca ad 91 LC 7 (gEnd below args s D ca ad 91 LC (some (.int R.1)) R.2) 7 [(0, .ref 63), (1, .long x1), (3, .int x3), (4, .int x4)] [] σ := by
  intro n
  induction n with
  | zero =>
    intro x1 x3 x4 σ h
    have h : none = some R := h
    cases h
  | succ n ih =>
    intro x1 x3 x4 σ h
    rw [f_X6_isBig_7] at h
    refine g_iload C 3 dX6_isBig_7 rfl ?_
    refine g_aload_n C 0 dX6_isBig_9 rfl ?_
    refine g_getI C 1 rfl q_X6_15 rfl dX6_isBig_10 ?_
    refine g_icmp_ge C 76 dX6_isBig_13 (by decide) (fun hc1 => ?_) (fun hc1 => ?_)
    · have h := ite_t hc1 h
      refine g_iload_n C 2 dX6_isBig_76 rfl ?_
      obtain ⟨hz2, h⟩ := cI_some h
      obtain rfl := Option.some.inj h
      exact g_zret C (zb_n hz2) dX6_isBig_77
    · have h := ite_f hc1 h
      refine g_aload_n C 0 dX6_isBig_16 rfl ?_
      refine g_iload C 3 dX6_isBig_17 rfl ?_
      obtain ⟨q3, hq3, h⟩ := bd h
      refine g_callVI C [.int x4] qv_X6_74 (m_X6_isMember hq3) rfl (by decide) rfl rfl rfl ⟨rfl, rfl⟩ ⟨by decide, by decide⟩ (Nat.le_of_ble_eq_true rfl) dX6_isBig_19 ?_
      refine g_if_ne C 28 dX6_isBig_22 (by decide) (fun hc4 => ?_) (fun hc4 => ?_)
      · have h := ite_f hc4 h
        refine g_aload_n C 0 dX6_isBig_28 rfl ?_
        refine g_iload C 3 dX6_isBig_29 rfl ?_
        obtain ⟨q5, hq5, h⟩ := bd h
        refine g_callVL C [.int x4] qv_X6_78 (m_X6_sumOfWeights hq5) rfl (by decide) rfl rfl rfl ⟨rfl, rfl⟩ ⟨by decide, by decide⟩ (Nat.le_of_ble_eq_true rfl) dX6_isBig_31 ?_
        refine g_lstore C [(5, .long q5.1), (0, .ref 63), (1, .long x1), (3, .int x3), (4, .int x4)] dX6_isBig_34 (by decide) rfl ?_
        refine g_lload C 0 dX6_isBig_36 rfl ?_
        refine g_lconst C (0 : Int64) dX6_isBig_38 rfl ?_
        refine g_lcmp_ne C 45 dX6_isBig_39 dX6_isBig_40 (by decide) (fun hc6 => ?_) (fun hc6 => ?_)
        · have h := ite_f hc6 h
          refine g_iload_n C 3 dX6_isBig_45 rfl ?_
          refine g_if_ne C 60 dX6_isBig_46 (by decide) (fun hc7 => ?_) (fun hc7 => ?_)
          · have h := ite_f hc7 h
            exact g_sub [1, 2, 4] rfl ((s_X6_isBig_60 C ih) x1 x4 q5.2 h)
          · have h := ite_t hc7 h
            refine g_lload_n C 2 dX6_isBig_49 rfl ?_
            refine g_ldc2 C (4000000000000000 : Int64) qc_X6_82 dX6_isBig_50 ?_
            refine g_lload C 0 dX6_isBig_53 rfl ?_
            obtain ⟨hz8, h⟩ := cI_some h
            refine g_ldiv C dX6_isBig_55 (by simpa using hz8) ?_
            refine g_lcmp_le C 65 dX6_isBig_56 dX6_isBig_57 (by decide) (fun hc9 => ?_) (fun hc9 => ?_)
            · have h := ite_t hc9 h
              refine g_lload_n C 2 dX6_isBig_65 rfl ?_
              refine g_lload C 0 dX6_isBig_66 rfl ?_
              refine g_lmul C dX6_isBig_68 ?_
              refine g_lstore_n C [(1, .long (x1 * q5.1)), (5, .long q5.1), (0, .ref 63), (3, .int x3), (4, .int x4)] dX6_isBig_69 (by decide) rfl ?_
              exact g_sub [2, 0, 3, 4] rfl ((s_X6_isBig_70 C ih) (x1 * q5.1) x3 x4 q5.2 h)
            · have h := ite_f hc9 h
              exact g_sub [1, 2, 4] rfl ((s_X6_isBig_60 C ih) x1 x4 q5.2 h)
        · have h := ite_t hc6 h
          refine g_iconst C (0 : Int32) dX6_isBig_43 rfl ?_
          obtain rfl := Option.some.inj h
          exact g_zret C nz0 dX6_isBig_44
      · have h := ite_t hc4 h
        refine g_goto C 70 dX6_isBig_25 (by decide) ?_
        exact g_sub [0, 1, 2, 3] rfl ((s_X6_isBig_70 C ih) x1 x3 x4 q3.2 h)
def f_X6_isBig (σ : St) : Option (Int32 × St) := (f_X6_isBig_7 FU) (1 : Int64) (0 : Int32) (0 : Int32) σ
set_option maxRecDepth 20000 in
theorem m_X6_isBig {l : Launch} {D : va_G} {ca : Nat → ClassId} {ad : Nat → Nat} {σ : St} {R : Int32 × St} (h : f_X6_isBig σ = some R) : gM l D ca ad 91 LC yX6_isBig cX6_isBig 7 (some .boolean) rm_X6_isBig [.ref 63] σ (some (.int R.1)) R.2 := by
  refine gM_of (by decide) (Nat.le_of_ble_eq_true rfl) (fun p e s m args below meth c C => ?_)
  refine g_ent (ls' := [(0, .ref 63)]) rfl ?_
  unfold f_X6_isBig at h
  refine g_lconst C (1 : Int64) dX6_isBig_0 rfl ?_
  refine g_lstore_n C [(1, .long (1 : Int64)), (0, .ref 63)] dX6_isBig_1 (by decide) rfl ?_
  refine g_iconst C (0 : Int32) dX6_isBig_2 rfl ?_
  refine g_istore_n C [(3, .int (0 : Int32)), (1, .long (1 : Int64)), (0, .ref 63)] dX6_isBig_3 (by decide) rfl ?_
  refine g_iconst C (0 : Int32) dX6_isBig_4 rfl ?_
  refine g_istore C [(4, .int (0 : Int32)), (3, .int (0 : Int32)), (1, .long (1 : Int64)), (0, .ref 63)] dX6_isBig_5 (by decide) rfl ?_
  exact g_sub [3, 2, 1, 0] rfl ((s_X6_isBig_7 C FU) (1 : Int64) (0 : Int32) (0 : Int32) σ h)
end
