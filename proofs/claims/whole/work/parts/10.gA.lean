section
variable {p : Program} {l : Launch} {e : Env} {s : State} {m : MethodId} {args : Array Value} {below : List Frame} {meth : Method} {c : Code} {D : va_G} {ca : Nat → ClassId} {ad : Nat → Nat}
def f_J7_fill_d0a16_6 : Nat → Nat → Nat → Int64 → Int32 → Int32 → St → Option (St)
  | 0, _, _, _, _, _, _ => none
  | n + 1, k0, n0, x1, x3, x4, σ => (if x4 ≤ x3 then some σ else cI (ix x3 n0) (ap (up2 σ k0 x3.toNatClampNeg x1) fun σ3 => (f_J7_fill_d0a16_6 n) k0 n0 x1 (x3 + (1 : Int32)) x4 σ3))
set_option maxRecDepth 20000 in
theorem s_J7_fill_d0a16_6 {R : St} {cd0 : Nat} (C : gC p s m args meth c D ca ad 91 LC RJ7 cJ7_fill_d0a16 5 none) : ∀ (n : Nat) (k0 : Nat) (n0 : Nat) (hk0 : LC k0 = cd0) (ho0 : gok cd0 1 n0) (x1 : Int64) (x3 : Int32) (x4 : Int32) (σ : St), f_J7_fill_d0a16_6 n k0 n0 x1 x3 x4 σ = some R → G p l e rm_J7_fill_d0a16 s m args below meth c D ca ad 91 LC 5 (gEnd below args s D ca ad 91 LC none R) 6 [(0, .ref k0), (1, .long x1), (3, .int x3), (4, .int x4)] [] σ := by
  intro n
  induction n with
  | zero =>
    intro k0 n0 hk0 ho0 x1 x3 x4 σ h
    have h : none = some R := h
    cases h
  | succ n ih =>
    intro k0 n0 hk0 ho0 x1 x3 x4 σ h
    rw [f_J7_fill_d0a16_6] at h
    refine g_iload_n C 2 dJ7_fill_d0a16_6 rfl ?_
    refine g_iload C 3 dJ7_fill_d0a16_7 rfl ?_
    refine g_icmp_ge C 22 dJ7_fill_d0a16_9 (by decide) (fun hc1 => ?_) (fun hc1 => ?_)
    · have h := ite_t hc1 h
      obtain rfl := Option.some.inj h
      exact g_vret C dJ7_fill_d0a16_22
    · have h := ite_f hc1 h
      refine g_aload_n C 0 dJ7_fill_d0a16_12 rfl ?_
      refine g_iload_n C 2 dJ7_fill_d0a16_13 rfl ?_
      refine g_lload_n C 1 dJ7_fill_d0a16_14 rfl ?_
      obtain ⟨hi2, h⟩ := cI_some h
      refine g_last C n0 hk0 ho0 hi2 dJ7_fill_d0a16_15 ?_
      refine g_nmS (fun σ3 eσ3 => ?_)
      have h := ap_at eσ3 h
      refine g_iinc C 2 [(3, .int (x3 + (1 : Int32))), (0, .ref k0), (1, .long x1), (4, .int x4)] dJ7_fill_d0a16_16 rfl rfl (by decide) rfl ?_
      refine g_goto C 6 dJ7_fill_d0a16_19 (by decide) ?_
      exact g_sub [1, 2, 0, 3] rfl (ih k0 n0 hk0 ho0 x1 (x3 + (1 : Int32)) x4 σ3 h)
def f_J7_fill_d0a16 (k0 : Nat) (n0 : Nat) (x1 : Int64) (σ : St) : Option (St) := (f_J7_fill_d0a16_6 FU) k0 n0 x1 (0 : Int32) (nI n0) σ
set_option maxRecDepth 20000 in
theorem m_J7_fill_d0a16 {l : Launch} {D : va_G} {ca : Nat → ClassId} {ad : Nat → Nat} {cd0 : Nat} {k0 : Nat} {n0 : Nat} {x1 : Int64} {σ : St} {R : St} (hk0 : LC k0 = cd0) (ho0 : gok cd0 1 n0) (h : f_J7_fill_d0a16 k0 n0 x1 σ = some R) : gM l D ca ad 91 LC yJ7_fill_d0a16 cJ7_fill_d0a16 5 none rm_J7_fill_d0a16 [.ref k0, .long x1] σ none R := by
  refine gM_of (by decide) (Nat.le_of_ble_eq_true rfl) (fun p e s m args below meth c C => ?_)
  refine g_ent (ls' := [(0, .ref k0), (1, .long x1)]) rfl ?_
  unfold f_J7_fill_d0a16 at h
  refine g_iconst C (0 : Int32) dJ7_fill_d0a16_0 rfl ?_
  refine g_istore_n C [(3, .int (0 : Int32)), (0, .ref k0), (1, .long x1)] dJ7_fill_d0a16_1 (by decide) rfl ?_
  refine g_aload_n C 1 dJ7_fill_d0a16_2 rfl ?_
  refine g_alen C 1 n0 hk0 ho0 (by decide) dJ7_fill_d0a16_3 ?_
  refine g_istore C [(4, .int (nI n0)), (3, .int (0 : Int32)), (0, .ref k0), (1, .long x1)] dJ7_fill_d0a16_4 (by decide) rfl ?_
  exact g_sub [2, 3, 1, 0] rfl ((s_J7_fill_d0a16_6 C FU) k0 n0 hk0 ho0 x1 (0 : Int32) (nI n0) σ h)
def f_X1_become_43 (k0 : Nat) (xs0 : Int32) (xs1 : Int32) (ks2 : Nat) (σ : St) : Option (St) := cI (ix xs1 5) (ap (up1 σ ks2 xs1.toNatClampNeg xs0) fun σ2 => cI (ix (0 : Int32) 5) (ap (up1 σ2 (k0 + 2) (0 : Int32).toNatClampNeg (0 : Int32)) fun σ4 => some σ4))
set_option maxRecDepth 20000 in
theorem s_X1_become_43 {R : St} (C : gC p s m args meth c D ca ad 91 LC RX1 cX1_become 3 none) (k0 : Nat) (hk0 : LC k0 = 1) (xs0 : Int32) (xs1 : Int32) (ks2 : Nat) (hks2 : LC ks2 = 10) (σ : St) (h : f_X1_become_43 k0 xs0 xs1 ks2 σ = some R) : G p l e rm_X1_become s m args below meth c D ca ad 91 LC 3 (gEnd below args s D ca ad 91 LC none R) 43 [(0, .ref k0)] [.int xs0, .int xs1, .ref ks2] σ := by
  unfold f_X1_become_43 at h
  obtain ⟨hi1, h⟩ := cI_some h
  refine g_iast C 5 hks2 ho_10 hi1 dX1_become_43 ?_
  refine g_nmS (fun σ2 eσ2 => ?_)
  have h := ap_at eσ2 h
  refine g_aload_n C 0 dX1_become_44 rfl ?_
  refine g_getR C 4 (k0 + 2) hk0 q_X1_25 rfl rfl dX1_become_45 ?_
  refine g_iconst C (0 : Int32) dX1_become_48 rfl ?_
  refine g_iconst C (0 : Int32) dX1_become_49 rfl ?_
  obtain ⟨hi3, h⟩ := cI_some h
  refine g_iast C 5 (sc_1_4 hk0) ho_10 hi3 dX1_become_50 ?_
  refine g_nmS (fun σ4 eσ4 => ?_)
  have h := ap_at eσ4 h
  obtain rfl := Option.some.inj h
  exact g_vret C dX1_become_51
def f_X1_become_25 (k0 : Nat) (x1 : Int32) (x2 : Int32) (xs0 : Int32) (ks1 : Nat) (σ : St) : Option (St) := ap (up1 σ ks1 2 xs0) fun σ1 => (if x1 = (2 : Int32) then (f_X1_become_43) k0 (0 : Int32) (0 : Int32) (k0 + 1) σ1 else (f_X1_become_43) k0 x2 (0 : Int32) (k0 + 1) σ1)
set_option maxRecDepth 20000 in
theorem s_X1_become_25 {R : St} (C : gC p s m args meth c D ca ad 91 LC RX1 cX1_become 3 none) (k0 : Nat) (hk0 : LC k0 = 1) (x1 : Int32) (x2 : Int32) (xs0 : Int32) (ks1 : Nat) (hks1 : LC ks1 = 1) (σ : St) (h : f_X1_become_25 k0 x1 x2 xs0 ks1 σ = some R) : G p l e rm_X1_become s m args below meth c D ca ad 91 LC 3 (gEnd below args s D ca ad 91 LC none R) 25 [(0, .ref k0), (1, .int x1), (2, .int x2)] [.int xs0, .ref ks1] σ := by
  unfold f_X1_become_25 at h
  refine g_putI C 2 hks1 qp_X1_18 rfl dX1_become_25 ?_
  refine g_nmS (fun σ1 eσ1 => ?_)
  have h := ap_at eσ1 h
  refine g_aload_n C 0 dX1_become_28 rfl ?_
  refine g_getR C 3 (k0 + 1) hk0 q_X1_21 rfl rfl dX1_become_29 ?_
  refine g_iconst C (0 : Int32) dX1_become_32 rfl ?_
  refine g_iload_n C 1 dX1_become_33 rfl ?_
  refine g_iconst C (2 : Int32) dX1_become_34 rfl ?_
  refine g_icmp_ne C 42 dX1_become_35 (by decide) (fun hc2 => ?_) (fun hc2 => ?_)
  · have h := ite_f hc2 h
    refine g_iload_n C 2 dX1_become_42 rfl ?_
    exact g_sub [0] rfl ((s_X1_become_43 C) k0 hk0 x2 (0 : Int32) (k0 + 1) (sc_1_3 hk0) σ1 h)
  · have h := ite_t hc2 h
    refine g_iconst C (0 : Int32) dX1_become_38 rfl ?_
    refine g_goto C 43 dX1_become_39 (by decide) ?_
    exact g_sub [0] rfl ((s_X1_become_43 C) k0 hk0 (0 : Int32) (0 : Int32) (k0 + 1) (sc_1_3 hk0) σ1 h)
def f_X1_become_20 (k0 : Nat) (x1 : Int32) (x2 : Int32) (ks0 : Nat) (σ : St) : Option (St) := (f_X1_become_25) k0 x1 x2 (1 : Int32) ks0 σ
set_option maxRecDepth 20000 in
theorem s_X1_become_20 {R : St} (C : gC p s m args meth c D ca ad 91 LC RX1 cX1_become 3 none) (k0 : Nat) (hk0 : LC k0 = 1) (x1 : Int32) (x2 : Int32) (ks0 : Nat) (hks0 : LC ks0 = 1) (σ : St) (h : f_X1_become_20 k0 x1 x2 ks0 σ = some R) : G p l e rm_X1_become s m args below meth c D ca ad 91 LC 3 (gEnd below args s D ca ad 91 LC none R) 20 [(0, .ref k0), (1, .int x1), (2, .int x2)] [.ref ks0] σ := by
  unfold f_X1_become_20 at h
  refine g_iconst C (1 : Int32) dX1_become_20 rfl ?_
  refine g_goto C 25 dX1_become_21 (by decide) ?_
  exact g_sub [0, 1, 2] rfl ((s_X1_become_25 C) k0 hk0 x1 x2 (1 : Int32) ks0 hks0 σ h)
def f_X1_become (k0 : Nat) (x1 : Int32) (x2 : Int32) (σ : St) : Option (St) := ap (up1 (up1 σ k0 0 x1) k0 1 (0 : Int32)) fun σ1 => (if x1 = 0 then (f_X1_become_20) k0 x1 x2 k0 σ1 else (if x1 = (1 : Int32) then (f_X1_become_20) k0 x1 x2 k0 σ1 else (f_X1_become_25) k0 x1 x2 (0 : Int32) k0 σ1))
set_option maxRecDepth 20000 in
theorem m_X1_become {l : Launch} {D : va_G} {ca : Nat → ClassId} {ad : Nat → Nat} {k0 : Nat} {x1 : Int32} {x2 : Int32} {σ : St} {R : St} (hk0 : LC k0 = 1) (h : f_X1_become k0 x1 x2 σ = some R) : gM l D ca ad 91 LC yX1_become cX1_become 3 none rm_X1_become [.ref k0, .int x1, .int x2] σ none R := by
  refine gM_of (by decide) (Nat.le_of_ble_eq_true rfl) (fun p e s m args below meth c C => ?_)
  refine g_ent (ls' := [(0, .ref k0), (1, .int x1), (2, .int x2)]) rfl ?_
  unfold f_X1_become at h
  refine g_aload_n C 0 dX1_become_0 rfl ?_
  refine g_iload_n C 1 dX1_become_1 rfl ?_
  refine g_putI C 0 hk0 qp_X1_9 rfl dX1_become_2 ?_
  refine g_aload_n C 0 dX1_become_5 rfl ?_
  refine g_iconst C (0 : Int32) dX1_become_6 rfl ?_
  refine g_putI C 1 hk0 qp_X1_15 rfl dX1_become_7 ?_
  refine g_nmS (fun σ1 eσ1 => ?_)
  have h := ap_at eσ1 h
  refine g_aload_n C 0 dX1_become_10 rfl ?_
  refine g_iload_n C 1 dX1_become_11 rfl ?_
  refine g_if_eq C 20 dX1_become_12 (by decide) (fun hc2 => ?_) (fun hc2 => ?_)
  · have h := ite_t hc2 h
    exact g_sub [0, 1, 2] rfl ((s_X1_become_20 C) k0 hk0 x1 x2 k0 hk0 σ1 h)
  · have h := ite_f hc2 h
    refine g_iload_n C 1 dX1_become_15 rfl ?_
    refine g_iconst C (1 : Int32) dX1_become_16 rfl ?_
    refine g_icmp_ne C 24 dX1_become_17 (by decide) (fun hc3 => ?_) (fun hc3 => ?_)
    · have h := ite_f hc3 h
      refine g_iconst C (0 : Int32) dX1_become_24 rfl ?_
      exact g_sub [0, 1, 2] rfl ((s_X1_become_25 C) k0 hk0 x1 x2 (0 : Int32) k0 hk0 σ1 h)
    · have h := ite_t hc3 h
      exact g_sub [0, 1, 2] rfl ((s_X1_become_20 C) k0 hk0 x1 x2 k0 hk0 σ1 h)
def f_X1_addAge (k0 : Nat) (x1 : Int32) (x2 : Int32) (σ : St) : Option (St) := (if (5 : Int32) ≤ (σ.1 k0 2) then some σ else cI (ix (σ.1 k0 2) 5) (ap (up1 σ (k0 + 1) (σ.1 k0 2).toNatClampNeg x1) fun σ3 => cI (ix (σ3.1 k0 2) 5) (ap (up1 σ3 (k0 + 2) (σ3.1 k0 2).toNatClampNeg x2) fun σ5 => ap (up1 σ5 k0 2 ((σ5.1 k0 2) + (1 : Int32))) fun σ6 => some σ6)))
set_option maxRecDepth 20000 in
theorem m_X1_addAge {l : Launch} {D : va_G} {ca : Nat → ClassId} {ad : Nat → Nat} {k0 : Nat} {x1 : Int32} {x2 : Int32} {σ : St} {R : St} (hk0 : LC k0 = 1) (h : f_X1_addAge k0 x1 x2 σ = some R) : gM l D ca ad 91 LC yX1_addAge cX1_addAge 3 none rm_X1_addAge [.ref k0, .int x1, .int x2] σ none R := by
  refine gM_of (by decide) (Nat.le_of_ble_eq_true rfl) (fun p e s m args below meth c C => ?_)
  refine g_ent (ls' := [(0, .ref k0), (1, .int x1), (2, .int x2)]) rfl ?_
  unfold f_X1_addAge at h
  refine g_aload_n C 0 dX1_addAge_0 rfl ?_
  refine g_getI C 2 hk0 q_X1_18 rfl dX1_addAge_1 ?_
  refine g_iconst C (5 : Int32) dX1_addAge_4 rfl ?_
  refine g_icmp_ge C 38 dX1_addAge_5 (by decide) (fun hc1 => ?_) (fun hc1 => ?_)
  · have h := ite_t hc1 h
    obtain rfl := Option.some.inj h
    exact g_vret C dX1_addAge_38
  · have h := ite_f hc1 h
    refine g_aload_n C 0 dX1_addAge_8 rfl ?_
    refine g_getR C 3 (k0 + 1) hk0 q_X1_21 rfl rfl dX1_addAge_9 ?_
    refine g_aload_n C 0 dX1_addAge_12 rfl ?_
    refine g_getI C 2 hk0 q_X1_18 rfl dX1_addAge_13 ?_
    refine g_iload_n C 1 dX1_addAge_16 rfl ?_
    obtain ⟨hi2, h⟩ := cI_some h
    refine g_iast C 5 (sc_1_3 hk0) ho_10 hi2 dX1_addAge_17 ?_
    refine g_nmS (fun σ3 eσ3 => ?_)
    have h := ap_at eσ3 h
    refine g_aload_n C 0 dX1_addAge_18 rfl ?_
    refine g_getR C 4 (k0 + 2) hk0 q_X1_25 rfl rfl dX1_addAge_19 ?_
    refine g_aload_n C 0 dX1_addAge_22 rfl ?_
    refine g_getI C 2 hk0 q_X1_18 rfl dX1_addAge_23 ?_
    refine g_iload_n C 2 dX1_addAge_26 rfl ?_
    obtain ⟨hi4, h⟩ := cI_some h
    refine g_iast C 5 (sc_1_4 hk0) ho_10 hi4 dX1_addAge_27 ?_
    refine g_nmS (fun σ5 eσ5 => ?_)
    have h := ap_at eσ5 h
    refine g_aload_n C 0 dX1_addAge_28 rfl ?_
    refine g_dup C rfl dX1_addAge_29 ?_
    refine g_getI C 2 hk0 q_X1_18 rfl dX1_addAge_30 ?_
    refine g_iconst C (1 : Int32) dX1_addAge_33 rfl ?_
    refine g_iadd C dX1_addAge_34 ?_
    refine g_putI C 2 hk0 qp_X1_18 rfl dX1_addAge_35 ?_
    refine g_nmS (fun σ6 eσ6 => ?_)
    have h := ap_at eσ6 h
    obtain rfl := Option.some.inj h
    exact g_vret C dX1_addAge_38
def f_X1_copyFrom (k0 : Nat) (k1 : Nat) (σ : St) : Option (St) := ap (up1 σ k0 0 (σ.1 k1 0)) fun σ1 => ap (up1 σ1 k0 1 (σ1.1 k1 1)) fun σ2 => ap (up1 σ2 k0 2 (σ2.1 k1 2)) fun σ3 => cI (cpk (0 : Int32) (0 : Int32) (5 : Int32) 5 5) (ap (rw1 σ3 (k0 + 1) (va_cpy (σ3.1 (k1 + 1)) (σ3.1 (k0 + 1)) (0 : Int32).toNatClampNeg (0 : Int32).toNatClampNeg (5 : Int32).toNatClampNeg)) fun σ5 => cI (cpk (0 : Int32) (0 : Int32) (5 : Int32) 5 5) (ap (rw1 σ5 (k0 + 2) (va_cpy (σ5.1 (k1 + 2)) (σ5.1 (k0 + 2)) (0 : Int32).toNatClampNeg (0 : Int32).toNatClampNeg (5 : Int32).toNatClampNeg)) fun σ7 => some σ7))
set_option maxRecDepth 20000 in
theorem m_X1_copyFrom {l : Launch} {D : va_G} {ca : Nat → ClassId} {ad : Nat → Nat} {k0 : Nat} {k1 : Nat} {σ : St} {R : St} (hk0 : LC k0 = 1) (hk1 : LC k1 = 1) (h : f_X1_copyFrom k0 k1 σ = some R) : gM l D ca ad 91 LC yX1_copyFrom cX1_copyFrom 2 none rm_X1_copyFrom [.ref k0, .ref k1] σ none R := by
  refine gM_of (by decide) (Nat.le_of_ble_eq_true rfl) (fun p e s m args below meth c C => ?_)
  refine g_ent (ls' := [(0, .ref k0), (1, .ref k1)]) rfl ?_
  unfold f_X1_copyFrom at h
  refine g_aload_n C 0 dX1_copyFrom_0 rfl ?_
  refine g_aload_n C 1 dX1_copyFrom_1 rfl ?_
  refine g_getI C 0 hk1 q_X1_9 rfl dX1_copyFrom_2 ?_
  refine g_putI C 0 hk0 qp_X1_9 rfl dX1_copyFrom_5 ?_
  refine g_nmS (fun σ1 eσ1 => ?_)
  have h := ap_at eσ1 h
  refine g_aload_n C 0 dX1_copyFrom_8 rfl ?_
  refine g_aload_n C 1 dX1_copyFrom_9 rfl ?_
  refine g_getI C 1 hk1 q_X1_15 rfl dX1_copyFrom_10 ?_
  refine g_putI C 1 hk0 qp_X1_15 rfl dX1_copyFrom_13 ?_
  refine g_nmS (fun σ2 eσ2 => ?_)
  have h := ap_at eσ2 h
  refine g_aload_n C 0 dX1_copyFrom_16 rfl ?_
  refine g_aload_n C 1 dX1_copyFrom_17 rfl ?_
  refine g_getI C 2 hk1 q_X1_18 rfl dX1_copyFrom_18 ?_
  refine g_putI C 2 hk0 qp_X1_18 rfl dX1_copyFrom_21 ?_
  refine g_nmS (fun σ3 eσ3 => ?_)
  have h := ap_at eσ3 h
  refine g_aload_n C 1 dX1_copyFrom_24 rfl ?_
  refine g_getR C 3 (k1 + 1) hk1 q_X1_21 rfl rfl dX1_copyFrom_25 ?_
  refine g_iconst C (0 : Int32) dX1_copyFrom_28 rfl ?_
  refine g_aload_n C 0 dX1_copyFrom_29 rfl ?_
  refine g_getR C 3 (k0 + 1) hk0 q_X1_21 rfl rfl dX1_copyFrom_30 ?_
  refine g_iconst C (0 : Int32) dX1_copyFrom_33 rfl ?_
  refine g_iconst C (5 : Int32) dX1_copyFrom_34 rfl ?_
  obtain ⟨hz4, h⟩ := cI_some h
  refine g_copyI C 5 5 qa_X1_28 (sc_1_3 hk1) ho_10 (sc_1_3 hk0) ho_10 hz4 (by decide) (Nat.le_of_ble_eq_true rfl) dX1_copyFrom_35 ?_
  refine g_nmS (fun σ5 eσ5 => ?_)
  have h := ap_at eσ5 h
  refine g_aload_n C 1 dX1_copyFrom_38 rfl ?_
  refine g_getR C 4 (k1 + 2) hk1 q_X1_25 rfl rfl dX1_copyFrom_39 ?_
  refine g_iconst C (0 : Int32) dX1_copyFrom_42 rfl ?_
  refine g_aload_n C 0 dX1_copyFrom_43 rfl ?_
  refine g_getR C 4 (k0 + 2) hk0 q_X1_25 rfl rfl dX1_copyFrom_44 ?_
  refine g_iconst C (0 : Int32) dX1_copyFrom_47 rfl ?_
  refine g_iconst C (5 : Int32) dX1_copyFrom_48 rfl ?_
  obtain ⟨hz6, h⟩ := cI_some h
  refine g_copyI C 5 5 qa_X1_28 (sc_1_4 hk1) ho_10 (sc_1_4 hk0) ho_10 hz6 (by decide) (Nat.le_of_ble_eq_true rfl) dX1_copyFrom_49 ?_
  refine g_nmS (fun σ7 eσ7 => ?_)
  have h := ap_at eσ7 h
  obtain rfl := Option.some.inj h
  exact g_vret C dX1_copyFrom_52
def f_X1_weightFrom (k0 : Nat) (x1 : Int32) (x2 : Int32) (σ : St) : Option (Int32 × St) := (if (σ.1 k0 1) = 0 then some (x1, σ) else some (((((10 : Int32) - (σ.1 k0 1)) * x1) + ((σ.1 k0 1) * x2)), σ))
set_option maxRecDepth 20000 in
theorem m_X1_weightFrom {l : Launch} {D : va_G} {ca : Nat → ClassId} {ad : Nat → Nat} {k0 : Nat} {x1 : Int32} {x2 : Int32} {σ : St} {R : Int32 × St} (hk0 : LC k0 = 1) (h : f_X1_weightFrom k0 x1 x2 σ = some R) : gM l D ca ad 91 LC yX1_weightFrom cX1_weightFrom 3 (some .int) rm_X1_weightFrom [.ref k0, .int x1, .int x2] σ (some (.int R.1)) R.2 := by
  refine gM_of (by decide) (Nat.le_of_ble_eq_true rfl) (fun p e s m args below meth c C => ?_)
  refine g_ent (ls' := [(0, .ref k0), (1, .int x1), (2, .int x2)]) rfl ?_
  unfold f_X1_weightFrom at h
  refine g_aload_n C 0 dX1_weightFrom_0 rfl ?_
  refine g_getI C 1 hk0 q_X1_15 rfl dX1_weightFrom_1 ?_
  refine g_if_ne C 11 dX1_weightFrom_4 (by decide) (fun hc1 => ?_) (fun hc1 => ?_)
  · have h := ite_f hc1 h
    refine g_bipush C (10 : Int32) dX1_weightFrom_11 rfl ?_
    refine g_aload_n C 0 dX1_weightFrom_13 rfl ?_
    refine g_getI C 1 hk0 q_X1_15 rfl dX1_weightFrom_14 ?_
    refine g_isub C dX1_weightFrom_17 ?_
    refine g_iload_n C 1 dX1_weightFrom_18 rfl ?_
    refine g_imul C dX1_weightFrom_19 ?_
    refine g_aload_n C 0 dX1_weightFrom_20 rfl ?_
    refine g_getI C 1 hk0 q_X1_15 rfl dX1_weightFrom_21 ?_
    refine g_iload_n C 2 dX1_weightFrom_24 rfl ?_
    refine g_imul C dX1_weightFrom_25 ?_
    refine g_iadd C dX1_weightFrom_26 ?_
    obtain rfl := Option.some.inj h
    exact g_iret C dX1_weightFrom_27
  · have h := ite_t hc1 h
    refine g_iload_n C 1 dX1_weightFrom_7 rfl ?_
    refine g_goto C 27 dX1_weightFrom_8 (by decide) ?_
    obtain rfl := Option.some.inj h
    exact g_iret C dX1_weightFrom_27
def f_X2_howOf (k0 : Nat) (x1 : Int32) (x2 : Int32) (σ : St) : Option (Int32 × St) := cI (ix x2 7) ((if (((σ.1 (k0 + 1) x2.toNatClampNeg) >>> (x1 &&& 31)) &&& (1 : Int32)) = 0 then cI (ix x2 7) ((if (((σ.1 (k0 + 2) x2.toNatClampNeg) >>> (x1 &&& 31)) &&& (1 : Int32)) = 0 then some ((0 : Int32), σ) else some ((2 : Int32), σ))) else some ((1 : Int32), σ)))
set_option maxRecDepth 20000 in
theorem m_X2_howOf {l : Launch} {D : va_G} {ca : Nat → ClassId} {ad : Nat → Nat} {k0 : Nat} {x1 : Int32} {x2 : Int32} {σ : St} {R : Int32 × St} (hk0 : LC k0 = 2) (h : f_X2_howOf k0 x1 x2 σ = some R) : gM l D ca ad 91 LC yX2_howOf cX2_howOf 3 (some .int) rm_X2_howOf [.ref k0, .int x1, .int x2] σ (some (.int R.1)) R.2 := by
  refine gM_of (by decide) (Nat.le_of_ble_eq_true rfl) (fun p e s m args below meth c C => ?_)
  refine g_ent (ls' := [(0, .ref k0), (1, .int x1), (2, .int x2)]) rfl ?_
  unfold f_X2_howOf at h
  refine g_aload_n C 0 dX2_howOf_0 rfl ?_
  refine g_getR C 0 (k0 + 1) hk0 q_X2_9 rfl rfl dX2_howOf_1 ?_
  refine g_iload_n C 2 dX2_howOf_4 rfl ?_
  obtain ⟨hi1, h⟩ := cI_some h
  refine g_iald C 7 (sc_2_0 hk0) ho_11 hi1 dX2_howOf_5 ?_
  refine g_iload_n C 1 dX2_howOf_6 rfl ?_
  refine g_ishr C dX2_howOf_7 ?_
  refine g_iconst C (1 : Int32) dX2_howOf_8 rfl ?_
  refine g_iand C dX2_howOf_9 ?_
  refine g_if_eq C 15 dX2_howOf_10 (by decide) (fun hc2 => ?_) (fun hc2 => ?_)
  · have h := ite_t hc2 h
    refine g_aload_n C 0 dX2_howOf_15 rfl ?_
    refine g_getR C 1 (k0 + 2) hk0 q_X2_15 rfl rfl dX2_howOf_16 ?_
    refine g_iload_n C 2 dX2_howOf_19 rfl ?_
    obtain ⟨hi3, h⟩ := cI_some h
    refine g_iald C 7 (sc_2_1 hk0) ho_11 hi3 dX2_howOf_20 ?_
    refine g_iload_n C 1 dX2_howOf_21 rfl ?_
    refine g_ishr C dX2_howOf_22 ?_
    refine g_iconst C (1 : Int32) dX2_howOf_23 rfl ?_
    refine g_iand C dX2_howOf_24 ?_
    refine g_if_eq C 32 dX2_howOf_25 (by decide) (fun hc4 => ?_) (fun hc4 => ?_)
    · have h := ite_t hc4 h
      refine g_iconst C (0 : Int32) dX2_howOf_32 rfl ?_
      obtain rfl := Option.some.inj h
      exact g_iret C dX2_howOf_33
    · have h := ite_f hc4 h
      refine g_iconst C (2 : Int32) dX2_howOf_28 rfl ?_
      refine g_goto C 33 dX2_howOf_29 (by decide) ?_
      obtain rfl := Option.some.inj h
      exact g_iret C dX2_howOf_33
  · have h := ite_f hc2 h
    refine g_iconst C (1 : Int32) dX2_howOf_13 rfl ?_
    obtain rfl := Option.some.inj h
    exact g_iret C dX2_howOf_14
def f_X2_put_72 (xs0 : Int32) (xs1 : Int32) (ks2 : Nat) (σ : St) : Option (St) := cI (ix xs1 7) (ap (up1 σ ks2 xs1.toNatClampNeg xs0) fun σ2 => some σ2)
set_option maxRecDepth 20000 in
theorem s_X2_put_72 {R : St} (C : gC p s m args meth c D ca ad 91 LC RX2 cX2_put 5 none) (xs0 : Int32) (xs1 : Int32) (ks2 : Nat) (hks2 : LC ks2 = 11) (σ : St) (h : f_X2_put_72 xs0 xs1 ks2 σ = some R) : G p l e rm_X2_put s m args below meth c D ca ad 91 LC 5 (gEnd below args s D ca ad 91 LC none R) 72 [] [.int xs0, .int xs1, .ref ks2] σ := by
  unfold f_X2_put_72 at h
  obtain ⟨hi1, h⟩ := cI_some h
  refine g_iast C 7 hks2 ho_11 hi1 dX2_put_72 ?_
  refine g_nmS (fun σ2 eσ2 => ?_)
  have h := ap_at eσ2 h
  obtain rfl := Option.some.inj h
  exact g_vret C dX2_put_73
def f_X2_put_38 (k0 : Nat) (x2 : Int32) (x3 : Int32) (x4 : Int32) (xs0 : Int32) (xs1 : Int32) (ks2 : Nat) (σ : St) : Option (St) := cI (ix xs1 7) (ap (up1 σ ks2 xs1.toNatClampNeg xs0) fun σ2 => (if x3 = (2 : Int32) then cI (ix x2 7) ((f_X2_put_72) ((σ2.1 (k0 + 2) x2.toNatClampNeg) ||| x4) x2 (k0 + 2) σ2) else cI (ix x2 7) ((f_X2_put_72) ((σ2.1 (k0 + 2) x2.toNatClampNeg) &&& (x4 ^^^ (-1 : Int32))) x2 (k0 + 2) σ2)))
set_option maxRecDepth 20000 in
theorem s_X2_put_38 {R : St} (C : gC p s m args meth c D ca ad 91 LC RX2 cX2_put 5 none) (k0 : Nat) (hk0 : LC k0 = 2) (x2 : Int32) (x3 : Int32) (x4 : Int32) (xs0 : Int32) (xs1 : Int32) (ks2 : Nat) (hks2 : LC ks2 = 11) (σ : St) (h : f_X2_put_38 k0 x2 x3 x4 xs0 xs1 ks2 σ = some R) : G p l e rm_X2_put s m args below meth c D ca ad 91 LC 5 (gEnd below args s D ca ad 91 LC none R) 38 [(0, .ref k0), (2, .int x2), (3, .int x3), (4, .int x4)] [.int xs0, .int xs1, .ref ks2] σ := by
  unfold f_X2_put_38 at h
  obtain ⟨hi1, h⟩ := cI_some h
  refine g_iast C 7 hks2 ho_11 hi1 dX2_put_38 ?_
  refine g_nmS (fun σ2 eσ2 => ?_)
  have h := ap_at eσ2 h
  refine g_aload_n C 0 dX2_put_39 rfl ?_
  refine g_getR C 1 (k0 + 2) hk0 q_X2_15 rfl rfl dX2_put_40 ?_
  refine g_iload_n C 1 dX2_put_43 rfl ?_
  refine g_iload_n C 2 dX2_put_44 rfl ?_
  refine g_iconst C (2 : Int32) dX2_put_45 rfl ?_
  refine g_icmp_ne C 61 dX2_put_46 (by decide) (fun hc3 => ?_) (fun hc3 => ?_)
  · have h := ite_f hc3 h
    refine g_aload_n C 0 dX2_put_61 rfl ?_
    refine g_getR C 1 (k0 + 2) hk0 q_X2_15 rfl rfl dX2_put_62 ?_
    refine g_iload_n C 1 dX2_put_65 rfl ?_
    obtain ⟨hi4, h⟩ := cI_some h
    refine g_iald C 7 (sc_2_1 hk0) ho_11 hi4 dX2_put_66 ?_
    refine g_iload C 3 dX2_put_67 rfl ?_
    refine g_iconst C (-1 : Int32) dX2_put_69 rfl ?_
    refine g_ixor C dX2_put_70 ?_
    refine g_iand C dX2_put_71 ?_
    exact g_sub [] rfl ((s_X2_put_72 C) ((σ2.1 (k0 + 2) x2.toNatClampNeg) &&& (x4 ^^^ (-1 : Int32))) x2 (k0 + 2) (sc_2_1 hk0) σ2 h)
  · have h := ite_t hc3 h
    refine g_aload_n C 0 dX2_put_49 rfl ?_
    refine g_getR C 1 (k0 + 2) hk0 q_X2_15 rfl rfl dX2_put_50 ?_
    refine g_iload_n C 1 dX2_put_53 rfl ?_
    obtain ⟨hi5, h⟩ := cI_some h
    refine g_iald C 7 (sc_2_1 hk0) ho_11 hi5 dX2_put_54 ?_
    refine g_iload C 3 dX2_put_55 rfl ?_
    refine g_ior C dX2_put_57 ?_
    refine g_goto C 72 dX2_put_58 (by decide) ?_
    exact g_sub [] rfl ((s_X2_put_72 C) ((σ2.1 (k0 + 2) x2.toNatClampNeg) ||| x4) x2 (k0 + 2) (sc_2_1 hk0) σ2 h)
def f_X2_put (k0 : Nat) (x1 : Int32) (x2 : Int32) (x3 : Int32) (σ : St) : Option (St) := ap ((1 : Int32) <<< (x1 &&& 31)) fun z1 => (if x3 = (1 : Int32) then cI (ix x2 7) ((f_X2_put_38) k0 x2 x3 z1 ((σ.1 (k0 + 1) x2.toNatClampNeg) ||| z1) x2 (k0 + 1) σ) else cI (ix x2 7) ((f_X2_put_38) k0 x2 x3 z1 ((σ.1 (k0 + 1) x2.toNatClampNeg) &&& (z1 ^^^ (-1 : Int32))) x2 (k0 + 1) σ))
set_option maxRecDepth 20000 in
theorem m_X2_put {l : Launch} {D : va_G} {ca : Nat → ClassId} {ad : Nat → Nat} {k0 : Nat} {x1 : Int32} {x2 : Int32} {x3 : Int32} {σ : St} {R : St} (hk0 : LC k0 = 2) (h : f_X2_put k0 x1 x2 x3 σ = some R) : gM l D ca ad 91 LC yX2_put cX2_put 5 none rm_X2_put [.ref k0, .int x1, .int x2, .int x3] σ none R := by
  refine gM_of (by decide) (Nat.le_of_ble_eq_true rfl) (fun p e s m args below meth c C => ?_)
  refine g_ent (ls' := [(0, .ref k0), (1, .int x1), (2, .int x2), (3, .int x3)]) rfl ?_
  unfold f_X2_put at h
  refine g_iconst C (1 : Int32) dX2_put_0 rfl ?_
  refine g_iload_n C 1 dX2_put_1 rfl ?_
  refine g_ishl C dX2_put_2 ?_
  refine g_nmI (fun z1 ez1 => ?_)
  have h := ap_at ez1 h
  refine g_istore C [(4, .int z1), (0, .ref k0), (1, .int x1), (2, .int x2), (3, .int x3)] dX2_put_3 (by decide) rfl ?_
  refine g_aload_n C 1 dX2_put_5 rfl ?_
  refine g_getR C 0 (k0 + 1) hk0 q_X2_9 rfl rfl dX2_put_6 ?_
  refine g_iload_n C 3 dX2_put_9 rfl ?_
  refine g_iload_n C 4 dX2_put_10 rfl ?_
  refine g_iconst C (1 : Int32) dX2_put_11 rfl ?_
  refine g_icmp_ne C 27 dX2_put_12 (by decide) (fun hc2 => ?_) (fun hc2 => ?_)
  · have h := ite_f hc2 h
    refine g_aload_n C 1 dX2_put_27 rfl ?_
    refine g_getR C 0 (k0 + 1) hk0 q_X2_9 rfl rfl dX2_put_28 ?_
    refine g_iload_n C 3 dX2_put_31 rfl ?_
    obtain ⟨hi3, h⟩ := cI_some h
    refine g_iald C 7 (sc_2_0 hk0) ho_11 hi3 dX2_put_32 ?_
    refine g_iload C 0 dX2_put_33 rfl ?_
    refine g_iconst C (-1 : Int32) dX2_put_35 rfl ?_
    refine g_ixor C dX2_put_36 ?_
    refine g_iand C dX2_put_37 ?_
    exact g_sub [1, 3, 4, 0] rfl ((s_X2_put_38 C) k0 hk0 x2 x3 z1 ((σ.1 (k0 + 1) x2.toNatClampNeg) &&& (z1 ^^^ (-1 : Int32))) x2 (k0 + 1) (sc_2_0 hk0) σ h)
  · have h := ite_t hc2 h
    refine g_aload_n C 1 dX2_put_15 rfl ?_
    refine g_getR C 0 (k0 + 1) hk0 q_X2_9 rfl rfl dX2_put_16 ?_
    refine g_iload_n C 3 dX2_put_19 rfl ?_
    obtain ⟨hi4, h⟩ := cI_some h
    refine g_iald C 7 (sc_2_0 hk0) ho_11 hi4 dX2_put_20 ?_
    refine g_iload C 0 dX2_put_21 rfl ?_
    refine g_ior C dX2_put_23 ?_
    refine g_goto C 38 dX2_put_24 (by decide) ?_
    exact g_sub [1, 3, 4, 0] rfl ((s_X2_put_38 C) k0 hk0 x2 x3 z1 ((σ.1 (k0 + 1) x2.toNatClampNeg) ||| z1) x2 (k0 + 1) (sc_2_0 hk0) σ h)
def f_X2_forget_2 (kk21 : Nat → Int32 → St → Option (St)) : Nat → Nat → Int32 → Int32 → St → Option (St)
  | 0, _, _, _, _ => none
  | n + 1, k0, x1, x2, σ => (if (7 : Int32) ≤ x2 then kk21 k0 x1 σ else (f_X2_put k0 x1 x2 (0 : Int32) σ).bind (fun q2 => (f_X2_forget_2 kk21 n) k0 x1 (x2 + (1 : Int32)) q2))
set_option maxRecDepth 20000 in
theorem s_X2_forget_2 {R : St} (C : gC p s m args meth c D ca ad 91 LC RX2 cX2_forget 3 none) {kk21 : Nat → Int32 → St → Option (St)} (HK21 : ∀ (k0 : Nat) (hk0 : LC k0 = 2) (x1 : Int32) (σ : St), kk21 k0 x1 σ = some R → G p l e rm_X2_forget s m args below meth c D ca ad 91 LC 3 (gEnd below args s D ca ad 91 LC none R) 21 [(0, .ref k0), (1, .int x1)] [] σ) : ∀ (n : Nat) (k0 : Nat) (hk0 : LC k0 = 2) (x1 : Int32) (x2 : Int32) (σ : St), f_X2_forget_2 kk21 n k0 x1 x2 σ = some R → G p l e rm_X2_forget s m args below meth c D ca ad 91 LC 3 (gEnd below args s D ca ad 91 LC none R) 2 [(0, .ref k0), (1, .int x1), (2, .int x2)] [] σ := by
  intro n
  induction n with
  | zero =>
    intro k0 hk0 x1 x2 σ h
    have h : none = some R := h
    cases h
  | succ n ih =>
    intro k0 hk0 x1 x2 σ h
    rw [f_X2_forget_2] at h
    refine g_iload_n C 2 dX2_forget_2 rfl ?_
    refine g_bipush C (7 : Int32) dX2_forget_3 rfl ?_
    refine g_icmp_ge C 21 dX2_forget_5 (by decide) (fun hc1 => ?_) (fun hc1 => ?_)
    · have h := ite_t hc1 h
      exact g_sub [0, 1] rfl (HK21 k0 hk0 x1 σ h)
    · have h := ite_f hc1 h
      refine g_aload_n C 0 dX2_forget_8 rfl ?_
      refine g_iload_n C 1 dX2_forget_9 rfl ?_
      refine g_iload_n C 2 dX2_forget_10 rfl ?_
      refine g_iconst C (0 : Int32) dX2_forget_11 rfl ?_
      obtain ⟨q2, hq2, h⟩ := bd h
      refine g_callVV C [.int x1, .int x2, .int (0 : Int32)] qv_X2_18 (m_X2_put hk0 hq2) hk0 (by decide) rfl rfl rfl ⟨rfl, rfl⟩ ⟨by decide, by decide⟩ (Nat.le_of_ble_eq_true rfl) dX2_forget_12 ?_
      refine g_iinc C 2 [(2, .int (x2 + (1 : Int32))), (0, .ref k0), (1, .int x1)] dX2_forget_15 rfl rfl (by decide) rfl ?_
      refine g_goto C 2 dX2_forget_18 (by decide) ?_
      exact g_sub [1, 2, 0] rfl (ih k0 hk0 x1 (x2 + (1 : Int32)) q2 h)
def f_X2_forget_21 (k0 : Nat) (x1 : Int32) (σ : St) : Option (St) := cI (ix x1 7) (ap (up1 σ (k0 + 1) x1.toNatClampNeg (0 : Int32)) fun σ2 => cI (ix x1 7) (ap (up1 σ2 (k0 + 2) x1.toNatClampNeg (0 : Int32)) fun σ4 => some σ4))
set_option maxRecDepth 20000 in
theorem s_X2_forget_21 {R : St} (C : gC p s m args meth c D ca ad 91 LC RX2 cX2_forget 3 none) (k0 : Nat) (hk0 : LC k0 = 2) (x1 : Int32) (σ : St) (h : f_X2_forget_21 k0 x1 σ = some R) : G p l e rm_X2_forget s m args below meth c D ca ad 91 LC 3 (gEnd below args s D ca ad 91 LC none R) 21 [(0, .ref k0), (1, .int x1)] [] σ := by
  unfold f_X2_forget_21 at h
  refine g_aload_n C 0 dX2_forget_21 rfl ?_
  refine g_getR C 0 (k0 + 1) hk0 q_X2_9 rfl rfl dX2_forget_22 ?_
  refine g_iload_n C 1 dX2_forget_25 rfl ?_
  refine g_iconst C (0 : Int32) dX2_forget_26 rfl ?_
  obtain ⟨hi1, h⟩ := cI_some h
  refine g_iast C 7 (sc_2_0 hk0) ho_11 hi1 dX2_forget_27 ?_
  refine g_nmS (fun σ2 eσ2 => ?_)
  have h := ap_at eσ2 h
  refine g_aload_n C 0 dX2_forget_28 rfl ?_
  refine g_getR C 1 (k0 + 2) hk0 q_X2_15 rfl rfl dX2_forget_29 ?_
  refine g_iload_n C 1 dX2_forget_32 rfl ?_
  refine g_iconst C (0 : Int32) dX2_forget_33 rfl ?_
  obtain ⟨hi3, h⟩ := cI_some h
  refine g_iast C 7 (sc_2_1 hk0) ho_11 hi3 dX2_forget_34 ?_
  refine g_nmS (fun σ4 eσ4 => ?_)
  have h := ap_at eσ4 h
  obtain rfl := Option.some.inj h
  exact g_vret C dX2_forget_35
def f_X2_forget (k0 : Nat) (x1 : Int32) (σ : St) : Option (St) := (f_X2_forget_2 (f_X2_forget_21) FU) k0 x1 (0 : Int32) σ
set_option maxRecDepth 20000 in
theorem m_X2_forget {l : Launch} {D : va_G} {ca : Nat → ClassId} {ad : Nat → Nat} {k0 : Nat} {x1 : Int32} {σ : St} {R : St} (hk0 : LC k0 = 2) (h : f_X2_forget k0 x1 σ = some R) : gM l D ca ad 91 LC yX2_forget cX2_forget 3 none rm_X2_forget [.ref k0, .int x1] σ none R := by
  refine gM_of (by decide) (Nat.le_of_ble_eq_true rfl) (fun p e s m args below meth c C => ?_)
  refine g_ent (ls' := [(0, .ref k0), (1, .int x1)]) rfl ?_
  unfold f_X2_forget at h
  refine g_iconst C (0 : Int32) dX2_forget_0 rfl ?_
  refine g_istore_n C [(2, .int (0 : Int32)), (0, .ref k0), (1, .int x1)] dX2_forget_1 (by decide) rfl ?_
  exact g_sub [1, 2, 0] rfl ((s_X2_forget_2 C (s_X2_forget_21 C) FU) k0 hk0 x1 (0 : Int32) σ h)
def f_J7_fill_53178_5 : Nat → Nat → Nat → Int32 → Int32 → Int32 → St → Option (St)
  | 0, _, _, _, _, _, _ => none
  | n + 1, k0, n0, x1, x2, x3, σ => (if x3 ≤ x2 then some σ else cI (ix x2 n0) (ap (up1 σ k0 x2.toNatClampNeg x1) fun σ3 => (f_J7_fill_53178_5 n) k0 n0 x1 (x2 + (1 : Int32)) x3 σ3))
set_option maxRecDepth 20000 in
theorem s_J7_fill_53178_5 {R : St} {cd0 : Nat} (C : gC p s m args meth c D ca ad 91 LC RJ7 cJ7_fill_53178 4 none) : ∀ (n : Nat) (k0 : Nat) (n0 : Nat) (hk0 : LC k0 = cd0) (ho0 : gok cd0 0 n0) (x1 : Int32) (x2 : Int32) (x3 : Int32) (σ : St), f_J7_fill_53178_5 n k0 n0 x1 x2 x3 σ = some R → G p l e rm_J7_fill_53178 s m args below meth c D ca ad 91 LC 4 (gEnd below args s D ca ad 91 LC none R) 5 [(0, .ref k0), (1, .int x1), (2, .int x2), (3, .int x3)] [] σ := by
  intro n
  induction n with
  | zero =>
    intro k0 n0 hk0 ho0 x1 x2 x3 σ h
    have h : none = some R := h
    cases h
  | succ n ih =>
    intro k0 n0 hk0 ho0 x1 x2 x3 σ h
    rw [f_J7_fill_53178_5] at h
    refine g_iload_n C 2 dJ7_fill_53178_5 rfl ?_
    refine g_iload_n C 3 dJ7_fill_53178_6 rfl ?_
    refine g_icmp_ge C 20 dJ7_fill_53178_7 (by decide) (fun hc1 => ?_) (fun hc1 => ?_)
    · have h := ite_t hc1 h
      obtain rfl := Option.some.inj h
      exact g_vret C dJ7_fill_53178_20
    · have h := ite_f hc1 h
      refine g_aload_n C 0 dJ7_fill_53178_10 rfl ?_
      refine g_iload_n C 2 dJ7_fill_53178_11 rfl ?_
      refine g_iload_n C 1 dJ7_fill_53178_12 rfl ?_
      obtain ⟨hi2, h⟩ := cI_some h
      refine g_iast C n0 hk0 ho0 hi2 dJ7_fill_53178_13 ?_
      refine g_nmS (fun σ3 eσ3 => ?_)
      have h := ap_at eσ3 h
      refine g_iinc C 2 [(2, .int (x2 + (1 : Int32))), (0, .ref k0), (1, .int x1), (3, .int x3)] dJ7_fill_53178_14 rfl rfl (by decide) rfl ?_
      refine g_goto C 5 dJ7_fill_53178_17 (by decide) ?_
      exact g_sub [1, 2, 0, 3] rfl (ih k0 n0 hk0 ho0 x1 (x2 + (1 : Int32)) x3 σ3 h)
def f_J7_fill_53178 (k0 : Nat) (n0 : Nat) (x1 : Int32) (σ : St) : Option (St) := (f_J7_fill_53178_5 FU) k0 n0 x1 (0 : Int32) (nI n0) σ
set_option maxRecDepth 20000 in
theorem m_J7_fill_53178 {l : Launch} {D : va_G} {ca : Nat → ClassId} {ad : Nat → Nat} {cd0 : Nat} {k0 : Nat} {n0 : Nat} {x1 : Int32} {σ : St} {R : St} (hk0 : LC k0 = cd0) (ho0 : gok cd0 0 n0) (h : f_J7_fill_53178 k0 n0 x1 σ = some R) : gM l D ca ad 91 LC yJ7_fill_53178 cJ7_fill_53178 4 none rm_J7_fill_53178 [.ref k0, .int x1] σ none R := by
  refine gM_of (by decide) (Nat.le_of_ble_eq_true rfl) (fun p e s m args below meth c C => ?_)
  refine g_ent (ls' := [(0, .ref k0), (1, .int x1)]) rfl ?_
  unfold f_J7_fill_53178 at h
  refine g_iconst C (0 : Int32) dJ7_fill_53178_0 rfl ?_
  refine g_istore_n C [(2, .int (0 : Int32)), (0, .ref k0), (1, .int x1)] dJ7_fill_53178_1 (by decide) rfl ?_
  refine g_aload_n C 1 dJ7_fill_53178_2 rfl ?_
  refine g_alen C 0 n0 hk0 ho0 (by decide) dJ7_fill_53178_3 ?_
  refine g_istore_n C [(3, .int (nI n0)), (2, .int (0 : Int32)), (0, .ref k0), (1, .int x1)] dJ7_fill_53178_4 (by decide) rfl ?_
  exact g_sub [2, 3, 1, 0] rfl ((s_J7_fill_53178_5 C FU) k0 n0 hk0 ho0 x1 (0 : Int32) (nI n0) σ h)
def f_X2_clear (k0 : Nat) (σ : St) : Option (St) := (f_J7_fill_53178 (k0 + 1) 7 (0 : Int32) σ).bind (fun q1 => (f_J7_fill_53178 (k0 + 2) 7 (0 : Int32) q1).bind (fun q2 => some q2))
set_option maxRecDepth 20000 in
theorem m_X2_clear {l : Launch} {D : va_G} {ca : Nat → ClassId} {ad : Nat → Nat} {k0 : Nat} {σ : St} {R : St} (hk0 : LC k0 = 2) (h : f_X2_clear k0 σ = some R) : gM l D ca ad 91 LC yX2_clear cX2_clear 1 none rm_X2_clear [.ref k0] σ none R := by
  refine gM_of (by decide) (Nat.le_of_ble_eq_true rfl) (fun p e s m args below meth c C => ?_)
  refine g_ent (ls' := [(0, .ref k0)]) rfl ?_
  unfold f_X2_clear at h
  refine g_aload_n C 0 dX2_clear_0 rfl ?_
  refine g_getR C 0 (k0 + 1) hk0 q_X2_9 rfl rfl dX2_clear_1 ?_
  refine g_iconst C (0 : Int32) dX2_clear_4 rfl ?_
  obtain ⟨q1, hq1, h⟩ := bd h
  refine g_callSV C [.ref (k0 + 1), .int (0 : Int32)] qs_X2_22 (m_J7_fill_53178 (sc_2_0 hk0) ho_11 hq1) rfl rfl ⟨rfl, rfl⟩ ⟨by decide, by decide⟩ (Nat.le_of_ble_eq_true rfl) dX2_clear_5 ?_
  refine g_aload_n C 0 dX2_clear_8 rfl ?_
  refine g_getR C 1 (k0 + 2) hk0 q_X2_15 rfl rfl dX2_clear_9 ?_
  refine g_iconst C (0 : Int32) dX2_clear_12 rfl ?_
  obtain ⟨q2, hq2, h⟩ := bd h
  refine g_callSV C [.ref (k0 + 2), .int (0 : Int32)] qs_X2_22 (m_J7_fill_53178 (sc_2_1 hk0) ho_11 hq2) rfl rfl ⟨rfl, rfl⟩ ⟨by decide, by decide⟩ (Nat.le_of_ble_eq_true rfl) dX2_clear_13 ?_
  obtain rfl := Option.some.inj h
  exact g_vret C dX2_clear_16
def f_X2_copyFrom (k0 : Nat) (k1 : Nat) (σ : St) : Option (St) := cI (cpk (0 : Int32) (0 : Int32) (7 : Int32) 7 7) (ap (rw1 σ (k0 + 1) (va_cpy (σ.1 (k1 + 1)) (σ.1 (k0 + 1)) (0 : Int32).toNatClampNeg (0 : Int32).toNatClampNeg (7 : Int32).toNatClampNeg)) fun σ2 => cI (cpk (0 : Int32) (0 : Int32) (7 : Int32) 7 7) (ap (rw1 σ2 (k0 + 2) (va_cpy (σ2.1 (k1 + 2)) (σ2.1 (k0 + 2)) (0 : Int32).toNatClampNeg (0 : Int32).toNatClampNeg (7 : Int32).toNatClampNeg)) fun σ4 => some σ4))
set_option maxRecDepth 20000 in
theorem m_X2_copyFrom {l : Launch} {D : va_G} {ca : Nat → ClassId} {ad : Nat → Nat} {k0 : Nat} {k1 : Nat} {σ : St} {R : St} (hk0 : LC k0 = 2) (hk1 : LC k1 = 2) (h : f_X2_copyFrom k0 k1 σ = some R) : gM l D ca ad 91 LC yX2_copyFrom cX2_copyFrom 2 none rm_X2_copyFrom [.ref k0, .ref k1] σ none R := by
  refine gM_of (by decide) (Nat.le_of_ble_eq_true rfl) (fun p e s m args below meth c C => ?_)
  refine g_ent (ls' := [(0, .ref k0), (1, .ref k1)]) rfl ?_
  unfold f_X2_copyFrom at h
  refine g_aload_n C 1 dX2_copyFrom_0 rfl ?_
  refine g_getR C 0 (k1 + 1) hk1 q_X2_9 rfl rfl dX2_copyFrom_1 ?_
  refine g_iconst C (0 : Int32) dX2_copyFrom_4 rfl ?_
  refine g_aload_n C 0 dX2_copyFrom_5 rfl ?_
  refine g_getR C 0 (k0 + 1) hk0 q_X2_9 rfl rfl dX2_copyFrom_6 ?_
  refine g_iconst C (0 : Int32) dX2_copyFrom_9 rfl ?_
  refine g_bipush C (7 : Int32) dX2_copyFrom_10 rfl ?_
  obtain ⟨hz1, h⟩ := cI_some h
  refine g_copyI C 7 7 qa_X2_28 (sc_2_0 hk1) ho_11 (sc_2_0 hk0) ho_11 hz1 (by decide) (Nat.le_of_ble_eq_true rfl) dX2_copyFrom_12 ?_
  refine g_nmS (fun σ2 eσ2 => ?_)
  have h := ap_at eσ2 h
  refine g_aload_n C 1 dX2_copyFrom_15 rfl ?_
  refine g_getR C 1 (k1 + 2) hk1 q_X2_15 rfl rfl dX2_copyFrom_16 ?_
  refine g_iconst C (0 : Int32) dX2_copyFrom_19 rfl ?_
  refine g_aload_n C 0 dX2_copyFrom_20 rfl ?_
  refine g_getR C 1 (k0 + 2) hk0 q_X2_15 rfl rfl dX2_copyFrom_21 ?_
  refine g_iconst C (0 : Int32) dX2_copyFrom_24 rfl ?_
  refine g_bipush C (7 : Int32) dX2_copyFrom_25 rfl ?_
  obtain ⟨hz3, h⟩ := cI_some h
  refine g_copyI C 7 7 qa_X2_28 (sc_2_1 hk1) ho_11 (sc_2_1 hk0) ho_11 hz3 (by decide) (Nat.le_of_ble_eq_true rfl) dX2_copyFrom_27 ?_
  refine g_nmS (fun σ4 eσ4 => ?_)
  have h := ap_at eσ4 h
  obtain rfl := Option.some.inj h
  exact g_vret C dX2_copyFrom_30
def f_J6_bitCount_0f7a4 (x0 : Int32) (σ : St) : Option (Int32 × St) := ap (x0 - (((x0.toUInt32 >>> ((1 : Int32).toUInt32 &&& Int32.toUInt32 31)).toInt32) &&& (1431655765 : Int32))) fun z1 => ap ((z1 &&& (858993459 : Int32)) + (((z1.toUInt32 >>> ((2 : Int32).toUInt32 &&& Int32.toUInt32 31)).toInt32) &&& (858993459 : Int32))) fun z2 => ap ((z2 + ((z2.toUInt32 >>> ((4 : Int32).toUInt32 &&& Int32.toUInt32 31)).toInt32)) &&& (252645135 : Int32)) fun z3 => ap (z3 + ((z3.toUInt32 >>> ((8 : Int32).toUInt32 &&& Int32.toUInt32 31)).toInt32)) fun z4 => ap (z4 + ((z4.toUInt32 >>> ((16 : Int32).toUInt32 &&& Int32.toUInt32 31)).toInt32)) fun z5 => some ((z5 &&& (63 : Int32)), σ)
set_option maxRecDepth 20000 in
theorem m_J6_bitCount_0f7a4 {l : Launch} {D : va_G} {ca : Nat → ClassId} {ad : Nat → Nat} {x0 : Int32} {σ : St} {R : Int32 × St} (h : f_J6_bitCount_0f7a4 x0 σ = some R) : gM l D ca ad 91 LC yJ6_bitCount_0f7a4 cJ6_bitCount_0f7a4 1 (some .int) rm_J6_bitCount_0f7a4 [.int x0] σ (some (.int R.1)) R.2 := by
  refine gM_of (by decide) (Nat.le_of_ble_eq_true rfl) (fun p e s m args below meth c C => ?_)
  refine g_ent (ls' := [(0, .int x0)]) rfl ?_
  unfold f_J6_bitCount_0f7a4 at h
  refine g_iload_n C 0 dJ6_bitCount_0f7a4_0 rfl ?_
  refine g_iload_n C 0 dJ6_bitCount_0f7a4_1 rfl ?_
  refine g_iconst C (1 : Int32) dJ6_bitCount_0f7a4_2 rfl ?_
  refine g_iushr C dJ6_bitCount_0f7a4_3 ?_
  refine g_ldcw C (1431655765 : Int32) qc_J6_265 dJ6_bitCount_0f7a4_4 ?_
  refine g_iand C dJ6_bitCount_0f7a4_7 ?_
  refine g_isub C dJ6_bitCount_0f7a4_8 ?_
  refine g_nmI (fun z1 ez1 => ?_)
  have h := ap_at ez1 h
  refine g_istore_n C [(0, .int z1)] dJ6_bitCount_0f7a4_9 (by decide) rfl ?_
  refine g_iload_n C 0 dJ6_bitCount_0f7a4_10 rfl ?_
  refine g_ldcw C (858993459 : Int32) qc_J6_266 dJ6_bitCount_0f7a4_11 ?_
  refine g_iand C dJ6_bitCount_0f7a4_14 ?_
  refine g_iload_n C 0 dJ6_bitCount_0f7a4_15 rfl ?_
  refine g_iconst C (2 : Int32) dJ6_bitCount_0f7a4_16 rfl ?_
  refine g_iushr C dJ6_bitCount_0f7a4_17 ?_
  refine g_ldcw C (858993459 : Int32) qc_J6_266 dJ6_bitCount_0f7a4_18 ?_
  refine g_iand C dJ6_bitCount_0f7a4_21 ?_
  refine g_iadd C dJ6_bitCount_0f7a4_22 ?_
  refine g_nmI (fun z2 ez2 => ?_)
  have h := ap_at ez2 h
  refine g_istore_n C [(0, .int z2)] dJ6_bitCount_0f7a4_23 (by decide) rfl ?_
  refine g_iload_n C 0 dJ6_bitCount_0f7a4_24 rfl ?_
  refine g_iload_n C 0 dJ6_bitCount_0f7a4_25 rfl ?_
  refine g_iconst C (4 : Int32) dJ6_bitCount_0f7a4_26 rfl ?_
  refine g_iushr C dJ6_bitCount_0f7a4_27 ?_
  refine g_iadd C dJ6_bitCount_0f7a4_28 ?_
  refine g_ldcw C (252645135 : Int32) qc_J6_267 dJ6_bitCount_0f7a4_29 ?_
  refine g_iand C dJ6_bitCount_0f7a4_32 ?_
  refine g_nmI (fun z3 ez3 => ?_)
  have h := ap_at ez3 h
  refine g_istore_n C [(0, .int z3)] dJ6_bitCount_0f7a4_33 (by decide) rfl ?_
  refine g_iload_n C 0 dJ6_bitCount_0f7a4_34 rfl ?_
  refine g_iload_n C 0 dJ6_bitCount_0f7a4_35 rfl ?_
  refine g_bipush C (8 : Int32) dJ6_bitCount_0f7a4_36 rfl ?_
  refine g_iushr C dJ6_bitCount_0f7a4_38 ?_
  refine g_iadd C dJ6_bitCount_0f7a4_39 ?_
  refine g_nmI (fun z4 ez4 => ?_)
  have h := ap_at ez4 h
  refine g_istore_n C [(0, .int z4)] dJ6_bitCount_0f7a4_40 (by decide) rfl ?_
  refine g_iload_n C 0 dJ6_bitCount_0f7a4_41 rfl ?_
  refine g_iload_n C 0 dJ6_bitCount_0f7a4_42 rfl ?_
  refine g_bipush C (16 : Int32) dJ6_bitCount_0f7a4_43 rfl ?_
  refine g_iushr C dJ6_bitCount_0f7a4_45 ?_
  refine g_iadd C dJ6_bitCount_0f7a4_46 ?_
  refine g_nmI (fun z5 ez5 => ?_)
  have h := ap_at ez5 h
  refine g_istore_n C [(0, .int z5)] dJ6_bitCount_0f7a4_47 (by decide) rfl ?_
  refine g_iload_n C 0 dJ6_bitCount_0f7a4_48 rfl ?_
  refine g_bipush C (63 : Int32) dJ6_bitCount_0f7a4_49 rfl ?_
  refine g_iand C dJ6_bitCount_0f7a4_51 ?_
  obtain rfl := Option.some.inj h
  exact g_iret C dJ6_bitCount_0f7a4_52
def f_X2_howMany_4 : Nat → Nat → Int32 → Int32 → St → Option (Int32 × St)
  | 0, _, _, _, _ => none
  | n + 1, k0, x1, x2, σ => (if (7 : Int32) ≤ x2 then some (x1, σ) else cI (ix x2 7) ((f_J6_bitCount_0f7a4 (σ.1 (k0 + 1) x2.toNatClampNeg) σ).bind (fun q3 => cI (ix x2 7) ((f_J6_bitCount_0f7a4 (q3.2.1 (k0 + 2) x2.toNatClampNeg) q3.2).bind (fun q5 => (f_X2_howMany_4 n) k0 (x1 + (q3.1 + q5.1)) (x2 + (1 : Int32)) q5.2)))))
set_option maxRecDepth 20000 in
theorem s_X2_howMany_4 {R : Int32 × St} (C : gC p s m args meth c D ca ad 91 LC RX2 cX2_howMany 3 (some .int)) : ∀ (n : Nat) (k0 : Nat) (hk0 : LC k0 = 2) (x1 : Int32) (x2 : Int32) (σ : St), f_X2_howMany_4 n k0 x1 x2 σ = some R → G p l e rm_X2_howMany s m args below meth c D ca ad 91 LC 3 (gEnd below args s D ca ad 91 LC (some (.int R.1)) R.2) 4 [(0, .ref k0), (1, .int x1), (2, .int x2)] [] σ := by
  intro n
  induction n with
  | zero =>
    intro k0 hk0 x1 x2 σ h
    have h : none = some R := h
    cases h
  | succ n ih =>
    intro k0 hk0 x1 x2 σ h
    rw [f_X2_howMany_4] at h
    refine g_iload_n C 2 dX2_howMany_4 rfl ?_
    refine g_bipush C (7 : Int32) dX2_howMany_5 rfl ?_
    refine g_icmp_ge C 38 dX2_howMany_7 (by decide) (fun hc1 => ?_) (fun hc1 => ?_)
    · have h := ite_t hc1 h
      refine g_iload_n C 1 dX2_howMany_38 rfl ?_
      obtain rfl := Option.some.inj h
      exact g_iret C dX2_howMany_39
    · have h := ite_f hc1 h
      refine g_iload_n C 1 dX2_howMany_10 rfl ?_
      refine g_aload_n C 0 dX2_howMany_11 rfl ?_
      refine g_getR C 0 (k0 + 1) hk0 q_X2_9 rfl rfl dX2_howMany_12 ?_
      refine g_iload_n C 2 dX2_howMany_15 rfl ?_
      obtain ⟨hi2, h⟩ := cI_some h
      refine g_iald C 7 (sc_2_0 hk0) ho_11 hi2 dX2_howMany_16 ?_
      obtain ⟨q3, hq3, h⟩ := bd h
      refine g_callSI C [.int (σ.1 (k0 + 1) x2.toNatClampNeg)] qs_X2_34 (m_J6_bitCount_0f7a4 hq3) rfl rfl ⟨rfl, rfl⟩ ⟨by decide, by decide⟩ (Nat.le_of_ble_eq_true rfl) dX2_howMany_17 ?_
      refine g_aload_n C 0 dX2_howMany_20 rfl ?_
      refine g_getR C 1 (k0 + 2) hk0 q_X2_15 rfl rfl dX2_howMany_21 ?_
      refine g_iload_n C 2 dX2_howMany_24 rfl ?_
      obtain ⟨hi4, h⟩ := cI_some h
      refine g_iald C 7 (sc_2_1 hk0) ho_11 hi4 dX2_howMany_25 ?_
      obtain ⟨q5, hq5, h⟩ := bd h
      refine g_callSI C [.int (q3.2.1 (k0 + 2) x2.toNatClampNeg)] qs_X2_34 (m_J6_bitCount_0f7a4 hq5) rfl rfl ⟨rfl, rfl⟩ ⟨by decide, by decide⟩ (Nat.le_of_ble_eq_true rfl) dX2_howMany_26 ?_
      refine g_iadd C dX2_howMany_29 ?_
      refine g_iadd C dX2_howMany_30 ?_
      refine g_istore_n C [(1, .int (x1 + (q3.1 + q5.1))), (0, .ref k0), (2, .int x2)] dX2_howMany_31 (by decide) rfl ?_
      refine g_iinc C 2 [(2, .int (x2 + (1 : Int32))), (1, .int (x1 + (q3.1 + q5.1))), (0, .ref k0)] dX2_howMany_32 rfl rfl (by decide) rfl ?_
      refine g_goto C 4 dX2_howMany_35 (by decide) ?_
      exact g_sub [2, 1, 0] rfl (ih k0 hk0 (x1 + (q3.1 + q5.1)) (x2 + (1 : Int32)) q5.2 h)
def f_X2_howMany (k0 : Nat) (σ : St) : Option (Int32 × St) := (f_X2_howMany_4 FU) k0 (0 : Int32) (0 : Int32) σ
set_option maxRecDepth 20000 in
theorem m_X2_howMany {l : Launch} {D : va_G} {ca : Nat → ClassId} {ad : Nat → Nat} {k0 : Nat} {σ : St} {R : Int32 × St} (hk0 : LC k0 = 2) (h : f_X2_howMany k0 σ = some R) : gM l D ca ad 91 LC yX2_howMany cX2_howMany 3 (some .int) rm_X2_howMany [.ref k0] σ (some (.int R.1)) R.2 := by
  refine gM_of (by decide) (Nat.le_of_ble_eq_true rfl) (fun p e s m args below meth c C => ?_)
  refine g_ent (ls' := [(0, .ref k0)]) rfl ?_
  unfold f_X2_howMany at h
  refine g_iconst C (0 : Int32) dX2_howMany_0 rfl ?_
  refine g_istore_n C [(1, .int (0 : Int32)), (0, .ref k0)] dX2_howMany_1 (by decide) rfl ?_
  refine g_iconst C (0 : Int32) dX2_howMany_2 rfl ?_
  refine g_istore_n C [(2, .int (0 : Int32)), (1, .int (0 : Int32)), (0, .ref k0)] dX2_howMany_3 (by decide) rfl ?_
  exact g_sub [2, 1, 0] rfl ((s_X2_howMany_4 C FU) k0 hk0 (0 : Int32) (0 : Int32) σ h)
def f_X3_become (k0 : Nat) (x1 : Int32) (x2 : Int32) (σ : St) : Option (St) := ap (up1 σ k0 0 (1 : Int32)) fun σ1 => ap (up1 (up1 σ1 k0 1 x1) k0 2 x2) fun σ2 => (f_J7_fill_53178 (k0 + 1) 60 (0 : Int32) σ2).bind (fun q3 => some q3)
set_option maxRecDepth 20000 in
theorem m_X3_become {l : Launch} {D : va_G} {ca : Nat → ClassId} {ad : Nat → Nat} {k0 : Nat} {x1 : Int32} {x2 : Int32} {σ : St} {R : St} (hk0 : LC k0 = 3) (h : f_X3_become k0 x1 x2 σ = some R) : gM l D ca ad 91 LC yX3_become cX3_become 3 none rm_X3_become [.ref k0, .int x1, .int x2] σ none R := by
  refine gM_of (by decide) (Nat.le_of_ble_eq_true rfl) (fun p e s m args below meth c C => ?_)
  refine g_ent (ls' := [(0, .ref k0), (1, .int x1), (2, .int x2)]) rfl ?_
  unfold f_X3_become at h
  refine g_aload_n C 0 dX3_become_0 rfl ?_
  refine g_iconst C (1 : Int32) dX3_become_1 rfl ?_
  refine g_putZ C 0 hk0 qp_X3_9 rfl rfl rfl dX3_become_2 ?_
  refine g_nmS (fun σ1 eσ1 => ?_)
  have h := ap_at eσ1 h
  refine g_aload_n C 0 dX3_become_5 rfl ?_
  refine g_iload_n C 1 dX3_become_6 rfl ?_
  refine g_putI C 1 hk0 qp_X3_15 rfl dX3_become_7 ?_
  refine g_aload_n C 0 dX3_become_10 rfl ?_
  refine g_iload_n C 2 dX3_become_11 rfl ?_
  refine g_putI C 2 hk0 qp_X3_19 rfl dX3_become_12 ?_
  refine g_nmS (fun σ2 eσ2 => ?_)
  have h := ap_at eσ2 h
  refine g_aload_n C 0 dX3_become_15 rfl ?_
  refine g_getR C 3 (k0 + 1) hk0 q_X3_22 rfl rfl dX3_become_16 ?_
  refine g_iconst C (0 : Int32) dX3_become_19 rfl ?_
  obtain ⟨q3, hq3, h⟩ := bd h
  refine g_callSV C [.ref (k0 + 1), .int (0 : Int32)] qs_X3_26 (m_J7_fill_53178 (sc_3_3 hk0) ho_15 hq3) rfl rfl ⟨rfl, rfl⟩ ⟨by decide, by decide⟩ (Nat.le_of_ble_eq_true rfl) dX3_become_20 ?_
  obtain rfl := Option.some.inj h
  exact g_vret C dX3_become_23
def f_X3_hasFrom (k0 : Nat) (x1 : Int32) (x2 : Int32) (σ : St) : Option (Int32 × St) := (if x1 < 0 then some ((0 : Int32), σ) else (if ((σ.1 k0 2) - x2) < x1 then some ((0 : Int32), σ) else some ((1 : Int32), σ)))
set_option maxRecDepth 20000 in
theorem m_X3_hasFrom {l : Launch} {D : va_G} {ca : Nat → ClassId} {ad : Nat → Nat} {k0 : Nat} {x1 : Int32} {x2 : Int32} {σ : St} {R : Int32 × St} (hk0 : LC k0 = 3) (h : f_X3_hasFrom k0 x1 x2 σ = some R) : gM l D ca ad 91 LC yX3_hasFrom cX3_hasFrom 3 (some .boolean) rm_X3_hasFrom [.ref k0, .int x1, .int x2] σ (some (.int R.1)) R.2 := by
  refine gM_of (by decide) (Nat.le_of_ble_eq_true rfl) (fun p e s m args below meth c C => ?_)
  refine g_ent (ls' := [(0, .ref k0), (1, .int x1), (2, .int x2)]) rfl ?_
  unfold f_X3_hasFrom at h
  refine g_iload_n C 1 dX3_hasFrom_0 rfl ?_
  refine g_if_lt C 18 dX3_hasFrom_1 (by decide) (fun hc1 => ?_) (fun hc1 => ?_)
  · have h := ite_t hc1 h
    refine g_iconst C (0 : Int32) dX3_hasFrom_18 rfl ?_
    obtain rfl := Option.some.inj h
    exact g_zret C nz0 dX3_hasFrom_19
  · have h := ite_f hc1 h
    refine g_iload_n C 1 dX3_hasFrom_4 rfl ?_
    refine g_aload_n C 0 dX3_hasFrom_5 rfl ?_
    refine g_getI C 2 hk0 q_X3_19 rfl dX3_hasFrom_6 ?_
    refine g_iload_n C 2 dX3_hasFrom_9 rfl ?_
    refine g_isub C dX3_hasFrom_10 ?_
    refine g_icmp_gt C 18 dX3_hasFrom_11 (by decide) (fun hc2 => ?_) (fun hc2 => ?_)
    · have h := ite_t hc2 h
      refine g_iconst C (0 : Int32) dX3_hasFrom_18 rfl ?_
      obtain rfl := Option.some.inj h
      exact g_zret C nz0 dX3_hasFrom_19
    · have h := ite_f hc2 h
      refine g_iconst C (1 : Int32) dX3_hasFrom_14 rfl ?_
      refine g_goto C 19 dX3_hasFrom_15 (by decide) ?_
      obtain rfl := Option.some.inj h
      exact g_zret C nz1 dX3_hasFrom_19
def f_X3_narrowed (k0 : Nat) (x1 : Int32) (σ : St) : Option (Int32 × St) := (if (σ.1 k0 1) = (0 : Int32) then some (x1.toInt8.toInt32, σ) else (if (σ.1 k0 1) = (1 : Int32) then some (x1.toInt16.toInt32, σ) else (if (σ.1 k0 1) = (2 : Int32) then some ((x1.toUInt32 % 65536).toInt32, σ) else some (x1, σ))))
set_option maxRecDepth 20000 in
theorem m_X3_narrowed {l : Launch} {D : va_G} {ca : Nat → ClassId} {ad : Nat → Nat} {k0 : Nat} {x1 : Int32} {σ : St} {R : Int32 × St} (hk0 : LC k0 = 3) (h : f_X3_narrowed k0 x1 σ = some R) : gM l D ca ad 91 LC yX3_narrowed cX3_narrowed 2 (some .int) rm_X3_narrowed [.ref k0, .int x1] σ (some (.int R.1)) R.2 := by
  refine gM_of (by decide) (Nat.le_of_ble_eq_true rfl) (fun p e s m args below meth c C => ?_)
  refine g_ent (ls' := [(0, .ref k0), (1, .int x1)]) rfl ?_
  unfold f_X3_narrowed at h
  refine g_aload_n C 0 dX3_narrowed_0 rfl ?_
  refine g_getI C 1 hk0 q_X3_15 rfl dX3_narrowed_1 ?_
  by_cases hc1 : (σ.1 k0 1) = (0 : Int32)
  · have h := ite_t hc1 h
    refine g_tableIn C 32 dX3_narrowed_4 (by rw [hc1]; decide) (by rw [hc1]; decide) (by rw [hc1]; rfl) (by decide) ?_
    refine g_iload_n C 1 dX3_narrowed_32 rfl ?_
    refine g_i2b C dX3_narrowed_33 ?_
    obtain rfl := Option.some.inj h
    exact g_iret C dX3_narrowed_34
  · have h := ite_f hc1 h
    by_cases hc2 : (σ.1 k0 1) = (1 : Int32)
    · have h := ite_t hc2 h
      refine g_tableIn C 35 dX3_narrowed_4 (by rw [hc2]; decide) (by rw [hc2]; decide) (by rw [hc2]; rfl) (by decide) ?_
      refine g_iload_n C 1 dX3_narrowed_35 rfl ?_
      refine g_i2s C dX3_narrowed_36 ?_
      obtain rfl := Option.some.inj h
      exact g_iret C dX3_narrowed_37
    · have h := ite_f hc2 h
      by_cases hc3 : (σ.1 k0 1) = (2 : Int32)
      · have h := ite_t hc3 h
        refine g_tableIn C 38 dX3_narrowed_4 (by rw [hc3]; decide) (by rw [hc3]; decide) (by rw [hc3]; rfl) (by decide) ?_
        refine g_iload_n C 1 dX3_narrowed_38 rfl ?_
        refine g_i2c C dX3_narrowed_39 ?_
        obtain rfl := Option.some.inj h
        exact g_iret C dX3_narrowed_40
      · have h := ite_f hc3 h
        refine g_tableOut C 41 dX3_narrowed_4 (sw_out 2 (by decide) (fun j hj => by rcases (show j = 0 ∨ j = 1 ∨ j = 2 by omega) with rfl | rfl | rfl; exact hc1; exact hc2; exact hc3)) (by decide) ?_
        refine g_iload_n C 1 dX3_narrowed_41 rfl ?_
        obtain rfl := Option.some.inj h
        exact g_iret C dX3_narrowed_42
def f_X4_append_3 : Nat → Int64 → Int32 → Int32 → St → Option (St)
  | 0, _, _, _, _ => none
  | n + 1, x1, x3, x4, σ => (if x3 ≤ x4 then some σ else (if (200 : Int32) ≤ (σ.1 58 1) then some σ else cI (ix (σ.1 58 1) 200) (ap (up1 σ 59 (σ.1 58 1).toNatClampNeg (vp_nar .byte ((x1.toUInt64 >>> (((8 : Int32) * x4).toInt64.toUInt64 &&& Int64.toUInt64 63)).toInt64).toInt32.toInt8.toInt32)) fun σ4 => ap (up1 σ4 58 1 ((σ4.1 58 1) + (1 : Int32))) fun σ5 => (f_X4_append_3 n) x1 x3 (x4 + (1 : Int32)) σ5)))
set_option maxRecDepth 20000 in
theorem s_X4_append_3 {R : St} (C : gC p s m args meth c D ca ad 91 LC RX4 cX4_append 5 none) : ∀ (n : Nat) (x1 : Int64) (x3 : Int32) (x4 : Int32) (σ : St), f_X4_append_3 n x1 x3 x4 σ = some R → G p l e rm_X4_append s m args below meth c D ca ad 91 LC 5 (gEnd below args s D ca ad 91 LC none R) 3 [(0, .ref 58), (1, .long x1), (3, .int x3), (4, .int x4)] [] σ := by
  intro n
  induction n with
  | zero =>
    intro x1 x3 x4 σ h
    have h : none = some R := h
    cases h
  | succ n ih =>
    intro x1 x3 x4 σ h
    rw [f_X4_append_3] at h
    refine g_iload C 3 dX4_append_3 rfl ?_
    refine g_iload_n C 2 dX4_append_5 rfl ?_
    refine g_icmp_ge C 53 dX4_append_6 (by decide) (fun hc1 => ?_) (fun hc1 => ?_)
    · have h := ite_t hc1 h
      obtain rfl := Option.some.inj h
      exact g_vret C dX4_append_53
    · have h := ite_f hc1 h
      refine g_aload_n C 0 dX4_append_9 rfl ?_
      refine g_getI C 1 rfl q_X4_15 rfl dX4_append_10 ?_
      refine g_sipush C (200 : Int32) dX4_append_13 rfl ?_
      refine g_icmp_ge C 53 dX4_append_16 (by decide) (fun hc2 => ?_) (fun hc2 => ?_)
      · have h := ite_t hc2 h
        obtain rfl := Option.some.inj h
        exact g_vret C dX4_append_53
      · have h := ite_f hc2 h
        refine g_aload_n C 0 dX4_append_19 rfl ?_
        refine g_getR C 0 59 rfl q_X4_9 rfl rfl dX4_append_20 ?_
        refine g_aload_n C 0 dX4_append_23 rfl ?_
        refine g_getI C 1 rfl q_X4_15 rfl dX4_append_24 ?_
        refine g_lload_n C 1 dX4_append_27 rfl ?_
        refine g_bipush C (8 : Int32) dX4_append_28 rfl ?_
        refine g_iload C 3 dX4_append_30 rfl ?_
        refine g_imul C dX4_append_32 ?_
        refine g_lushr C dX4_append_33 ?_
        refine g_l2i C dX4_append_34 ?_
        refine g_i2b C dX4_append_35 ?_
        obtain ⟨hi3, h⟩ := cI_some h
        refine g_bast C 200 rfl ho_21 hi3 dX4_append_36 ?_
        refine g_nmS (fun σ4 eσ4 => ?_)
        have h := ap_at eσ4 h
        refine g_aload_n C 0 dX4_append_37 rfl ?_
        refine g_dup C rfl dX4_append_38 ?_
        refine g_getI C 1 rfl q_X4_15 rfl dX4_append_39 ?_
        refine g_iconst C (1 : Int32) dX4_append_42 rfl ?_
        refine g_iadd C dX4_append_43 ?_
        refine g_putI C 1 rfl qp_X4_15 rfl dX4_append_44 ?_
        refine g_nmS (fun σ5 eσ5 => ?_)
        have h := ap_at eσ5 h
        refine g_iinc C 3 [(4, .int (x4 + (1 : Int32))), (0, .ref 58), (1, .long x1), (3, .int x3)] dX4_append_47 rfl rfl (by decide) rfl ?_
        refine g_goto C 3 dX4_append_50 (by decide) ?_
        exact g_sub [1, 2, 3, 0] rfl (ih x1 x3 (x4 + (1 : Int32)) σ5 h)
def f_X4_append (x1 : Int64) (x3 : Int32) (σ : St) : Option (St) := (f_X4_append_3 FU) x1 x3 (0 : Int32) σ
set_option maxRecDepth 20000 in
theorem m_X4_append {l : Launch} {D : va_G} {ca : Nat → ClassId} {ad : Nat → Nat} {x1 : Int64} {x3 : Int32} {σ : St} {R : St} (h : f_X4_append x1 x3 σ = some R) : gM l D ca ad 91 LC yX4_append cX4_append 5 none rm_X4_append [.ref 58, .long x1, .int x3] σ none R := by
  refine gM_of (by decide) (Nat.le_of_ble_eq_true rfl) (fun p e s m args below meth c C => ?_)
  refine g_ent (ls' := [(0, .ref 58), (1, .long x1), (3, .int x3)]) rfl ?_
  unfold f_X4_append at h
  refine g_iconst C (0 : Int32) dX4_append_0 rfl ?_
  refine g_istore C [(4, .int (0 : Int32)), (0, .ref 58), (1, .long x1), (3, .int x3)] dX4_append_1 (by decide) rfl ?_
  exact g_sub [1, 2, 3, 0] rfl ((s_X4_append_3 C FU) x1 x3 (0 : Int32) σ h)
def f_X4_readName_27 (xs0 : Int32) (σ : St) : Option (Int32 × St) := (if xs0 < 0 then some ((0 : Int32), σ) else (if xs0 < (σ.1 58 3) then ap (up1 σ 58 4 ((σ.1 58 4) ||| ((1 : Int32) <<< (xs0 &&& 31)))) fun σ3 => ap (up1 σ3 58 2 ((σ3.1 58 2) + (1 : Int32))) fun σ4 => some ((1 : Int32), σ4) else some ((0 : Int32), σ)))
set_option maxRecDepth 20000 in
theorem s_X4_readName_27 {R : Int32 × St} (C : gC p s m args meth c D ca ad 91 LC RX4 cX4_readName 2 (some .boolean)) (xs0 : Int32) (σ : St) (h : f_X4_readName_27 xs0 σ = some R) : G p l e rm_X4_readName s m args below meth c D ca ad 91 LC 2 (gEnd below args s D ca ad 91 LC (some (.int R.1)) R.2) 27 [(0, .ref 58)] [.int xs0] σ := by
  unfold f_X4_readName_27 at h
  refine g_istore_n C [(1, .int xs0), (0, .ref 58)] dX4_readName_27 (by decide) rfl ?_
  refine g_iload_n C 0 dX4_readName_28 rfl ?_
  refine g_if_lt C 40 dX4_readName_29 (by decide) (fun hc1 => ?_) (fun hc1 => ?_)
  · have h := ite_t hc1 h
    refine g_iconst C (0 : Int32) dX4_readName_40 rfl ?_
    obtain rfl := Option.some.inj h
    exact g_zret C nz0 dX4_readName_41
  · have h := ite_f hc1 h
    refine g_iload_n C 0 dX4_readName_32 rfl ?_
    refine g_aload_n C 1 dX4_readName_33 rfl ?_
    refine g_getI C 3 rfl q_X4_22 rfl dX4_readName_34 ?_
    refine g_icmp_lt C 42 dX4_readName_37 (by decide) (fun hc2 => ?_) (fun hc2 => ?_)
    · have h := ite_t hc2 h
      refine g_aload_n C 1 dX4_readName_42 rfl ?_
      refine g_dup C rfl dX4_readName_43 ?_
      refine g_getI C 4 rfl q_X4_25 rfl dX4_readName_44 ?_
      refine g_iconst C (1 : Int32) dX4_readName_47 rfl ?_
      refine g_iload_n C 0 dX4_readName_48 rfl ?_
      refine g_ishl C dX4_readName_49 ?_
      refine g_ior C dX4_readName_50 ?_
      refine g_putI C 4 rfl qp_X4_25 rfl dX4_readName_51 ?_
      refine g_nmS (fun σ3 eσ3 => ?_)
      have h := ap_at eσ3 h
      refine g_aload_n C 1 dX4_readName_54 rfl ?_
      refine g_dup C rfl dX4_readName_55 ?_
      refine g_getI C 2 rfl q_X4_19 rfl dX4_readName_56 ?_
      refine g_iconst C (1 : Int32) dX4_readName_59 rfl ?_
      refine g_iadd C dX4_readName_60 ?_
      refine g_putI C 2 rfl qp_X4_19 rfl dX4_readName_61 ?_
      refine g_nmS (fun σ4 eσ4 => ?_)
      have h := ap_at eσ4 h
      refine g_iconst C (1 : Int32) dX4_readName_64 rfl ?_
      obtain rfl := Option.some.inj h
      exact g_zret C nz1 dX4_readName_65
    · have h := ite_f hc2 h
      refine g_iconst C (0 : Int32) dX4_readName_40 rfl ?_
      obtain rfl := Option.some.inj h
      exact g_zret C nz0 dX4_readName_41
def f_X4_readName (σ : St) : Option (Int32 × St) := (if (σ.1 58 1) ≤ (σ.1 58 2) then (f_X4_readName_27) (-1 : Int32) σ else cI (ix (σ.1 58 2) 200) ((f_X4_readName_27) ((σ.1 59 (σ.1 58 2).toNatClampNeg) - (97 : Int32)) σ))
set_option maxRecDepth 20000 in
theorem m_X4_readName {l : Launch} {D : va_G} {ca : Nat → ClassId} {ad : Nat → Nat} {σ : St} {R : Int32 × St} (h : f_X4_readName σ = some R) : gM l D ca ad 91 LC yX4_readName cX4_readName 2 (some .boolean) rm_X4_readName [.ref 58] σ (some (.int R.1)) R.2 := by
  refine gM_of (by decide) (Nat.le_of_ble_eq_true rfl) (fun p e s m args below meth c C => ?_)
  refine g_ent (ls' := [(0, .ref 58)]) rfl ?_
  unfold f_X4_readName at h
  refine g_aload_n C 0 dX4_readName_0 rfl ?_
  refine g_getI C 2 rfl q_X4_19 rfl dX4_readName_1 ?_
  refine g_aload_n C 0 dX4_readName_4 rfl ?_
  refine g_getI C 1 rfl q_X4_15 rfl dX4_readName_5 ?_
  refine g_icmp_ge C 26 dX4_readName_8 (by decide) (fun hc1 => ?_) (fun hc1 => ?_)
  · have h := ite_t hc1 h
    refine g_iconst C (-1 : Int32) dX4_readName_26 rfl ?_
    exact g_sub [0] rfl ((s_X4_readName_27 C) (-1 : Int32) σ h)
  · have h := ite_f hc1 h
    refine g_aload_n C 0 dX4_readName_11 rfl ?_
    refine g_getR C 0 59 rfl q_X4_9 rfl rfl dX4_readName_12 ?_
    refine g_aload_n C 0 dX4_readName_15 rfl ?_
    refine g_getI C 2 rfl q_X4_19 rfl dX4_readName_16 ?_
    obtain ⟨hi2, h⟩ := cI_some h
    refine g_bald C 200 rfl ho_21 hi2 dX4_readName_19 ?_
    refine g_bipush C (97 : Int32) dX4_readName_20 rfl ?_
    refine g_isub C dX4_readName_22 ?_
    refine g_goto C 27 dX4_readName_23 (by decide) ?_
    exact g_sub [0] rfl ((s_X4_readName_27 C) ((σ.1 59 (σ.1 58 2).toNatClampNeg) - (97 : Int32)) σ h)
def f_X4_skip (x1 : Int32) (σ : St) : Option (Int32 × St) := (if (σ.1 58 1) ≤ (σ.1 58 2) then some ((0 : Int32), σ) else cI (ix (σ.1 58 2) 200) ((if (σ.1 59 (σ.1 58 2).toNatClampNeg) = x1 then ap (up1 σ 58 2 ((σ.1 58 2) + (1 : Int32))) fun σ4 => some ((1 : Int32), σ4) else some ((0 : Int32), σ))))
set_option maxRecDepth 20000 in
theorem m_X4_skip {l : Launch} {D : va_G} {ca : Nat → ClassId} {ad : Nat → Nat} {x1 : Int32} {σ : St} {R : Int32 × St} (h : f_X4_skip x1 σ = some R) : gM l D ca ad 91 LC yX4_skip cX4_skip 2 (some .boolean) rm_X4_skip [.ref 58, .int x1] σ (some (.int R.1)) R.2 := by
  refine gM_of (by decide) (Nat.le_of_ble_eq_true rfl) (fun p e s m args below meth c C => ?_)
  refine g_ent (ls' := [(0, .ref 58), (1, .int x1)]) rfl ?_
  unfold f_X4_skip at h
  refine g_aload_n C 0 dX4_skip_0 rfl ?_
  refine g_getI C 2 rfl q_X4_19 rfl dX4_skip_1 ?_
  refine g_aload_n C 0 dX4_skip_4 rfl ?_
  refine g_getI C 1 rfl q_X4_15 rfl dX4_skip_5 ?_
  refine g_icmp_ge C 24 dX4_skip_8 (by decide) (fun hc1 => ?_) (fun hc1 => ?_)
  · have h := ite_t hc1 h
    refine g_iconst C (0 : Int32) dX4_skip_24 rfl ?_
    obtain rfl := Option.some.inj h
    exact g_zret C nz0 dX4_skip_25
  · have h := ite_f hc1 h
    refine g_aload_n C 0 dX4_skip_11 rfl ?_
    refine g_getR C 0 59 rfl q_X4_9 rfl rfl dX4_skip_12 ?_
    refine g_aload_n C 0 dX4_skip_15 rfl ?_
    refine g_getI C 2 rfl q_X4_19 rfl dX4_skip_16 ?_
    obtain ⟨hi2, h⟩ := cI_some h
    refine g_bald C 200 rfl ho_21 hi2 dX4_skip_19 ?_
    refine g_iload_n C 1 dX4_skip_20 rfl ?_
    refine g_icmp_eq C 26 dX4_skip_21 (by decide) (fun hc3 => ?_) (fun hc3 => ?_)
    · have h := ite_t hc3 h
      refine g_aload_n C 0 dX4_skip_26 rfl ?_
      refine g_dup C rfl dX4_skip_27 ?_
      refine g_getI C 2 rfl q_X4_19 rfl dX4_skip_28 ?_
      refine g_iconst C (1 : Int32) dX4_skip_31 rfl ?_
      refine g_iadd C dX4_skip_32 ?_
      refine g_putI C 2 rfl qp_X4_19 rfl dX4_skip_33 ?_
      refine g_nmS (fun σ4 eσ4 => ?_)
      have h := ap_at eσ4 h
      refine g_iconst C (1 : Int32) dX4_skip_36 rfl ?_
      obtain rfl := Option.some.inj h
      exact g_zret C nz1 dX4_skip_37
    · have h := ite_f hc3 h
      refine g_iconst C (0 : Int32) dX4_skip_24 rfl ?_
      obtain rfl := Option.some.inj h
      exact g_zret C nz0 dX4_skip_25
def f_X4_readGroup_26 (kk57 : Int32 → St → Option (Int32 × St)) : Nat → Int32 → Int32 → St → Option (Int32 × St)
  | 0, _, _, _ => none
  | n + 1, x1, x2, σ => (if (200 : Int32) ≤ x2 then kk57 x1 σ else (if x1 = 0 then kk57 x1 σ else (f_X4_skip (44 : Int32) σ).bind (fun q3 => (if q3.1 = 0 then kk57 x1 q3.2 else (f_X4_readName q3.2).bind (fun q5 => (f_X4_readGroup_26 kk57 n) q5.1 (x2 + (1 : Int32)) q5.2)))))
set_option maxRecDepth 20000 in
theorem s_X4_readGroup_26 {R : Int32 × St} (C : gC p s m args meth c D ca ad 91 LC RX4 cX4_readGroup 3 (some .boolean)) {kk57 : Int32 → St → Option (Int32 × St)} (HK57 : ∀ (x1 : Int32) (σ : St), kk57 x1 σ = some R → G p l e rm_X4_readGroup s m args below meth c D ca ad 91 LC 3 (gEnd below args s D ca ad 91 LC (some (.int R.1)) R.2) 57 [(0, .ref 58), (1, .int x1)] [] σ) : ∀ (n : Nat) (x1 : Int32) (x2 : Int32) (σ : St), f_X4_readGroup_26 kk57 n x1 x2 σ = some R → G p l e rm_X4_readGroup s m args below meth c D ca ad 91 LC 3 (gEnd below args s D ca ad 91 LC (some (.int R.1)) R.2) 26 [(0, .ref 58), (1, .int x1), (2, .int x2)] [] σ := by
  intro n
  induction n with
  | zero =>
    intro x1 x2 σ h
    have h : none = some R := h
    cases h
  | succ n ih =>
    intro x1 x2 σ h
    rw [f_X4_readGroup_26] at h
    refine g_iload_n C 2 dX4_readGroup_26 rfl ?_
    refine g_sipush C (200 : Int32) dX4_readGroup_27 rfl ?_
    refine g_icmp_ge C 57 dX4_readGroup_30 (by decide) (fun hc1 => ?_) (fun hc1 => ?_)
    · have h := ite_t hc1 h
      exact g_sub [0, 1] rfl (HK57 x1 σ h)
    · have h := ite_f hc1 h
      refine g_iload_n C 1 dX4_readGroup_33 rfl ?_
      refine g_if_eq C 57 dX4_readGroup_34 (by decide) (fun hc2 => ?_) (fun hc2 => ?_)
      · have h := ite_t hc2 h
        exact g_sub [0, 1] rfl (HK57 x1 σ h)
      · have h := ite_f hc2 h
        refine g_aload_n C 0 dX4_readGroup_37 rfl ?_
        refine g_bipush C (44 : Int32) dX4_readGroup_38 rfl ?_
        obtain ⟨q3, hq3, h⟩ := bd h
        refine g_callVI C [.int (44 : Int32)] qv_X4_45 (m_X4_skip hq3) rfl (by decide) rfl rfl rfl ⟨rfl, rfl⟩ ⟨by decide, by decide⟩ (Nat.le_of_ble_eq_true rfl) dX4_readGroup_40 ?_
        refine g_if_eq C 57 dX4_readGroup_43 (by decide) (fun hc4 => ?_) (fun hc4 => ?_)
        · have h := ite_t hc4 h
          exact g_sub [0, 1] rfl (HK57 x1 q3.2 h)
        · have h := ite_f hc4 h
          refine g_aload_n C 0 dX4_readGroup_46 rfl ?_
          obtain ⟨q5, hq5, h⟩ := bd h
          refine g_callVI C [] qv_X4_53 (m_X4_readName hq5) rfl (by decide) rfl rfl rfl ⟨rfl, rfl⟩ ⟨by decide, by decide⟩ (Nat.le_of_ble_eq_true rfl) dX4_readGroup_47 ?_
          refine g_istore_n C [(1, .int q5.1), (0, .ref 58), (2, .int x2)] dX4_readGroup_50 (by decide) rfl ?_
          refine g_iinc C 2 [(2, .int (x2 + (1 : Int32))), (1, .int q5.1), (0, .ref 58)] dX4_readGroup_51 rfl rfl (by decide) rfl ?_
          refine g_goto C 26 dX4_readGroup_54 (by decide) ?_
          exact g_sub [2, 1, 0] rfl (ih q5.1 (x2 + (1 : Int32)) q5.2 h)
def f_X4_readGroup_57 (x1 : Int32) (σ : St) : Option (Int32 × St) := (if x1 = 0 then some ((0 : Int32), σ) else (f_X4_skip (41 : Int32) σ).bind (fun q2 => (if q2.1 = 0 then some ((0 : Int32), q2.2) else some ((1 : Int32), q2.2))))
set_option maxRecDepth 20000 in
theorem s_X4_readGroup_57 {R : Int32 × St} (C : gC p s m args meth c D ca ad 91 LC RX4 cX4_readGroup 3 (some .boolean)) (x1 : Int32) (σ : St) (h : f_X4_readGroup_57 x1 σ = some R) : G p l e rm_X4_readGroup s m args below meth c D ca ad 91 LC 3 (gEnd below args s D ca ad 91 LC (some (.int R.1)) R.2) 57 [(0, .ref 58), (1, .int x1)] [] σ := by
  unfold f_X4_readGroup_57 at h
  refine g_iload_n C 1 dX4_readGroup_57 rfl ?_
  refine g_if_eq C 74 dX4_readGroup_58 (by decide) (fun hc1 => ?_) (fun hc1 => ?_)
  · have h := ite_t hc1 h
    refine g_iconst C (0 : Int32) dX4_readGroup_74 rfl ?_
    obtain rfl := Option.some.inj h
    exact g_zret C nz0 dX4_readGroup_75
  · have h := ite_f hc1 h
    refine g_aload_n C 0 dX4_readGroup_61 rfl ?_
    refine g_bipush C (41 : Int32) dX4_readGroup_62 rfl ?_
    obtain ⟨q2, hq2, h⟩ := bd h
    refine g_callVI C [.int (41 : Int32)] qv_X4_45 (m_X4_skip hq2) rfl (by decide) rfl rfl rfl ⟨rfl, rfl⟩ ⟨by decide, by decide⟩ (Nat.le_of_ble_eq_true rfl) dX4_readGroup_64 ?_
    refine g_if_eq C 74 dX4_readGroup_67 (by decide) (fun hc3 => ?_) (fun hc3 => ?_)
    · have h := ite_t hc3 h
      refine g_iconst C (0 : Int32) dX4_readGroup_74 rfl ?_
      obtain rfl := Option.some.inj h
      exact g_zret C nz0 dX4_readGroup_75
    · have h := ite_f hc3 h
      refine g_iconst C (1 : Int32) dX4_readGroup_70 rfl ?_
      refine g_goto C 75 dX4_readGroup_71 (by decide) ?_
      obtain rfl := Option.some.inj h
      exact g_zret C nz1 dX4_readGroup_75
def f_X4_readGroup (σ : St) : Option (Int32 × St) := ap (up1 σ 58 4 (0 : Int32)) fun σ1 => (f_X4_skip (40 : Int32) σ1).bind (fun q2 => (if q2.1 = 0 then (f_X4_readName q2.2).bind (fun q5 => cI (zb q5.1) (some (q5.1, q5.2))) else (f_X4_readName q2.2).bind (fun q4 => (f_X4_readGroup_26 (f_X4_readGroup_57) FU) q4.1 (0 : Int32) q4.2)))
set_option maxRecDepth 20000 in
theorem m_X4_readGroup {l : Launch} {D : va_G} {ca : Nat → ClassId} {ad : Nat → Nat} {σ : St} {R : Int32 × St} (h : f_X4_readGroup σ = some R) : gM l D ca ad 91 LC yX4_readGroup cX4_readGroup 3 (some .boolean) rm_X4_readGroup [.ref 58] σ (some (.int R.1)) R.2 := by
  refine gM_of (by decide) (Nat.le_of_ble_eq_true rfl) (fun p e s m args below meth c C => ?_)
  refine g_ent (ls' := [(0, .ref 58)]) rfl ?_
  unfold f_X4_readGroup at h
  refine g_aload_n C 0 dX4_readGroup_0 rfl ?_
  refine g_iconst C (0 : Int32) dX4_readGroup_1 rfl ?_
  refine g_putI C 4 rfl qp_X4_25 rfl dX4_readGroup_2 ?_
  refine g_nmS (fun σ1 eσ1 => ?_)
  have h := ap_at eσ1 h
  refine g_aload_n C 0 dX4_readGroup_5 rfl ?_
  refine g_bipush C (40 : Int32) dX4_readGroup_6 rfl ?_
  obtain ⟨q2, hq2, h⟩ := bd h
  refine g_callVI C [.int (40 : Int32)] qv_X4_45 (m_X4_skip hq2) rfl (by decide) rfl rfl rfl ⟨rfl, rfl⟩ ⟨by decide, by decide⟩ (Nat.le_of_ble_eq_true rfl) dX4_readGroup_8 ?_
  refine g_if_ne C 19 dX4_readGroup_11 (by decide) (fun hc3 => ?_) (fun hc3 => ?_)
  · have h := ite_f hc3 h
    refine g_aload_n C 0 dX4_readGroup_19 rfl ?_
    obtain ⟨q4, hq4, h⟩ := bd h
    refine g_callVI C [] qv_X4_53 (m_X4_readName hq4) rfl (by decide) rfl rfl rfl ⟨rfl, rfl⟩ ⟨by decide, by decide⟩ (Nat.le_of_ble_eq_true rfl) dX4_readGroup_20 ?_
    refine g_istore_n C [(1, .int q4.1), (0, .ref 58)] dX4_readGroup_23 (by decide) rfl ?_
    refine g_iconst C (0 : Int32) dX4_readGroup_24 rfl ?_
    refine g_istore_n C [(2, .int (0 : Int32)), (1, .int q4.1), (0, .ref 58)] dX4_readGroup_25 (by decide) rfl ?_
    exact g_sub [2, 1, 0] rfl ((s_X4_readGroup_26 C (s_X4_readGroup_57 C) FU) q4.1 (0 : Int32) q4.2 h)
  · have h := ite_t hc3 h
    refine g_aload_n C 0 dX4_readGroup_14 rfl ?_
    obtain ⟨q5, hq5, h⟩ := bd h
    refine g_callVI C [] qv_X4_53 (m_X4_readName hq5) rfl (by decide) rfl rfl rfl ⟨rfl, rfl⟩ ⟨by decide, by decide⟩ (Nat.le_of_ble_eq_true rfl) dX4_readGroup_15 ?_
    obtain ⟨hz6, h⟩ := cI_some h
    obtain rfl := Option.some.inj h
    exact g_zret C (zb_n hz6) dX4_readGroup_18
def f_X4_relate_59 (kk13 : Int32 → Int32 → Int32 → Int32 → St → Option (St)) (x1 : Int32) (x2 : Int32) (x3 : Int32) (x4 : Int32) (σ : St) : Option (St) := kk13 x1 x2 x3 (x4 + (1 : Int32)) σ
set_option maxRecDepth 20000 in
theorem s_X4_relate_59 {R : St} (C : gC p s m args meth c D ca ad 91 LC RX4 cX4_relate 5 none) {kk13 : Int32 → Int32 → Int32 → Int32 → St → Option (St)} (HK13 : ∀ (x1 : Int32) (x2 : Int32) (x3 : Int32) (x4 : Int32) (σ : St), kk13 x1 x2 x3 x4 σ = some R → G p l e rm_X4_relate s m args below meth c D ca ad 91 LC 5 (gEnd below args s D ca ad 91 LC none R) 13 [(0, .ref 58), (1, .int x1), (2, .int x2), (3, .int x3), (4, .int x4)] [] σ) (x1 : Int32) (x2 : Int32) (x3 : Int32) (x4 : Int32) (σ : St) (h : f_X4_relate_59 kk13 x1 x2 x3 x4 σ = some R) : G p l e rm_X4_relate s m args below meth c D ca ad 91 LC 5 (gEnd below args s D ca ad 91 LC none R) 59 [(0, .ref 58), (1, .int x1), (2, .int x2), (3, .int x3), (4, .int x4)] [] σ := by
  unfold f_X4_relate_59 at h
  refine g_iinc C 4 [(4, .int (x4 + (1 : Int32))), (0, .ref 58), (1, .int x1), (2, .int x2), (3, .int x3)] dX4_relate_59 rfl rfl (by decide) rfl ?_
  refine g_goto C 13 dX4_relate_62 (by decide) ?_
  exact g_sub [1, 2, 3, 4, 0] rfl (HK13 x1 x2 x3 (x4 + (1 : Int32)) σ h)
def f_X4_relate_13 (kk65 : Int32 → Int32 → Int32 → St → Option (St)) : Nat → Int32 → Int32 → Int32 → Int32 → St → Option (St)
  | 0, _, _, _, _, _ => none
  | n + 1, x1, x2, x3, x4, σ => (if (σ.1 58 3) ≤ x4 then kk65 x1 x2 x3 σ else (if x3 = x4 then (f_X4_relate_59 (f_X4_relate_13 kk65 n)) x1 x2 x3 x4 σ else (if ((x1 >>> (x3 &&& 31)) &&& (1 : Int32)) = 0 then (f_X4_relate_59 (f_X4_relate_13 kk65 n)) x1 x2 x3 x4 σ else (if (((σ.1 58 4) >>> (x4 &&& 31)) &&& (1 : Int32)) = 0 then (f_X4_relate_59 (f_X4_relate_13 kk65 n)) x1 x2 x3 x4 σ else (f_X2_put 60 x3 x4 x2 σ).bind (fun q5 => (f_X4_relate_59 (f_X4_relate_13 kk65 n)) x1 x2 x3 x4 q5)))))
set_option maxRecDepth 20000 in
theorem s_X4_relate_13 {R : St} (C : gC p s m args meth c D ca ad 91 LC RX4 cX4_relate 5 none) {kk65 : Int32 → Int32 → Int32 → St → Option (St)} (HK65 : ∀ (x1 : Int32) (x2 : Int32) (x3 : Int32) (σ : St), kk65 x1 x2 x3 σ = some R → G p l e rm_X4_relate s m args below meth c D ca ad 91 LC 5 (gEnd below args s D ca ad 91 LC none R) 65 [(0, .ref 58), (1, .int x1), (2, .int x2), (3, .int x3)] [] σ) : ∀ (n : Nat) (x1 : Int32) (x2 : Int32) (x3 : Int32) (x4 : Int32) (σ : St), f_X4_relate_13 kk65 n x1 x2 x3 x4 σ = some R → G p l e rm_X4_relate s m args below meth c D ca ad 91 LC 5 (gEnd below args s D ca ad 91 LC none R) 13 [(0, .ref 58), (1, .int x1), (2, .int x2), (3, .int x3), (4, .int x4)] [] σ := by
  intro n
  induction n with
  | zero =>
    intro x1 x2 x3 x4 σ h
    have h : none = some R := h
    cases h
  | succ n ih =>
    intro x1 x2 x3 x4 σ h
    rw [f_X4_relate_13] at h
    refine g_iload C 4 dX4_relate_13 rfl ?_
    refine g_aload_n C 0 dX4_relate_15 rfl ?_
    refine g_getI C 3 rfl q_X4_22 rfl dX4_relate_16 ?_
    refine g_icmp_ge C 65 dX4_relate_19 (by decide) (fun hc1 => ?_) (fun hc1 => ?_)
    · have h := ite_t hc1 h
      exact g_sub [0, 1, 2, 3] rfl (HK65 x1 x2 x3 σ h)
    · have h := ite_f hc1 h
      refine g_iload_n C 3 dX4_relate_22 rfl ?_
      refine g_iload C 4 dX4_relate_23 rfl ?_
      refine g_icmp_eq C 59 dX4_relate_25 (by decide) (fun hc2 => ?_) (fun hc2 => ?_)
      · have h := ite_t hc2 h
        exact g_sub [0, 1, 2, 3, 4] rfl ((s_X4_relate_59 C ih) x1 x2 x3 x4 σ h)
      · have h := ite_f hc2 h
        refine g_iload_n C 1 dX4_relate_28 rfl ?_
        refine g_iload_n C 3 dX4_relate_29 rfl ?_
        refine g_ishr C dX4_relate_30 ?_
        refine g_iconst C (1 : Int32) dX4_relate_31 rfl ?_
        refine g_iand C dX4_relate_32 ?_
        refine g_if_eq C 59 dX4_relate_33 (by decide) (fun hc3 => ?_) (fun hc3 => ?_)
        · have h := ite_t hc3 h
          exact g_sub [0, 1, 2, 3, 4] rfl ((s_X4_relate_59 C ih) x1 x2 x3 x4 σ h)
        · have h := ite_f hc3 h
          refine g_aload_n C 0 dX4_relate_36 rfl ?_
          refine g_getI C 4 rfl q_X4_25 rfl dX4_relate_37 ?_
          refine g_iload C 4 dX4_relate_40 rfl ?_
          refine g_ishr C dX4_relate_42 ?_
          refine g_iconst C (1 : Int32) dX4_relate_43 rfl ?_
          refine g_iand C dX4_relate_44 ?_
          refine g_if_eq C 59 dX4_relate_45 (by decide) (fun hc4 => ?_) (fun hc4 => ?_)
          · have h := ite_t hc4 h
            exact g_sub [0, 1, 2, 3, 4] rfl ((s_X4_relate_59 C ih) x1 x2 x3 x4 σ h)
          · have h := ite_f hc4 h
            refine g_aload_n C 0 dX4_relate_48 rfl ?_
            refine g_getR C 5 60 rfl q_X4_31 rfl rfl dX4_relate_49 ?_
            refine g_iload_n C 3 dX4_relate_52 rfl ?_
            refine g_iload C 4 dX4_relate_53 rfl ?_
            refine g_iload_n C 2 dX4_relate_55 rfl ?_
            obtain ⟨q5, hq5, h⟩ := bd h
            refine g_callVV C [.int x3, .int x4, .int x2] qv_X4_56 (m_X2_put rfl hq5) rfl (by decide) rfl rfl rfl ⟨rfl, rfl⟩ ⟨by decide, by decide⟩ (Nat.le_of_ble_eq_true rfl) dX4_relate_56 ?_
            exact g_sub [0, 1, 2, 3, 4] rfl ((s_X4_relate_59 C ih) x1 x2 x3 x4 q5 h)
def f_X4_relate_65 (kk2 : Int32 → Int32 → Int32 → St → Option (St)) (x1 : Int32) (x2 : Int32) (x3 : Int32) (σ : St) : Option (St) := kk2 x1 x2 (x3 + (1 : Int32)) σ
set_option maxRecDepth 20000 in
theorem s_X4_relate_65 {R : St} (C : gC p s m args meth c D ca ad 91 LC RX4 cX4_relate 5 none) {kk2 : Int32 → Int32 → Int32 → St → Option (St)} (HK2 : ∀ (x1 : Int32) (x2 : Int32) (x3 : Int32) (σ : St), kk2 x1 x2 x3 σ = some R → G p l e rm_X4_relate s m args below meth c D ca ad 91 LC 5 (gEnd below args s D ca ad 91 LC none R) 2 [(0, .ref 58), (1, .int x1), (2, .int x2), (3, .int x3)] [] σ) (x1 : Int32) (x2 : Int32) (x3 : Int32) (σ : St) (h : f_X4_relate_65 kk2 x1 x2 x3 σ = some R) : G p l e rm_X4_relate s m args below meth c D ca ad 91 LC 5 (gEnd below args s D ca ad 91 LC none R) 65 [(0, .ref 58), (1, .int x1), (2, .int x2), (3, .int x3)] [] σ := by
  unfold f_X4_relate_65 at h
  refine g_iinc C 3 [(3, .int (x3 + (1 : Int32))), (0, .ref 58), (1, .int x1), (2, .int x2)] dX4_relate_65 rfl rfl (by decide) rfl ?_
  refine g_goto C 2 dX4_relate_68 (by decide) ?_
  exact g_sub [1, 2, 3, 0] rfl (HK2 x1 x2 (x3 + (1 : Int32)) σ h)
def f_X4_relate_2 : Nat → Int32 → Int32 → Int32 → St → Option (St)
  | 0, _, _, _, _ => none
  | n + 1, x1, x2, x3, σ => (if (σ.1 58 3) ≤ x3 then some σ else (f_X4_relate_13 (f_X4_relate_65 (f_X4_relate_2 n)) FU) x1 x2 x3 (0 : Int32) σ)
set_option maxRecDepth 20000 in
theorem s_X4_relate_2 {R : St} (C : gC p s m args meth c D ca ad 91 LC RX4 cX4_relate 5 none) : ∀ (n : Nat) (x1 : Int32) (x2 : Int32) (x3 : Int32) (σ : St), f_X4_relate_2 n x1 x2 x3 σ = some R → G p l e rm_X4_relate s m args below meth c D ca ad 91 LC 5 (gEnd below args s D ca ad 91 LC none R) 2 [(0, .ref 58), (1, .int x1), (2, .int x2), (3, .int x3)] [] σ := by
  intro n
  induction n with
  | zero =>
    intro x1 x2 x3 σ h
    have h : none = some R := h
    cases h
  | succ n ih =>
    intro x1 x2 x3 σ h
    rw [f_X4_relate_2] at h
    refine g_iload_n C 3 dX4_relate_2 rfl ?_
    refine g_aload_n C 0 dX4_relate_3 rfl ?_
    refine g_getI C 3 rfl q_X4_22 rfl dX4_relate_4 ?_
    refine g_icmp_ge C 71 dX4_relate_7 (by decide) (fun hc1 => ?_) (fun hc1 => ?_)
    · have h := ite_t hc1 h
      obtain rfl := Option.some.inj h
      exact g_vret C dX4_relate_71
    · have h := ite_f hc1 h
      refine g_iconst C (0 : Int32) dX4_relate_10 rfl ?_
      refine g_istore C [(4, .int (0 : Int32)), (0, .ref 58), (1, .int x1), (2, .int x2), (3, .int x3)] dX4_relate_11 (by decide) rfl ?_
      exact g_sub [1, 2, 3, 4, 0] rfl ((s_X4_relate_13 C (s_X4_relate_65 C ih) FU) x1 x2 x3 (0 : Int32) σ h)
def f_X4_relate (x1 : Int32) (x2 : Int32) (σ : St) : Option (St) := (f_X4_relate_2 FU) x1 x2 (0 : Int32) σ
set_option maxRecDepth 20000 in
theorem m_X4_relate {l : Launch} {D : va_G} {ca : Nat → ClassId} {ad : Nat → Nat} {x1 : Int32} {x2 : Int32} {σ : St} {R : St} (h : f_X4_relate x1 x2 σ = some R) : gM l D ca ad 91 LC yX4_relate cX4_relate 5 none rm_X4_relate [.ref 58, .int x1, .int x2] σ none R := by
  refine gM_of (by decide) (Nat.le_of_ble_eq_true rfl) (fun p e s m args below meth c C => ?_)
  refine g_ent (ls' := [(0, .ref 58), (1, .int x1), (2, .int x2)]) rfl ?_
  unfold f_X4_relate at h
  refine g_iconst C (0 : Int32) dX4_relate_0 rfl ?_
  refine g_istore_n C [(3, .int (0 : Int32)), (0, .ref 58), (1, .int x1), (2, .int x2)] dX4_relate_1 (by decide) rfl ?_
  exact g_sub [1, 2, 3, 0] rfl ((s_X4_relate_2 C FU) x1 x2 (0 : Int32) σ h)
def f_X4_readNextGroup_45 (x1 : Int32) (x2 : Int32) (σ : St) : Option (Int32 × St) := (f_X4_readGroup σ).bind (fun q1 => (if q1.1 = 0 then some ((0 : Int32), q1.2) else (if x2 = 0 then some ((1 : Int32), q1.2) else (f_X4_relate x1 x2 q1.2).bind (fun q4 => some ((1 : Int32), q4)))))
set_option maxRecDepth 20000 in
theorem s_X4_readNextGroup_45 {R : Int32 × St} (C : gC p s m args meth c D ca ad 91 LC RX4 cX4_readNextGroup 3 (some .boolean)) (x1 : Int32) (x2 : Int32) (σ : St) (h : f_X4_readNextGroup_45 x1 x2 σ = some R) : G p l e rm_X4_readNextGroup s m args below meth c D ca ad 91 LC 3 (gEnd below args s D ca ad 91 LC (some (.int R.1)) R.2) 45 [(0, .ref 58), (1, .int x1), (2, .int x2)] [] σ := by
  unfold f_X4_readNextGroup_45 at h
  refine g_aload_n C 0 dX4_readNextGroup_45 rfl ?_
  obtain ⟨q1, hq1, h⟩ := bd h
  refine g_callVI C [] qv_X4_38 (m_X4_readGroup hq1) rfl (by decide) rfl rfl rfl ⟨rfl, rfl⟩ ⟨by decide, by decide⟩ (Nat.le_of_ble_eq_true rfl) dX4_readNextGroup_46 ?_
  refine g_if_ne C 54 dX4_readNextGroup_49 (by decide) (fun hc2 => ?_) (fun hc2 => ?_)
  · have h := ite_f hc2 h
    refine g_iload_n C 2 dX4_readNextGroup_54 rfl ?_
    refine g_if_eq C 64 dX4_readNextGroup_55 (by decide) (fun hc3 => ?_) (fun hc3 => ?_)
    · have h := ite_t hc3 h
      refine g_iconst C (1 : Int32) dX4_readNextGroup_64 rfl ?_
      obtain rfl := Option.some.inj h
      exact g_zret C nz1 dX4_readNextGroup_65
    · have h := ite_f hc3 h
      refine g_aload_n C 0 dX4_readNextGroup_58 rfl ?_
      refine g_iload_n C 1 dX4_readNextGroup_59 rfl ?_
      refine g_iload_n C 2 dX4_readNextGroup_60 rfl ?_
      obtain ⟨q4, hq4, h⟩ := bd h
      refine g_callVV C [.int x1, .int x2] qv_X4_49 (m_X4_relate hq4) rfl (by decide) rfl rfl rfl ⟨rfl, rfl⟩ ⟨by decide, by decide⟩ (Nat.le_of_ble_eq_true rfl) dX4_readNextGroup_61 ?_
      refine g_iconst C (1 : Int32) dX4_readNextGroup_64 rfl ?_
      obtain rfl := Option.some.inj h
      exact g_zret C nz1 dX4_readNextGroup_65
  · have h := ite_t hc2 h
    refine g_iconst C (0 : Int32) dX4_readNextGroup_52 rfl ?_
    obtain rfl := Option.some.inj h
    exact g_zret C nz0 dX4_readNextGroup_53
def f_X4_readNextGroup_30 (x1 : Int32) (xs0 : Int32) (σ : St) : Option (Int32 × St) := (f_X4_readNextGroup_45) x1 xs0 σ
set_option maxRecDepth 20000 in
theorem s_X4_readNextGroup_30 {R : Int32 × St} (C : gC p s m args meth c D ca ad 91 LC RX4 cX4_readNextGroup 3 (some .boolean)) (x1 : Int32) (xs0 : Int32) (σ : St) (h : f_X4_readNextGroup_30 x1 xs0 σ = some R) : G p l e rm_X4_readNextGroup s m args below meth c D ca ad 91 LC 3 (gEnd below args s D ca ad 91 LC (some (.int R.1)) R.2) 30 [(0, .ref 58), (1, .int x1)] [.int xs0] σ := by
  unfold f_X4_readNextGroup_30 at h
  refine g_istore_n C [(2, .int xs0), (0, .ref 58), (1, .int x1)] dX4_readNextGroup_30 (by decide) rfl ?_
  refine g_goto C 45 dX4_readNextGroup_31 (by decide) ?_
  exact g_sub [1, 2, 0] rfl ((s_X4_readNextGroup_45 C) x1 xs0 σ h)
def f_X4_readNextGroup (σ : St) : Option (Int32 × St) := (f_X4_skip (60 : Int32) σ).bind (fun q1 => (if q1.1 = 0 then (f_X4_skip (59 : Int32) q1.2).bind (fun q3 => (if q3.1 = 0 then some ((0 : Int32), q3.2) else (f_X4_readNextGroup_45) (σ.1 58 4) (0 : Int32) q3.2)) else (f_X4_skip (61 : Int32) q1.2).bind (fun q5 => (if q5.1 = 0 then (f_X4_readNextGroup_30) (σ.1 58 4) (1 : Int32) q5.2 else (f_X4_readNextGroup_30) (σ.1 58 4) (2 : Int32) q5.2))))
set_option maxRecDepth 20000 in
theorem m_X4_readNextGroup {l : Launch} {D : va_G} {ca : Nat → ClassId} {ad : Nat → Nat} {σ : St} {R : Int32 × St} (h : f_X4_readNextGroup σ = some R) : gM l D ca ad 91 LC yX4_readNextGroup cX4_readNextGroup 3 (some .boolean) rm_X4_readNextGroup [.ref 58] σ (some (.int R.1)) R.2 := by
  refine gM_of (by decide) (Nat.le_of_ble_eq_true rfl) (fun p e s m args below meth c C => ?_)
  refine g_ent (ls' := [(0, .ref 58)]) rfl ?_
  unfold f_X4_readNextGroup at h
  refine g_aload_n C 0 dX4_readNextGroup_0 rfl ?_
  refine g_getI C 4 rfl q_X4_25 rfl dX4_readNextGroup_1 ?_
  refine g_istore_n C [(1, .int (σ.1 58 4)), (0, .ref 58)] dX4_readNextGroup_4 (by decide) rfl ?_
  refine g_iconst C (0 : Int32) dX4_readNextGroup_5 rfl ?_
  refine g_istore_n C [(2, .int (0 : Int32)), (1, .int (σ.1 58 4)), (0, .ref 58)] dX4_readNextGroup_6 (by decide) rfl ?_
  refine g_aload_n C 2 dX4_readNextGroup_7 rfl ?_
  refine g_bipush C (60 : Int32) dX4_readNextGroup_8 rfl ?_
  obtain ⟨q1, hq1, h⟩ := bd h
  refine g_callVI C [.int (60 : Int32)] qv_X4_45 (m_X4_skip hq1) rfl (by decide) rfl rfl rfl ⟨rfl, rfl⟩ ⟨by decide, by decide⟩ (Nat.le_of_ble_eq_true rfl) dX4_readNextGroup_10 ?_
  refine g_if_eq C 34 dX4_readNextGroup_13 (by decide) (fun hc2 => ?_) (fun hc2 => ?_)
  · have h := ite_t hc2 h
    refine g_aload_n C 2 dX4_readNextGroup_34 rfl ?_
    refine g_bipush C (59 : Int32) dX4_readNextGroup_35 rfl ?_
    obtain ⟨q3, hq3, h⟩ := bd h
    refine g_callVI C [.int (59 : Int32)] qv_X4_45 (m_X4_skip hq3) rfl (by decide) rfl rfl rfl ⟨rfl, rfl⟩ ⟨by decide, by decide⟩ (Nat.le_of_ble_eq_true rfl) dX4_readNextGroup_37 ?_
    refine g_if_ne C 45 dX4_readNextGroup_40 (by decide) (fun hc4 => ?_) (fun hc4 => ?_)
    · have h := ite_f hc4 h
      exact g_sub [2, 1, 0] rfl ((s_X4_readNextGroup_45 C) (σ.1 58 4) (0 : Int32) q3.2 h)
    · have h := ite_t hc4 h
      refine g_iconst C (0 : Int32) dX4_readNextGroup_43 rfl ?_
      obtain rfl := Option.some.inj h
      exact g_zret C nz0 dX4_readNextGroup_44
  · have h := ite_f hc2 h
    refine g_aload_n C 2 dX4_readNextGroup_16 rfl ?_
    refine g_bipush C (61 : Int32) dX4_readNextGroup_17 rfl ?_
    obtain ⟨q5, hq5, h⟩ := bd h
    refine g_callVI C [.int (61 : Int32)] qv_X4_45 (m_X4_skip hq5) rfl (by decide) rfl rfl rfl ⟨rfl, rfl⟩ ⟨by decide, by decide⟩ (Nat.le_of_ble_eq_true rfl) dX4_readNextGroup_19 ?_
    refine g_if_eq C 29 dX4_readNextGroup_22 (by decide) (fun hc6 => ?_) (fun hc6 => ?_)
    · have h := ite_t hc6 h
      refine g_iconst C (1 : Int32) dX4_readNextGroup_29 rfl ?_
      exact g_sub [2, 1] rfl ((s_X4_readNextGroup_30 C) (σ.1 58 4) (1 : Int32) q5.2 h)
    · have h := ite_f hc6 h
      refine g_iconst C (2 : Int32) dX4_readNextGroup_25 rfl ?_
      refine g_goto C 30 dX4_readNextGroup_26 (by decide) ?_
      exact g_sub [2, 1] rfl ((s_X4_readNextGroup_30 C) (σ.1 58 4) (2 : Int32) q5.2 h)
def f_X4_readAll_24 : Nat → Int32 → Int32 → St → Option (Int32 × St)
  | 0, _, _, _ => none
  | n + 1, x2, x3, σ => (if (200 : Int32) ≤ x3 then cI (zb x2) (some (x2, σ)) else (if x2 = 0 then cI (zb x2) (some (x2, σ)) else (if (σ.1 58 1) ≤ (σ.1 58 2) then cI (zb x2) (some (x2, σ)) else (f_X4_readNextGroup σ).bind (fun q7 => (f_X4_readAll_24 n) q7.1 (x3 + (1 : Int32)) q7.2))))
set_option maxRecDepth 20000 in
theorem s_X4_readAll_24 {R : Int32 × St} (C : gC p s m args meth c D ca ad 91 LC RX4 cX4_readAll 4 (some .boolean)) : ∀ (n : Nat) (x2 : Int32) (x3 : Int32) (σ : St), f_X4_readAll_24 n x2 x3 σ = some R → G p l e rm_X4_readAll s m args below meth c D ca ad 91 LC 4 (gEnd below args s D ca ad 91 LC (some (.int R.1)) R.2) 24 [(0, .ref 58), (2, .int x2), (3, .int x3)] [] σ := by
  intro n
  induction n with
  | zero =>
    intro x2 x3 σ h
    have h : none = some R := h
    cases h
  | succ n ih =>
    intro x2 x3 σ h
    rw [f_X4_readAll_24] at h
    refine g_iload_n C 2 dX4_readAll_24 rfl ?_
    refine g_sipush C (200 : Int32) dX4_readAll_25 rfl ?_
    refine g_icmp_ge C 57 dX4_readAll_28 (by decide) (fun hc1 => ?_) (fun hc1 => ?_)
    · have h := ite_t hc1 h
      refine g_iload_n C 1 dX4_readAll_57 rfl ?_
      obtain ⟨hz2, h⟩ := cI_some h
      obtain rfl := Option.some.inj h
      exact g_zret C (zb_n hz2) dX4_readAll_58
    · have h := ite_f hc1 h
      refine g_iload_n C 1 dX4_readAll_31 rfl ?_
      refine g_if_eq C 57 dX4_readAll_32 (by decide) (fun hc3 => ?_) (fun hc3 => ?_)
      · have h := ite_t hc3 h
        refine g_iload_n C 1 dX4_readAll_57 rfl ?_
        obtain ⟨hz4, h⟩ := cI_some h
        obtain rfl := Option.some.inj h
        exact g_zret C (zb_n hz4) dX4_readAll_58
      · have h := ite_f hc3 h
        refine g_aload_n C 0 dX4_readAll_35 rfl ?_
        refine g_getI C 2 rfl q_X4_19 rfl dX4_readAll_36 ?_
        refine g_aload_n C 0 dX4_readAll_39 rfl ?_
        refine g_getI C 1 rfl q_X4_15 rfl dX4_readAll_40 ?_
        refine g_icmp_ge C 57 dX4_readAll_43 (by decide) (fun hc5 => ?_) (fun hc5 => ?_)
        · have h := ite_t hc5 h
          refine g_iload_n C 1 dX4_readAll_57 rfl ?_
          obtain ⟨hz6, h⟩ := cI_some h
          obtain rfl := Option.some.inj h
          exact g_zret C (zb_n hz6) dX4_readAll_58
        · have h := ite_f hc5 h
          refine g_aload_n C 0 dX4_readAll_46 rfl ?_
          obtain ⟨q7, hq7, h⟩ := bd h
          refine g_callVI C [] qv_X4_42 (m_X4_readNextGroup hq7) rfl (by decide) rfl rfl rfl ⟨rfl, rfl⟩ ⟨by decide, by decide⟩ (Nat.le_of_ble_eq_true rfl) dX4_readAll_47 ?_
          refine g_istore_n C [(2, .int q7.1), (0, .ref 58), (3, .int x3)] dX4_readAll_50 (by decide) rfl ?_
          refine g_iinc C 2 [(3, .int (x3 + (1 : Int32))), (2, .int q7.1), (0, .ref 58)] dX4_readAll_51 rfl rfl (by decide) rfl ?_
          refine g_goto C 24 dX4_readAll_54 (by decide) ?_
          exact g_sub [2, 1, 0] rfl (ih q7.1 (x3 + (1 : Int32)) q7.2 h)
def f_X4_readAll (x1 : Int32) (σ : St) : Option (Int32 × St) := ap (up1 σ 58 2 (0 : Int32)) fun σ1 => (f_X2_clear 60 (up1 σ1 58 3 x1)).bind (fun q2 => (f_X4_readGroup q2).bind (fun q3 => (f_X4_readAll_24 FU) q3.1 (0 : Int32) q3.2))
set_option maxRecDepth 20000 in
theorem m_X4_readAll {l : Launch} {D : va_G} {ca : Nat → ClassId} {ad : Nat → Nat} {x1 : Int32} {σ : St} {R : Int32 × St} (h : f_X4_readAll x1 σ = some R) : gM l D ca ad 91 LC yX4_readAll cX4_readAll 4 (some .boolean) rm_X4_readAll [.ref 58, .int x1] σ (some (.int R.1)) R.2 := by
  refine gM_of (by decide) (Nat.le_of_ble_eq_true rfl) (fun p e s m args below meth c C => ?_)
  refine g_ent (ls' := [(0, .ref 58), (1, .int x1)]) rfl ?_
  unfold f_X4_readAll at h
  refine g_aload_n C 0 dX4_readAll_0 rfl ?_
  refine g_iconst C (0 : Int32) dX4_readAll_1 rfl ?_
  refine g_putI C 2 rfl qp_X4_19 rfl dX4_readAll_2 ?_
  refine g_nmS (fun σ1 eσ1 => ?_)
  have h := ap_at eσ1 h
  refine g_aload_n C 0 dX4_readAll_5 rfl ?_
  refine g_iload_n C 1 dX4_readAll_6 rfl ?_
  refine g_putI C 3 rfl qp_X4_22 rfl dX4_readAll_7 ?_
  refine g_aload_n C 0 dX4_readAll_10 rfl ?_
  refine g_getR C 5 60 rfl q_X4_31 rfl rfl dX4_readAll_11 ?_
  obtain ⟨q2, hq2, h⟩ := bd h
  refine g_callVV C [] qv_X4_35 (m_X2_clear rfl hq2) rfl (by decide) rfl rfl rfl ⟨rfl, rfl⟩ ⟨by decide, by decide⟩ (Nat.le_of_ble_eq_true rfl) dX4_readAll_14 ?_
  refine g_aload_n C 0 dX4_readAll_17 rfl ?_
  obtain ⟨q3, hq3, h⟩ := bd h
  refine g_callVI C [] qv_X4_38 (m_X4_readGroup hq3) rfl (by decide) rfl rfl rfl ⟨rfl, rfl⟩ ⟨by decide, by decide⟩ (Nat.le_of_ble_eq_true rfl) dX4_readAll_18 ?_
  refine g_istore_n C [(2, .int q3.1), (0, .ref 58), (1, .int x1)] dX4_readAll_21 (by decide) rfl ?_
  refine g_iconst C (0 : Int32) dX4_readAll_22 rfl ?_
  refine g_istore_n C [(3, .int (0 : Int32)), (2, .int q3.1), (0, .ref 58), (1, .int x1)] dX4_readAll_23 (by decide) rfl ?_
  exact g_sub [2, 1, 0] rfl ((s_X4_readAll_24 C FU) q3.1 (0 : Int32) q3.2 h)
end
