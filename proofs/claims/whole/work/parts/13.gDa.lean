section
variable {p : Program} {l : Launch} {e : Env} {s : State} {m : MethodId} {args : Array Value} {below : List Frame} {meth : Method} {c : Code} {D : va_G} {ca : Nat → ClassId} {ad : Nat → Nat}
def f_X7_years (x1 : Int32) (σ : St) : Option (Int32 × St) := (if x1 < (1 : Int32) then some ((-2 : Int32), σ) else (if x1 ≤ (40 : Int32) then some ((σ.1 1 0), up1 σ 1 0 x1) else some ((-2 : Int32), σ)))
set_option maxRecDepth 20000 in
theorem m_X7_years {l : Launch} {D : va_G} {ca : Nat → ClassId} {ad : Nat → Nat} {x1 : Int32} {σ : St} {R : Int32 × St} (h : f_X7_years x1 σ = some R) : gM l D ca ad 91 LC yX7_years cX7_years 3 (some .int) rm_X7_years [.ref 0, .int x1] σ (some (.int R.1)) R.2 := by
  refine gM_of (by decide) (Nat.le_of_ble_eq_true rfl) (fun p e s m args below meth c C => ?_)
  refine g_ent (ls' := [(0, .ref 0), (1, .int x1)]) rfl ?_
  unfold f_X7_years at h
  refine g_iload_n C 1 dX7_years_0 rfl ?_
  refine g_iconst C (1 : Int32) dX7_years_1 rfl ?_
  refine g_icmp_lt C 11 dX7_years_2 (by decide) (fun hc1 => ?_) (fun hc1 => ?_)
  · have h := ite_t hc1 h
    refine g_bipush C (-2 : Int32) dX7_years_11 rfl ?_
    obtain rfl := Option.some.inj h
    exact g_iret C dX7_years_13
  · have h := ite_f hc1 h
    refine g_iload_n C 1 dX7_years_5 rfl ?_
    refine g_bipush C (40 : Int32) dX7_years_6 rfl ?_
    refine g_icmp_le C 14 dX7_years_8 (by decide) (fun hc2 => ?_) (fun hc2 => ?_)
    · have h := ite_t hc2 h
      refine g_aload_n C 0 dX7_years_14 rfl ?_
      refine g_getR C 0 1 rfl q_X7_10 rfl rfl dX7_years_15 ?_
      refine g_getI C 0 rfl q_X7_74 rfl dX7_years_18 ?_
      refine g_istore_n C [(2, .int (σ.1 1 0)), (0, .ref 0), (1, .int x1)] dX7_years_21 (by decide) rfl ?_
      refine g_aload_n C 1 dX7_years_22 rfl ?_
      refine g_getR C 0 1 rfl q_X7_10 rfl rfl dX7_years_23 ?_
      refine g_iload_n C 2 dX7_years_26 rfl ?_
      refine g_putI C 0 rfl qp_X7_74 rfl dX7_years_27 ?_
      refine g_iload_n C 0 dX7_years_30 rfl ?_
      obtain rfl := Option.some.inj h
      exact g_iret C dX7_years_31
    · have h := ite_f hc2 h
      refine g_bipush C (-2 : Int32) dX7_years_11 rfl ?_
      obtain rfl := Option.some.inj h
      exact g_iret C dX7_years_13
def f_X7_isAge (x0 : Int32) (σ : St) : Option (Int32 × St) := (if x0 < 0 then some ((0 : Int32), σ) else (if (2000 : Int32) < x0 then some ((0 : Int32), σ) else some ((1 : Int32), σ)))
set_option maxRecDepth 20000 in
theorem m_X7_isAge {l : Launch} {D : va_G} {ca : Nat → ClassId} {ad : Nat → Nat} {x0 : Int32} {σ : St} {R : Int32 × St} (h : f_X7_isAge x0 σ = some R) : gM l D ca ad 91 LC yX7_isAge cX7_isAge 1 (some .boolean) rm_X7_isAge [.int x0] σ (some (.int R.1)) R.2 := by
  refine gM_of (by decide) (Nat.le_of_ble_eq_true rfl) (fun p e s m args below meth c C => ?_)
  refine g_ent (ls' := [(0, .int x0)]) rfl ?_
  unfold f_X7_isAge at h
  refine g_iload_n C 0 dX7_isAge_0 rfl ?_
  refine g_if_lt C 15 dX7_isAge_1 (by decide) (fun hc1 => ?_) (fun hc1 => ?_)
  · have h := ite_t hc1 h
    refine g_iconst C (0 : Int32) dX7_isAge_15 rfl ?_
    obtain rfl := Option.some.inj h
    exact g_zret C nz0 dX7_isAge_16
  · have h := ite_f hc1 h
    refine g_iload_n C 0 dX7_isAge_4 rfl ?_
    refine g_sipush C (2000 : Int32) dX7_isAge_5 rfl ?_
    refine g_icmp_gt C 15 dX7_isAge_8 (by decide) (fun hc2 => ?_) (fun hc2 => ?_)
    · have h := ite_t hc2 h
      refine g_iconst C (0 : Int32) dX7_isAge_15 rfl ?_
      obtain rfl := Option.some.inj h
      exact g_zret C nz0 dX7_isAge_16
    · have h := ite_f hc2 h
      refine g_iconst C (1 : Int32) dX7_isAge_11 rfl ?_
      refine g_goto C 16 dX7_isAge_12 (by decide) ?_
      obtain rfl := Option.some.inj h
      exact g_zret C nz1 dX7_isAge_16
def f_X7_curve (x1 : Int32) (x2 : Int32) (σ : St) : Option (Int32 × St) := (if x1 < 0 then some ((-2 : Int32), σ) else (if (40 : Int32) ≤ x1 then some ((-2 : Int32), σ) else (f_X7_isAge x2 σ).bind (fun q3 => (if q3.1 = 0 then some ((-2 : Int32), q3.2) else cI (ix x1 40) (ap (q3.2.1 2 x1.toNatClampNeg) fun z6 => cI (ix x1 40) (ap (up1 q3.2 2 x1.toNatClampNeg x2) fun σ8 => some (z6, σ8)))))))
set_option maxRecDepth 20000 in
theorem m_X7_curve {l : Launch} {D : va_G} {ca : Nat → ClassId} {ad : Nat → Nat} {x1 : Int32} {x2 : Int32} {σ : St} {R : Int32 × St} (h : f_X7_curve x1 x2 σ = some R) : gM l D ca ad 91 LC yX7_curve cX7_curve 4 (some .int) rm_X7_curve [.ref 0, .int x1, .int x2] σ (some (.int R.1)) R.2 := by
  refine gM_of (by decide) (Nat.le_of_ble_eq_true rfl) (fun p e s m args below meth c C => ?_)
  refine g_ent (ls' := [(0, .ref 0), (1, .int x1), (2, .int x2)]) rfl ?_
  unfold f_X7_curve at h
  refine g_iload_n C 1 dX7_curve_0 rfl ?_
  refine g_if_lt C 17 dX7_curve_1 (by decide) (fun hc1 => ?_) (fun hc1 => ?_)
  · have h := ite_t hc1 h
    refine g_bipush C (-2 : Int32) dX7_curve_17 rfl ?_
    obtain rfl := Option.some.inj h
    exact g_iret C dX7_curve_19
  · have h := ite_f hc1 h
    refine g_iload_n C 1 dX7_curve_4 rfl ?_
    refine g_bipush C (40 : Int32) dX7_curve_5 rfl ?_
    refine g_icmp_ge C 17 dX7_curve_7 (by decide) (fun hc2 => ?_) (fun hc2 => ?_)
    · have h := ite_t hc2 h
      refine g_bipush C (-2 : Int32) dX7_curve_17 rfl ?_
      obtain rfl := Option.some.inj h
      exact g_iret C dX7_curve_19
    · have h := ite_f hc2 h
      refine g_iload_n C 2 dX7_curve_10 rfl ?_
      obtain ⟨q3, hq3, h⟩ := bd h
      refine g_callSI C [.int x2] qs_X7_77 (m_X7_isAge hq3) rfl rfl ⟨rfl, rfl⟩ ⟨by decide, by decide⟩ (Nat.le_of_ble_eq_true rfl) dX7_curve_11 ?_
      refine g_if_ne C 20 dX7_curve_14 (by decide) (fun hc4 => ?_) (fun hc4 => ?_)
      · have h := ite_f hc4 h
        refine g_aload_n C 0 dX7_curve_20 rfl ?_
        refine g_getR C 0 1 rfl q_X7_10 rfl rfl dX7_curve_21 ?_
        refine g_getR C 1 2 rfl q_X7_81 rfl rfl dX7_curve_24 ?_
        refine g_iload_n C 1 dX7_curve_27 rfl ?_
        obtain ⟨hi5, h⟩ := cI_some h
        refine g_iald C 40 rfl ho_14 hi5 dX7_curve_28 ?_
        refine g_nmI (fun z6 ez6 => ?_)
        have h := ap_at ez6 h
        refine g_istore_n C [(3, .int z6), (0, .ref 0), (1, .int x1), (2, .int x2)] dX7_curve_29 (by decide) rfl ?_
        refine g_aload_n C 1 dX7_curve_30 rfl ?_
        refine g_getR C 0 1 rfl q_X7_10 rfl rfl dX7_curve_31 ?_
        refine g_getR C 1 2 rfl q_X7_81 rfl rfl dX7_curve_34 ?_
        refine g_iload_n C 2 dX7_curve_37 rfl ?_
        refine g_iload_n C 3 dX7_curve_38 rfl ?_
        obtain ⟨hi7, h⟩ := cI_some h
        refine g_iast C 40 rfl ho_14 hi7 dX7_curve_39 ?_
        refine g_nmS (fun σ8 eσ8 => ?_)
        have h := ap_at eσ8 h
        refine g_iload_n C 0 dX7_curve_40 rfl ?_
        obtain rfl := Option.some.inj h
        exact g_iret C dX7_curve_41
      · have h := ite_t hc4 h
        refine g_bipush C (-2 : Int32) dX7_curve_17 rfl ?_
        obtain rfl := Option.some.inj h
        exact g_iret C dX7_curve_19
def f_X7_isDigit (x0 : Int32) (σ : St) : Option (Int32 × St) := (if x0 < 0 then some ((0 : Int32), σ) else (if (9 : Int32) < x0 then some ((0 : Int32), σ) else some ((1 : Int32), σ)))
set_option maxRecDepth 20000 in
theorem m_X7_isDigit {l : Launch} {D : va_G} {ca : Nat → ClassId} {ad : Nat → Nat} {x0 : Int32} {σ : St} {R : Int32 × St} (h : f_X7_isDigit x0 σ = some R) : gM l D ca ad 91 LC yX7_isDigit cX7_isDigit 1 (some .boolean) rm_X7_isDigit [.int x0] σ (some (.int R.1)) R.2 := by
  refine gM_of (by decide) (Nat.le_of_ble_eq_true rfl) (fun p e s m args below meth c C => ?_)
  refine g_ent (ls' := [(0, .int x0)]) rfl ?_
  unfold f_X7_isDigit at h
  refine g_iload_n C 0 dX7_isDigit_0 rfl ?_
  refine g_if_lt C 14 dX7_isDigit_1 (by decide) (fun hc1 => ?_) (fun hc1 => ?_)
  · have h := ite_t hc1 h
    refine g_iconst C (0 : Int32) dX7_isDigit_14 rfl ?_
    obtain rfl := Option.some.inj h
    exact g_zret C nz0 dX7_isDigit_15
  · have h := ite_f hc1 h
    refine g_iload_n C 0 dX7_isDigit_4 rfl ?_
    refine g_bipush C (9 : Int32) dX7_isDigit_5 rfl ?_
    refine g_icmp_gt C 14 dX7_isDigit_7 (by decide) (fun hc2 => ?_) (fun hc2 => ?_)
    · have h := ite_t hc2 h
      refine g_iconst C (0 : Int32) dX7_isDigit_14 rfl ?_
      obtain rfl := Option.some.inj h
      exact g_zret C nz0 dX7_isDigit_15
    · have h := ite_f hc2 h
      refine g_iconst C (1 : Int32) dX7_isDigit_10 rfl ?_
      refine g_goto C 15 dX7_isDigit_11 (by decide) ?_
      obtain rfl := Option.some.inj h
      exact g_zret C nz1 dX7_isDigit_15
def f_X7_miss (x1 : Int32) (x2 : Int32) (σ : St) : Option (Int32 × St) := (if x1 < 0 then some ((-2 : Int32), σ) else (if (20 : Int32) < x1 then some ((-2 : Int32), σ) else (f_X7_isDigit x2 σ).bind (fun q3 => (if q3.1 = 0 then some ((-2 : Int32), q3.2) else cI (ix x1 21) (ap (q3.2.1 3 x1.toNatClampNeg) fun z6 => cI (ix x1 21) (ap (up1 q3.2 3 x1.toNatClampNeg x2) fun σ8 => some (z6, σ8)))))))
set_option maxRecDepth 20000 in
theorem m_X7_miss {l : Launch} {D : va_G} {ca : Nat → ClassId} {ad : Nat → Nat} {x1 : Int32} {x2 : Int32} {σ : St} {R : Int32 × St} (h : f_X7_miss x1 x2 σ = some R) : gM l D ca ad 91 LC yX7_miss cX7_miss 4 (some .int) rm_X7_miss [.ref 0, .int x1, .int x2] σ (some (.int R.1)) R.2 := by
  refine gM_of (by decide) (Nat.le_of_ble_eq_true rfl) (fun p e s m args below meth c C => ?_)
  refine g_ent (ls' := [(0, .ref 0), (1, .int x1), (2, .int x2)]) rfl ?_
  unfold f_X7_miss at h
  refine g_iload_n C 1 dX7_miss_0 rfl ?_
  refine g_if_lt C 17 dX7_miss_1 (by decide) (fun hc1 => ?_) (fun hc1 => ?_)
  · have h := ite_t hc1 h
    refine g_bipush C (-2 : Int32) dX7_miss_17 rfl ?_
    obtain rfl := Option.some.inj h
    exact g_iret C dX7_miss_19
  · have h := ite_f hc1 h
    refine g_iload_n C 1 dX7_miss_4 rfl ?_
    refine g_bipush C (20 : Int32) dX7_miss_5 rfl ?_
    refine g_icmp_gt C 17 dX7_miss_7 (by decide) (fun hc2 => ?_) (fun hc2 => ?_)
    · have h := ite_t hc2 h
      refine g_bipush C (-2 : Int32) dX7_miss_17 rfl ?_
      obtain rfl := Option.some.inj h
      exact g_iret C dX7_miss_19
    · have h := ite_f hc2 h
      refine g_iload_n C 2 dX7_miss_10 rfl ?_
      obtain ⟨q3, hq3, h⟩ := bd h
      refine g_callSI C [.int x2] qs_X7_84 (m_X7_isDigit hq3) rfl rfl ⟨rfl, rfl⟩ ⟨by decide, by decide⟩ (Nat.le_of_ble_eq_true rfl) dX7_miss_11 ?_
      refine g_if_ne C 20 dX7_miss_14 (by decide) (fun hc4 => ?_) (fun hc4 => ?_)
      · have h := ite_f hc4 h
        refine g_aload_n C 0 dX7_miss_20 rfl ?_
        refine g_getR C 0 1 rfl q_X7_10 rfl rfl dX7_miss_21 ?_
        refine g_getR C 2 3 rfl q_X7_87 rfl rfl dX7_miss_24 ?_
        refine g_iload_n C 1 dX7_miss_27 rfl ?_
        obtain ⟨hi5, h⟩ := cI_some h
        refine g_iald C 21 rfl ho_13 hi5 dX7_miss_28 ?_
        refine g_nmI (fun z6 ez6 => ?_)
        have h := ap_at ez6 h
        refine g_istore_n C [(3, .int z6), (0, .ref 0), (1, .int x1), (2, .int x2)] dX7_miss_29 (by decide) rfl ?_
        refine g_aload_n C 1 dX7_miss_30 rfl ?_
        refine g_getR C 0 1 rfl q_X7_10 rfl rfl dX7_miss_31 ?_
        refine g_getR C 2 3 rfl q_X7_87 rfl rfl dX7_miss_34 ?_
        refine g_iload_n C 2 dX7_miss_37 rfl ?_
        refine g_iload_n C 3 dX7_miss_38 rfl ?_
        obtain ⟨hi7, h⟩ := cI_some h
        refine g_iast C 21 rfl ho_13 hi7 dX7_miss_39 ?_
        refine g_nmS (fun σ8 eσ8 => ?_)
        have h := ap_at eσ8 h
        refine g_iload_n C 0 dX7_miss_40 rfl ?_
        obtain rfl := Option.some.inj h
        exact g_iret C dX7_miss_41
      · have h := ite_t hc4 h
        refine g_bipush C (-2 : Int32) dX7_miss_17 rfl ?_
        obtain rfl := Option.some.inj h
        exact g_iret C dX7_miss_19
def f_X7_hostFinding (x1 : Int32) (σ : St) : Option (Int32 × St) := ap (up1 σ 0 12 ((σ.1 0 12) + (1 : Int32))) fun σ1 => some (x1, σ1)
set_option maxRecDepth 20000 in
theorem m_X7_hostFinding {l : Launch} {D : va_G} {ca : Nat → ClassId} {ad : Nat → Nat} {x1 : Int32} {σ : St} {R : Int32 × St} (h : f_X7_hostFinding x1 σ = some R) : gM l D ca ad 91 LC yX7_hostFinding cX7_hostFinding 2 (some .int) rm_X7_hostFinding [.ref 0, .int x1] σ (some (.int R.1)) R.2 := by
  refine gM_of (by decide) (Nat.le_of_ble_eq_true rfl) (fun p e s m args below meth c C => ?_)
  refine g_ent (ls' := [(0, .ref 0), (1, .int x1)]) rfl ?_
  unfold f_X7_hostFinding at h
  refine g_aload_n C 0 dX7_hostFinding_0 rfl ?_
  refine g_dup C rfl dX7_hostFinding_1 ?_
  refine g_getI C 12 rfl q_X7_70 rfl dX7_hostFinding_2 ?_
  refine g_iconst C (1 : Int32) dX7_hostFinding_5 rfl ?_
  refine g_iadd C dX7_hostFinding_6 ?_
  refine g_putI C 12 rfl qp_X7_70 rfl dX7_hostFinding_7 ?_
  refine g_nmS (fun σ1 eσ1 => ?_)
  have h := ap_at eσ1 h
  refine g_iload_n C 1 dX7_hostFinding_10 rfl ?_
  obtain rfl := Option.some.inj h
  exact g_iret C dX7_hostFinding_11
def f_X7_isSheet (x0 : Int32) (σ : St) : Option (Int32 × St) := (if x0 < 0 then some ((0 : Int32), σ) else (if (4 : Int32) ≤ x0 then some ((0 : Int32), σ) else some ((1 : Int32), σ)))
set_option maxRecDepth 20000 in
theorem m_X7_isSheet {l : Launch} {D : va_G} {ca : Nat → ClassId} {ad : Nat → Nat} {x0 : Int32} {σ : St} {R : Int32 × St} (h : f_X7_isSheet x0 σ = some R) : gM l D ca ad 91 LC yX7_isSheet cX7_isSheet 1 (some .boolean) rm_X7_isSheet [.int x0] σ (some (.int R.1)) R.2 := by
  refine gM_of (by decide) (Nat.le_of_ble_eq_true rfl) (fun p e s m args below meth c C => ?_)
  refine g_ent (ls' := [(0, .int x0)]) rfl ?_
  unfold f_X7_isSheet at h
  refine g_iload_n C 0 dX7_isSheet_0 rfl ?_
  refine g_if_lt C 13 dX7_isSheet_1 (by decide) (fun hc1 => ?_) (fun hc1 => ?_)
  · have h := ite_t hc1 h
    refine g_iconst C (0 : Int32) dX7_isSheet_13 rfl ?_
    obtain rfl := Option.some.inj h
    exact g_zret C nz0 dX7_isSheet_14
  · have h := ite_f hc1 h
    refine g_iload_n C 0 dX7_isSheet_4 rfl ?_
    refine g_iconst C (4 : Int32) dX7_isSheet_5 rfl ?_
    refine g_icmp_ge C 13 dX7_isSheet_6 (by decide) (fun hc2 => ?_) (fun hc2 => ?_)
    · have h := ite_t hc2 h
      refine g_iconst C (0 : Int32) dX7_isSheet_13 rfl ?_
      obtain rfl := Option.some.inj h
      exact g_zret C nz0 dX7_isSheet_14
    · have h := ite_f hc2 h
      refine g_iconst C (1 : Int32) dX7_isSheet_9 rfl ?_
      refine g_goto C 14 dX7_isSheet_10 (by decide) ?_
      obtain rfl := Option.some.inj h
      exact g_zret C nz1 dX7_isSheet_14
def f_X7_isSort (x0 : Int32) (σ : St) : Option (Int32 × St) := (if x0 < 0 then some ((0 : Int32), σ) else (if (3 : Int32) < x0 then some ((0 : Int32), σ) else some ((1 : Int32), σ)))
set_option maxRecDepth 20000 in
theorem m_X7_isSort {l : Launch} {D : va_G} {ca : Nat → ClassId} {ad : Nat → Nat} {x0 : Int32} {σ : St} {R : Int32 × St} (h : f_X7_isSort x0 σ = some R) : gM l D ca ad 91 LC yX7_isSort cX7_isSort 1 (some .boolean) rm_X7_isSort [.int x0] σ (some (.int R.1)) R.2 := by
  refine gM_of (by decide) (Nat.le_of_ble_eq_true rfl) (fun p e s m args below meth c C => ?_)
  refine g_ent (ls' := [(0, .int x0)]) rfl ?_
  unfold f_X7_isSort at h
  refine g_iload_n C 0 dX7_isSort_0 rfl ?_
  refine g_if_lt C 13 dX7_isSort_1 (by decide) (fun hc1 => ?_) (fun hc1 => ?_)
  · have h := ite_t hc1 h
    refine g_iconst C (0 : Int32) dX7_isSort_13 rfl ?_
    obtain rfl := Option.some.inj h
    exact g_zret C nz0 dX7_isSort_14
  · have h := ite_f hc1 h
    refine g_iload_n C 0 dX7_isSort_4 rfl ?_
    refine g_iconst C (3 : Int32) dX7_isSort_5 rfl ?_
    refine g_icmp_gt C 13 dX7_isSort_6 (by decide) (fun hc2 => ?_) (fun hc2 => ?_)
    · have h := ite_t hc2 h
      refine g_iconst C (0 : Int32) dX7_isSort_13 rfl ?_
      obtain rfl := Option.some.inj h
      exact g_zret C nz0 dX7_isSort_14
    · have h := ite_f hc2 h
      refine g_iconst C (1 : Int32) dX7_isSort_9 rfl ?_
      refine g_goto C 14 dX7_isSort_10 (by decide) ?_
      obtain rfl := Option.some.inj h
      exact g_zret C nz1 dX7_isSort_14
def f_X7_sheet (x1 : Int32) (x2 : Int32) (x3 : Int32) (σ : St) : Option (Int32 × St) := (f_X7_isSheet x1 σ).bind (fun q1 => (if q1.1 = 0 then some ((-2 : Int32), q1.2) else (f_X7_isSort x2 q1.2).bind (fun q3 => (if q3.1 = 0 then some ((-2 : Int32), q3.2) else (if x3 ≤ (60 : Int32) then (if 0 ≤ x3 then cI (ix x1 4) ((f_X3_become (57 + 26 + 2 * x1.toNatClampNeg) x2 x3 q3.2).bind (fun q8 => some (x3, q8))) else (f_X7_hostFinding (-13 : Int32) q3.2).bind (fun q9 => some (q9.1, q9.2))) else some ((-2 : Int32), q3.2))))))
set_option maxRecDepth 20000 in
theorem m_X7_sheet {l : Launch} {D : va_G} {ca : Nat → ClassId} {ad : Nat → Nat} {x1 : Int32} {x2 : Int32} {x3 : Int32} {σ : St} {R : Int32 × St} (h : f_X7_sheet x1 x2 x3 σ = some R) : gM l D ca ad 91 LC yX7_sheet cX7_sheet 4 (some .int) rm_X7_sheet [.ref 0, .int x1, .int x2, .int x3] σ (some (.int R.1)) R.2 := by
  refine gM_of (by decide) (Nat.le_of_ble_eq_true rfl) (fun p e s m args below meth c C => ?_)
  refine g_ent (ls' := [(0, .ref 0), (1, .int x1), (2, .int x2), (3, .int x3)]) rfl ?_
  unfold f_X7_sheet at h
  refine g_iload_n C 1 dX7_sheet_0 rfl ?_
  obtain ⟨q1, hq1, h⟩ := bd h
  refine g_callSI C [.int x1] qs_X7_90 (m_X7_isSheet hq1) rfl rfl ⟨rfl, rfl⟩ ⟨by decide, by decide⟩ (Nat.le_of_ble_eq_true rfl) dX7_sheet_1 ?_
  refine g_if_eq C 20 dX7_sheet_4 (by decide) (fun hc2 => ?_) (fun hc2 => ?_)
  · have h := ite_t hc2 h
    refine g_bipush C (-2 : Int32) dX7_sheet_20 rfl ?_
    obtain rfl := Option.some.inj h
    exact g_iret C dX7_sheet_22
  · have h := ite_f hc2 h
    refine g_iload_n C 2 dX7_sheet_7 rfl ?_
    obtain ⟨q3, hq3, h⟩ := bd h
    refine g_callSI C [.int x2] qs_X7_93 (m_X7_isSort hq3) rfl rfl ⟨rfl, rfl⟩ ⟨by decide, by decide⟩ (Nat.le_of_ble_eq_true rfl) dX7_sheet_8 ?_
    refine g_if_eq C 20 dX7_sheet_11 (by decide) (fun hc4 => ?_) (fun hc4 => ?_)
    · have h := ite_t hc4 h
      refine g_bipush C (-2 : Int32) dX7_sheet_20 rfl ?_
      obtain rfl := Option.some.inj h
      exact g_iret C dX7_sheet_22
    · have h := ite_f hc4 h
      refine g_iload_n C 3 dX7_sheet_14 rfl ?_
      refine g_bipush C (60 : Int32) dX7_sheet_15 rfl ?_
      refine g_icmp_le C 23 dX7_sheet_17 (by decide) (fun hc5 => ?_) (fun hc5 => ?_)
      · have h := ite_t hc5 h
        refine g_iload_n C 3 dX7_sheet_23 rfl ?_
        refine g_if_ge C 34 dX7_sheet_24 (by decide) (fun hc6 => ?_) (fun hc6 => ?_)
        · have h := ite_t hc6 h
          refine g_aload_n C 0 dX7_sheet_34 rfl ?_
          refine g_getR C 3 57 rfl q_X7_25 rfl rfl dX7_sheet_35 ?_
          refine g_iload_n C 1 dX7_sheet_38 rfl ?_
          obtain ⟨hi7, h⟩ := cI_some h
          refine g_aald4 C rfl ho_23 hi7 dX7_sheet_39 ?_
          refine g_iload_n C 2 dX7_sheet_40 rfl ?_
          refine g_iload_n C 3 dX7_sheet_41 rfl ?_
          obtain ⟨q8, hq8, h⟩ := bd h
          refine g_callVV C [.int x2, .int x3] qv_X7_100 (m_X3_become (sc_s rfl (ix_lt hi7)) hq8) (sc_s rfl (ix_lt hi7)) (by decide) rfl rfl rfl ⟨rfl, rfl⟩ ⟨by decide, by decide⟩ (Nat.le_of_ble_eq_true rfl) dX7_sheet_42 ?_
          refine g_iload_n C 3 dX7_sheet_45 rfl ?_
          obtain rfl := Option.some.inj h
          exact g_iret C dX7_sheet_46
        · have h := ite_f hc6 h
          refine g_aload_n C 0 dX7_sheet_27 rfl ?_
          refine g_bipush C (-13 : Int32) dX7_sheet_28 rfl ?_
          obtain ⟨q9, hq9, h⟩ := bd h
          refine g_callVI C [.int (-13 : Int32)] qv_X7_96 (m_X7_hostFinding hq9) rfl (by decide) rfl rfl rfl ⟨rfl, rfl⟩ ⟨by decide, by decide⟩ (Nat.le_of_ble_eq_true rfl) dX7_sheet_30 ?_
          obtain rfl := Option.some.inj h
          exact g_iret C dX7_sheet_33
      · have h := ite_f hc5 h
        refine g_bipush C (-2 : Int32) dX7_sheet_20 rfl ?_
        obtain rfl := Option.some.inj h
        exact g_iret C dX7_sheet_22
def f_X7_write (x1 : Int32) (x2 : Int32) (x3 : Int32) (σ : St) : Option (Int32 × St) := (f_X7_isSheet x1 σ).bind (fun q1 => (if q1.1 = 0 then some ((-2 : Int32), q1.2) else cI (ix x1 4) ((if (q1.2.1 (57 + 26 + 2 * x1.toNatClampNeg) 0) = 0 then (f_X7_hostFinding (-10 : Int32) q1.2).bind (fun q13 => some (q13.1, q13.2)) else (f_X3_hasFrom (57 + 26 + 2 * x1.toNatClampNeg) x2 (1 : Int32) q1.2).bind (fun q5 => (if q5.1 = 0 then (f_X7_hostFinding (-11 : Int32) q5.2).bind (fun q12 => some (q12.1, q12.2)) else cI (ix x2 60) (ap (q5.2.1 ((57 + 26 + 2 * x1.toNatClampNeg) + 1) x2.toNatClampNeg) fun z8 => (f_X3_narrowed (57 + 26 + 2 * x1.toNatClampNeg) x3 q5.2).bind (fun q9 => cI (ix x2 60) (ap (up1 q9.2 ((57 + 26 + 2 * x1.toNatClampNeg) + 1) x2.toNatClampNeg q9.1) fun σ11 => some (z8, σ11))))))))))
set_option maxRecDepth 20000 in
theorem m_X7_write {l : Launch} {D : va_G} {ca : Nat → ClassId} {ad : Nat → Nat} {x1 : Int32} {x2 : Int32} {x3 : Int32} {σ : St} {R : Int32 × St} (h : f_X7_write x1 x2 x3 σ = some R) : gM l D ca ad 91 LC yX7_write cX7_write 6 (some .int) rm_X7_write [.ref 0, .int x1, .int x2, .int x3] σ (some (.int R.1)) R.2 := by
  refine gM_of (by decide) (Nat.le_of_ble_eq_true rfl) (fun p e s m args below meth c C => ?_)
  refine g_ent (ls' := [(0, .ref 0), (1, .int x1), (2, .int x2), (3, .int x3)]) rfl ?_
  unfold f_X7_write at h
  refine g_iload_n C 1 dX7_write_0 rfl ?_
  obtain ⟨q1, hq1, h⟩ := bd h
  refine g_callSI C [.int x1] qs_X7_90 (m_X7_isSheet hq1) rfl rfl ⟨rfl, rfl⟩ ⟨by decide, by decide⟩ (Nat.le_of_ble_eq_true rfl) dX7_write_1 ?_
  refine g_if_ne C 10 dX7_write_4 (by decide) (fun hc2 => ?_) (fun hc2 => ?_)
  · have h := ite_f hc2 h
    refine g_aload_n C 0 dX7_write_10 rfl ?_
    refine g_getR C 3 57 rfl q_X7_25 rfl rfl dX7_write_11 ?_
    refine g_iload_n C 1 dX7_write_14 rfl ?_
    obtain ⟨hi3, h⟩ := cI_some h
    refine g_aald4 C rfl ho_23 hi3 dX7_write_15 ?_
    refine g_astore C [(4, .ref (57 + 26 + 2 * x1.toNatClampNeg)), (0, .ref 0), (1, .int x1), (2, .int x2), (3, .int x3)] dX7_write_16 (by decide) rfl ?_
    refine g_aload C 0 dX7_write_18 rfl ?_
    refine g_getI C 0 (sc_s rfl (ix_lt hi3)) q_X7_104 rfl dX7_write_20 ?_
    refine g_if_ne C 33 dX7_write_23 (by decide) (fun hc4 => ?_) (fun hc4 => ?_)
    · have h := ite_f hc4 h
      refine g_aload C 0 dX7_write_33 rfl ?_
      refine g_iload_n C 3 dX7_write_35 rfl ?_
      refine g_iconst C (1 : Int32) dX7_write_36 rfl ?_
      obtain ⟨q5, hq5, h⟩ := bd h
      refine g_callVI C [.int x2, .int (1 : Int32)] qv_X7_107 (m_X3_hasFrom (sc_s rfl (ix_lt hi3)) hq5) (sc_s rfl (ix_lt hi3)) (by decide) rfl rfl rfl ⟨rfl, rfl⟩ ⟨by decide, by decide⟩ (Nat.le_of_ble_eq_true rfl) dX7_write_37 ?_
      refine g_if_ne C 50 dX7_write_40 (by decide) (fun hc6 => ?_) (fun hc6 => ?_)
      · have h := ite_f hc6 h
        refine g_aload C 0 dX7_write_50 rfl ?_
        refine g_getR C 3 ((57 + 26 + 2 * x1.toNatClampNeg) + 1) (sc_s rfl (ix_lt hi3)) q_X7_111 rfl rfl dX7_write_52 ?_
        refine g_iload_n C 3 dX7_write_55 rfl ?_
        obtain ⟨hi7, h⟩ := cI_some h
        refine g_iald C 60 (sc_3_3 (sc_s rfl (ix_lt hi3))) ho_15 hi7 dX7_write_56 ?_
        refine g_nmI (fun z8 ez8 => ?_)
        have h := ap_at ez8 h
        refine g_istore C [(5, .int z8), (4, .ref (57 + 26 + 2 * x1.toNatClampNeg)), (0, .ref 0), (1, .int x1), (2, .int x2), (3, .int x3)] dX7_write_57 (by decide) rfl ?_
        refine g_aload C 1 dX7_write_59 rfl ?_
        refine g_getR C 3 ((57 + 26 + 2 * x1.toNatClampNeg) + 1) (sc_s rfl (ix_lt hi3)) q_X7_111 rfl rfl dX7_write_61 ?_
        refine g_iload_n C 4 dX7_write_64 rfl ?_
        refine g_aload C 1 dX7_write_65 rfl ?_
        refine g_iload_n C 5 dX7_write_67 rfl ?_
        obtain ⟨q9, hq9, h⟩ := bd h
        refine g_callVI C [.int x3] qv_X7_114 (m_X3_narrowed (sc_s rfl (ix_lt hi3)) hq9) (sc_s rfl (ix_lt hi3)) (by decide) rfl rfl rfl ⟨rfl, rfl⟩ ⟨by decide, by decide⟩ (Nat.le_of_ble_eq_true rfl) dX7_write_68 ?_
        obtain ⟨hi10, h⟩ := cI_some h
        refine g_iast C 60 (sc_3_3 (sc_s rfl (ix_lt hi3))) ho_15 hi10 dX7_write_71 ?_
        refine g_nmS (fun σ11 eσ11 => ?_)
        have h := ap_at eσ11 h
        refine g_iload C 0 dX7_write_72 rfl ?_
        obtain rfl := Option.some.inj h
        exact g_iret C dX7_write_74
      · have h := ite_t hc6 h
        refine g_aload_n C 1 dX7_write_43 rfl ?_
        refine g_bipush C (-11 : Int32) dX7_write_44 rfl ?_
        obtain ⟨q12, hq12, h⟩ := bd h
        refine g_callVI C [.int (-11 : Int32)] qv_X7_96 (m_X7_hostFinding hq12) rfl (by decide) rfl rfl rfl ⟨rfl, rfl⟩ ⟨by decide, by decide⟩ (Nat.le_of_ble_eq_true rfl) dX7_write_46 ?_
        obtain rfl := Option.some.inj h
        exact g_iret C dX7_write_49
    · have h := ite_t hc4 h
      refine g_aload_n C 1 dX7_write_26 rfl ?_
      refine g_bipush C (-10 : Int32) dX7_write_27 rfl ?_
      obtain ⟨q13, hq13, h⟩ := bd h
      refine g_callVI C [.int (-10 : Int32)] qv_X7_96 (m_X7_hostFinding hq13) rfl (by decide) rfl rfl rfl ⟨rfl, rfl⟩ ⟨by decide, by decide⟩ (Nat.le_of_ble_eq_true rfl) dX7_write_29 ?_
      obtain rfl := Option.some.inj h
      exact g_iret C dX7_write_32
  · have h := ite_t hc2 h
    refine g_bipush C (-2 : Int32) dX7_write_7 rfl ?_
    obtain rfl := Option.some.inj h
    exact g_iret C dX7_write_9
def f_X7_lose_27 (x1 : Int32) (xs0 : Int32) (σ : St) : Option (Int32 × St) := cI (ix x1 4) (ap (up1 σ (57 + 26 + 2 * x1.toNatClampNeg) 0 (0 : Int32)) fun σ2 => some (xs0, σ2))
set_option maxRecDepth 20000 in
theorem s_X7_lose_27 {R : Int32 × St} (C : gC p s m args meth c D ca ad 91 LC RX7 cX7_lose 3 (some .int)) (x1 : Int32) (xs0 : Int32) (σ : St) (h : f_X7_lose_27 x1 xs0 σ = some R) : G p l e rm_X7_lose s m args below meth c D ca ad 91 LC 3 (gEnd below args s D ca ad 91 LC (some (.int R.1)) R.2) 27 [(0, .ref 0), (1, .int x1)] [.int xs0] σ := by
  unfold f_X7_lose_27 at h
  refine g_istore_n C [(2, .int xs0), (0, .ref 0), (1, .int x1)] dX7_lose_27 (by decide) rfl ?_
  refine g_aload_n C 1 dX7_lose_28 rfl ?_
  refine g_getR C 3 57 rfl q_X7_25 rfl rfl dX7_lose_29 ?_
  refine g_iload_n C 2 dX7_lose_32 rfl ?_
  obtain ⟨hi1, h⟩ := cI_some h
  refine g_aald4 C rfl ho_23 hi1 dX7_lose_33 ?_
  refine g_iconst C (0 : Int32) dX7_lose_34 rfl ?_
  refine g_putZ C 0 (sc_s rfl (ix_lt hi1)) qp_X7_104 rfl rfl rfl dX7_lose_35 ?_
  refine g_nmS (fun σ2 eσ2 => ?_)
  have h := ap_at eσ2 h
  refine g_iload_n C 0 dX7_lose_38 rfl ?_
  obtain rfl := Option.some.inj h
  exact g_iret C dX7_lose_39
def f_X7_lose (x1 : Int32) (σ : St) : Option (Int32 × St) := (f_X7_isSheet x1 σ).bind (fun q1 => (if q1.1 = 0 then some ((-2 : Int32), q1.2) else cI (ix x1 4) ((if (q1.2.1 (57 + 26 + 2 * x1.toNatClampNeg) 0) = 0 then (f_X7_lose_27) x1 (0 : Int32) q1.2 else (f_X7_lose_27) x1 (1 : Int32) q1.2))))
set_option maxRecDepth 20000 in
theorem m_X7_lose {l : Launch} {D : va_G} {ca : Nat → ClassId} {ad : Nat → Nat} {x1 : Int32} {σ : St} {R : Int32 × St} (h : f_X7_lose x1 σ = some R) : gM l D ca ad 91 LC yX7_lose cX7_lose 3 (some .int) rm_X7_lose [.ref 0, .int x1] σ (some (.int R.1)) R.2 := by
  refine gM_of (by decide) (Nat.le_of_ble_eq_true rfl) (fun p e s m args below meth c C => ?_)
  refine g_ent (ls' := [(0, .ref 0), (1, .int x1)]) rfl ?_
  unfold f_X7_lose at h
  refine g_iload_n C 1 dX7_lose_0 rfl ?_
  obtain ⟨q1, hq1, h⟩ := bd h
  refine g_callSI C [.int x1] qs_X7_90 (m_X7_isSheet hq1) rfl rfl ⟨rfl, rfl⟩ ⟨by decide, by decide⟩ (Nat.le_of_ble_eq_true rfl) dX7_lose_1 ?_
  refine g_if_ne C 10 dX7_lose_4 (by decide) (fun hc2 => ?_) (fun hc2 => ?_)
  · have h := ite_f hc2 h
    refine g_aload_n C 0 dX7_lose_10 rfl ?_
    refine g_getR C 3 57 rfl q_X7_25 rfl rfl dX7_lose_11 ?_
    refine g_iload_n C 1 dX7_lose_14 rfl ?_
    obtain ⟨hi3, h⟩ := cI_some h
    refine g_aald4 C rfl ho_23 hi3 dX7_lose_15 ?_
    refine g_getI C 0 (sc_s rfl (ix_lt hi3)) q_X7_104 rfl dX7_lose_16 ?_
    refine g_if_eq C 26 dX7_lose_19 (by decide) (fun hc4 => ?_) (fun hc4 => ?_)
    · have h := ite_t hc4 h
      refine g_iconst C (0 : Int32) dX7_lose_26 rfl ?_
      exact g_sub [0, 1] rfl ((s_X7_lose_27 C) x1 (0 : Int32) q1.2 h)
    · have h := ite_f hc4 h
      refine g_iconst C (1 : Int32) dX7_lose_22 rfl ?_
      refine g_goto C 27 dX7_lose_23 (by decide) ?_
      exact g_sub [0, 1] rfl ((s_X7_lose_27 C) x1 (1 : Int32) q1.2 h)
  · have h := ite_t hc2 h
    refine g_bipush C (-2 : Int32) dX7_lose_7 rfl ?_
    obtain rfl := Option.some.inj h
    exact g_iret C dX7_lose_9
def f_X7_lay_145 (kk115 : Int32 → Int32 → Int32 → Nat → Int32 → Int32 → St → Option (Int32 × St)) (x3 : Int32) (x4 : Int32) (x5 : Int32) (k6 : Nat) (x7 : Int32) (x8 : Int32) (x9 : Int32) (σ : St) : Option (Int32 × St) := cI (ix (x4 + x8) 40) (ap (up1 σ 2 (x4 + x8).toNatClampNeg (imax (0 : Int32) (imin (2000 : Int32) x9))) fun σ2 => kk115 x3 x4 x5 k6 x7 (x8 + (1 : Int32)) σ2)
set_option maxRecDepth 20000 in
theorem s_X7_lay_145 {R : Int32 × St} (C : gC p s m args meth c D ca ad 91 LC RX7 cX7_lay 10 (some .int)) {kk115 : Int32 → Int32 → Int32 → Nat → Int32 → Int32 → St → Option (Int32 × St)} (HK115 : ∀ (x3 : Int32) (x4 : Int32) (x5 : Int32) (k6 : Nat) (hk6 : LC k6 = 3) (x7 : Int32) (x8 : Int32) (σ : St), kk115 x3 x4 x5 k6 x7 x8 σ = some R → G p l e rm_X7_lay s m args below meth c D ca ad 91 LC 10 (gEnd below args s D ca ad 91 LC (some (.int R.1)) R.2) 115 [(0, .ref 0), (3, .int x3), (4, .int x4), (5, .int x5), (6, .ref k6), (7, .int x7), (8, .int x8)] [] σ) (x3 : Int32) (x4 : Int32) (x5 : Int32) (k6 : Nat) (hk6 : LC k6 = 3) (x7 : Int32) (x8 : Int32) (x9 : Int32) (σ : St) (h : f_X7_lay_145 kk115 x3 x4 x5 k6 x7 x8 x9 σ = some R) : G p l e rm_X7_lay s m args below meth c D ca ad 91 LC 10 (gEnd below args s D ca ad 91 LC (some (.int R.1)) R.2) 145 [(0, .ref 0), (3, .int x3), (4, .int x4), (5, .int x5), (6, .ref k6), (7, .int x7), (8, .int x8), (9, .int x9)] [] σ := by
  unfold f_X7_lay_145 at h
  refine g_aload_n C 0 dX7_lay_145 rfl ?_
  refine g_getR C 0 1 rfl q_X7_10 rfl rfl dX7_lay_146 ?_
  refine g_getR C 1 2 rfl q_X7_81 rfl rfl dX7_lay_149 ?_
  refine g_iload C 2 dX7_lay_152 rfl ?_
  refine g_iload C 6 dX7_lay_154 rfl ?_
  refine g_iadd C dX7_lay_156 ?_
  refine g_iconst C (0 : Int32) dX7_lay_157 rfl ?_
  refine g_sipush C (2000 : Int32) dX7_lay_158 rfl ?_
  refine g_iload C 7 dX7_lay_161 rfl ?_
  refine g_min C qx_X7_120 (by decide) (Nat.le_of_ble_eq_true rfl) (Nat.zero_le _) (Nat.zero_le _) dX7_lay_163 ?_
  refine g_max C qx_X7_126 (by decide) (Nat.le_of_ble_eq_true rfl) (Nat.zero_le _) (Nat.zero_le _) dX7_lay_166 ?_
  obtain ⟨hi1, h⟩ := cI_some h
  refine g_iast C 40 rfl ho_14 hi1 dX7_lay_169 ?_
  refine g_nmS (fun σ2 eσ2 => ?_)
  have h := ap_at eσ2 h
  refine g_iinc C 6 [(8, .int (x8 + (1 : Int32))), (0, .ref 0), (3, .int x3), (4, .int x4), (5, .int x5), (6, .ref k6), (7, .int x7), (9, .int x9)] dX7_lay_170 rfl rfl (by decide) rfl ?_
  refine g_goto C 115 dX7_lay_173 (by decide) ?_
  exact g_sub [1, 2, 3, 4, 5, 6, 0] rfl (HK115 x3 x4 x5 k6 hk6 x7 (x8 + (1 : Int32)) σ2 h)
def f_X7_lay_115 : Nat → Int32 → Int32 → Int32 → Nat → Int32 → Int32 → St → Option (Int32 × St)
  | 0, _, _, _, _, _, _, _ => none
  | n + 1, x3, x4, x5, k6, x7, x8, σ => (if x5 ≤ x8 then some (x7, σ) else cI (ix (x3 + x8) 60) (ap (σ.1 (k6 + 1) (x3 + x8).toNatClampNeg) fun z3 => (f_X7_isAge z3 σ).bind (fun q4 => (if q4.1 = 0 then (f_X7_lay_145 (f_X7_lay_115 n)) x3 x4 x5 k6 (x7 + (1 : Int32)) x8 z3 q4.2 else (f_X7_lay_145 (f_X7_lay_115 n)) x3 x4 x5 k6 x7 x8 z3 q4.2))))
set_option maxRecDepth 20000 in
theorem s_X7_lay_115 {R : Int32 × St} (C : gC p s m args meth c D ca ad 91 LC RX7 cX7_lay 10 (some .int)) : ∀ (n : Nat) (x3 : Int32) (x4 : Int32) (x5 : Int32) (k6 : Nat) (hk6 : LC k6 = 3) (x7 : Int32) (x8 : Int32) (σ : St), f_X7_lay_115 n x3 x4 x5 k6 x7 x8 σ = some R → G p l e rm_X7_lay s m args below meth c D ca ad 91 LC 10 (gEnd below args s D ca ad 91 LC (some (.int R.1)) R.2) 115 [(0, .ref 0), (3, .int x3), (4, .int x4), (5, .int x5), (6, .ref k6), (7, .int x7), (8, .int x8)] [] σ := by
  intro n
  induction n with
  | zero =>
    intro x3 x4 x5 k6 hk6 x7 x8 σ h
    have h : none = some R := h
    cases h
  | succ n ih =>
    intro x3 x4 x5 k6 hk6 x7 x8 σ h
    rw [f_X7_lay_115] at h
    refine g_iload C 6 dX7_lay_115 rfl ?_
    refine g_iload C 3 dX7_lay_117 rfl ?_
    refine g_icmp_ge C 176 dX7_lay_119 (by decide) (fun hc1 => ?_) (fun hc1 => ?_)
    · have h := ite_t hc1 h
      refine g_iload C 5 dX7_lay_176 rfl ?_
      obtain rfl := Option.some.inj h
      exact g_iret C dX7_lay_178
    · have h := ite_f hc1 h
      refine g_aload C 4 dX7_lay_122 rfl ?_
      refine g_getR C 3 (k6 + 1) hk6 q_X7_111 rfl rfl dX7_lay_124 ?_
      refine g_iload_n C 1 dX7_lay_127 rfl ?_
      refine g_iload C 6 dX7_lay_128 rfl ?_
      refine g_iadd C dX7_lay_130 ?_
      obtain ⟨hi2, h⟩ := cI_some h
      refine g_iald C 60 (sc_3_3 hk6) ho_15 hi2 dX7_lay_131 ?_
      refine g_nmI (fun z3 ez3 => ?_)
      have h := ap_at ez3 h
      refine g_istore C [(9, .int z3), (0, .ref 0), (3, .int x3), (4, .int x4), (5, .int x5), (6, .ref k6), (7, .int x7), (8, .int x8)] dX7_lay_132 (by decide) rfl ?_
      refine g_iload C 0 dX7_lay_134 rfl ?_
      obtain ⟨q4, hq4, h⟩ := bd h
      refine g_callSI C [.int z3] qs_X7_77 (m_X7_isAge hq4) rfl rfl ⟨rfl, rfl⟩ ⟨by decide, by decide⟩ (Nat.le_of_ble_eq_true rfl) dX7_lay_136 ?_
      refine g_if_ne C 145 dX7_lay_139 (by decide) (fun hc5 => ?_) (fun hc5 => ?_)
      · have h := ite_f hc5 h
        exact g_sub [1, 2, 3, 4, 5, 6, 7, 0] rfl ((s_X7_lay_145 C ih) x3 x4 x5 k6 hk6 x7 x8 z3 q4.2 h)
      · have h := ite_t hc5 h
        refine g_iinc C 6 [(7, .int (x7 + (1 : Int32))), (9, .int z3), (0, .ref 0), (3, .int x3), (4, .int x4), (5, .int x5), (6, .ref k6), (8, .int x8)] dX7_lay_142 rfl rfl (by decide) rfl ?_
        exact g_sub [2, 3, 4, 5, 6, 0, 7, 1] rfl ((s_X7_lay_145 C ih) x3 x4 x5 k6 hk6 (x7 + (1 : Int32)) x8 z3 q4.2 h)
def f_X7_lay_109 (x3 : Int32) (x4 : Int32) (x5 : Int32) (k6 : Nat) (σ : St) : Option (Int32 × St) := (f_X7_lay_115 FU) x3 x4 x5 k6 (0 : Int32) (0 : Int32) σ
set_option maxRecDepth 20000 in
theorem s_X7_lay_109 {R : Int32 × St} (C : gC p s m args meth c D ca ad 91 LC RX7 cX7_lay 10 (some .int)) (x3 : Int32) (x4 : Int32) (x5 : Int32) (k6 : Nat) (hk6 : LC k6 = 3) (σ : St) (h : f_X7_lay_109 x3 x4 x5 k6 σ = some R) : G p l e rm_X7_lay s m args below meth c D ca ad 91 LC 10 (gEnd below args s D ca ad 91 LC (some (.int R.1)) R.2) 109 [(0, .ref 0), (3, .int x3), (4, .int x4), (5, .int x5), (6, .ref k6)] [] σ := by
  unfold f_X7_lay_109 at h
  refine g_iconst C (0 : Int32) dX7_lay_109 rfl ?_
  refine g_istore C [(7, .int (0 : Int32)), (0, .ref 0), (3, .int x3), (4, .int x4), (5, .int x5), (6, .ref k6)] dX7_lay_110 (by decide) rfl ?_
  refine g_iconst C (0 : Int32) dX7_lay_112 rfl ?_
  refine g_istore C [(8, .int (0 : Int32)), (7, .int (0 : Int32)), (0, .ref 0), (3, .int x3), (4, .int x4), (5, .int x5), (6, .ref k6)] dX7_lay_113 (by decide) rfl ?_
  exact g_sub [2, 3, 4, 5, 6, 1, 0] rfl ((s_X7_lay_115 C FU) x3 x4 x5 k6 hk6 (0 : Int32) (0 : Int32) σ h)
def f_X7_lay (x1 : Int32) (x2 : Int32) (x3 : Int32) (x4 : Int32) (x5 : Int32) (σ : St) : Option (Int32 × St) := (f_X7_isSheet x1 σ).bind (fun q1 => (if q1.1 = 0 then some ((-2 : Int32), q1.2) else (f_X7_isSort x2 q1.2).bind (fun q3 => (if q3.1 = 0 then some ((-2 : Int32), q3.2) else (if x4 < 0 then some ((-2 : Int32), q3.2) else (if x4 < (40 : Int32) then (if x5 < 0 then some ((-2 : Int32), q3.2) else (if x5 ≤ ((40 : Int32) - x4) then cI (ix x1 4) ((if (q3.2.1 (57 + 26 + 2 * x1.toNatClampNeg) 0) = 0 then (f_X7_hostFinding (-10 : Int32) q3.2).bind (fun q17 => some (q17.1, q17.2)) else (if (q3.2.1 (57 + 26 + 2 * x1.toNatClampNeg) 1) = x2 then (if x5 ≤ 0 then (f_X7_lay_109) x3 x4 x5 (57 + 26 + 2 * x1.toNatClampNeg) q3.2 else (f_X3_hasFrom (57 + 26 + 2 * x1.toNatClampNeg) x3 x5 q3.2).bind (fun q13 => (if q13.1 = 0 then (f_X7_hostFinding (-11 : Int32) q13.2).bind (fun q15 => some (q15.1, q15.2)) else (f_X7_lay_109) x3 x4 x5 (57 + 26 + 2 * x1.toNatClampNeg) q13.2))) else (f_X7_hostFinding (-12 : Int32) q3.2).bind (fun q16 => some (q16.1, q16.2))))) else some ((-2 : Int32), q3.2))) else some ((-2 : Int32), q3.2)))))))
set_option maxRecDepth 20000 in
theorem m_X7_lay {l : Launch} {D : va_G} {ca : Nat → ClassId} {ad : Nat → Nat} {x1 : Int32} {x2 : Int32} {x3 : Int32} {x4 : Int32} {x5 : Int32} {σ : St} {R : Int32 × St} (h : f_X7_lay x1 x2 x3 x4 x5 σ = some R) : gM l D ca ad 91 LC yX7_lay cX7_lay 10 (some .int) rm_X7_lay [.ref 0, .int x1, .int x2, .int x3, .int x4, .int x5] σ (some (.int R.1)) R.2 := by
  refine gM_of (by decide) (Nat.le_of_ble_eq_true rfl) (fun p e s m args below meth c C => ?_)
  refine g_ent (ls' := [(0, .ref 0), (1, .int x1), (2, .int x2), (3, .int x3), (4, .int x4), (5, .int x5)]) rfl ?_
  unfold f_X7_lay at h
  refine g_iload_n C 1 dX7_lay_0 rfl ?_
  obtain ⟨q1, hq1, h⟩ := bd h
  refine g_callSI C [.int x1] qs_X7_90 (m_X7_isSheet hq1) rfl rfl ⟨rfl, rfl⟩ ⟨by decide, by decide⟩ (Nat.le_of_ble_eq_true rfl) dX7_lay_1 ?_
  refine g_if_eq C 26 dX7_lay_4 (by decide) (fun hc2 => ?_) (fun hc2 => ?_)
  · have h := ite_t hc2 h
    refine g_bipush C (-2 : Int32) dX7_lay_26 rfl ?_
    obtain rfl := Option.some.inj h
    exact g_iret C dX7_lay_28
  · have h := ite_f hc2 h
    refine g_iload_n C 2 dX7_lay_7 rfl ?_
    obtain ⟨q3, hq3, h⟩ := bd h
    refine g_callSI C [.int x2] qs_X7_93 (m_X7_isSort hq3) rfl rfl ⟨rfl, rfl⟩ ⟨by decide, by decide⟩ (Nat.le_of_ble_eq_true rfl) dX7_lay_8 ?_
    refine g_if_eq C 26 dX7_lay_11 (by decide) (fun hc4 => ?_) (fun hc4 => ?_)
    · have h := ite_t hc4 h
      refine g_bipush C (-2 : Int32) dX7_lay_26 rfl ?_
      obtain rfl := Option.some.inj h
      exact g_iret C dX7_lay_28
    · have h := ite_f hc4 h
      refine g_iload C 4 dX7_lay_14 rfl ?_
      refine g_if_lt C 26 dX7_lay_16 (by decide) (fun hc5 => ?_) (fun hc5 => ?_)
      · have h := ite_t hc5 h
        refine g_bipush C (-2 : Int32) dX7_lay_26 rfl ?_
        obtain rfl := Option.some.inj h
        exact g_iret C dX7_lay_28
      · have h := ite_f hc5 h
        refine g_iload C 4 dX7_lay_19 rfl ?_
        refine g_bipush C (40 : Int32) dX7_lay_21 rfl ?_
        refine g_icmp_lt C 29 dX7_lay_23 (by decide) (fun hc6 => ?_) (fun hc6 => ?_)
        · have h := ite_t hc6 h
          refine g_iload C 5 dX7_lay_29 rfl ?_
          refine g_if_lt C 44 dX7_lay_31 (by decide) (fun hc7 => ?_) (fun hc7 => ?_)
          · have h := ite_t hc7 h
            refine g_bipush C (-2 : Int32) dX7_lay_44 rfl ?_
            obtain rfl := Option.some.inj h
            exact g_iret C dX7_lay_46
          · have h := ite_f hc7 h
            refine g_iload C 5 dX7_lay_34 rfl ?_
            refine g_bipush C (40 : Int32) dX7_lay_36 rfl ?_
            refine g_iload C 4 dX7_lay_38 rfl ?_
            refine g_isub C dX7_lay_40 ?_
            refine g_icmp_le C 47 dX7_lay_41 (by decide) (fun hc8 => ?_) (fun hc8 => ?_)
            · have h := ite_t hc8 h
              refine g_aload_n C 0 dX7_lay_47 rfl ?_
              refine g_getR C 3 57 rfl q_X7_25 rfl rfl dX7_lay_48 ?_
              refine g_iload_n C 1 dX7_lay_51 rfl ?_
              obtain ⟨hi9, h⟩ := cI_some h
              refine g_aald4 C rfl ho_23 hi9 dX7_lay_52 ?_
              refine g_astore C [(6, .ref (57 + 26 + 2 * x1.toNatClampNeg)), (0, .ref 0), (1, .int x1), (2, .int x2), (3, .int x3), (4, .int x4), (5, .int x5)] dX7_lay_53 (by decide) rfl ?_
              refine g_aload C 0 dX7_lay_55 rfl ?_
              refine g_getI C 0 (sc_s rfl (ix_lt hi9)) q_X7_104 rfl dX7_lay_57 ?_
              refine g_if_ne C 70 dX7_lay_60 (by decide) (fun hc10 => ?_) (fun hc10 => ?_)
              · have h := ite_f hc10 h
                refine g_aload C 0 dX7_lay_70 rfl ?_
                refine g_getI C 1 (sc_s rfl (ix_lt hi9)) q_X7_117 rfl dX7_lay_72 ?_
                refine g_iload_n C 3 dX7_lay_75 rfl ?_
                refine g_icmp_eq C 86 dX7_lay_76 (by decide) (fun hc11 => ?_) (fun hc11 => ?_)
                · have h := ite_t hc11 h
                  refine g_iload C 6 dX7_lay_86 rfl ?_
                  refine g_if_le C 109 dX7_lay_88 (by decide) (fun hc12 => ?_) (fun hc12 => ?_)
                  · have h := ite_t hc12 h
                    exact g_sub [1, 4, 5, 6, 0] rfl ((s_X7_lay_109 C) x3 x4 x5 (57 + 26 + 2 * x1.toNatClampNeg) (sc_s rfl (ix_lt hi9)) q3.2 h)
                  · have h := ite_f hc12 h
                    refine g_aload C 0 dX7_lay_91 rfl ?_
                    refine g_iload_n C 4 dX7_lay_93 rfl ?_
                    refine g_iload C 6 dX7_lay_94 rfl ?_
                    obtain ⟨q13, hq13, h⟩ := bd h
                    refine g_callVI C [.int x3, .int x5] qv_X7_107 (m_X3_hasFrom (sc_s rfl (ix_lt hi9)) hq13) (sc_s rfl (ix_lt hi9)) (by decide) rfl rfl rfl ⟨rfl, rfl⟩ ⟨by decide, by decide⟩ (Nat.le_of_ble_eq_true rfl) dX7_lay_96 ?_
                    refine g_if_ne C 109 dX7_lay_99 (by decide) (fun hc14 => ?_) (fun hc14 => ?_)
                    · have h := ite_f hc14 h
                      exact g_sub [1, 4, 5, 6, 0] rfl ((s_X7_lay_109 C) x3 x4 x5 (57 + 26 + 2 * x1.toNatClampNeg) (sc_s rfl (ix_lt hi9)) q13.2 h)
                    · have h := ite_t hc14 h
                      refine g_aload_n C 1 dX7_lay_102 rfl ?_
                      refine g_bipush C (-11 : Int32) dX7_lay_103 rfl ?_
                      obtain ⟨q15, hq15, h⟩ := bd h
                      refine g_callVI C [.int (-11 : Int32)] qv_X7_96 (m_X7_hostFinding hq15) rfl (by decide) rfl rfl rfl ⟨rfl, rfl⟩ ⟨by decide, by decide⟩ (Nat.le_of_ble_eq_true rfl) dX7_lay_105 ?_
                      obtain rfl := Option.some.inj h
                      exact g_iret C dX7_lay_108
                · have h := ite_f hc11 h
                  refine g_aload_n C 1 dX7_lay_79 rfl ?_
                  refine g_bipush C (-12 : Int32) dX7_lay_80 rfl ?_
                  obtain ⟨q16, hq16, h⟩ := bd h
                  refine g_callVI C [.int (-12 : Int32)] qv_X7_96 (m_X7_hostFinding hq16) rfl (by decide) rfl rfl rfl ⟨rfl, rfl⟩ ⟨by decide, by decide⟩ (Nat.le_of_ble_eq_true rfl) dX7_lay_82 ?_
                  obtain rfl := Option.some.inj h
                  exact g_iret C dX7_lay_85
              · have h := ite_t hc10 h
                refine g_aload_n C 1 dX7_lay_63 rfl ?_
                refine g_bipush C (-10 : Int32) dX7_lay_64 rfl ?_
                obtain ⟨q17, hq17, h⟩ := bd h
                refine g_callVI C [.int (-10 : Int32)] qv_X7_96 (m_X7_hostFinding hq17) rfl (by decide) rfl rfl rfl ⟨rfl, rfl⟩ ⟨by decide, by decide⟩ (Nat.le_of_ble_eq_true rfl) dX7_lay_66 ?_
                obtain rfl := Option.some.inj h
                exact g_iret C dX7_lay_69
            · have h := ite_f hc8 h
              refine g_bipush C (-2 : Int32) dX7_lay_44 rfl ?_
              obtain rfl := Option.some.inj h
              exact g_iret C dX7_lay_46
        · have h := ite_f hc6 h
          refine g_bipush C (-2 : Int32) dX7_lay_26 rfl ?_
          obtain rfl := Option.some.inj h
          exact g_iret C dX7_lay_28
def f_X7_isOfKind (x0 : Int32) (x1 : Int32) (σ : St) : Option (Int32 × St) := (if x0 = (0 : Int32) then (f_X7_isAge x1 σ).bind (fun q2 => cI (zb q2.1) (some (q2.1, q2.2))) else (if x0 = (1 : Int32) then (f_X7_isAge x1 σ).bind (fun q5 => cI (zb q5.1) (some (q5.1, q5.2))) else (if x0 = (2 : Int32) then some ((1 : Int32), σ) else (if x0 = (3 : Int32) then (if x1 < 0 then some ((0 : Int32), σ) else (if (40 : Int32) ≤ x1 then some ((0 : Int32), σ) else some ((1 : Int32), σ))) else some ((0 : Int32), σ)))))
set_option maxRecDepth 20000 in
theorem m_X7_isOfKind {l : Launch} {D : va_G} {ca : Nat → ClassId} {ad : Nat → Nat} {x0 : Int32} {x1 : Int32} {σ : St} {R : Int32 × St} (h : f_X7_isOfKind x0 x1 σ = some R) : gM l D ca ad 91 LC yX7_isOfKind cX7_isOfKind 2 (some .boolean) rm_X7_isOfKind [.int x0, .int x1] σ (some (.int R.1)) R.2 := by
  refine gM_of (by decide) (Nat.le_of_ble_eq_true rfl) (fun p e s m args below meth c C => ?_)
  refine g_ent (ls' := [(0, .int x0), (1, .int x1)]) rfl ?_
  unfold f_X7_isOfKind at h
  refine g_iload_n C 0 dX7_isOfKind_0 rfl ?_
  by_cases hc1 : x0 = (0 : Int32)
  · have h := ite_t hc1 h
    refine g_tableIn C 32 dX7_isOfKind_1 (by rw [hc1]; decide) (by rw [hc1]; decide) (by rw [hc1]; rfl) (by decide) ?_
    refine g_iload_n C 1 dX7_isOfKind_32 rfl ?_
    obtain ⟨q2, hq2, h⟩ := bd h
    refine g_callSI C [.int x1] qs_X7_77 (m_X7_isAge hq2) rfl rfl ⟨rfl, rfl⟩ ⟨by decide, by decide⟩ (Nat.le_of_ble_eq_true rfl) dX7_isOfKind_33 ?_
    obtain ⟨hz3, h⟩ := cI_some h
    obtain rfl := Option.some.inj h
    exact g_zret C (zb_n hz3) dX7_isOfKind_36
  · have h := ite_f hc1 h
    by_cases hc4 : x0 = (1 : Int32)
    · have h := ite_t hc4 h
      refine g_tableIn C 32 dX7_isOfKind_1 (by rw [hc4]; decide) (by rw [hc4]; decide) (by rw [hc4]; rfl) (by decide) ?_
      refine g_iload_n C 1 dX7_isOfKind_32 rfl ?_
      obtain ⟨q5, hq5, h⟩ := bd h
      refine g_callSI C [.int x1] qs_X7_77 (m_X7_isAge hq5) rfl rfl ⟨rfl, rfl⟩ ⟨by decide, by decide⟩ (Nat.le_of_ble_eq_true rfl) dX7_isOfKind_33 ?_
      obtain ⟨hz6, h⟩ := cI_some h
      obtain rfl := Option.some.inj h
      exact g_zret C (zb_n hz6) dX7_isOfKind_36
    · have h := ite_f hc4 h
      by_cases hc7 : x0 = (2 : Int32)
      · have h := ite_t hc7 h
        refine g_tableIn C 37 dX7_isOfKind_1 (by rw [hc7]; decide) (by rw [hc7]; decide) (by rw [hc7]; rfl) (by decide) ?_
        refine g_iconst C (1 : Int32) dX7_isOfKind_37 rfl ?_
        obtain rfl := Option.some.inj h
        exact g_zret C nz1 dX7_isOfKind_38
      · have h := ite_f hc7 h
        by_cases hc8 : x0 = (3 : Int32)
        · have h := ite_t hc8 h
          refine g_tableIn C 39 dX7_isOfKind_1 (by rw [hc8]; decide) (by rw [hc8]; decide) (by rw [hc8]; rfl) (by decide) ?_
          refine g_iload_n C 1 dX7_isOfKind_39 rfl ?_
          refine g_if_lt C 53 dX7_isOfKind_40 (by decide) (fun hc9 => ?_) (fun hc9 => ?_)
          · have h := ite_t hc9 h
            refine g_iconst C (0 : Int32) dX7_isOfKind_53 rfl ?_
            obtain rfl := Option.some.inj h
            exact g_zret C nz0 dX7_isOfKind_54
          · have h := ite_f hc9 h
            refine g_iload_n C 1 dX7_isOfKind_43 rfl ?_
            refine g_bipush C (40 : Int32) dX7_isOfKind_44 rfl ?_
            refine g_icmp_ge C 53 dX7_isOfKind_46 (by decide) (fun hc10 => ?_) (fun hc10 => ?_)
            · have h := ite_t hc10 h
              refine g_iconst C (0 : Int32) dX7_isOfKind_53 rfl ?_
              obtain rfl := Option.some.inj h
              exact g_zret C nz0 dX7_isOfKind_54
            · have h := ite_f hc10 h
              refine g_iconst C (1 : Int32) dX7_isOfKind_49 rfl ?_
              refine g_goto C 54 dX7_isOfKind_50 (by decide) ?_
              obtain rfl := Option.some.inj h
              exact g_zret C nz1 dX7_isOfKind_54
        · have h := ite_f hc8 h
          refine g_tableOut C 55 dX7_isOfKind_1 (sw_out 3 (by decide) (fun j hj => by rcases (show j = 0 ∨ j = 1 ∨ j = 2 ∨ j = 3 by omega) with rfl | rfl | rfl | rfl; exact hc1; exact hc4; exact hc7; exact hc8)) (by decide) ?_
          refine g_iconst C (0 : Int32) dX7_isOfKind_55 rfl ?_
          obtain rfl := Option.some.inj h
          exact g_zret C nz0 dX7_isOfKind_56
def f_X7_find (x1 : Int32) (x2 : Int32) (σ : St) : Option (Int32 × St) := (f_X7_isOfKind x1 x2 σ).bind (fun q1 => (if q1.1 = 0 then some ((-2 : Int32), q1.2) else (if (q1.2.1 1 3) < (7 : Int32) then cI (ix (q1.2.1 1 3) 7) ((f_X1_become (4 + 4 + 3 * (q1.2.1 1 3).toNatClampNeg) x1 x2 q1.2).bind (fun q5 => ap (up1 q5 1 3 ((q1.2.1 1 3) + (1 : Int32))) fun σ6 => ap (up1 σ6 0 10 (0 : Int32)) fun σ7 => some ((q1.2.1 1 3), σ7))) else some ((-2 : Int32), q1.2))))
set_option maxRecDepth 20000 in
theorem m_X7_find {l : Launch} {D : va_G} {ca : Nat → ClassId} {ad : Nat → Nat} {x1 : Int32} {x2 : Int32} {σ : St} {R : Int32 × St} (h : f_X7_find x1 x2 σ = some R) : gM l D ca ad 91 LC yX7_find cX7_find 4 (some .int) rm_X7_find [.ref 0, .int x1, .int x2] σ (some (.int R.1)) R.2 := by
  refine gM_of (by decide) (Nat.le_of_ble_eq_true rfl) (fun p e s m args below meth c C => ?_)
  refine g_ent (ls' := [(0, .ref 0), (1, .int x1), (2, .int x2)]) rfl ?_
  unfold f_X7_find at h
  refine g_iload_n C 1 dX7_find_0 rfl ?_
  refine g_iload_n C 2 dX7_find_1 rfl ?_
  obtain ⟨q1, hq1, h⟩ := bd h
  refine g_callSI C [.int x1, .int x2] qs_X7_129 (m_X7_isOfKind hq1) rfl rfl ⟨rfl, rfl⟩ ⟨by decide, by decide⟩ (Nat.le_of_ble_eq_true rfl) dX7_find_2 ?_
  refine g_if_eq C 20 dX7_find_5 (by decide) (fun hc2 => ?_) (fun hc2 => ?_)
  · have h := ite_t hc2 h
    refine g_bipush C (-2 : Int32) dX7_find_20 rfl ?_
    obtain rfl := Option.some.inj h
    exact g_iret C dX7_find_22
  · have h := ite_f hc2 h
    refine g_aload_n C 0 dX7_find_8 rfl ?_
    refine g_getR C 0 1 rfl q_X7_10 rfl rfl dX7_find_9 ?_
    refine g_getI C 3 rfl q_X7_132 rfl dX7_find_12 ?_
    refine g_bipush C (7 : Int32) dX7_find_15 rfl ?_
    refine g_icmp_lt C 23 dX7_find_17 (by decide) (fun hc3 => ?_) (fun hc3 => ?_)
    · have h := ite_t hc3 h
      refine g_aload_n C 0 dX7_find_23 rfl ?_
      refine g_getR C 0 1 rfl q_X7_10 rfl rfl dX7_find_24 ?_
      refine g_getI C 3 rfl q_X7_132 rfl dX7_find_27 ?_
      refine g_istore_n C [(3, .int (q1.2.1 1 3)), (0, .ref 0), (1, .int x1), (2, .int x2)] dX7_find_30 (by decide) rfl ?_
      refine g_aload_n C 1 dX7_find_31 rfl ?_
      refine g_getR C 0 1 rfl q_X7_10 rfl rfl dX7_find_32 ?_
      refine g_getR C 4 4 rfl q_X7_135 rfl rfl dX7_find_35 ?_
      refine g_iload_n C 0 dX7_find_38 rfl ?_
      obtain ⟨hi4, h⟩ := cI_some h
      refine g_aald3 C rfl ho_22 hi4 dX7_find_39 ?_
      refine g_iload_n C 2 dX7_find_40 rfl ?_
      refine g_iload_n C 3 dX7_find_41 rfl ?_
      obtain ⟨q5, hq5, h⟩ := bd h
      refine g_callVV C [.int x1, .int x2] qv_X7_139 (m_X1_become (sc_f rfl (ix_lt hi4)) hq5) (sc_f rfl (ix_lt hi4)) (by decide) rfl rfl rfl ⟨rfl, rfl⟩ ⟨by decide, by decide⟩ (Nat.le_of_ble_eq_true rfl) dX7_find_42 ?_
      refine g_aload_n C 1 dX7_find_45 rfl ?_
      refine g_getR C 0 1 rfl q_X7_10 rfl rfl dX7_find_46 ?_
      refine g_iload_n C 0 dX7_find_49 rfl ?_
      refine g_iconst C (1 : Int32) dX7_find_50 rfl ?_
      refine g_iadd C dX7_find_51 ?_
      refine g_putI C 3 rfl qp_X7_132 rfl dX7_find_52 ?_
      refine g_nmS (fun σ6 eσ6 => ?_)
      have h := ap_at eσ6 h
      refine g_aload_n C 1 dX7_find_55 rfl ?_
      refine g_iconst C (0 : Int32) dX7_find_56 rfl ?_
      refine g_putZ C 10 rfl qp_X7_63 rfl rfl rfl dX7_find_57 ?_
      refine g_nmS (fun σ7 eσ7 => ?_)
      have h := ap_at eσ7 h
      refine g_iload_n C 0 dX7_find_60 rfl ?_
      obtain rfl := Option.some.inj h
      exact g_iret C dX7_find_61
    · have h := ite_f hc3 h
      refine g_bipush C (-2 : Int32) dX7_find_20 rfl ?_
      obtain rfl := Option.some.inj h
      exact g_iret C dX7_find_22
def f_X7_isFind (x1 : Int32) (σ : St) : Option (Int32 × St) := (if x1 < 0 then some ((0 : Int32), σ) else (if (σ.1 1 3) ≤ x1 then some ((0 : Int32), σ) else some ((1 : Int32), σ)))
set_option maxRecDepth 20000 in
theorem m_X7_isFind {l : Launch} {D : va_G} {ca : Nat → ClassId} {ad : Nat → Nat} {x1 : Int32} {σ : St} {R : Int32 × St} (h : f_X7_isFind x1 σ = some R) : gM l D ca ad 91 LC yX7_isFind cX7_isFind 2 (some .boolean) rm_X7_isFind [.ref 0, .int x1] σ (some (.int R.1)) R.2 := by
  refine gM_of (by decide) (Nat.le_of_ble_eq_true rfl) (fun p e s m args below meth c C => ?_)
  refine g_ent (ls' := [(0, .ref 0), (1, .int x1)]) rfl ?_
  unfold f_X7_isFind at h
  refine g_iload_n C 1 dX7_isFind_0 rfl ?_
  refine g_if_lt C 19 dX7_isFind_1 (by decide) (fun hc1 => ?_) (fun hc1 => ?_)
  · have h := ite_t hc1 h
    refine g_iconst C (0 : Int32) dX7_isFind_19 rfl ?_
    obtain rfl := Option.some.inj h
    exact g_zret C nz0 dX7_isFind_20
  · have h := ite_f hc1 h
    refine g_iload_n C 1 dX7_isFind_4 rfl ?_
    refine g_aload_n C 0 dX7_isFind_5 rfl ?_
    refine g_getR C 0 1 rfl q_X7_10 rfl rfl dX7_isFind_6 ?_
    refine g_getI C 3 rfl q_X7_132 rfl dX7_isFind_9 ?_
    refine g_icmp_ge C 19 dX7_isFind_12 (by decide) (fun hc2 => ?_) (fun hc2 => ?_)
    · have h := ite_t hc2 h
      refine g_iconst C (0 : Int32) dX7_isFind_19 rfl ?_
      obtain rfl := Option.some.inj h
      exact g_zret C nz0 dX7_isFind_20
    · have h := ite_f hc2 h
      refine g_iconst C (1 : Int32) dX7_isFind_15 rfl ?_
      refine g_goto C 20 dX7_isFind_16 (by decide) ?_
      obtain rfl := Option.some.inj h
      exact g_zret C nz1 dX7_isFind_20
def f_X7_ring (x1 : Int32) (x2 : Int32) (x3 : Int32) (σ : St) : Option (Int32 × St) := (f_X7_isFind x1 σ).bind (fun q1 => (if q1.1 = 0 then some ((-2 : Int32), q1.2) else (f_X7_isAge x2 q1.2).bind (fun q3 => (if q3.1 = 0 then some ((-2 : Int32), q3.2) else (if x3 < 0 then some ((-2 : Int32), q3.2) else (if x3 < (40 : Int32) then cI (ix x1 7) ((if (q3.2.1 (4 + 4 + 3 * x1.toNatClampNeg) 0) = (1 : Int32) then (if (q3.2.1 (4 + 4 + 3 * x1.toNatClampNeg) 2) < (5 : Int32) then (f_X1_addAge (4 + 4 + 3 * x1.toNatClampNeg) x2 x3 q3.2).bind (fun q10 => some ((q10.1 (4 + 4 + 3 * x1.toNatClampNeg) 2), q10)) else some ((-2 : Int32), q3.2)) else (f_X7_hostFinding (-12 : Int32) q3.2).bind (fun q11 => some (q11.1, q11.2)))) else some ((-2 : Int32), q3.2)))))))
set_option maxRecDepth 20000 in
theorem m_X7_ring {l : Launch} {D : va_G} {ca : Nat → ClassId} {ad : Nat → Nat} {x1 : Int32} {x2 : Int32} {x3 : Int32} {σ : St} {R : Int32 × St} (h : f_X7_ring x1 x2 x3 σ = some R) : gM l D ca ad 91 LC yX7_ring cX7_ring 5 (some .int) rm_X7_ring [.ref 0, .int x1, .int x2, .int x3] σ (some (.int R.1)) R.2 := by
  refine gM_of (by decide) (Nat.le_of_ble_eq_true rfl) (fun p e s m args below meth c C => ?_)
  refine g_ent (ls' := [(0, .ref 0), (1, .int x1), (2, .int x2), (3, .int x3)]) rfl ?_
  unfold f_X7_ring at h
  refine g_aload_n C 0 dX7_ring_0 rfl ?_
  refine g_iload_n C 1 dX7_ring_1 rfl ?_
  obtain ⟨q1, hq1, h⟩ := bd h
  refine g_callVI C [.int x1] qv_X7_142 (m_X7_isFind hq1) rfl (by decide) rfl rfl rfl ⟨rfl, rfl⟩ ⟨by decide, by decide⟩ (Nat.le_of_ble_eq_true rfl) dX7_ring_2 ?_
  refine g_if_eq C 25 dX7_ring_5 (by decide) (fun hc2 => ?_) (fun hc2 => ?_)
  · have h := ite_t hc2 h
    refine g_bipush C (-2 : Int32) dX7_ring_25 rfl ?_
    obtain rfl := Option.some.inj h
    exact g_iret C dX7_ring_27
  · have h := ite_f hc2 h
    refine g_iload_n C 2 dX7_ring_8 rfl ?_
    obtain ⟨q3, hq3, h⟩ := bd h
    refine g_callSI C [.int x2] qs_X7_77 (m_X7_isAge hq3) rfl rfl ⟨rfl, rfl⟩ ⟨by decide, by decide⟩ (Nat.le_of_ble_eq_true rfl) dX7_ring_9 ?_
    refine g_if_eq C 25 dX7_ring_12 (by decide) (fun hc4 => ?_) (fun hc4 => ?_)
    · have h := ite_t hc4 h
      refine g_bipush C (-2 : Int32) dX7_ring_25 rfl ?_
      obtain rfl := Option.some.inj h
      exact g_iret C dX7_ring_27
    · have h := ite_f hc4 h
      refine g_iload_n C 3 dX7_ring_15 rfl ?_
      refine g_if_lt C 25 dX7_ring_16 (by decide) (fun hc5 => ?_) (fun hc5 => ?_)
      · have h := ite_t hc5 h
        refine g_bipush C (-2 : Int32) dX7_ring_25 rfl ?_
        obtain rfl := Option.some.inj h
        exact g_iret C dX7_ring_27
      · have h := ite_f hc5 h
        refine g_iload_n C 3 dX7_ring_19 rfl ?_
        refine g_bipush C (40 : Int32) dX7_ring_20 rfl ?_
        refine g_icmp_lt C 28 dX7_ring_22 (by decide) (fun hc6 => ?_) (fun hc6 => ?_)
        · have h := ite_t hc6 h
          refine g_aload_n C 0 dX7_ring_28 rfl ?_
          refine g_getR C 0 1 rfl q_X7_10 rfl rfl dX7_ring_29 ?_
          refine g_getR C 4 4 rfl q_X7_135 rfl rfl dX7_ring_32 ?_
          refine g_iload_n C 1 dX7_ring_35 rfl ?_
          obtain ⟨hi7, h⟩ := cI_some h
          refine g_aald3 C rfl ho_22 hi7 dX7_ring_36 ?_
          refine g_astore C [(4, .ref (4 + 4 + 3 * x1.toNatClampNeg)), (0, .ref 0), (1, .int x1), (2, .int x2), (3, .int x3)] dX7_ring_37 (by decide) rfl ?_
          refine g_aload C 0 dX7_ring_39 rfl ?_
          refine g_getI C 0 (sc_f rfl (ix_lt hi7)) q_X7_145 rfl dX7_ring_41 ?_
          refine g_iconst C (1 : Int32) dX7_ring_44 rfl ?_
          refine g_icmp_eq C 55 dX7_ring_45 (by decide) (fun hc8 => ?_) (fun hc8 => ?_)
          · have h := ite_t hc8 h
            refine g_aload C 0 dX7_ring_55 rfl ?_
            refine g_getI C 2 (sc_f rfl (ix_lt hi7)) q_X7_148 rfl dX7_ring_57 ?_
            refine g_iconst C (5 : Int32) dX7_ring_60 rfl ?_
            refine g_icmp_lt C 67 dX7_ring_61 (by decide) (fun hc9 => ?_) (fun hc9 => ?_)
            · have h := ite_t hc9 h
              refine g_aload C 0 dX7_ring_67 rfl ?_
              refine g_iload_n C 3 dX7_ring_69 rfl ?_
              refine g_iload_n C 4 dX7_ring_70 rfl ?_
              obtain ⟨q10, hq10, h⟩ := bd h
              refine g_callVV C [.int x2, .int x3] qv_X7_151 (m_X1_addAge (sc_f rfl (ix_lt hi7)) hq10) (sc_f rfl (ix_lt hi7)) (by decide) rfl rfl rfl ⟨rfl, rfl⟩ ⟨by decide, by decide⟩ (Nat.le_of_ble_eq_true rfl) dX7_ring_71 ?_
              refine g_aload C 0 dX7_ring_74 rfl ?_
              refine g_getI C 2 (sc_f rfl (ix_lt hi7)) q_X7_148 rfl dX7_ring_76 ?_
              obtain rfl := Option.some.inj h
              exact g_iret C dX7_ring_79
            · have h := ite_f hc9 h
              refine g_bipush C (-2 : Int32) dX7_ring_64 rfl ?_
              obtain rfl := Option.some.inj h
              exact g_iret C dX7_ring_66
          · have h := ite_f hc8 h
            refine g_aload_n C 1 dX7_ring_48 rfl ?_
            refine g_bipush C (-12 : Int32) dX7_ring_49 rfl ?_
            obtain ⟨q11, hq11, h⟩ := bd h
            refine g_callVI C [.int (-12 : Int32)] qv_X7_96 (m_X7_hostFinding hq11) rfl (by decide) rfl rfl rfl ⟨rfl, rfl⟩ ⟨by decide, by decide⟩ (Nat.le_of_ble_eq_true rfl) dX7_ring_51 ?_
            obtain rfl := Option.some.inj h
            exact g_iret C dX7_ring_54
        · have h := ite_f hc6 h
          refine g_bipush C (-2 : Int32) dX7_ring_25 rfl ?_
          obtain rfl := Option.some.inj h
          exact g_iret C dX7_ring_27
def f_X7_odd (x1 : Int32) (x2 : Int32) (σ : St) : Option (Int32 × St) := (f_X7_isFind x1 σ).bind (fun q1 => (if q1.1 = 0 then some ((-2 : Int32), q1.2) else (f_X7_isDigit x2 q1.2).bind (fun q3 => (if q3.1 = 0 then some ((-2 : Int32), q3.2) else cI (ix x1 7) (ap (q3.2.1 (4 + 4 + 3 * x1.toNatClampNeg) 1) fun z6 => cI (ix x1 7) (ap (up1 q3.2 (4 + 4 + 3 * x1.toNatClampNeg) 1 x2) fun σ8 => some (z6, σ8)))))))
set_option maxRecDepth 20000 in
theorem m_X7_odd {l : Launch} {D : va_G} {ca : Nat → ClassId} {ad : Nat → Nat} {x1 : Int32} {x2 : Int32} {σ : St} {R : Int32 × St} (h : f_X7_odd x1 x2 σ = some R) : gM l D ca ad 91 LC yX7_odd cX7_odd 4 (some .int) rm_X7_odd [.ref 0, .int x1, .int x2] σ (some (.int R.1)) R.2 := by
  refine gM_of (by decide) (Nat.le_of_ble_eq_true rfl) (fun p e s m args below meth c C => ?_)
  refine g_ent (ls' := [(0, .ref 0), (1, .int x1), (2, .int x2)]) rfl ?_
  unfold f_X7_odd at h
  refine g_aload_n C 0 dX7_odd_0 rfl ?_
  refine g_iload_n C 1 dX7_odd_1 rfl ?_
  obtain ⟨q1, hq1, h⟩ := bd h
  refine g_callVI C [.int x1] qv_X7_142 (m_X7_isFind hq1) rfl (by decide) rfl rfl rfl ⟨rfl, rfl⟩ ⟨by decide, by decide⟩ (Nat.le_of_ble_eq_true rfl) dX7_odd_2 ?_
  refine g_if_eq C 15 dX7_odd_5 (by decide) (fun hc2 => ?_) (fun hc2 => ?_)
  · have h := ite_t hc2 h
    refine g_bipush C (-2 : Int32) dX7_odd_15 rfl ?_
    obtain rfl := Option.some.inj h
    exact g_iret C dX7_odd_17
  · have h := ite_f hc2 h
    refine g_iload_n C 2 dX7_odd_8 rfl ?_
    obtain ⟨q3, hq3, h⟩ := bd h
    refine g_callSI C [.int x2] qs_X7_84 (m_X7_isDigit hq3) rfl rfl ⟨rfl, rfl⟩ ⟨by decide, by decide⟩ (Nat.le_of_ble_eq_true rfl) dX7_odd_9 ?_
    refine g_if_ne C 18 dX7_odd_12 (by decide) (fun hc4 => ?_) (fun hc4 => ?_)
    · have h := ite_f hc4 h
      refine g_aload_n C 0 dX7_odd_18 rfl ?_
      refine g_getR C 0 1 rfl q_X7_10 rfl rfl dX7_odd_19 ?_
      refine g_getR C 4 4 rfl q_X7_135 rfl rfl dX7_odd_22 ?_
      refine g_iload_n C 1 dX7_odd_25 rfl ?_
      obtain ⟨hi5, h⟩ := cI_some h
      refine g_aald3 C rfl ho_22 hi5 dX7_odd_26 ?_
      refine g_getI C 1 (sc_f rfl (ix_lt hi5)) q_X7_154 rfl dX7_odd_27 ?_
      refine g_nmI (fun z6 ez6 => ?_)
      have h := ap_at ez6 h
      refine g_istore_n C [(3, .int z6), (0, .ref 0), (1, .int x1), (2, .int x2)] dX7_odd_30 (by decide) rfl ?_
      refine g_aload_n C 1 dX7_odd_31 rfl ?_
      refine g_getR C 0 1 rfl q_X7_10 rfl rfl dX7_odd_32 ?_
      refine g_getR C 4 4 rfl q_X7_135 rfl rfl dX7_odd_35 ?_
      refine g_iload_n C 2 dX7_odd_38 rfl ?_
      obtain ⟨hi7, h⟩ := cI_some h
      refine g_aald3 C rfl ho_22 hi7 dX7_odd_39 ?_
      refine g_iload_n C 3 dX7_odd_40 rfl ?_
      refine g_putI C 1 (sc_f rfl (ix_lt hi7)) qp_X7_154 rfl dX7_odd_41 ?_
      refine g_nmS (fun σ8 eσ8 => ?_)
      have h := ap_at eσ8 h
      refine g_iload_n C 0 dX7_odd_44 rfl ?_
      obtain rfl := Option.some.inj h
      exact g_iret C dX7_odd_45
    · have h := ite_t hc4 h
      refine g_bipush C (-2 : Int32) dX7_odd_15 rfl ?_
      obtain rfl := Option.some.inj h
      exact g_iret C dX7_odd_17
end
