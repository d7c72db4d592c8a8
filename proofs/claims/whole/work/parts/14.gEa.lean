section
variable {p : Program} {l : Launch} {e : Env} {s : State} {m : MethodId} {args : Array Value} {below : List Frame} {meth : Method} {c : Code} {D : va_G} {ca : Nat → ClassId} {ad : Nat → Nat}
def f_X8_meet (x1 : Int32) (σ : St) : Option (Int32 × St) := ap (up1 σ 0 22 ((σ.1 0 22) + (1 : Int32))) fun σ1 => some (x1, σ1)
set_option maxRecDepth 20000 in
theorem m_X8_meet {l : Launch} {D : va_G} {ca : Nat → ClassId} {ad : Nat → Nat} {x1 : Int32} {σ : St} {R : Int32 × St} (h : f_X8_meet x1 σ = some R) : gM l D ca ad 26 LM yX8_meet cX8_meet 2 (some .int) rm_X8_meet [.ref 0, .int x1] σ (some (.int R.1)) R.2 := by
  refine gM_of (by decide) (Nat.le_of_ble_eq_true rfl) (fun p e s m args below meth c C => ?_)
  refine g_ent (ls' := [(0, .ref 0), (1, .int x1)]) rfl ?_
  unfold f_X8_meet at h
  refine g_aload_n C 0 dX8_meet_0 rfl ?_
  refine g_dup C rfl dX8_meet_1 ?_
  refine g_getI C 22 rfl q_X8_94 rfl dX8_meet_2 ?_
  refine g_iconst C (1 : Int32) dX8_meet_5 rfl ?_
  refine g_iadd C dX8_meet_6 ?_
  refine g_putI C 22 rfl qp_X8_94 rfl dX8_meet_7 ?_
  refine g_nmS (fun σ1 eσ1 => ?_)
  have h := ap_at eσ1 h
  refine g_iload_n C 1 dX8_meet_10 rfl ?_
  obtain rfl := Option.some.inj h
  exact g_iret C dX8_meet_11
def f_X8_isIn (x0 : Int32) (x1 : Int32) (x2 : Int32) (σ : St) : Option (Int32 × St) := (if x0 < x1 then some ((0 : Int32), σ) else (if x2 < x0 then some ((0 : Int32), σ) else some ((1 : Int32), σ)))
set_option maxRecDepth 20000 in
theorem m_X8_isIn {l : Launch} {D : va_G} {ca : Nat → ClassId} {ad : Nat → Nat} {x0 : Int32} {x1 : Int32} {x2 : Int32} {σ : St} {R : Int32 × St} (h : f_X8_isIn x0 x1 x2 σ = some R) : gM l D ca ad 26 LM yX8_isIn cX8_isIn 3 (some .boolean) rm_X8_isIn [.int x0, .int x1, .int x2] σ (some (.int R.1)) R.2 := by
  refine gM_of (by decide) (Nat.le_of_ble_eq_true rfl) (fun p e s m args below meth c C => ?_)
  refine g_ent (ls' := [(0, .int x0), (1, .int x1), (2, .int x2)]) rfl ?_
  unfold f_X8_isIn at h
  refine g_iload_n C 0 dX8_isIn_0 rfl ?_
  refine g_iload_n C 1 dX8_isIn_1 rfl ?_
  refine g_icmp_lt C 14 dX8_isIn_2 (by decide) (fun hc1 => ?_) (fun hc1 => ?_)
  · have h := ite_t hc1 h
    refine g_iconst C (0 : Int32) dX8_isIn_14 rfl ?_
    obtain rfl := Option.some.inj h
    exact g_zret C nz0 dX8_isIn_15
  · have h := ite_f hc1 h
    refine g_iload_n C 0 dX8_isIn_5 rfl ?_
    refine g_iload_n C 2 dX8_isIn_6 rfl ?_
    refine g_icmp_gt C 14 dX8_isIn_7 (by decide) (fun hc2 => ?_) (fun hc2 => ?_)
    · have h := ite_t hc2 h
      refine g_iconst C (0 : Int32) dX8_isIn_14 rfl ?_
      obtain rfl := Option.some.inj h
      exact g_zret C nz0 dX8_isIn_15
    · have h := ite_f hc2 h
      refine g_iconst C (1 : Int32) dX8_isIn_10 rfl ?_
      refine g_goto C 15 dX8_isIn_11 (by decide) ?_
      obtain rfl := Option.some.inj h
      exact g_zret C nz1 dX8_isIn_15
def f_X8_isFind (x1 : Int32) (σ : St) : Option (Int32 × St) := (if x1 < 0 then some ((0 : Int32), σ) else (if (σ.1 0 3) ≤ x1 then some ((0 : Int32), σ) else some ((1 : Int32), σ)))
set_option maxRecDepth 20000 in
theorem m_X8_isFind {l : Launch} {D : va_G} {ca : Nat → ClassId} {ad : Nat → Nat} {x1 : Int32} {σ : St} {R : Int32 × St} (h : f_X8_isFind x1 σ = some R) : gM l D ca ad 26 LM yX8_isFind cX8_isFind 2 (some .boolean) rm_X8_isFind [.ref 0, .int x1] σ (some (.int R.1)) R.2 := by
  refine gM_of (by decide) (Nat.le_of_ble_eq_true rfl) (fun p e s m args below meth c C => ?_)
  refine g_ent (ls' := [(0, .ref 0), (1, .int x1)]) rfl ?_
  unfold f_X8_isFind at h
  refine g_iload_n C 1 dX8_isFind_0 rfl ?_
  refine g_if_lt C 16 dX8_isFind_1 (by decide) (fun hc1 => ?_) (fun hc1 => ?_)
  · have h := ite_t hc1 h
    refine g_iconst C (0 : Int32) dX8_isFind_16 rfl ?_
    obtain rfl := Option.some.inj h
    exact g_zret C nz0 dX8_isFind_17
  · have h := ite_f hc1 h
    refine g_iload_n C 1 dX8_isFind_4 rfl ?_
    refine g_aload_n C 0 dX8_isFind_5 rfl ?_
    refine g_getI C 3 rfl q_X8_97 rfl dX8_isFind_6 ?_
    refine g_icmp_ge C 16 dX8_isFind_9 (by decide) (fun hc2 => ?_) (fun hc2 => ?_)
    · have h := ite_t hc2 h
      refine g_iconst C (0 : Int32) dX8_isFind_16 rfl ?_
      obtain rfl := Option.some.inj h
      exact g_zret C nz0 dX8_isFind_17
    · have h := ite_f hc2 h
      refine g_iconst C (1 : Int32) dX8_isFind_12 rfl ?_
      refine g_goto C 17 dX8_isFind_13 (by decide) ?_
      obtain rfl := Option.some.inj h
      exact g_zret C nz1 dX8_isFind_17
def f_X8_isYear (x1 : Int32) (σ : St) : Option (Int32 × St) := (if x1 < 0 then some ((0 : Int32), σ) else (if (σ.1 0 0) ≤ x1 then some ((0 : Int32), σ) else some ((1 : Int32), σ)))
set_option maxRecDepth 20000 in
theorem m_X8_isYear {l : Launch} {D : va_G} {ca : Nat → ClassId} {ad : Nat → Nat} {x1 : Int32} {σ : St} {R : Int32 × St} (h : f_X8_isYear x1 σ = some R) : gM l D ca ad 26 LM yX8_isYear cX8_isYear 2 (some .boolean) rm_X8_isYear [.ref 0, .int x1] σ (some (.int R.1)) R.2 := by
  refine gM_of (by decide) (Nat.le_of_ble_eq_true rfl) (fun p e s m args below meth c C => ?_)
  refine g_ent (ls' := [(0, .ref 0), (1, .int x1)]) rfl ?_
  unfold f_X8_isYear at h
  refine g_iload_n C 1 dX8_isYear_0 rfl ?_
  refine g_if_lt C 16 dX8_isYear_1 (by decide) (fun hc1 => ?_) (fun hc1 => ?_)
  · have h := ite_t hc1 h
    refine g_iconst C (0 : Int32) dX8_isYear_16 rfl ?_
    obtain rfl := Option.some.inj h
    exact g_zret C nz0 dX8_isYear_17
  · have h := ite_f hc1 h
    refine g_iload_n C 1 dX8_isYear_4 rfl ?_
    refine g_aload_n C 0 dX8_isYear_5 rfl ?_
    refine g_getI C 0 rfl q_X8_7 rfl dX8_isYear_6 ?_
    refine g_icmp_ge C 16 dX8_isYear_9 (by decide) (fun hc2 => ?_) (fun hc2 => ?_)
    · have h := ite_t hc2 h
      refine g_iconst C (0 : Int32) dX8_isYear_16 rfl ?_
      obtain rfl := Option.some.inj h
      exact g_zret C nz0 dX8_isYear_17
    · have h := ite_f hc2 h
      refine g_iconst C (1 : Int32) dX8_isYear_12 rfl ?_
      refine g_goto C 17 dX8_isYear_13 (by decide) ?_
      obtain rfl := Option.some.inj h
      exact g_zret C nz1 dX8_isYear_17
def f_X8_years (x1 : Int32) (σ : St) : Option (Int32 × St) := (f_X8_isIn x1 (1 : Int32) (40 : Int32) σ).bind (fun q1 => (if q1.1 = 0 then some ((-2 : Int32), q1.2) else ap (up1 q1.2 0 0 x1) fun σ3 => some ((q1.2.1 0 0), σ3)))
set_option maxRecDepth 20000 in
theorem m_X8_years {l : Launch} {D : va_G} {ca : Nat → ClassId} {ad : Nat → Nat} {x1 : Int32} {σ : St} {R : Int32 × St} (h : f_X8_years x1 σ = some R) : gM l D ca ad 26 LM yX8_years cX8_years 3 (some .int) rm_X8_years [.ref 0, .int x1] σ (some (.int R.1)) R.2 := by
  refine gM_of (by decide) (Nat.le_of_ble_eq_true rfl) (fun p e s m args below meth c C => ?_)
  refine g_ent (ls' := [(0, .ref 0), (1, .int x1)]) rfl ?_
  unfold f_X8_years at h
  refine g_iload_n C 1 dX8_years_0 rfl ?_
  refine g_iconst C (1 : Int32) dX8_years_1 rfl ?_
  refine g_bipush C (40 : Int32) dX8_years_2 rfl ?_
  obtain ⟨q1, hq1, h⟩ := bd h
  refine g_callSI C [.int x1, .int (1 : Int32), .int (40 : Int32)] qs_X8_100 (m_X8_isIn hq1) rfl rfl ⟨rfl, rfl⟩ ⟨by decide, by decide⟩ (Nat.le_of_ble_eq_true rfl) dX8_years_4 ?_
  refine g_if_ne C 13 dX8_years_7 (by decide) (fun hc2 => ?_) (fun hc2 => ?_)
  · have h := ite_f hc2 h
    refine g_aload_n C 0 dX8_years_13 rfl ?_
    refine g_getI C 0 rfl q_X8_7 rfl dX8_years_14 ?_
    refine g_istore_n C [(2, .int (q1.2.1 0 0)), (0, .ref 0), (1, .int x1)] dX8_years_17 (by decide) rfl ?_
    refine g_aload_n C 1 dX8_years_18 rfl ?_
    refine g_iload_n C 2 dX8_years_19 rfl ?_
    refine g_putI C 0 rfl qp_X8_7 rfl dX8_years_20 ?_
    refine g_nmS (fun σ3 eσ3 => ?_)
    have h := ap_at eσ3 h
    refine g_iload_n C 0 dX8_years_23 rfl ?_
    obtain rfl := Option.some.inj h
    exact g_iret C dX8_years_24
  · have h := ite_t hc2 h
    refine g_bipush C (-2 : Int32) dX8_years_10 rfl ?_
    obtain rfl := Option.some.inj h
    exact g_iret C dX8_years_12
def f_X8_curve (x1 : Int32) (x2 : Int32) (σ : St) : Option (Int32 × St) := (f_X8_isIn x1 (0 : Int32) (39 : Int32) σ).bind (fun q1 => (if q1.1 = 0 then some ((-2 : Int32), q1.2) else (f_X8_isIn x2 (0 : Int32) (2000 : Int32) q1.2).bind (fun q3 => (if q3.1 = 0 then some ((-2 : Int32), q3.2) else cI (ix x1 40) (ap (q3.2.1 1 x1.toNatClampNeg) fun z6 => cI (ix x1 40) (ap (up1 q3.2 1 x1.toNatClampNeg x2) fun σ8 => some (z6, σ8)))))))
set_option maxRecDepth 20000 in
theorem m_X8_curve {l : Launch} {D : va_G} {ca : Nat → ClassId} {ad : Nat → Nat} {x1 : Int32} {x2 : Int32} {σ : St} {R : Int32 × St} (h : f_X8_curve x1 x2 σ = some R) : gM l D ca ad 26 LM yX8_curve cX8_curve 4 (some .int) rm_X8_curve [.ref 0, .int x1, .int x2] σ (some (.int R.1)) R.2 := by
  refine gM_of (by decide) (Nat.le_of_ble_eq_true rfl) (fun p e s m args below meth c C => ?_)
  refine g_ent (ls' := [(0, .ref 0), (1, .int x1), (2, .int x2)]) rfl ?_
  unfold f_X8_curve at h
  refine g_iload_n C 1 dX8_curve_0 rfl ?_
  refine g_iconst C (0 : Int32) dX8_curve_1 rfl ?_
  refine g_bipush C (39 : Int32) dX8_curve_2 rfl ?_
  obtain ⟨q1, hq1, h⟩ := bd h
  refine g_callSI C [.int x1, .int (0 : Int32), .int (39 : Int32)] qs_X8_100 (m_X8_isIn hq1) rfl rfl ⟨rfl, rfl⟩ ⟨by decide, by decide⟩ (Nat.le_of_ble_eq_true rfl) dX8_curve_4 ?_
  refine g_if_eq C 21 dX8_curve_7 (by decide) (fun hc2 => ?_) (fun hc2 => ?_)
  · have h := ite_t hc2 h
    refine g_bipush C (-2 : Int32) dX8_curve_21 rfl ?_
    obtain rfl := Option.some.inj h
    exact g_iret C dX8_curve_23
  · have h := ite_f hc2 h
    refine g_iload_n C 2 dX8_curve_10 rfl ?_
    refine g_iconst C (0 : Int32) dX8_curve_11 rfl ?_
    refine g_sipush C (2000 : Int32) dX8_curve_12 rfl ?_
    obtain ⟨q3, hq3, h⟩ := bd h
    refine g_callSI C [.int x2, .int (0 : Int32), .int (2000 : Int32)] qs_X8_100 (m_X8_isIn hq3) rfl rfl ⟨rfl, rfl⟩ ⟨by decide, by decide⟩ (Nat.le_of_ble_eq_true rfl) dX8_curve_15 ?_
    refine g_if_ne C 24 dX8_curve_18 (by decide) (fun hc4 => ?_) (fun hc4 => ?_)
    · have h := ite_f hc4 h
      refine g_aload_n C 0 dX8_curve_24 rfl ?_
      refine g_getR C 1 1 rfl q_X8_13 rfl rfl dX8_curve_25 ?_
      refine g_iload_n C 1 dX8_curve_28 rfl ?_
      obtain ⟨hi5, h⟩ := cI_some h
      refine g_iald C 40 rfl ho_14 hi5 dX8_curve_29 ?_
      refine g_nmI (fun z6 ez6 => ?_)
      have h := ap_at ez6 h
      refine g_istore_n C [(3, .int z6), (0, .ref 0), (1, .int x1), (2, .int x2)] dX8_curve_30 (by decide) rfl ?_
      refine g_aload_n C 1 dX8_curve_31 rfl ?_
      refine g_getR C 1 1 rfl q_X8_13 rfl rfl dX8_curve_32 ?_
      refine g_iload_n C 2 dX8_curve_35 rfl ?_
      refine g_iload_n C 3 dX8_curve_36 rfl ?_
      obtain ⟨hi7, h⟩ := cI_some h
      refine g_iast C 40 rfl ho_14 hi7 dX8_curve_37 ?_
      refine g_nmS (fun σ8 eσ8 => ?_)
      have h := ap_at eσ8 h
      refine g_iload_n C 0 dX8_curve_38 rfl ?_
      obtain rfl := Option.some.inj h
      exact g_iret C dX8_curve_39
    · have h := ite_t hc4 h
      refine g_bipush C (-2 : Int32) dX8_curve_21 rfl ?_
      obtain rfl := Option.some.inj h
      exact g_iret C dX8_curve_23
def f_X8_miss (x1 : Int32) (x2 : Int32) (σ : St) : Option (Int32 × St) := (f_X8_isIn x1 (0 : Int32) (20 : Int32) σ).bind (fun q1 => (if q1.1 = 0 then some ((-2 : Int32), q1.2) else (f_X8_isIn x2 (0 : Int32) (9 : Int32) q1.2).bind (fun q3 => (if q3.1 = 0 then some ((-2 : Int32), q3.2) else cI (ix x1 21) (ap (q3.2.1 2 x1.toNatClampNeg) fun z6 => cI (ix x1 21) (ap (up1 q3.2 2 x1.toNatClampNeg x2) fun σ8 => some (z6, σ8)))))))
set_option maxRecDepth 20000 in
theorem m_X8_miss {l : Launch} {D : va_G} {ca : Nat → ClassId} {ad : Nat → Nat} {x1 : Int32} {x2 : Int32} {σ : St} {R : Int32 × St} (h : f_X8_miss x1 x2 σ = some R) : gM l D ca ad 26 LM yX8_miss cX8_miss 4 (some .int) rm_X8_miss [.ref 0, .int x1, .int x2] σ (some (.int R.1)) R.2 := by
  refine gM_of (by decide) (Nat.le_of_ble_eq_true rfl) (fun p e s m args below meth c C => ?_)
  refine g_ent (ls' := [(0, .ref 0), (1, .int x1), (2, .int x2)]) rfl ?_
  unfold f_X8_miss at h
  refine g_iload_n C 1 dX8_miss_0 rfl ?_
  refine g_iconst C (0 : Int32) dX8_miss_1 rfl ?_
  refine g_bipush C (20 : Int32) dX8_miss_2 rfl ?_
  obtain ⟨q1, hq1, h⟩ := bd h
  refine g_callSI C [.int x1, .int (0 : Int32), .int (20 : Int32)] qs_X8_100 (m_X8_isIn hq1) rfl rfl ⟨rfl, rfl⟩ ⟨by decide, by decide⟩ (Nat.le_of_ble_eq_true rfl) dX8_miss_4 ?_
  refine g_if_eq C 20 dX8_miss_7 (by decide) (fun hc2 => ?_) (fun hc2 => ?_)
  · have h := ite_t hc2 h
    refine g_bipush C (-2 : Int32) dX8_miss_20 rfl ?_
    obtain rfl := Option.some.inj h
    exact g_iret C dX8_miss_22
  · have h := ite_f hc2 h
    refine g_iload_n C 2 dX8_miss_10 rfl ?_
    refine g_iconst C (0 : Int32) dX8_miss_11 rfl ?_
    refine g_bipush C (9 : Int32) dX8_miss_12 rfl ?_
    obtain ⟨q3, hq3, h⟩ := bd h
    refine g_callSI C [.int x2, .int (0 : Int32), .int (9 : Int32)] qs_X8_100 (m_X8_isIn hq3) rfl rfl ⟨rfl, rfl⟩ ⟨by decide, by decide⟩ (Nat.le_of_ble_eq_true rfl) dX8_miss_14 ?_
    refine g_if_ne C 23 dX8_miss_17 (by decide) (fun hc4 => ?_) (fun hc4 => ?_)
    · have h := ite_f hc4 h
      refine g_aload_n C 0 dX8_miss_23 rfl ?_
      refine g_getR C 2 2 rfl q_X8_17 rfl rfl dX8_miss_24 ?_
      refine g_iload_n C 1 dX8_miss_27 rfl ?_
      obtain ⟨hi5, h⟩ := cI_some h
      refine g_iald C 21 rfl ho_13 hi5 dX8_miss_28 ?_
      refine g_nmI (fun z6 ez6 => ?_)
      have h := ap_at ez6 h
      refine g_istore_n C [(3, .int z6), (0, .ref 0), (1, .int x1), (2, .int x2)] dX8_miss_29 (by decide) rfl ?_
      refine g_aload_n C 1 dX8_miss_30 rfl ?_
      refine g_getR C 2 2 rfl q_X8_17 rfl rfl dX8_miss_31 ?_
      refine g_iload_n C 2 dX8_miss_34 rfl ?_
      refine g_iload_n C 3 dX8_miss_35 rfl ?_
      obtain ⟨hi7, h⟩ := cI_some h
      refine g_iast C 21 rfl ho_13 hi7 dX8_miss_36 ?_
      refine g_nmS (fun σ8 eσ8 => ?_)
      have h := ap_at eσ8 h
      refine g_iload_n C 0 dX8_miss_37 rfl ?_
      obtain rfl := Option.some.inj h
      exact g_iret C dX8_miss_38
    · have h := ite_t hc4 h
      refine g_bipush C (-2 : Int32) dX8_miss_20 rfl ?_
      obtain rfl := Option.some.inj h
      exact g_iret C dX8_miss_22
def f_X8_isSheet (x0 : Int32) (σ : St) : Option (Int32 × St) := (if x0 < 0 then some ((0 : Int32), σ) else (if (4 : Int32) ≤ x0 then some ((0 : Int32), σ) else some ((1 : Int32), σ)))
set_option maxRecDepth 20000 in
theorem m_X8_isSheet {l : Launch} {D : va_G} {ca : Nat → ClassId} {ad : Nat → Nat} {x0 : Int32} {σ : St} {R : Int32 × St} (h : f_X8_isSheet x0 σ = some R) : gM l D ca ad 26 LM yX8_isSheet cX8_isSheet 1 (some .boolean) rm_X8_isSheet [.int x0] σ (some (.int R.1)) R.2 := by
  refine gM_of (by decide) (Nat.le_of_ble_eq_true rfl) (fun p e s m args below meth c C => ?_)
  refine g_ent (ls' := [(0, .int x0)]) rfl ?_
  unfold f_X8_isSheet at h
  refine g_iload_n C 0 dX8_isSheet_0 rfl ?_
  refine g_if_lt C 13 dX8_isSheet_1 (by decide) (fun hc1 => ?_) (fun hc1 => ?_)
  · have h := ite_t hc1 h
    refine g_iconst C (0 : Int32) dX8_isSheet_13 rfl ?_
    obtain rfl := Option.some.inj h
    exact g_zret C nz0 dX8_isSheet_14
  · have h := ite_f hc1 h
    refine g_iload_n C 0 dX8_isSheet_4 rfl ?_
    refine g_iconst C (4 : Int32) dX8_isSheet_5 rfl ?_
    refine g_icmp_ge C 13 dX8_isSheet_6 (by decide) (fun hc2 => ?_) (fun hc2 => ?_)
    · have h := ite_t hc2 h
      refine g_iconst C (0 : Int32) dX8_isSheet_13 rfl ?_
      obtain rfl := Option.some.inj h
      exact g_zret C nz0 dX8_isSheet_14
    · have h := ite_f hc2 h
      refine g_iconst C (1 : Int32) dX8_isSheet_9 rfl ?_
      refine g_goto C 14 dX8_isSheet_10 (by decide) ?_
      obtain rfl := Option.some.inj h
      exact g_zret C nz1 dX8_isSheet_14
def f_X8_sheet_53 : Nat → Int32 → Int32 → Int32 → St → Option (Int32 × St)
  | 0, _, _, _, _ => none
  | n + 1, x1, x3, x4, σ => (if x3 ≤ x4 then some (x3, σ) else cI (ix (((60 : Int32) * x1) + x4) 240) (ap (up1 σ 13 (((60 : Int32) * x1) + x4).toNatClampNeg (0 : Int32)) fun σ3 => (f_X8_sheet_53 n) x1 x3 (x4 + (1 : Int32)) σ3))
set_option maxRecDepth 20000 in
theorem s_X8_sheet_53 {R : Int32 × St} (C : gC p s m args meth c D ca ad 26 LM RX8 cX8_sheet 5 (some .int)) : ∀ (n : Nat) (x1 : Int32) (x3 : Int32) (x4 : Int32) (σ : St), f_X8_sheet_53 n x1 x3 x4 σ = some R → G p l e rm_X8_sheet s m args below meth c D ca ad 26 LM 5 (gEnd below args s D ca ad 26 LM (some (.int R.1)) R.2) 53 [(0, .ref 0), (1, .int x1), (3, .int x3), (4, .int x4)] [] σ := by
  intro n
  induction n with
  | zero =>
    intro x1 x3 x4 σ h
    have h : none = some R := h
    cases h
  | succ n ih =>
    intro x1 x3 x4 σ h
    rw [f_X8_sheet_53] at h
    refine g_iload C 3 dX8_sheet_53 rfl ?_
    refine g_iload_n C 2 dX8_sheet_55 rfl ?_
    refine g_icmp_ge C 78 dX8_sheet_56 (by decide) (fun hc1 => ?_) (fun hc1 => ?_)
    · have h := ite_t hc1 h
      refine g_iload_n C 2 dX8_sheet_78 rfl ?_
      obtain rfl := Option.some.inj h
      exact g_iret C dX8_sheet_79
    · have h := ite_f hc1 h
      refine g_aload_n C 0 dX8_sheet_59 rfl ?_
      refine g_getR C 17 13 rfl q_X8_54 rfl rfl dX8_sheet_60 ?_
      refine g_bipush C (60 : Int32) dX8_sheet_63 rfl ?_
      refine g_iload_n C 1 dX8_sheet_65 rfl ?_
      refine g_imul C dX8_sheet_66 ?_
      refine g_iload C 3 dX8_sheet_67 rfl ?_
      refine g_iadd C dX8_sheet_69 ?_
      refine g_iconst C (0 : Int32) dX8_sheet_70 rfl ?_
      obtain ⟨hi2, h⟩ := cI_some h
      refine g_iast C 240 rfl ho_28 hi2 dX8_sheet_71 ?_
      refine g_nmS (fun σ3 eσ3 => ?_)
      have h := ap_at eσ3 h
      refine g_iinc C 3 [(4, .int (x4 + (1 : Int32))), (0, .ref 0), (1, .int x1), (3, .int x3)] dX8_sheet_72 rfl rfl (by decide) rfl ?_
      refine g_goto C 53 dX8_sheet_75 (by decide) ?_
      exact g_sub [1, 2, 3, 0] rfl (ih x1 x3 (x4 + (1 : Int32)) σ3 h)
def f_X8_sheet (x1 : Int32) (x2 : Int32) (x3 : Int32) (σ : St) : Option (Int32 × St) := (f_X8_isSheet x1 σ).bind (fun q1 => (if q1.1 = 0 then some ((-2 : Int32), q1.2) else (f_X8_isIn x2 (0 : Int32) (3 : Int32) q1.2).bind (fun q3 => (if q3.1 = 0 then some ((-2 : Int32), q3.2) else (if x3 ≤ (60 : Int32) then (if 0 ≤ x3 then cI (ix x1 4) (ap (up1 q3.2 11 x1.toNatClampNeg x2) fun σ8 => cI (ix x1 4) (ap (up1 σ8 12 x1.toNatClampNeg x3) fun σ10 => (f_X8_sheet_53 FU) x1 x3 (0 : Int32) σ10)) else (f_X8_meet (-13 : Int32) q3.2).bind (fun q11 => some (q11.1, q11.2))) else some ((-2 : Int32), q3.2))))))
set_option maxRecDepth 20000 in
theorem m_X8_sheet {l : Launch} {D : va_G} {ca : Nat → ClassId} {ad : Nat → Nat} {x1 : Int32} {x2 : Int32} {x3 : Int32} {σ : St} {R : Int32 × St} (h : f_X8_sheet x1 x2 x3 σ = some R) : gM l D ca ad 26 LM yX8_sheet cX8_sheet 5 (some .int) rm_X8_sheet [.ref 0, .int x1, .int x2, .int x3] σ (some (.int R.1)) R.2 := by
  refine gM_of (by decide) (Nat.le_of_ble_eq_true rfl) (fun p e s m args below meth c C => ?_)
  refine g_ent (ls' := [(0, .ref 0), (1, .int x1), (2, .int x2), (3, .int x3)]) rfl ?_
  unfold f_X8_sheet at h
  refine g_iload_n C 1 dX8_sheet_0 rfl ?_
  obtain ⟨q1, hq1, h⟩ := bd h
  refine g_callSI C [.int x1] qs_X8_104 (m_X8_isSheet hq1) rfl rfl ⟨rfl, rfl⟩ ⟨by decide, by decide⟩ (Nat.le_of_ble_eq_true rfl) dX8_sheet_1 ?_
  refine g_if_eq C 22 dX8_sheet_4 (by decide) (fun hc2 => ?_) (fun hc2 => ?_)
  · have h := ite_t hc2 h
    refine g_bipush C (-2 : Int32) dX8_sheet_22 rfl ?_
    obtain rfl := Option.some.inj h
    exact g_iret C dX8_sheet_24
  · have h := ite_f hc2 h
    refine g_iload_n C 2 dX8_sheet_7 rfl ?_
    refine g_iconst C (0 : Int32) dX8_sheet_8 rfl ?_
    refine g_iconst C (3 : Int32) dX8_sheet_9 rfl ?_
    obtain ⟨q3, hq3, h⟩ := bd h
    refine g_callSI C [.int x2, .int (0 : Int32), .int (3 : Int32)] qs_X8_100 (m_X8_isIn hq3) rfl rfl ⟨rfl, rfl⟩ ⟨by decide, by decide⟩ (Nat.le_of_ble_eq_true rfl) dX8_sheet_10 ?_
    refine g_if_eq C 22 dX8_sheet_13 (by decide) (fun hc4 => ?_) (fun hc4 => ?_)
    · have h := ite_t hc4 h
      refine g_bipush C (-2 : Int32) dX8_sheet_22 rfl ?_
      obtain rfl := Option.some.inj h
      exact g_iret C dX8_sheet_24
    · have h := ite_f hc4 h
      refine g_iload_n C 3 dX8_sheet_16 rfl ?_
      refine g_bipush C (60 : Int32) dX8_sheet_17 rfl ?_
      refine g_icmp_le C 25 dX8_sheet_19 (by decide) (fun hc5 => ?_) (fun hc5 => ?_)
      · have h := ite_t hc5 h
        refine g_iload_n C 3 dX8_sheet_25 rfl ?_
        refine g_if_ge C 36 dX8_sheet_26 (by decide) (fun hc6 => ?_) (fun hc6 => ?_)
        · have h := ite_t hc6 h
          refine g_aload_n C 0 dX8_sheet_36 rfl ?_
          refine g_getR C 15 11 rfl q_X8_48 rfl rfl dX8_sheet_37 ?_
          refine g_iload_n C 1 dX8_sheet_40 rfl ?_
          refine g_iload_n C 2 dX8_sheet_41 rfl ?_
          obtain ⟨hi7, h⟩ := cI_some h
          refine g_iast C 4 rfl ho_27 hi7 dX8_sheet_42 ?_
          refine g_nmS (fun σ8 eσ8 => ?_)
          have h := ap_at eσ8 h
          refine g_aload_n C 0 dX8_sheet_43 rfl ?_
          refine g_getR C 16 12 rfl q_X8_51 rfl rfl dX8_sheet_44 ?_
          refine g_iload_n C 1 dX8_sheet_47 rfl ?_
          refine g_iload_n C 3 dX8_sheet_48 rfl ?_
          obtain ⟨hi9, h⟩ := cI_some h
          refine g_iast C 4 rfl ho_27 hi9 dX8_sheet_49 ?_
          refine g_nmS (fun σ10 eσ10 => ?_)
          have h := ap_at eσ10 h
          refine g_iconst C (0 : Int32) dX8_sheet_50 rfl ?_
          refine g_istore C [(4, .int (0 : Int32)), (0, .ref 0), (1, .int x1), (2, .int x2), (3, .int x3)] dX8_sheet_51 (by decide) rfl ?_
          exact g_sub [1, 2, 4, 0] rfl ((s_X8_sheet_53 C FU) x1 x3 (0 : Int32) σ10 h)
        · have h := ite_f hc6 h
          refine g_aload_n C 0 dX8_sheet_29 rfl ?_
          refine g_bipush C (-13 : Int32) dX8_sheet_30 rfl ?_
          obtain ⟨q11, hq11, h⟩ := bd h
          refine g_callVI C [.int (-13 : Int32)] qv_X8_108 (m_X8_meet hq11) rfl (by decide) rfl rfl rfl ⟨rfl, rfl⟩ ⟨by decide, by decide⟩ (Nat.le_of_ble_eq_true rfl) dX8_sheet_32 ?_
          obtain rfl := Option.some.inj h
          exact g_iret C dX8_sheet_35
      · have h := ite_f hc5 h
        refine g_bipush C (-2 : Int32) dX8_sheet_22 rfl ?_
        obtain rfl := Option.some.inj h
        exact g_iret C dX8_sheet_24
def f_X8_write_40 (σ : St) : Option (Int32 × St) := (f_X8_meet (-11 : Int32) σ).bind (fun q1 => some (q1.1, q1.2))
set_option maxRecDepth 20000 in
theorem s_X8_write_40 {R : Int32 × St} (C : gC p s m args meth c D ca ad 26 LM RX8 cX8_write 6 (some .int)) (σ : St) (h : f_X8_write_40 σ = some R) : G p l e rm_X8_write s m args below meth c D ca ad 26 LM 6 (gEnd below args s D ca ad 26 LM (some (.int R.1)) R.2) 40 [(0, .ref 0)] [] σ := by
  unfold f_X8_write_40 at h
  refine g_aload_n C 0 dX8_write_40 rfl ?_
  refine g_bipush C (-11 : Int32) dX8_write_41 rfl ?_
  obtain ⟨q1, hq1, h⟩ := bd h
  refine g_callVI C [.int (-11 : Int32)] qv_X8_108 (m_X8_meet hq1) rfl (by decide) rfl rfl rfl ⟨rfl, rfl⟩ ⟨by decide, by decide⟩ (Nat.le_of_ble_eq_true rfl) dX8_write_43 ?_
  obtain rfl := Option.some.inj h
  exact g_iret C dX8_write_46
def f_X8_write_113 (x4 : Int32) (xs0 : Int32) (xs1 : Int32) (σ : St) : Option (Int32 × St) := cI (ix xs1 240) (ap (up1 σ 13 xs1.toNatClampNeg xs0) fun σ2 => some (x4, σ2))
set_option maxRecDepth 20000 in
theorem s_X8_write_113 {R : Int32 × St} (C : gC p s m args meth c D ca ad 26 LM RX8 cX8_write 6 (some .int)) (x4 : Int32) (xs0 : Int32) (xs1 : Int32) (σ : St) (h : f_X8_write_113 x4 xs0 xs1 σ = some R) : G p l e rm_X8_write s m args below meth c D ca ad 26 LM 6 (gEnd below args s D ca ad 26 LM (some (.int R.1)) R.2) 113 [(4, .int x4)] [.int xs0, .int xs1, .ref 13] σ := by
  unfold f_X8_write_113 at h
  obtain ⟨hi1, h⟩ := cI_some h
  refine g_iast C 240 rfl ho_28 hi1 dX8_write_113 ?_
  refine g_nmS (fun σ2 eσ2 => ?_)
  have h := ap_at eσ2 h
  refine g_iload C 0 dX8_write_114 rfl ?_
  obtain rfl := Option.some.inj h
  exact g_iret C dX8_write_116
def f_X8_write (x1 : Int32) (x2 : Int32) (x3 : Int32) (σ : St) : Option (Int32 × St) := (f_X8_isSheet x1 σ).bind (fun q1 => (if q1.1 = 0 then some ((-2 : Int32), q1.2) else cI (ix x1 4) ((if 0 ≤ (q1.2.1 12 x1.toNatClampNeg) then (if x2 < 0 then (f_X8_write_40) q1.2 else cI (ix x1 4) ((if x2 < (q1.2.1 12 x1.toNatClampNeg) then cI (ix (((60 : Int32) * x1) + x2) 240) (ap (q1.2.1 13 (((60 : Int32) * x1) + x2).toNatClampNeg) fun z9 => cI (ix x1 4) (ap (q1.2.1 11 x1.toNatClampNeg) fun z11 => (if z11 = 0 then (f_X8_write_113) z9 x3.toInt8.toInt32 (((60 : Int32) * x1) + x2) q1.2 else (if z11 = (1 : Int32) then (f_X8_write_113) z9 x3.toInt16.toInt32 (((60 : Int32) * x1) + x2) q1.2 else (if z11 = (2 : Int32) then (f_X8_write_113) z9 (x3 &&& (65535 : Int32)) (((60 : Int32) * x1) + x2) q1.2 else (f_X8_write_113) z9 x3 (((60 : Int32) * x1) + x2) q1.2))))) else (f_X8_write_40) q1.2))) else (f_X8_meet (-10 : Int32) q1.2).bind (fun q15 => some (q15.1, q15.2))))))
set_option maxRecDepth 20000 in
theorem m_X8_write {l : Launch} {D : va_G} {ca : Nat → ClassId} {ad : Nat → Nat} {x1 : Int32} {x2 : Int32} {x3 : Int32} {σ : St} {R : Int32 × St} (h : f_X8_write x1 x2 x3 σ = some R) : gM l D ca ad 26 LM yX8_write cX8_write 6 (some .int) rm_X8_write [.ref 0, .int x1, .int x2, .int x3] σ (some (.int R.1)) R.2 := by
  refine gM_of (by decide) (Nat.le_of_ble_eq_true rfl) (fun p e s m args below meth c C => ?_)
  refine g_ent (ls' := [(0, .ref 0), (1, .int x1), (2, .int x2), (3, .int x3)]) rfl ?_
  unfold f_X8_write at h
  refine g_iload_n C 1 dX8_write_0 rfl ?_
  obtain ⟨q1, hq1, h⟩ := bd h
  refine g_callSI C [.int x1] qs_X8_104 (m_X8_isSheet hq1) rfl rfl ⟨rfl, rfl⟩ ⟨by decide, by decide⟩ (Nat.le_of_ble_eq_true rfl) dX8_write_1 ?_
  refine g_if_ne C 10 dX8_write_4 (by decide) (fun hc2 => ?_) (fun hc2 => ?_)
  · have h := ite_f hc2 h
    refine g_aload_n C 0 dX8_write_10 rfl ?_
    refine g_getR C 16 12 rfl q_X8_51 rfl rfl dX8_write_11 ?_
    refine g_iload_n C 1 dX8_write_14 rfl ?_
    obtain ⟨hi3, h⟩ := cI_some h
    refine g_iald C 4 rfl ho_27 hi3 dX8_write_15 ?_
    refine g_if_ge C 26 dX8_write_16 (by decide) (fun hc4 => ?_) (fun hc4 => ?_)
    · have h := ite_t hc4 h
      refine g_iload_n C 2 dX8_write_26 rfl ?_
      refine g_if_lt C 40 dX8_write_27 (by decide) (fun hc5 => ?_) (fun hc5 => ?_)
      · have h := ite_t hc5 h
        exact g_sub [0] rfl ((s_X8_write_40 C) q1.2 h)
      · have h := ite_f hc5 h
        refine g_iload_n C 2 dX8_write_30 rfl ?_
        refine g_aload_n C 0 dX8_write_31 rfl ?_
        refine g_getR C 16 12 rfl q_X8_51 rfl rfl dX8_write_32 ?_
        refine g_iload_n C 1 dX8_write_35 rfl ?_
        obtain ⟨hi6, h⟩ := cI_some h
        refine g_iald C 4 rfl ho_27 hi6 dX8_write_36 ?_
        refine g_icmp_lt C 47 dX8_write_37 (by decide) (fun hc7 => ?_) (fun hc7 => ?_)
        · have h := ite_t hc7 h
          refine g_aload_n C 0 dX8_write_47 rfl ?_
          refine g_getR C 17 13 rfl q_X8_54 rfl rfl dX8_write_48 ?_
          refine g_bipush C (60 : Int32) dX8_write_51 rfl ?_
          refine g_iload_n C 1 dX8_write_53 rfl ?_
          refine g_imul C dX8_write_54 ?_
          refine g_iload_n C 2 dX8_write_55 rfl ?_
          refine g_iadd C dX8_write_56 ?_
          obtain ⟨hi8, h⟩ := cI_some h
          refine g_iald C 240 rfl ho_28 hi8 dX8_write_57 ?_
          refine g_nmI (fun z9 ez9 => ?_)
          have h := ap_at ez9 h
          refine g_istore C [(4, .int z9), (0, .ref 0), (1, .int x1), (2, .int x2), (3, .int x3)] dX8_write_58 (by decide) rfl ?_
          refine g_aload_n C 1 dX8_write_60 rfl ?_
          refine g_getR C 15 11 rfl q_X8_48 rfl rfl dX8_write_61 ?_
          refine g_iload_n C 2 dX8_write_64 rfl ?_
          obtain ⟨hi10, h⟩ := cI_some h
          refine g_iald C 4 rfl ho_27 hi10 dX8_write_65 ?_
          refine g_nmI (fun z11 ez11 => ?_)
          have h := ap_at ez11 h
          refine g_istore C [(5, .int z11), (4, .int z9), (0, .ref 0), (1, .int x1), (2, .int x2), (3, .int x3)] dX8_write_66 (by decide) rfl ?_
          refine g_aload_n C 2 dX8_write_68 rfl ?_
          refine g_getR C 17 13 rfl q_X8_54 rfl rfl dX8_write_69 ?_
          refine g_bipush C (60 : Int32) dX8_write_72 rfl ?_
          refine g_iload_n C 3 dX8_write_74 rfl ?_
          refine g_imul C dX8_write_75 ?_
          refine g_iload_n C 4 dX8_write_76 rfl ?_
          refine g_iadd C dX8_write_77 ?_
          refine g_iload C 0 dX8_write_78 rfl ?_
          refine g_if_ne C 88 dX8_write_80 (by decide) (fun hc12 => ?_) (fun hc12 => ?_)
          · have h := ite_f hc12 h
            refine g_iload C 0 dX8_write_88 rfl ?_
            refine g_iconst C (1 : Int32) dX8_write_90 rfl ?_
            refine g_icmp_ne C 99 dX8_write_91 (by decide) (fun hc13 => ?_) (fun hc13 => ?_)
            · have h := ite_f hc13 h
              refine g_iload C 0 dX8_write_99 rfl ?_
              refine g_iconst C (2 : Int32) dX8_write_101 rfl ?_
              refine g_icmp_ne C 112 dX8_write_102 (by decide) (fun hc14 => ?_) (fun hc14 => ?_)
              · have h := ite_f hc14 h
                refine g_iload_n C 5 dX8_write_112 rfl ?_
                exact g_sub [1] rfl ((s_X8_write_113 C) z9 x3 (((60 : Int32) * x1) + x2) q1.2 h)
              · have h := ite_t hc14 h
                refine g_iload_n C 5 dX8_write_105 rfl ?_
                refine g_ldc C (65535 : Int32) qc_X8_112 dX8_write_106 ?_
                refine g_iand C dX8_write_108 ?_
                refine g_goto C 113 dX8_write_109 (by decide) ?_
                exact g_sub [1] rfl ((s_X8_write_113 C) z9 (x3 &&& (65535 : Int32)) (((60 : Int32) * x1) + x2) q1.2 h)
            · have h := ite_t hc13 h
              refine g_iload_n C 5 dX8_write_94 rfl ?_
              refine g_i2s C dX8_write_95 ?_
              refine g_goto C 113 dX8_write_96 (by decide) ?_
              exact g_sub [1] rfl ((s_X8_write_113 C) z9 x3.toInt16.toInt32 (((60 : Int32) * x1) + x2) q1.2 h)
          · have h := ite_t hc12 h
            refine g_iload_n C 5 dX8_write_83 rfl ?_
            refine g_i2b C dX8_write_84 ?_
            refine g_goto C 113 dX8_write_85 (by decide) ?_
            exact g_sub [1] rfl ((s_X8_write_113 C) z9 x3.toInt8.toInt32 (((60 : Int32) * x1) + x2) q1.2 h)
        · have h := ite_f hc7 h
          exact g_sub [0] rfl ((s_X8_write_40 C) q1.2 h)
    · have h := ite_f hc4 h
      refine g_aload_n C 0 dX8_write_19 rfl ?_
      refine g_bipush C (-10 : Int32) dX8_write_20 rfl ?_
      obtain ⟨q15, hq15, h⟩ := bd h
      refine g_callVI C [.int (-10 : Int32)] qv_X8_108 (m_X8_meet hq15) rfl (by decide) rfl rfl rfl ⟨rfl, rfl⟩ ⟨by decide, by decide⟩ (Nat.le_of_ble_eq_true rfl) dX8_write_22 ?_
      obtain rfl := Option.some.inj h
      exact g_iret C dX8_write_25
  · have h := ite_t hc2 h
    refine g_bipush C (-2 : Int32) dX8_write_7 rfl ?_
    obtain rfl := Option.some.inj h
    exact g_iret C dX8_write_9
def f_X8_lose_24 (x1 : Int32) (xs0 : Int32) (σ : St) : Option (Int32 × St) := cI (ix x1 4) (ap (up1 σ 12 x1.toNatClampNeg (-1 : Int32)) fun σ2 => some (xs0, σ2))
set_option maxRecDepth 20000 in
theorem s_X8_lose_24 {R : Int32 × St} (C : gC p s m args meth c D ca ad 26 LM RX8 cX8_lose 3 (some .int)) (x1 : Int32) (xs0 : Int32) (σ : St) (h : f_X8_lose_24 x1 xs0 σ = some R) : G p l e rm_X8_lose s m args below meth c D ca ad 26 LM 3 (gEnd below args s D ca ad 26 LM (some (.int R.1)) R.2) 24 [(0, .ref 0), (1, .int x1)] [.int xs0] σ := by
  unfold f_X8_lose_24 at h
  refine g_istore_n C [(2, .int xs0), (0, .ref 0), (1, .int x1)] dX8_lose_24 (by decide) rfl ?_
  refine g_aload_n C 1 dX8_lose_25 rfl ?_
  refine g_getR C 16 12 rfl q_X8_51 rfl rfl dX8_lose_26 ?_
  refine g_iload_n C 2 dX8_lose_29 rfl ?_
  refine g_iconst C (-1 : Int32) dX8_lose_30 rfl ?_
  obtain ⟨hi1, h⟩ := cI_some h
  refine g_iast C 4 rfl ho_27 hi1 dX8_lose_31 ?_
  refine g_nmS (fun σ2 eσ2 => ?_)
  have h := ap_at eσ2 h
  refine g_iload_n C 0 dX8_lose_32 rfl ?_
  obtain rfl := Option.some.inj h
  exact g_iret C dX8_lose_33
def f_X8_lose (x1 : Int32) (σ : St) : Option (Int32 × St) := (f_X8_isSheet x1 σ).bind (fun q1 => (if q1.1 = 0 then some ((-2 : Int32), q1.2) else cI (ix x1 4) ((if (q1.2.1 12 x1.toNatClampNeg) < 0 then (f_X8_lose_24) x1 (0 : Int32) q1.2 else (f_X8_lose_24) x1 (1 : Int32) q1.2))))
set_option maxRecDepth 20000 in
theorem m_X8_lose {l : Launch} {D : va_G} {ca : Nat → ClassId} {ad : Nat → Nat} {x1 : Int32} {σ : St} {R : Int32 × St} (h : f_X8_lose x1 σ = some R) : gM l D ca ad 26 LM yX8_lose cX8_lose 3 (some .int) rm_X8_lose [.ref 0, .int x1] σ (some (.int R.1)) R.2 := by
  refine gM_of (by decide) (Nat.le_of_ble_eq_true rfl) (fun p e s m args below meth c C => ?_)
  refine g_ent (ls' := [(0, .ref 0), (1, .int x1)]) rfl ?_
  unfold f_X8_lose at h
  refine g_iload_n C 1 dX8_lose_0 rfl ?_
  obtain ⟨q1, hq1, h⟩ := bd h
  refine g_callSI C [.int x1] qs_X8_104 (m_X8_isSheet hq1) rfl rfl ⟨rfl, rfl⟩ ⟨by decide, by decide⟩ (Nat.le_of_ble_eq_true rfl) dX8_lose_1 ?_
  refine g_if_ne C 10 dX8_lose_4 (by decide) (fun hc2 => ?_) (fun hc2 => ?_)
  · have h := ite_f hc2 h
    refine g_aload_n C 0 dX8_lose_10 rfl ?_
    refine g_getR C 16 12 rfl q_X8_51 rfl rfl dX8_lose_11 ?_
    refine g_iload_n C 1 dX8_lose_14 rfl ?_
    obtain ⟨hi3, h⟩ := cI_some h
    refine g_iald C 4 rfl ho_27 hi3 dX8_lose_15 ?_
    refine g_if_lt C 23 dX8_lose_16 (by decide) (fun hc4 => ?_) (fun hc4 => ?_)
    · have h := ite_t hc4 h
      refine g_iconst C (0 : Int32) dX8_lose_23 rfl ?_
      exact g_sub [0, 1] rfl ((s_X8_lose_24 C) x1 (0 : Int32) q1.2 h)
    · have h := ite_f hc4 h
      refine g_iconst C (1 : Int32) dX8_lose_19 rfl ?_
      refine g_goto C 24 dX8_lose_20 (by decide) ?_
      exact g_sub [0, 1] rfl ((s_X8_lose_24 C) x1 (1 : Int32) q1.2 h)
  · have h := ite_t hc2 h
    refine g_bipush C (-2 : Int32) dX8_lose_7 rfl ?_
    obtain rfl := Option.some.inj h
    exact g_iret C dX8_lose_9
def f_X8_lay_99 (σ : St) : Option (Int32 × St) := (f_X8_meet (-11 : Int32) σ).bind (fun q1 => some (q1.1, q1.2))
set_option maxRecDepth 20000 in
theorem s_X8_lay_99 {R : Int32 × St} (C : gC p s m args meth c D ca ad 26 LM RX8 cX8_lay 9 (some .int)) (σ : St) (h : f_X8_lay_99 σ = some R) : G p l e rm_X8_lay s m args below meth c D ca ad 26 LM 9 (gEnd below args s D ca ad 26 LM (some (.int R.1)) R.2) 99 [(0, .ref 0)] [] σ := by
  unfold f_X8_lay_99 at h
  refine g_aload_n C 0 dX8_lay_99 rfl ?_
  refine g_bipush C (-11 : Int32) dX8_lay_100 rfl ?_
  obtain ⟨q1, hq1, h⟩ := bd h
  refine g_callVI C [.int (-11 : Int32)] qv_X8_108 (m_X8_meet hq1) rfl (by decide) rfl rfl rfl ⟨rfl, rfl⟩ ⟨by decide, by decide⟩ (Nat.le_of_ble_eq_true rfl) dX8_lay_102 ?_
  obtain rfl := Option.some.inj h
  exact g_iret C dX8_lay_105
def f_X8_lay_192 (kk112 : Int32 → Int32 → Int32 → Int32 → Int32 → Int32 → St → Option (Int32 × St)) (x1 : Int32) (x3 : Int32) (x4 : Int32) (x5 : Int32) (x6 : Int32) (x7 : Int32) (xs0 : Int32) (xs1 : Int32) (σ : St) : Option (Int32 × St) := cI (ix xs1 40) (ap (up1 σ 1 xs1.toNatClampNeg xs0) fun σ2 => kk112 x1 x3 x4 x5 x6 (x7 + (1 : Int32)) σ2)
set_option maxRecDepth 20000 in
theorem s_X8_lay_192 {R : Int32 × St} (C : gC p s m args meth c D ca ad 26 LM RX8 cX8_lay 9 (some .int)) {kk112 : Int32 → Int32 → Int32 → Int32 → Int32 → Int32 → St → Option (Int32 × St)} (HK112 : ∀ (x1 : Int32) (x3 : Int32) (x4 : Int32) (x5 : Int32) (x6 : Int32) (x7 : Int32) (σ : St), kk112 x1 x3 x4 x5 x6 x7 σ = some R → G p l e rm_X8_lay s m args below meth c D ca ad 26 LM 9 (gEnd below args s D ca ad 26 LM (some (.int R.1)) R.2) 112 [(0, .ref 0), (1, .int x1), (3, .int x3), (4, .int x4), (5, .int x5), (6, .int x6), (7, .int x7)] [] σ) (x1 : Int32) (x3 : Int32) (x4 : Int32) (x5 : Int32) (x6 : Int32) (x7 : Int32) (xs0 : Int32) (xs1 : Int32) (σ : St) (h : f_X8_lay_192 kk112 x1 x3 x4 x5 x6 x7 xs0 xs1 σ = some R) : G p l e rm_X8_lay s m args below meth c D ca ad 26 LM 9 (gEnd below args s D ca ad 26 LM (some (.int R.1)) R.2) 192 [(0, .ref 0), (1, .int x1), (3, .int x3), (4, .int x4), (5, .int x5), (6, .int x6), (7, .int x7)] [.int xs0, .int xs1, .ref 1] σ := by
  unfold f_X8_lay_192 at h
  obtain ⟨hi1, h⟩ := cI_some h
  refine g_iast C 40 rfl ho_14 hi1 dX8_lay_192 ?_
  refine g_nmS (fun σ2 eσ2 => ?_)
  have h := ap_at eσ2 h
  refine g_iinc C 6 [(7, .int (x7 + (1 : Int32))), (0, .ref 0), (1, .int x1), (3, .int x3), (4, .int x4), (5, .int x5), (6, .int x6)] dX8_lay_193 rfl rfl (by decide) rfl ?_
  refine g_goto C 112 dX8_lay_196 (by decide) ?_
  exact g_sub [1, 2, 3, 4, 5, 6, 0] rfl (HK112 x1 x3 x4 x5 x6 (x7 + (1 : Int32)) σ2 h)
def f_X8_lay_155 (kk112 : Int32 → Int32 → Int32 → Int32 → Int32 → Int32 → St → Option (Int32 × St)) (x1 : Int32) (x3 : Int32) (x4 : Int32) (x5 : Int32) (x7 : Int32) (x8 : Int32) (xs0 : Int32) (xs1 : Int32) (σ : St) : Option (Int32 × St) := (if 0 ≤ x8 then (if x8 ≤ (2000 : Int32) then (f_X8_lay_192 kk112) x1 x3 x4 x5 (xs1 + xs0) x7 x8 (x4 + x7) σ else (f_X8_lay_192 kk112) x1 x3 x4 x5 (xs1 + xs0) x7 (2000 : Int32) (x4 + x7) σ) else (f_X8_lay_192 kk112) x1 x3 x4 x5 (xs1 + xs0) x7 (0 : Int32) (x4 + x7) σ)
set_option maxRecDepth 20000 in
theorem s_X8_lay_155 {R : Int32 × St} (C : gC p s m args meth c D ca ad 26 LM RX8 cX8_lay 9 (some .int)) {kk112 : Int32 → Int32 → Int32 → Int32 → Int32 → Int32 → St → Option (Int32 × St)} (HK112 : ∀ (x1 : Int32) (x3 : Int32) (x4 : Int32) (x5 : Int32) (x6 : Int32) (x7 : Int32) (σ : St), kk112 x1 x3 x4 x5 x6 x7 σ = some R → G p l e rm_X8_lay s m args below meth c D ca ad 26 LM 9 (gEnd below args s D ca ad 26 LM (some (.int R.1)) R.2) 112 [(0, .ref 0), (1, .int x1), (3, .int x3), (4, .int x4), (5, .int x5), (6, .int x6), (7, .int x7)] [] σ) (x1 : Int32) (x3 : Int32) (x4 : Int32) (x5 : Int32) (x7 : Int32) (x8 : Int32) (xs0 : Int32) (xs1 : Int32) (σ : St) (h : f_X8_lay_155 kk112 x1 x3 x4 x5 x7 x8 xs0 xs1 σ = some R) : G p l e rm_X8_lay s m args below meth c D ca ad 26 LM 9 (gEnd below args s D ca ad 26 LM (some (.int R.1)) R.2) 155 [(0, .ref 0), (1, .int x1), (3, .int x3), (4, .int x4), (5, .int x5), (7, .int x7), (8, .int x8)] [.int xs0, .int xs1] σ := by
  unfold f_X8_lay_155 at h
  refine g_iadd C dX8_lay_155 ?_
  refine g_istore C [(6, .int (xs1 + xs0)), (0, .ref 0), (1, .int x1), (3, .int x3), (4, .int x4), (5, .int x5), (7, .int x7), (8, .int x8)] dX8_lay_156 (by decide) rfl ?_
  refine g_aload_n C 1 dX8_lay_158 rfl ?_
  refine g_getR C 1 1 rfl q_X8_13 rfl rfl dX8_lay_159 ?_
  refine g_iload C 4 dX8_lay_162 rfl ?_
  refine g_iload C 6 dX8_lay_164 rfl ?_
  refine g_iadd C dX8_lay_166 ?_
  refine g_iload C 7 dX8_lay_167 rfl ?_
  refine g_if_ge C 176 dX8_lay_169 (by decide) (fun hc1 => ?_) (fun hc1 => ?_)
  · have h := ite_t hc1 h
    refine g_iload C 7 dX8_lay_176 rfl ?_
    refine g_sipush C (2000 : Int32) dX8_lay_178 rfl ?_
    refine g_icmp_le C 190 dX8_lay_181 (by decide) (fun hc2 => ?_) (fun hc2 => ?_)
    · have h := ite_t hc2 h
      refine g_iload C 7 dX8_lay_190 rfl ?_
      exact g_sub [1, 2, 3, 4, 5, 0, 6] rfl ((s_X8_lay_192 C HK112) x1 x3 x4 x5 (xs1 + xs0) x7 x8 (x4 + x7) σ h)
    · have h := ite_f hc2 h
      refine g_sipush C (2000 : Int32) dX8_lay_184 rfl ?_
      refine g_goto C 192 dX8_lay_187 (by decide) ?_
      exact g_sub [1, 2, 3, 4, 5, 0, 6] rfl ((s_X8_lay_192 C HK112) x1 x3 x4 x5 (xs1 + xs0) x7 (2000 : Int32) (x4 + x7) σ h)
  · have h := ite_f hc1 h
    refine g_iconst C (0 : Int32) dX8_lay_172 rfl ?_
    refine g_goto C 192 dX8_lay_173 (by decide) ?_
    exact g_sub [1, 2, 3, 4, 5, 0, 6] rfl ((s_X8_lay_192 C HK112) x1 x3 x4 x5 (xs1 + xs0) x7 (0 : Int32) (x4 + x7) σ h)
def f_X8_lay_150 (kk112 : Int32 → Int32 → Int32 → Int32 → Int32 → Int32 → St → Option (Int32 × St)) (x1 : Int32) (x3 : Int32) (x4 : Int32) (x5 : Int32) (x7 : Int32) (x8 : Int32) (xs0 : Int32) (σ : St) : Option (Int32 × St) := (f_X8_lay_155 kk112) x1 x3 x4 x5 x7 x8 (1 : Int32) xs0 σ
set_option maxRecDepth 20000 in
theorem s_X8_lay_150 {R : Int32 × St} (C : gC p s m args meth c D ca ad 26 LM RX8 cX8_lay 9 (some .int)) {kk112 : Int32 → Int32 → Int32 → Int32 → Int32 → Int32 → St → Option (Int32 × St)} (HK112 : ∀ (x1 : Int32) (x3 : Int32) (x4 : Int32) (x5 : Int32) (x6 : Int32) (x7 : Int32) (σ : St), kk112 x1 x3 x4 x5 x6 x7 σ = some R → G p l e rm_X8_lay s m args below meth c D ca ad 26 LM 9 (gEnd below args s D ca ad 26 LM (some (.int R.1)) R.2) 112 [(0, .ref 0), (1, .int x1), (3, .int x3), (4, .int x4), (5, .int x5), (6, .int x6), (7, .int x7)] [] σ) (x1 : Int32) (x3 : Int32) (x4 : Int32) (x5 : Int32) (x7 : Int32) (x8 : Int32) (xs0 : Int32) (σ : St) (h : f_X8_lay_150 kk112 x1 x3 x4 x5 x7 x8 xs0 σ = some R) : G p l e rm_X8_lay s m args below meth c D ca ad 26 LM 9 (gEnd below args s D ca ad 26 LM (some (.int R.1)) R.2) 150 [(0, .ref 0), (1, .int x1), (3, .int x3), (4, .int x4), (5, .int x5), (7, .int x7), (8, .int x8)] [.int xs0] σ := by
  unfold f_X8_lay_150 at h
  refine g_iconst C (1 : Int32) dX8_lay_150 rfl ?_
  refine g_goto C 155 dX8_lay_151 (by decide) ?_
  exact g_sub [0, 1, 2, 3, 4, 5, 6] rfl ((s_X8_lay_155 C HK112) x1 x3 x4 x5 x7 x8 (1 : Int32) xs0 σ h)
def f_X8_lay_112 : Nat → Int32 → Int32 → Int32 → Int32 → Int32 → Int32 → St → Option (Int32 × St)
  | 0, _, _, _, _, _, _, _ => none
  | n + 1, x1, x3, x4, x5, x6, x7, σ => (if x5 ≤ x7 then some (x6, σ) else cI (ix ((((60 : Int32) * x1) + x3) + x7) 240) (ap (σ.1 13 ((((60 : Int32) * x1) + x3) + x7).toNatClampNeg) fun z3 => (if z3 < 0 then (f_X8_lay_150 (f_X8_lay_112 n)) x1 x3 x4 x5 x7 z3 x6 σ else (if z3 ≤ (2000 : Int32) then (f_X8_lay_155 (f_X8_lay_112 n)) x1 x3 x4 x5 x7 z3 (0 : Int32) x6 σ else (f_X8_lay_150 (f_X8_lay_112 n)) x1 x3 x4 x5 x7 z3 x6 σ))))
set_option maxRecDepth 20000 in
theorem s_X8_lay_112 {R : Int32 × St} (C : gC p s m args meth c D ca ad 26 LM RX8 cX8_lay 9 (some .int)) : ∀ (n : Nat) (x1 : Int32) (x3 : Int32) (x4 : Int32) (x5 : Int32) (x6 : Int32) (x7 : Int32) (σ : St), f_X8_lay_112 n x1 x3 x4 x5 x6 x7 σ = some R → G p l e rm_X8_lay s m args below meth c D ca ad 26 LM 9 (gEnd below args s D ca ad 26 LM (some (.int R.1)) R.2) 112 [(0, .ref 0), (1, .int x1), (3, .int x3), (4, .int x4), (5, .int x5), (6, .int x6), (7, .int x7)] [] σ := by
  intro n
  induction n with
  | zero =>
    intro x1 x3 x4 x5 x6 x7 σ h
    have h : none = some R := h
    cases h
  | succ n ih =>
    intro x1 x3 x4 x5 x6 x7 σ h
    rw [f_X8_lay_112] at h
    refine g_iload C 6 dX8_lay_112 rfl ?_
    refine g_iload C 4 dX8_lay_114 rfl ?_
    refine g_icmp_ge C 199 dX8_lay_116 (by decide) (fun hc1 => ?_) (fun hc1 => ?_)
    · have h := ite_t hc1 h
      refine g_iload C 5 dX8_lay_199 rfl ?_
      obtain rfl := Option.some.inj h
      exact g_iret C dX8_lay_201
    · have h := ite_f hc1 h
      refine g_aload_n C 0 dX8_lay_119 rfl ?_
      refine g_getR C 17 13 rfl q_X8_54 rfl rfl dX8_lay_120 ?_
      refine g_bipush C (60 : Int32) dX8_lay_123 rfl ?_
      refine g_iload_n C 1 dX8_lay_125 rfl ?_
      refine g_imul C dX8_lay_126 ?_
      refine g_iload_n C 2 dX8_lay_127 rfl ?_
      refine g_iadd C dX8_lay_128 ?_
      refine g_iload C 6 dX8_lay_129 rfl ?_
      refine g_iadd C dX8_lay_131 ?_
      obtain ⟨hi2, h⟩ := cI_some h
      refine g_iald C 240 rfl ho_28 hi2 dX8_lay_132 ?_
      refine g_nmI (fun z3 ez3 => ?_)
      have h := ap_at ez3 h
      refine g_istore C [(8, .int z3), (0, .ref 0), (1, .int x1), (3, .int x3), (4, .int x4), (5, .int x5), (6, .int x6), (7, .int x7)] dX8_lay_133 (by decide) rfl ?_
      refine g_iload C 6 dX8_lay_135 rfl ?_
      refine g_iload C 0 dX8_lay_137 rfl ?_
      refine g_if_lt C 150 dX8_lay_139 (by decide) (fun hc4 => ?_) (fun hc4 => ?_)
      · have h := ite_t hc4 h
        exact g_sub [1, 2, 3, 4, 5, 7, 0] rfl ((s_X8_lay_150 C ih) x1 x3 x4 x5 x7 z3 x6 σ h)
      · have h := ite_f hc4 h
        refine g_iload C 0 dX8_lay_142 rfl ?_
        refine g_sipush C (2000 : Int32) dX8_lay_144 rfl ?_
        refine g_icmp_le C 154 dX8_lay_147 (by decide) (fun hc5 => ?_) (fun hc5 => ?_)
        · have h := ite_t hc5 h
          refine g_iconst C (0 : Int32) dX8_lay_154 rfl ?_
          exact g_sub [1, 2, 3, 4, 5, 7, 0] rfl ((s_X8_lay_155 C ih) x1 x3 x4 x5 x7 z3 (0 : Int32) x6 σ h)
        · have h := ite_f hc5 h
          exact g_sub [1, 2, 3, 4, 5, 7, 0] rfl ((s_X8_lay_150 C ih) x1 x3 x4 x5 x7 z3 x6 σ h)
def f_X8_lay_106 (x1 : Int32) (x3 : Int32) (x4 : Int32) (x5 : Int32) (σ : St) : Option (Int32 × St) := (f_X8_lay_112 FU) x1 x3 x4 x5 (0 : Int32) (0 : Int32) σ
set_option maxRecDepth 20000 in
theorem s_X8_lay_106 {R : Int32 × St} (C : gC p s m args meth c D ca ad 26 LM RX8 cX8_lay 9 (some .int)) (x1 : Int32) (x3 : Int32) (x4 : Int32) (x5 : Int32) (σ : St) (h : f_X8_lay_106 x1 x3 x4 x5 σ = some R) : G p l e rm_X8_lay s m args below meth c D ca ad 26 LM 9 (gEnd below args s D ca ad 26 LM (some (.int R.1)) R.2) 106 [(0, .ref 0), (1, .int x1), (3, .int x3), (4, .int x4), (5, .int x5)] [] σ := by
  unfold f_X8_lay_106 at h
  refine g_iconst C (0 : Int32) dX8_lay_106 rfl ?_
  refine g_istore C [(6, .int (0 : Int32)), (0, .ref 0), (1, .int x1), (3, .int x3), (4, .int x4), (5, .int x5)] dX8_lay_107 (by decide) rfl ?_
  refine g_iconst C (0 : Int32) dX8_lay_109 rfl ?_
  refine g_istore C [(7, .int (0 : Int32)), (6, .int (0 : Int32)), (0, .ref 0), (1, .int x1), (3, .int x3), (4, .int x4), (5, .int x5)] dX8_lay_110 (by decide) rfl ?_
  exact g_sub [2, 3, 4, 5, 6, 1, 0] rfl ((s_X8_lay_112 C FU) x1 x3 x4 x5 (0 : Int32) (0 : Int32) σ h)
def f_X8_lay (x1 : Int32) (x2 : Int32) (x3 : Int32) (x4 : Int32) (x5 : Int32) (σ : St) : Option (Int32 × St) := (f_X8_isSheet x1 σ).bind (fun q1 => (if q1.1 = 0 then some ((-2 : Int32), q1.2) else (f_X8_isIn x2 (0 : Int32) (3 : Int32) q1.2).bind (fun q3 => (if q3.1 = 0 then some ((-2 : Int32), q3.2) else (f_X8_isIn x4 (0 : Int32) (39 : Int32) q3.2).bind (fun q5 => (if q5.1 = 0 then some ((-2 : Int32), q5.2) else (f_X8_isIn x5 (0 : Int32) ((40 : Int32) - x4) q5.2).bind (fun q7 => (if q7.1 = 0 then some ((-2 : Int32), q7.2) else cI (ix x1 4) ((if 0 ≤ (q7.2.1 12 x1.toNatClampNeg) then cI (ix x1 4) ((if (q7.2.1 11 x1.toNatClampNeg) = x2 then (if x5 ≤ 0 then (f_X8_lay_106) x1 x3 x4 x5 q7.2 else (if x3 < 0 then (f_X8_lay_99) q7.2 else cI (ix x1 4) ((if x3 ≤ ((q7.2.1 12 x1.toNatClampNeg) - x5) then (f_X8_lay_106) x1 x3 x4 x5 q7.2 else (f_X8_lay_99) q7.2)))) else (f_X8_meet (-12 : Int32) q7.2).bind (fun q17 => some (q17.1, q17.2)))) else (f_X8_meet (-10 : Int32) q7.2).bind (fun q18 => some (q18.1, q18.2))))))))))))
set_option maxRecDepth 20000 in
theorem m_X8_lay {l : Launch} {D : va_G} {ca : Nat → ClassId} {ad : Nat → Nat} {x1 : Int32} {x2 : Int32} {x3 : Int32} {x4 : Int32} {x5 : Int32} {σ : St} {R : Int32 × St} (h : f_X8_lay x1 x2 x3 x4 x5 σ = some R) : gM l D ca ad 26 LM yX8_lay cX8_lay 9 (some .int) rm_X8_lay [.ref 0, .int x1, .int x2, .int x3, .int x4, .int x5] σ (some (.int R.1)) R.2 := by
  refine gM_of (by decide) (Nat.le_of_ble_eq_true rfl) (fun p e s m args below meth c C => ?_)
  refine g_ent (ls' := [(0, .ref 0), (1, .int x1), (2, .int x2), (3, .int x3), (4, .int x4), (5, .int x5)]) rfl ?_
  unfold f_X8_lay at h
  refine g_iload_n C 1 dX8_lay_0 rfl ?_
  obtain ⟨q1, hq1, h⟩ := bd h
  refine g_callSI C [.int x1] qs_X8_104 (m_X8_isSheet hq1) rfl rfl ⟨rfl, rfl⟩ ⟨by decide, by decide⟩ (Nat.le_of_ble_eq_true rfl) dX8_lay_1 ?_
  refine g_if_eq C 41 dX8_lay_4 (by decide) (fun hc2 => ?_) (fun hc2 => ?_)
  · have h := ite_t hc2 h
    refine g_bipush C (-2 : Int32) dX8_lay_41 rfl ?_
    obtain rfl := Option.some.inj h
    exact g_iret C dX8_lay_43
  · have h := ite_f hc2 h
    refine g_iload_n C 2 dX8_lay_7 rfl ?_
    refine g_iconst C (0 : Int32) dX8_lay_8 rfl ?_
    refine g_iconst C (3 : Int32) dX8_lay_9 rfl ?_
    obtain ⟨q3, hq3, h⟩ := bd h
    refine g_callSI C [.int x2, .int (0 : Int32), .int (3 : Int32)] qs_X8_100 (m_X8_isIn hq3) rfl rfl ⟨rfl, rfl⟩ ⟨by decide, by decide⟩ (Nat.le_of_ble_eq_true rfl) dX8_lay_10 ?_
    refine g_if_eq C 41 dX8_lay_13 (by decide) (fun hc4 => ?_) (fun hc4 => ?_)
    · have h := ite_t hc4 h
      refine g_bipush C (-2 : Int32) dX8_lay_41 rfl ?_
      obtain rfl := Option.some.inj h
      exact g_iret C dX8_lay_43
    · have h := ite_f hc4 h
      refine g_iload C 4 dX8_lay_16 rfl ?_
      refine g_iconst C (0 : Int32) dX8_lay_18 rfl ?_
      refine g_bipush C (39 : Int32) dX8_lay_19 rfl ?_
      obtain ⟨q5, hq5, h⟩ := bd h
      refine g_callSI C [.int x4, .int (0 : Int32), .int (39 : Int32)] qs_X8_100 (m_X8_isIn hq5) rfl rfl ⟨rfl, rfl⟩ ⟨by decide, by decide⟩ (Nat.le_of_ble_eq_true rfl) dX8_lay_21 ?_
      refine g_if_eq C 41 dX8_lay_24 (by decide) (fun hc6 => ?_) (fun hc6 => ?_)
      · have h := ite_t hc6 h
        refine g_bipush C (-2 : Int32) dX8_lay_41 rfl ?_
        obtain rfl := Option.some.inj h
        exact g_iret C dX8_lay_43
      · have h := ite_f hc6 h
        refine g_iload C 5 dX8_lay_27 rfl ?_
        refine g_iconst C (0 : Int32) dX8_lay_29 rfl ?_
        refine g_bipush C (40 : Int32) dX8_lay_30 rfl ?_
        refine g_iload C 4 dX8_lay_32 rfl ?_
        refine g_isub C dX8_lay_34 ?_
        obtain ⟨q7, hq7, h⟩ := bd h
        refine g_callSI C [.int x5, .int (0 : Int32), .int ((40 : Int32) - x4)] qs_X8_100 (m_X8_isIn hq7) rfl rfl ⟨rfl, rfl⟩ ⟨by decide, by decide⟩ (Nat.le_of_ble_eq_true rfl) dX8_lay_35 ?_
        refine g_if_ne C 44 dX8_lay_38 (by decide) (fun hc8 => ?_) (fun hc8 => ?_)
        · have h := ite_f hc8 h
          refine g_aload_n C 0 dX8_lay_44 rfl ?_
          refine g_getR C 16 12 rfl q_X8_51 rfl rfl dX8_lay_45 ?_
          refine g_iload_n C 1 dX8_lay_48 rfl ?_
          obtain ⟨hi9, h⟩ := cI_some h
          refine g_iald C 4 rfl ho_27 hi9 dX8_lay_49 ?_
          refine g_if_ge C 60 dX8_lay_50 (by decide) (fun hc10 => ?_) (fun hc10 => ?_)
          · have h := ite_t hc10 h
            refine g_aload_n C 0 dX8_lay_60 rfl ?_
            refine g_getR C 15 11 rfl q_X8_48 rfl rfl dX8_lay_61 ?_
            refine g_iload_n C 1 dX8_lay_64 rfl ?_
            obtain ⟨hi11, h⟩ := cI_some h
            refine g_iald C 4 rfl ho_27 hi11 dX8_lay_65 ?_
            refine g_iload_n C 2 dX8_lay_66 rfl ?_
            refine g_icmp_eq C 77 dX8_lay_67 (by decide) (fun hc12 => ?_) (fun hc12 => ?_)
            · have h := ite_t hc12 h
              refine g_iload C 5 dX8_lay_77 rfl ?_
              refine g_if_le C 106 dX8_lay_79 (by decide) (fun hc13 => ?_) (fun hc13 => ?_)
              · have h := ite_t hc13 h
                exact g_sub [0, 1, 3, 4, 5] rfl ((s_X8_lay_106 C) x1 x3 x4 x5 q7.2 h)
              · have h := ite_f hc13 h
                refine g_iload_n C 3 dX8_lay_82 rfl ?_
                refine g_if_lt C 99 dX8_lay_83 (by decide) (fun hc14 => ?_) (fun hc14 => ?_)
                · have h := ite_t hc14 h
                  exact g_sub [0] rfl ((s_X8_lay_99 C) q7.2 h)
                · have h := ite_f hc14 h
                  refine g_iload_n C 3 dX8_lay_86 rfl ?_
                  refine g_aload_n C 0 dX8_lay_87 rfl ?_
                  refine g_getR C 16 12 rfl q_X8_51 rfl rfl dX8_lay_88 ?_
                  refine g_iload_n C 1 dX8_lay_91 rfl ?_
                  obtain ⟨hi15, h⟩ := cI_some h
                  refine g_iald C 4 rfl ho_27 hi15 dX8_lay_92 ?_
                  refine g_iload C 5 dX8_lay_93 rfl ?_
                  refine g_isub C dX8_lay_95 ?_
                  refine g_icmp_le C 106 dX8_lay_96 (by decide) (fun hc16 => ?_) (fun hc16 => ?_)
                  · have h := ite_t hc16 h
                    exact g_sub [0, 1, 3, 4, 5] rfl ((s_X8_lay_106 C) x1 x3 x4 x5 q7.2 h)
                  · have h := ite_f hc16 h
                    exact g_sub [0] rfl ((s_X8_lay_99 C) q7.2 h)
            · have h := ite_f hc12 h
              refine g_aload_n C 0 dX8_lay_70 rfl ?_
              refine g_bipush C (-12 : Int32) dX8_lay_71 rfl ?_
              obtain ⟨q17, hq17, h⟩ := bd h
              refine g_callVI C [.int (-12 : Int32)] qv_X8_108 (m_X8_meet hq17) rfl (by decide) rfl rfl rfl ⟨rfl, rfl⟩ ⟨by decide, by decide⟩ (Nat.le_of_ble_eq_true rfl) dX8_lay_73 ?_
              obtain rfl := Option.some.inj h
              exact g_iret C dX8_lay_76
          · have h := ite_f hc10 h
            refine g_aload_n C 0 dX8_lay_53 rfl ?_
            refine g_bipush C (-10 : Int32) dX8_lay_54 rfl ?_
            obtain ⟨q18, hq18, h⟩ := bd h
            refine g_callVI C [.int (-10 : Int32)] qv_X8_108 (m_X8_meet hq18) rfl (by decide) rfl rfl rfl ⟨rfl, rfl⟩ ⟨by decide, by decide⟩ (Nat.le_of_ble_eq_true rfl) dX8_lay_56 ?_
            obtain rfl := Option.some.inj h
            exact g_iret C dX8_lay_59
        · have h := ite_t hc8 h
          refine g_bipush C (-2 : Int32) dX8_lay_41 rfl ?_
          obtain rfl := Option.some.inj h
          exact g_iret C dX8_lay_43
end
