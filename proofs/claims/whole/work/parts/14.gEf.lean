section
variable {p : Program} {l : Launch} {e : Env} {s : State} {m : MethodId} {args : Array Value} {below : List Frame} {meth : Method} {c : Code} {D : va_G} {ca : Nat → ClassId} {ad : Nat → Nat}
def f_X8_mean_29 (kk60 : Int64 → St → Option (Int64 × St)) : Nat → Int32 → Int64 → Int32 → St → Option (Int64 × St)
  | 0, _, _, _, _ => none
  | n + 1, x1, x3, x5, σ => (if (σ.1 0 0) ≤ x5 then kk60 x3 σ else (f_X8_countIn x1 x5 x5 σ).bind (fun q2 => ap (x3 + (x5.toInt64 * q2.1)) fun z3 => (f_X8_mean_29 kk60 n) x1 z3 (x5 + (1 : Int32)) q2.2))
set_option maxRecDepth 20000 in
theorem s_X8_mean_29 {R : Int64 × St} (C : gC p s m args meth c D ca ad 26 LM RX8 cX8_mean 6 (some .long)) {kk60 : Int64 → St → Option (Int64 × St)} (HK60 : ∀ (x3 : Int64) (σ : St), kk60 x3 σ = some R → G p l e rm_X8_mean s m args below meth c D ca ad 26 LM 6 (gEnd below args s D ca ad 26 LM (some (.long R.1)) R.2) 60 [(0, .ref 0), (3, .long x3)] [] σ) : ∀ (n : Nat) (x1 : Int32) (x3 : Int64) (x5 : Int32) (σ : St), f_X8_mean_29 kk60 n x1 x3 x5 σ = some R → G p l e rm_X8_mean s m args below meth c D ca ad 26 LM 6 (gEnd below args s D ca ad 26 LM (some (.long R.1)) R.2) 29 [(0, .ref 0), (1, .int x1), (3, .long x3), (5, .int x5)] [] σ := by
  intro n
  induction n with
  | zero =>
    intro x1 x3 x5 σ h
    have h : none = some R := h
    cases h
  | succ n ih =>
    intro x1 x3 x5 σ h
    rw [f_X8_mean_29] at h
    refine g_iload C 3 dX8_mean_29 rfl ?_
    refine g_aload_n C 0 dX8_mean_31 rfl ?_
    refine g_getI C 0 rfl q_X8_7 rfl dX8_mean_32 ?_
    refine g_icmp_ge C 60 dX8_mean_35 (by decide) (fun hc1 => ?_) (fun hc1 => ?_)
    · have h := ite_t hc1 h
      exact g_sub [0, 2] rfl (HK60 x3 σ h)
    · have h := ite_f hc1 h
      refine g_lload_n C 2 dX8_mean_38 rfl ?_
      refine g_iload C 3 dX8_mean_39 rfl ?_
      refine g_i2l C dX8_mean_41 ?_
      refine g_aload_n C 0 dX8_mean_42 rfl ?_
      refine g_iload_n C 1 dX8_mean_43 rfl ?_
      refine g_iload C 3 dX8_mean_44 rfl ?_
      refine g_iload C 3 dX8_mean_46 rfl ?_
      obtain ⟨q2, hq2, h⟩ := bd h
      refine g_callVL C [.int x1, .int x5, .int x5] qv_X8_204 (m_X8_countIn hq2) rfl (by decide) rfl rfl rfl ⟨rfl, rfl⟩ ⟨by decide, by decide⟩ (Nat.le_of_ble_eq_true rfl) dX8_mean_48 ?_
      refine g_lmul C dX8_mean_51 ?_
      refine g_ladd C dX8_mean_52 ?_
      refine g_nmL (fun z3 ez3 => ?_)
      have h := ap_at ez3 h
      refine g_lstore_n C [(3, .long z3), (0, .ref 0), (1, .int x1), (5, .int x5)] dX8_mean_53 (by decide) rfl ?_
      refine g_iinc C 3 [(5, .int (x5 + (1 : Int32))), (3, .long z3), (0, .ref 0), (1, .int x1)] dX8_mean_54 rfl rfl (by decide) rfl ?_
      refine g_goto C 29 dX8_mean_57 (by decide) ?_
      exact g_sub [2, 3, 1, 0] rfl (ih x1 z3 (x5 + (1 : Int32)) q2.2 h)
def f_X8_mean_60 (x3 : Int64) (σ : St) : Option (Int64 × St) := (f_X8_fraction x3 (σ.2 0 33) σ).bind (fun q1 => some (q1.1, q1.2))
set_option maxRecDepth 20000 in
theorem s_X8_mean_60 {R : Int64 × St} (C : gC p s m args meth c D ca ad 26 LM RX8 cX8_mean 6 (some .long)) (x3 : Int64) (σ : St) (h : f_X8_mean_60 x3 σ = some R) : G p l e rm_X8_mean s m args below meth c D ca ad 26 LM 6 (gEnd below args s D ca ad 26 LM (some (.long R.1)) R.2) 60 [(0, .ref 0), (3, .long x3)] [] σ := by
  unfold f_X8_mean_60 at h
  refine g_aload_n C 0 dX8_mean_60 rfl ?_
  refine g_lload_n C 1 dX8_mean_61 rfl ?_
  refine g_aload_n C 0 dX8_mean_62 rfl ?_
  refine g_getL C 33 rfl q_X8_186 rfl dX8_mean_63 ?_
  obtain ⟨q1, hq1, h⟩ := bd h
  refine g_callVL C [.long x3, .long (σ.2 0 33)] qv_X8_208 (m_X8_fraction hq1) rfl (by decide) rfl rfl rfl ⟨rfl, rfl⟩ ⟨by decide, by decide⟩ (Nat.le_of_ble_eq_true rfl) dX8_mean_66 ?_
  obtain rfl := Option.some.inj h
  exact g_lret C dX8_mean_69
def f_X8_mean (x1 : Int32) (σ : St) : Option (Int64 × St) := (f_X8_isFind x1 σ).bind (fun q1 => (if q1.1 = 0 then some ((-2 : Int64), q1.2) else (f_X8_askTotal q1.2).bind (fun q3 => (if q3.1 = 0 then (f_X8_mean_29 (f_X8_mean_60) FU) x1 (0 : Int64) (0 : Int32) q3.2 else some (q3.1.toInt64, q3.2)))))
set_option maxRecDepth 20000 in
theorem m_X8_mean {l : Launch} {D : va_G} {ca : Nat → ClassId} {ad : Nat → Nat} {x1 : Int32} {σ : St} {R : Int64 × St} (h : f_X8_mean x1 σ = some R) : gM l D ca ad 26 LM yX8_mean cX8_mean 6 (some .long) rm_X8_mean [.ref 0, .int x1] σ (some (.long R.1)) R.2 := by
  refine gM_of (by decide) (Nat.le_of_ble_eq_true rfl) (fun p e s m args below meth c C => ?_)
  refine g_ent (ls' := [(0, .ref 0), (1, .int x1)]) rfl ?_
  unfold f_X8_mean at h
  refine g_aload_n C 0 dX8_mean_0 rfl ?_
  refine g_iload_n C 1 dX8_mean_1 rfl ?_
  obtain ⟨q1, hq1, h⟩ := bd h
  refine g_callVI C [.int x1] qv_X8_117 (m_X8_isFind hq1) rfl (by decide) rfl rfl rfl ⟨rfl, rfl⟩ ⟨by decide, by decide⟩ (Nat.le_of_ble_eq_true rfl) dX8_mean_2 ?_
  refine g_if_ne C 12 dX8_mean_5 (by decide) (fun hc2 => ?_) (fun hc2 => ?_)
  · have h := ite_f hc2 h
    refine g_aload_n C 0 dX8_mean_12 rfl ?_
    obtain ⟨q3, hq3, h⟩ := bd h
    refine g_callVI C [] qv_X8_201 (m_X8_askTotal hq3) rfl (by decide) rfl rfl rfl ⟨rfl, rfl⟩ ⟨by decide, by decide⟩ (Nat.le_of_ble_eq_true rfl) dX8_mean_13 ?_
    refine g_istore_n C [(2, .int q3.1), (0, .ref 0), (1, .int x1)] dX8_mean_16 (by decide) rfl ?_
    refine g_iload_n C 0 dX8_mean_17 rfl ?_
    refine g_if_eq C 24 dX8_mean_18 (by decide) (fun hc4 => ?_) (fun hc4 => ?_)
    · have h := ite_t hc4 h
      refine g_lconst C (0 : Int64) dX8_mean_24 rfl ?_
      refine g_lstore_n C [(3, .long (0 : Int64)), (2, .int q3.1), (0, .ref 0), (1, .int x1)] dX8_mean_25 (by decide) rfl ?_
      refine g_iconst C (0 : Int32) dX8_mean_26 rfl ?_
      refine g_istore C [(5, .int (0 : Int32)), (3, .long (0 : Int64)), (2, .int q3.1), (0, .ref 0), (1, .int x1)] dX8_mean_27 (by decide) rfl ?_
      exact g_sub [3, 4, 1, 0] rfl ((s_X8_mean_29 C (s_X8_mean_60 C) FU) x1 (0 : Int64) (0 : Int32) q3.2 h)
    · have h := ite_f hc4 h
      refine g_iload_n C 0 dX8_mean_21 rfl ?_
      refine g_i2l C dX8_mean_22 ?_
      obtain rfl := Option.some.inj h
      exact g_lret C dX8_mean_23
  · have h := ite_t hc2 h
    refine g_ldc2 C (-2 : Int64) qc_X8_199 dX8_mean_8 ?_
    obtain rfl := Option.some.inj h
    exact g_lret C dX8_mean_11
def f_X8_tellYears_2 : Nat → Int32 → Int32 → St → Option (St)
  | 0, _, _, _ => none
  | n + 1, x1, x2, σ => (if (σ.1 0 0) ≤ x2 then some σ else (f_X8_countIn x1 x2 x2 σ).bind (fun q2 => cI (ix x2 40) (ap (up2 q2.2 23 x2.toNatClampNeg q2.1) fun σ4 => (f_X8_tellYears_2 n) x1 (x2 + (1 : Int32)) σ4)))
set_option maxRecDepth 20000 in
theorem s_X8_tellYears_2 {R : St} (C : gC p s m args meth c D ca ad 26 LM RX8 cX8_tellYears 3 none) : ∀ (n : Nat) (x1 : Int32) (x2 : Int32) (σ : St), f_X8_tellYears_2 n x1 x2 σ = some R → G p l e rm_X8_tellYears s m args below meth c D ca ad 26 LM 3 (gEnd below args s D ca ad 26 LM none R) 2 [(0, .ref 0), (1, .int x1), (2, .int x2)] [] σ := by
  intro n
  induction n with
  | zero =>
    intro x1 x2 σ h
    have h : none = some R := h
    cases h
  | succ n ih =>
    intro x1 x2 σ h
    rw [f_X8_tellYears_2] at h
    refine g_iload_n C 2 dX8_tellYears_2 rfl ?_
    refine g_aload_n C 0 dX8_tellYears_3 rfl ?_
    refine g_getI C 0 rfl q_X8_7 rfl dX8_tellYears_4 ?_
    refine g_icmp_ge C 29 dX8_tellYears_7 (by decide) (fun hc1 => ?_) (fun hc1 => ?_)
    · have h := ite_t hc1 h
      obtain rfl := Option.some.inj h
      exact g_vret C dX8_tellYears_29
    · have h := ite_f hc1 h
      refine g_aload_n C 0 dX8_tellYears_10 rfl ?_
      refine g_getR C 34 23 rfl q_X8_85 rfl rfl dX8_tellYears_11 ?_
      refine g_iload_n C 2 dX8_tellYears_14 rfl ?_
      refine g_aload_n C 0 dX8_tellYears_15 rfl ?_
      refine g_iload_n C 1 dX8_tellYears_16 rfl ?_
      refine g_iload_n C 2 dX8_tellYears_17 rfl ?_
      refine g_iload_n C 2 dX8_tellYears_18 rfl ?_
      obtain ⟨q2, hq2, h⟩ := bd h
      refine g_callVL C [.int x1, .int x2, .int x2] qv_X8_204 (m_X8_countIn hq2) rfl (by decide) rfl rfl rfl ⟨rfl, rfl⟩ ⟨by decide, by decide⟩ (Nat.le_of_ble_eq_true rfl) dX8_tellYears_19 ?_
      obtain ⟨hi3, h⟩ := cI_some h
      refine g_last C 40 rfl ho_17 hi3 dX8_tellYears_22 ?_
      refine g_nmS (fun σ4 eσ4 => ?_)
      have h := ap_at eσ4 h
      refine g_iinc C 2 [(2, .int (x2 + (1 : Int32))), (0, .ref 0), (1, .int x1)] dX8_tellYears_23 rfl rfl (by decide) rfl ?_
      refine g_goto C 2 dX8_tellYears_26 (by decide) ?_
      exact g_sub [1, 2, 0] rfl (ih x1 (x2 + (1 : Int32)) σ4 h)
def f_X8_tellYears (x1 : Int32) (σ : St) : Option (St) := (f_X8_tellYears_2 FU) x1 (0 : Int32) σ
set_option maxRecDepth 20000 in
theorem m_X8_tellYears {l : Launch} {D : va_G} {ca : Nat → ClassId} {ad : Nat → Nat} {x1 : Int32} {σ : St} {R : St} (h : f_X8_tellYears x1 σ = some R) : gM l D ca ad 26 LM yX8_tellYears cX8_tellYears 3 none rm_X8_tellYears [.ref 0, .int x1] σ none R := by
  refine gM_of (by decide) (Nat.le_of_ble_eq_true rfl) (fun p e s m args below meth c C => ?_)
  refine g_ent (ls' := [(0, .ref 0), (1, .int x1)]) rfl ?_
  unfold f_X8_tellYears at h
  refine g_iconst C (0 : Int32) dX8_tellYears_0 rfl ?_
  refine g_istore_n C [(2, .int (0 : Int32)), (0, .ref 0), (1, .int x1)] dX8_tellYears_1 (by decide) rfl ?_
  exact g_sub [1, 2, 0] rfl ((s_X8_tellYears_2 C FU) x1 (0 : Int32) σ h)
def f_X8_best_64 (kk32 : Int32 → Int32 → St → Option (Int32 × St)) (x4 : Int32) (xs0 : Int32) (σ : St) : Option (Int32 × St) := kk32 xs0 (x4 + (1 : Int32)) σ
set_option maxRecDepth 20000 in
theorem s_X8_best_64 {R : Int32 × St} (C : gC p s m args meth c D ca ad 26 LM RX8 cX8_best 5 (some .int)) {kk32 : Int32 → Int32 → St → Option (Int32 × St)} (HK32 : ∀ (x3 : Int32) (x4 : Int32) (σ : St), kk32 x3 x4 σ = some R → G p l e rm_X8_best s m args below meth c D ca ad 26 LM 5 (gEnd below args s D ca ad 26 LM (some (.int R.1)) R.2) 32 [(0, .ref 0), (3, .int x3), (4, .int x4)] [] σ) (x4 : Int32) (xs0 : Int32) (σ : St) (h : f_X8_best_64 kk32 x4 xs0 σ = some R) : G p l e rm_X8_best s m args below meth c D ca ad 26 LM 5 (gEnd below args s D ca ad 26 LM (some (.int R.1)) R.2) 64 [(0, .ref 0), (4, .int x4)] [.int xs0] σ := by
  unfold f_X8_best_64 at h
  refine g_istore_n C [(3, .int xs0), (0, .ref 0), (4, .int x4)] dX8_best_64 (by decide) rfl ?_
  refine g_iinc C 2 [(4, .int (x4 + (1 : Int32))), (3, .int xs0), (0, .ref 0)] dX8_best_65 rfl rfl (by decide) rfl ?_
  refine g_goto C 32 dX8_best_68 (by decide) ?_
  exact g_sub [2, 1, 0] rfl (HK32 xs0 (x4 + (1 : Int32)) σ h)
def f_X8_best_32 : Nat → Int32 → Int32 → St → Option (Int32 × St)
  | 0, _, _, _ => none
  | n + 1, x3, x4, σ => (if (σ.1 0 0) ≤ x4 then some (x3, σ) else cI (ix x4 40) (cI (ix x3 40) ((if (σ.2 23 x4.toNatClampNeg) ≤ (σ.2 23 x3.toNatClampNeg) then (f_X8_best_64 (f_X8_best_32 n)) x4 x3 σ else (f_X8_best_64 (f_X8_best_32 n)) x4 x4 σ))))
set_option maxRecDepth 20000 in
theorem s_X8_best_32 {R : Int32 × St} (C : gC p s m args meth c D ca ad 26 LM RX8 cX8_best 5 (some .int)) : ∀ (n : Nat) (x3 : Int32) (x4 : Int32) (σ : St), f_X8_best_32 n x3 x4 σ = some R → G p l e rm_X8_best s m args below meth c D ca ad 26 LM 5 (gEnd below args s D ca ad 26 LM (some (.int R.1)) R.2) 32 [(0, .ref 0), (3, .int x3), (4, .int x4)] [] σ := by
  intro n
  induction n with
  | zero =>
    intro x3 x4 σ h
    have h : none = some R := h
    cases h
  | succ n ih =>
    intro x3 x4 σ h
    rw [f_X8_best_32] at h
    refine g_iload C 2 dX8_best_32 rfl ?_
    refine g_aload_n C 0 dX8_best_34 rfl ?_
    refine g_getI C 0 rfl q_X8_7 rfl dX8_best_35 ?_
    refine g_icmp_ge C 71 dX8_best_38 (by decide) (fun hc1 => ?_) (fun hc1 => ?_)
    · have h := ite_t hc1 h
      refine g_iload_n C 1 dX8_best_71 rfl ?_
      obtain rfl := Option.some.inj h
      exact g_iret C dX8_best_72
    · have h := ite_f hc1 h
      refine g_aload_n C 0 dX8_best_41 rfl ?_
      refine g_getR C 34 23 rfl q_X8_85 rfl rfl dX8_best_42 ?_
      refine g_iload C 2 dX8_best_45 rfl ?_
      obtain ⟨hi2, h⟩ := cI_some h
      refine g_lald C 40 rfl ho_17 hi2 dX8_best_47 ?_
      refine g_aload_n C 0 dX8_best_48 rfl ?_
      refine g_getR C 34 23 rfl q_X8_85 rfl rfl dX8_best_49 ?_
      refine g_iload_n C 1 dX8_best_52 rfl ?_
      obtain ⟨hi3, h⟩ := cI_some h
      refine g_lald C 40 rfl ho_17 hi3 dX8_best_53 ?_
      refine g_lcmp_le C 63 dX8_best_54 dX8_best_55 (by decide) (fun hc4 => ?_) (fun hc4 => ?_)
      · have h := ite_t hc4 h
        refine g_iload_n C 1 dX8_best_63 rfl ?_
        exact g_sub [0, 2] rfl ((s_X8_best_64 C ih) x4 x3 σ h)
      · have h := ite_f hc4 h
        refine g_iload C 2 dX8_best_58 rfl ?_
        refine g_goto C 64 dX8_best_60 (by decide) ?_
        exact g_sub [0, 2] rfl ((s_X8_best_64 C ih) x4 x4 σ h)
def f_X8_best (x1 : Int32) (σ : St) : Option (Int32 × St) := (f_X8_isFind x1 σ).bind (fun q1 => (if q1.1 = 0 then some ((-2 : Int32), q1.2) else (f_X8_askTotal q1.2).bind (fun q3 => (if q3.1 = 0 then (f_X8_tellYears x1 q3.2).bind (fun q5 => (f_X8_best_32 FU) (0 : Int32) (1 : Int32) q5) else some (q3.1, q3.2)))))
set_option maxRecDepth 20000 in
theorem m_X8_best {l : Launch} {D : va_G} {ca : Nat → ClassId} {ad : Nat → Nat} {x1 : Int32} {σ : St} {R : Int32 × St} (h : f_X8_best x1 σ = some R) : gM l D ca ad 26 LM yX8_best cX8_best 5 (some .int) rm_X8_best [.ref 0, .int x1] σ (some (.int R.1)) R.2 := by
  refine gM_of (by decide) (Nat.le_of_ble_eq_true rfl) (fun p e s m args below meth c C => ?_)
  refine g_ent (ls' := [(0, .ref 0), (1, .int x1)]) rfl ?_
  unfold f_X8_best at h
  refine g_aload_n C 0 dX8_best_0 rfl ?_
  refine g_iload_n C 1 dX8_best_1 rfl ?_
  obtain ⟨q1, hq1, h⟩ := bd h
  refine g_callVI C [.int x1] qv_X8_117 (m_X8_isFind hq1) rfl (by decide) rfl rfl rfl ⟨rfl, rfl⟩ ⟨by decide, by decide⟩ (Nat.le_of_ble_eq_true rfl) dX8_best_2 ?_
  refine g_if_ne C 11 dX8_best_5 (by decide) (fun hc2 => ?_) (fun hc2 => ?_)
  · have h := ite_f hc2 h
    refine g_aload_n C 0 dX8_best_11 rfl ?_
    obtain ⟨q3, hq3, h⟩ := bd h
    refine g_callVI C [] qv_X8_201 (m_X8_askTotal hq3) rfl (by decide) rfl rfl rfl ⟨rfl, rfl⟩ ⟨by decide, by decide⟩ (Nat.le_of_ble_eq_true rfl) dX8_best_12 ?_
    refine g_istore_n C [(2, .int q3.1), (0, .ref 0), (1, .int x1)] dX8_best_15 (by decide) rfl ?_
    refine g_iload_n C 0 dX8_best_16 rfl ?_
    refine g_if_eq C 22 dX8_best_17 (by decide) (fun hc4 => ?_) (fun hc4 => ?_)
    · have h := ite_t hc4 h
      refine g_aload_n C 1 dX8_best_22 rfl ?_
      refine g_iload_n C 2 dX8_best_23 rfl ?_
      obtain ⟨q5, hq5, h⟩ := bd h
      refine g_callVV C [.int x1] qv_X8_215 (m_X8_tellYears hq5) rfl (by decide) rfl rfl rfl ⟨rfl, rfl⟩ ⟨by decide, by decide⟩ (Nat.le_of_ble_eq_true rfl) dX8_best_24 ?_
      refine g_iconst C (0 : Int32) dX8_best_27 rfl ?_
      refine g_istore_n C [(3, .int (0 : Int32)), (2, .int q3.1), (0, .ref 0), (1, .int x1)] dX8_best_28 (by decide) rfl ?_
      refine g_iconst C (1 : Int32) dX8_best_29 rfl ?_
      refine g_istore C [(4, .int (1 : Int32)), (3, .int (0 : Int32)), (2, .int q3.1), (0, .ref 0), (1, .int x1)] dX8_best_30 (by decide) rfl ?_
      exact g_sub [3, 1, 0] rfl ((s_X8_best_32 C FU) (0 : Int32) (1 : Int32) q5 h)
    · have h := ite_f hc4 h
      refine g_iload_n C 0 dX8_best_20 rfl ?_
      obtain rfl := Option.some.inj h
      exact g_iret C dX8_best_21
  · have h := ite_t hc2 h
    refine g_bipush C (-2 : Int32) dX8_best_8 rfl ?_
    obtain rfl := Option.some.inj h
    exact g_iret C dX8_best_10
def f_X8_span_72 (kk100 : Int32 → Int32 → Int32 → Int64 → St → Option (Int32 × St)) : Nat → Int32 → Int32 → Int32 → Int64 → Int32 → St → Option (Int32 × St)
  | 0, _, _, _, _, _, _ => none
  | n + 1, x2, x4, x5, x6, x8, σ => (if (x5 + x4) ≤ x8 then kk100 x2 x4 x5 x6 σ else cI (ix x8 40) (ap (x6 + (σ.2 23 x8.toNatClampNeg)) fun z3 => (f_X8_span_72 kk100 n) x2 x4 x5 z3 (x8 + (1 : Int32)) σ))
set_option maxRecDepth 20000 in
theorem s_X8_span_72 {R : Int32 × St} (C : gC p s m args meth c D ca ad 26 LM RX8 cX8_span 9 (some .int)) {kk100 : Int32 → Int32 → Int32 → Int64 → St → Option (Int32 × St)} (HK100 : ∀ (x2 : Int32) (x4 : Int32) (x5 : Int32) (x6 : Int64) (σ : St), kk100 x2 x4 x5 x6 σ = some R → G p l e rm_X8_span s m args below meth c D ca ad 26 LM 9 (gEnd below args s D ca ad 26 LM (some (.int R.1)) R.2) 100 [(0, .ref 0), (2, .int x2), (4, .int x4), (5, .int x5), (6, .long x6)] [] σ) : ∀ (n : Nat) (x2 : Int32) (x4 : Int32) (x5 : Int32) (x6 : Int64) (x8 : Int32) (σ : St), f_X8_span_72 kk100 n x2 x4 x5 x6 x8 σ = some R → G p l e rm_X8_span s m args below meth c D ca ad 26 LM 9 (gEnd below args s D ca ad 26 LM (some (.int R.1)) R.2) 72 [(0, .ref 0), (2, .int x2), (4, .int x4), (5, .int x5), (6, .long x6), (8, .int x8)] [] σ := by
  intro n
  induction n with
  | zero =>
    intro x2 x4 x5 x6 x8 σ h
    have h : none = some R := h
    cases h
  | succ n ih =>
    intro x2 x4 x5 x6 x8 σ h
    rw [f_X8_span_72] at h
    refine g_iload C 5 dX8_span_72 rfl ?_
    refine g_iload C 3 dX8_span_74 rfl ?_
    refine g_iload C 2 dX8_span_76 rfl ?_
    refine g_iadd C dX8_span_78 ?_
    refine g_icmp_ge C 100 dX8_span_79 (by decide) (fun hc1 => ?_) (fun hc1 => ?_)
    · have h := ite_t hc1 h
      exact g_sub [0, 1, 2, 3, 4] rfl (HK100 x2 x4 x5 x6 σ h)
    · have h := ite_f hc1 h
      refine g_lload C 4 dX8_span_82 rfl ?_
      refine g_aload_n C 0 dX8_span_84 rfl ?_
      refine g_getR C 34 23 rfl q_X8_85 rfl rfl dX8_span_85 ?_
      refine g_iload C 5 dX8_span_88 rfl ?_
      obtain ⟨hi2, h⟩ := cI_some h
      refine g_lald C 40 rfl ho_17 hi2 dX8_span_90 ?_
      refine g_ladd C dX8_span_91 ?_
      refine g_nmL (fun z3 ez3 => ?_)
      have h := ap_at ez3 h
      refine g_lstore C [(6, .long z3), (0, .ref 0), (2, .int x2), (4, .int x4), (5, .int x5), (8, .int x8)] dX8_span_92 (by decide) rfl ?_
      refine g_iinc C 5 [(8, .int (x8 + (1 : Int32))), (6, .long z3), (0, .ref 0), (2, .int x2), (4, .int x4), (5, .int x5)] dX8_span_94 rfl rfl (by decide) rfl ?_
      refine g_goto C 72 dX8_span_97 (by decide) ?_
      exact g_sub [2, 3, 4, 5, 1, 0] rfl (ih x2 x4 x5 z3 (x8 + (1 : Int32)) σ h)
def f_X8_span_100 (kk53 : Int32 → Int32 → Int32 → St → Option (Int32 × St)) (kk117 : Int32 → Int32 → St → Option (Int32 × St)) (x2 : Int32) (x4 : Int32) (x5 : Int32) (x6 : Int64) (σ : St) : Option (Int32 × St) := (if (x6 * (1000 : Int64)) < (x2.toInt64 * (σ.2 0 33)) then kk53 x2 x4 (x5 + (1 : Int32)) σ else kk117 x4 x5 σ)
set_option maxRecDepth 20000 in
theorem s_X8_span_100 {R : Int32 × St} (C : gC p s m args meth c D ca ad 26 LM RX8 cX8_span 9 (some .int)) {kk53 : Int32 → Int32 → Int32 → St → Option (Int32 × St)} (HK53 : ∀ (x2 : Int32) (x4 : Int32) (x5 : Int32) (σ : St), kk53 x2 x4 x5 σ = some R → G p l e rm_X8_span s m args below meth c D ca ad 26 LM 9 (gEnd below args s D ca ad 26 LM (some (.int R.1)) R.2) 53 [(0, .ref 0), (2, .int x2), (4, .int x4), (5, .int x5)] [] σ) {kk117 : Int32 → Int32 → St → Option (Int32 × St)} (HK117 : ∀ (x4 : Int32) (x5 : Int32) (σ : St), kk117 x4 x5 σ = some R → G p l e rm_X8_span s m args below meth c D ca ad 26 LM 9 (gEnd below args s D ca ad 26 LM (some (.int R.1)) R.2) 117 [(4, .int x4), (5, .int x5)] [] σ) (x2 : Int32) (x4 : Int32) (x5 : Int32) (x6 : Int64) (σ : St) (h : f_X8_span_100 kk53 kk117 x2 x4 x5 x6 σ = some R) : G p l e rm_X8_span s m args below meth c D ca ad 26 LM 9 (gEnd below args s D ca ad 26 LM (some (.int R.1)) R.2) 100 [(0, .ref 0), (2, .int x2), (4, .int x4), (5, .int x5), (6, .long x6)] [] σ := by
  unfold f_X8_span_100 at h
  refine g_lload C 4 dX8_span_100 rfl ?_
  refine g_ldc2 C (1000 : Int64) qc_X8_218 dX8_span_102 ?_
  refine g_lmul C dX8_span_105 ?_
  refine g_iload_n C 1 dX8_span_106 rfl ?_
  refine g_i2l C dX8_span_107 ?_
  refine g_aload_n C 0 dX8_span_108 rfl ?_
  refine g_getL C 33 rfl q_X8_186 rfl dX8_span_109 ?_
  refine g_lmul C dX8_span_112 ?_
  refine g_lcmp_lt C 131 dX8_span_113 dX8_span_114 (by decide) (fun hc1 => ?_) (fun hc1 => ?_)
  · have h := ite_t hc1 h
    refine g_iinc C 3 [(5, .int (x5 + (1 : Int32))), (0, .ref 0), (2, .int x2), (4, .int x4), (6, .long x6)] dX8_span_131 rfl rfl (by decide) rfl ?_
    refine g_goto C 53 dX8_span_134 (by decide) ?_
    exact g_sub [1, 2, 3, 0] rfl (HK53 x2 x4 (x5 + (1 : Int32)) σ h)
  · have h := ite_f hc1 h
    exact g_sub [2, 3] rfl (HK117 x4 x5 σ h)
def f_X8_span_53 (kk117 : Int32 → Int32 → St → Option (Int32 × St)) (kk137 : Int32 → Int32 → St → Option (Int32 × St)) : Nat → Int32 → Int32 → Int32 → St → Option (Int32 × St)
  | 0, _, _, _, _ => none
  | n + 1, x2, x4, x5, σ => (if (σ.1 0 0) < (x5 + x4) then kk137 x2 x4 σ else (f_X8_span_72 (f_X8_span_100 (f_X8_span_53 kk117 kk137 n) kk117) FU) x2 x4 x5 (0 : Int64) x5 σ)
set_option maxRecDepth 20000 in
theorem s_X8_span_53 {R : Int32 × St} (C : gC p s m args meth c D ca ad 26 LM RX8 cX8_span 9 (some .int)) {kk117 : Int32 → Int32 → St → Option (Int32 × St)} (HK117 : ∀ (x4 : Int32) (x5 : Int32) (σ : St), kk117 x4 x5 σ = some R → G p l e rm_X8_span s m args below meth c D ca ad 26 LM 9 (gEnd below args s D ca ad 26 LM (some (.int R.1)) R.2) 117 [(4, .int x4), (5, .int x5)] [] σ) {kk137 : Int32 → Int32 → St → Option (Int32 × St)} (HK137 : ∀ (x2 : Int32) (x4 : Int32) (σ : St), kk137 x2 x4 σ = some R → G p l e rm_X8_span s m args below meth c D ca ad 26 LM 9 (gEnd below args s D ca ad 26 LM (some (.int R.1)) R.2) 137 [(0, .ref 0), (2, .int x2), (4, .int x4)] [] σ) : ∀ (n : Nat) (x2 : Int32) (x4 : Int32) (x5 : Int32) (σ : St), f_X8_span_53 kk117 kk137 n x2 x4 x5 σ = some R → G p l e rm_X8_span s m args below meth c D ca ad 26 LM 9 (gEnd below args s D ca ad 26 LM (some (.int R.1)) R.2) 53 [(0, .ref 0), (2, .int x2), (4, .int x4), (5, .int x5)] [] σ := by
  intro n
  induction n with
  | zero =>
    intro x2 x4 x5 σ h
    have h : none = some R := h
    cases h
  | succ n ih =>
    intro x2 x4 x5 σ h
    rw [f_X8_span_53] at h
    refine g_iload C 3 dX8_span_53 rfl ?_
    refine g_iload C 2 dX8_span_55 rfl ?_
    refine g_iadd C dX8_span_57 ?_
    refine g_aload_n C 0 dX8_span_58 rfl ?_
    refine g_getI C 0 rfl q_X8_7 rfl dX8_span_59 ?_
    refine g_icmp_gt C 137 dX8_span_62 (by decide) (fun hc1 => ?_) (fun hc1 => ?_)
    · have h := ite_t hc1 h
      exact g_sub [0, 1, 2] rfl (HK137 x2 x4 σ h)
    · have h := ite_f hc1 h
      refine g_lconst C (0 : Int64) dX8_span_65 rfl ?_
      refine g_lstore C [(6, .long (0 : Int64)), (0, .ref 0), (2, .int x2), (4, .int x4), (5, .int x5)] dX8_span_66 (by decide) rfl ?_
      refine g_iload C 4 dX8_span_68 rfl ?_
      refine g_istore C [(8, .int x5), (6, .long (0 : Int64)), (0, .ref 0), (2, .int x2), (4, .int x4), (5, .int x5)] dX8_span_70 (by decide) rfl ?_
      exact g_sub [2, 3, 4, 5, 1, 0] rfl ((s_X8_span_72 C (s_X8_span_100 C ih HK117) FU) x2 x4 x5 (0 : Int64) x5 σ h)
def f_X8_span_137 (kk41 : Int32 → Int32 → St → Option (Int32 × St)) (x2 : Int32) (x4 : Int32) (σ : St) : Option (Int32 × St) := kk41 x2 (x4 + (1 : Int32)) σ
set_option maxRecDepth 20000 in
theorem s_X8_span_137 {R : Int32 × St} (C : gC p s m args meth c D ca ad 26 LM RX8 cX8_span 9 (some .int)) {kk41 : Int32 → Int32 → St → Option (Int32 × St)} (HK41 : ∀ (x2 : Int32) (x4 : Int32) (σ : St), kk41 x2 x4 σ = some R → G p l e rm_X8_span s m args below meth c D ca ad 26 LM 9 (gEnd below args s D ca ad 26 LM (some (.int R.1)) R.2) 41 [(0, .ref 0), (2, .int x2), (4, .int x4)] [] σ) (x2 : Int32) (x4 : Int32) (σ : St) (h : f_X8_span_137 kk41 x2 x4 σ = some R) : G p l e rm_X8_span s m args below meth c D ca ad 26 LM 9 (gEnd below args s D ca ad 26 LM (some (.int R.1)) R.2) 137 [(0, .ref 0), (2, .int x2), (4, .int x4)] [] σ := by
  unfold f_X8_span_137 at h
  refine g_iinc C 2 [(4, .int (x4 + (1 : Int32))), (0, .ref 0), (2, .int x2)] dX8_span_137 rfl rfl (by decide) rfl ?_
  refine g_goto C 41 dX8_span_140 (by decide) ?_
  exact g_sub [1, 2, 0] rfl (HK41 x2 (x4 + (1 : Int32)) σ h)
def f_X8_span_41 (kk117 : Int32 → Int32 → St → Option (Int32 × St)) : Nat → Int32 → Int32 → St → Option (Int32 × St)
  | 0, _, _, _ => none
  | n + 1, x2, x4, σ => (if (σ.1 0 0) ≤ x4 then some (((σ.1 0 0) - (1 : Int32)), σ) else (f_X8_span_53 kk117 (f_X8_span_137 (f_X8_span_41 kk117 n)) FU) x2 x4 (0 : Int32) σ)
set_option maxRecDepth 20000 in
theorem s_X8_span_41 {R : Int32 × St} (C : gC p s m args meth c D ca ad 26 LM RX8 cX8_span 9 (some .int)) {kk117 : Int32 → Int32 → St → Option (Int32 × St)} (HK117 : ∀ (x4 : Int32) (x5 : Int32) (σ : St), kk117 x4 x5 σ = some R → G p l e rm_X8_span s m args below meth c D ca ad 26 LM 9 (gEnd below args s D ca ad 26 LM (some (.int R.1)) R.2) 117 [(4, .int x4), (5, .int x5)] [] σ) : ∀ (n : Nat) (x2 : Int32) (x4 : Int32) (σ : St), f_X8_span_41 kk117 n x2 x4 σ = some R → G p l e rm_X8_span s m args below meth c D ca ad 26 LM 9 (gEnd below args s D ca ad 26 LM (some (.int R.1)) R.2) 41 [(0, .ref 0), (2, .int x2), (4, .int x4)] [] σ := by
  intro n
  induction n with
  | zero =>
    intro x2 x4 σ h
    have h : none = some R := h
    cases h
  | succ n ih =>
    intro x2 x4 σ h
    rw [f_X8_span_41] at h
    refine g_iload C 2 dX8_span_41 rfl ?_
    refine g_aload_n C 0 dX8_span_43 rfl ?_
    refine g_getI C 0 rfl q_X8_7 rfl dX8_span_44 ?_
    refine g_icmp_ge C 143 dX8_span_47 (by decide) (fun hc1 => ?_) (fun hc1 => ?_)
    · have h := ite_t hc1 h
      refine g_aload_n C 0 dX8_span_143 rfl ?_
      refine g_getI C 0 rfl q_X8_7 rfl dX8_span_144 ?_
      refine g_iconst C (1 : Int32) dX8_span_147 rfl ?_
      refine g_isub C dX8_span_148 ?_
      obtain rfl := Option.some.inj h
      exact g_iret C dX8_span_149
    · have h := ite_f hc1 h
      refine g_iconst C (0 : Int32) dX8_span_50 rfl ?_
      refine g_istore C [(5, .int (0 : Int32)), (0, .ref 0), (2, .int x2), (4, .int x4)] dX8_span_51 (by decide) rfl ?_
      exact g_sub [1, 2, 3, 0] rfl ((s_X8_span_53 C HK117 (s_X8_span_137 C ih) FU) x2 x4 (0 : Int32) σ h)
def f_X8_span_117 (x4 : Int32) (x5 : Int32) (σ : St) : Option (Int32 × St) := some ((((((100 : Int32) * x5) + x5) + x4) - (1 : Int32)), σ)
set_option maxRecDepth 20000 in
theorem s_X8_span_117 {R : Int32 × St} (C : gC p s m args meth c D ca ad 26 LM RX8 cX8_span 9 (some .int)) (x4 : Int32) (x5 : Int32) (σ : St) (h : f_X8_span_117 x4 x5 σ = some R) : G p l e rm_X8_span s m args below meth c D ca ad 26 LM 9 (gEnd below args s D ca ad 26 LM (some (.int R.1)) R.2) 117 [(4, .int x4), (5, .int x5)] [] σ := by
  unfold f_X8_span_117 at h
  refine g_bipush C (100 : Int32) dX8_span_117 rfl ?_
  refine g_iload C 1 dX8_span_119 rfl ?_
  refine g_imul C dX8_span_121 ?_
  refine g_iload C 1 dX8_span_122 rfl ?_
  refine g_iadd C dX8_span_124 ?_
  refine g_iload C 0 dX8_span_125 rfl ?_
  refine g_iadd C dX8_span_127 ?_
  refine g_iconst C (1 : Int32) dX8_span_128 rfl ?_
  refine g_isub C dX8_span_129 ?_
  obtain rfl := Option.some.inj h
  exact g_iret C dX8_span_130
def f_X8_span (x1 : Int32) (x2 : Int32) (σ : St) : Option (Int32 × St) := (f_X8_isFind x1 σ).bind (fun q1 => (if q1.1 = 0 then some ((-2 : Int32), q1.2) else (f_X8_isIn x2 (1 : Int32) (1000 : Int32) q1.2).bind (fun q3 => (if q3.1 = 0 then some ((-2 : Int32), q3.2) else (f_X8_askTotal q3.2).bind (fun q5 => (if q5.1 = 0 then (f_X8_tellYears x1 q5.2).bind (fun q7 => (f_X8_span_41 (f_X8_span_117) FU) x2 (1 : Int32) q7) else some (q5.1, q5.2)))))))
set_option maxRecDepth 20000 in
theorem m_X8_span {l : Launch} {D : va_G} {ca : Nat → ClassId} {ad : Nat → Nat} {x1 : Int32} {x2 : Int32} {σ : St} {R : Int32 × St} (h : f_X8_span x1 x2 σ = some R) : gM l D ca ad 26 LM yX8_span cX8_span 9 (some .int) rm_X8_span [.ref 0, .int x1, .int x2] σ (some (.int R.1)) R.2 := by
  refine gM_of (by decide) (Nat.le_of_ble_eq_true rfl) (fun p e s m args below meth c C => ?_)
  refine g_ent (ls' := [(0, .ref 0), (1, .int x1), (2, .int x2)]) rfl ?_
  unfold f_X8_span at h
  refine g_aload_n C 0 dX8_span_0 rfl ?_
  refine g_iload_n C 1 dX8_span_1 rfl ?_
  obtain ⟨q1, hq1, h⟩ := bd h
  refine g_callVI C [.int x1] qv_X8_117 (m_X8_isFind hq1) rfl (by decide) rfl rfl rfl ⟨rfl, rfl⟩ ⟨by decide, by decide⟩ (Nat.le_of_ble_eq_true rfl) dX8_span_2 ?_
  refine g_if_eq C 19 dX8_span_5 (by decide) (fun hc2 => ?_) (fun hc2 => ?_)
  · have h := ite_t hc2 h
    refine g_bipush C (-2 : Int32) dX8_span_19 rfl ?_
    obtain rfl := Option.some.inj h
    exact g_iret C dX8_span_21
  · have h := ite_f hc2 h
    refine g_iload_n C 2 dX8_span_8 rfl ?_
    refine g_iconst C (1 : Int32) dX8_span_9 rfl ?_
    refine g_sipush C (1000 : Int32) dX8_span_10 rfl ?_
    obtain ⟨q3, hq3, h⟩ := bd h
    refine g_callSI C [.int x2, .int (1 : Int32), .int (1000 : Int32)] qs_X8_100 (m_X8_isIn hq3) rfl rfl ⟨rfl, rfl⟩ ⟨by decide, by decide⟩ (Nat.le_of_ble_eq_true rfl) dX8_span_13 ?_
    refine g_if_ne C 22 dX8_span_16 (by decide) (fun hc4 => ?_) (fun hc4 => ?_)
    · have h := ite_f hc4 h
      refine g_aload_n C 0 dX8_span_22 rfl ?_
      obtain ⟨q5, hq5, h⟩ := bd h
      refine g_callVI C [] qv_X8_201 (m_X8_askTotal hq5) rfl (by decide) rfl rfl rfl ⟨rfl, rfl⟩ ⟨by decide, by decide⟩ (Nat.le_of_ble_eq_true rfl) dX8_span_23 ?_
      refine g_istore_n C [(3, .int q5.1), (0, .ref 0), (1, .int x1), (2, .int x2)] dX8_span_26 (by decide) rfl ?_
      refine g_iload_n C 0 dX8_span_27 rfl ?_
      refine g_if_eq C 33 dX8_span_28 (by decide) (fun hc6 => ?_) (fun hc6 => ?_)
      · have h := ite_t hc6 h
        refine g_aload_n C 1 dX8_span_33 rfl ?_
        refine g_iload_n C 2 dX8_span_34 rfl ?_
        obtain ⟨q7, hq7, h⟩ := bd h
        refine g_callVV C [.int x1] qv_X8_215 (m_X8_tellYears hq7) rfl (by decide) rfl rfl rfl ⟨rfl, rfl⟩ ⟨by decide, by decide⟩ (Nat.le_of_ble_eq_true rfl) dX8_span_35 ?_
        refine g_iconst C (1 : Int32) dX8_span_38 rfl ?_
        refine g_istore C [(4, .int (1 : Int32)), (3, .int q5.1), (0, .ref 0), (1, .int x1), (2, .int x2)] dX8_span_39 (by decide) rfl ?_
        exact g_sub [2, 4, 0] rfl ((s_X8_span_41 C (s_X8_span_117 C) FU) x2 (1 : Int32) q7 h)
      · have h := ite_f hc6 h
        refine g_iload_n C 0 dX8_span_31 rfl ?_
        obtain rfl := Option.some.inj h
        exact g_iret C dX8_span_32
    · have h := ite_t hc4 h
      refine g_bipush C (-2 : Int32) dX8_span_19 rfl ?_
      obtain rfl := Option.some.inj h
      exact g_iret C dX8_span_21
def f_X8_strange_26 (kk64 : Int32 → St → Option (Int64 × St)) : Nat → Int32 → Int32 → St → Option (Int64 × St)
  | 0, _, _, _ => none
  | n + 1, x1, x3, σ => (if (σ.1 0 0) ≤ x3 then kk64 x1 σ else cI (ix x1 7) ((f_X8_meanOf x1 σ).bind (fun q3 => cI (ix (((40 : Int32) * x1) + x3) 280) (ap (up2 q3.2 17 (((40 : Int32) * x1) + x3).toNatClampNeg ((σ.1 4 x1.toNatClampNeg).toInt64 * q3.1)) fun σ5 => (f_X8_strange_26 kk64 n) x1 (x3 + (1 : Int32)) σ5))))
set_option maxRecDepth 20000 in
theorem s_X8_strange_26 {R : Int64 × St} (C : gC p s m args meth c D ca ad 26 LM RX8 cX8_strange 4 (some .long)) {kk64 : Int32 → St → Option (Int64 × St)} (HK64 : ∀ (x1 : Int32) (σ : St), kk64 x1 σ = some R → G p l e rm_X8_strange s m args below meth c D ca ad 26 LM 4 (gEnd below args s D ca ad 26 LM (some (.long R.1)) R.2) 64 [(0, .ref 0), (1, .int x1)] [] σ) : ∀ (n : Nat) (x1 : Int32) (x3 : Int32) (σ : St), f_X8_strange_26 kk64 n x1 x3 σ = some R → G p l e rm_X8_strange s m args below meth c D ca ad 26 LM 4 (gEnd below args s D ca ad 26 LM (some (.long R.1)) R.2) 26 [(0, .ref 0), (1, .int x1), (3, .int x3)] [] σ := by
  intro n
  induction n with
  | zero =>
    intro x1 x3 σ h
    have h : none = some R := h
    cases h
  | succ n ih =>
    intro x1 x3 σ h
    rw [f_X8_strange_26] at h
    refine g_iload_n C 2 dX8_strange_26 rfl ?_
    refine g_aload_n C 0 dX8_strange_27 rfl ?_
    refine g_getI C 0 rfl q_X8_7 rfl dX8_strange_28 ?_
    refine g_icmp_ge C 64 dX8_strange_31 (by decide) (fun hc1 => ?_) (fun hc1 => ?_)
    · have h := ite_t hc1 h
      exact g_sub [0, 1] rfl (HK64 x1 σ h)
    · have h := ite_f hc1 h
      refine g_aload_n C 0 dX8_strange_34 rfl ?_
      refine g_getR C 26 17 rfl q_X8_66 rfl rfl dX8_strange_35 ?_
      refine g_bipush C (40 : Int32) dX8_strange_38 rfl ?_
      refine g_iload_n C 1 dX8_strange_40 rfl ?_
      refine g_imul C dX8_strange_41 ?_
      refine g_iload_n C 2 dX8_strange_42 rfl ?_
      refine g_iadd C dX8_strange_43 ?_
      refine g_aload_n C 0 dX8_strange_44 rfl ?_
      refine g_getR C 5 4 rfl q_X8_23 rfl rfl dX8_strange_45 ?_
      refine g_iload_n C 1 dX8_strange_48 rfl ?_
      obtain ⟨hi2, h⟩ := cI_some h
      refine g_iald C 7 rfl ho_11 hi2 dX8_strange_49 ?_
      refine g_i2l C dX8_strange_50 ?_
      refine g_aload_n C 0 dX8_strange_51 rfl ?_
      refine g_iload_n C 1 dX8_strange_52 rfl ?_
      obtain ⟨q3, hq3, h⟩ := bd h
      refine g_callVL C [.int x1] qv_X8_128 (m_X8_meanOf hq3) rfl (by decide) rfl rfl rfl ⟨rfl, rfl⟩ ⟨by decide, by decide⟩ (Nat.le_of_ble_eq_true rfl) dX8_strange_53 ?_
      refine g_lmul C dX8_strange_56 ?_
      obtain ⟨hi4, h⟩ := cI_some h
      refine g_last C 280 rfl ho_19 hi4 dX8_strange_57 ?_
      refine g_nmS (fun σ5 eσ5 => ?_)
      have h := ap_at eσ5 h
      refine g_iinc C 2 [(3, .int (x3 + (1 : Int32))), (0, .ref 0), (1, .int x1)] dX8_strange_58 rfl rfl (by decide) rfl ?_
      refine g_goto C 26 dX8_strange_61 (by decide) ?_
      exact g_sub [1, 2, 0] rfl (ih x1 (x3 + (1 : Int32)) σ5 h)
def f_X8_strange_82 (xs0 : Int64) (σ : St) : Option (Int64 × St) := (f_X8_fraction xs0 (σ.2 0 33) σ).bind (fun q1 => some (q1.1, q1.2))
set_option maxRecDepth 20000 in
theorem s_X8_strange_82 {R : Int64 × St} (C : gC p s m args meth c D ca ad 26 LM RX8 cX8_strange 4 (some .long)) (xs0 : Int64) (σ : St) (h : f_X8_strange_82 xs0 σ = some R) : G p l e rm_X8_strange s m args below meth c D ca ad 26 LM 4 (gEnd below args s D ca ad 26 LM (some (.long R.1)) R.2) 82 [(0, .ref 0)] [.long xs0, .ref 0] σ := by
  unfold f_X8_strange_82 at h
  refine g_aload_n C 0 dX8_strange_82 rfl ?_
  refine g_getL C 33 rfl q_X8_186 rfl dX8_strange_83 ?_
  obtain ⟨q1, hq1, h⟩ := bd h
  refine g_callVL C [.long xs0, .long (σ.2 0 33)] qv_X8_208 (m_X8_fraction hq1) rfl (by decide) rfl rfl rfl ⟨rfl, rfl⟩ ⟨by decide, by decide⟩ (Nat.le_of_ble_eq_true rfl) dX8_strange_86 ?_
  obtain rfl := Option.some.inj h
  exact g_lret C dX8_strange_89
def f_X8_strange_64 (x1 : Int32) (σ : St) : Option (Int64 × St) := cI (ix x1 7) ((if (σ.1 4 x1.toNatClampNeg) = 0 then (f_X8_strange_82) (0 : Int64) σ else (f_X8_count σ).bind (fun q3 => (f_X8_strange_82) q3.1 q3.2)))
set_option maxRecDepth 20000 in
theorem s_X8_strange_64 {R : Int64 × St} (C : gC p s m args meth c D ca ad 26 LM RX8 cX8_strange 4 (some .long)) (x1 : Int32) (σ : St) (h : f_X8_strange_64 x1 σ = some R) : G p l e rm_X8_strange s m args below meth c D ca ad 26 LM 4 (gEnd below args s D ca ad 26 LM (some (.long R.1)) R.2) 64 [(0, .ref 0), (1, .int x1)] [] σ := by
  unfold f_X8_strange_64 at h
  refine g_aload_n C 0 dX8_strange_64 rfl ?_
  refine g_aload_n C 0 dX8_strange_65 rfl ?_
  refine g_getR C 5 4 rfl q_X8_23 rfl rfl dX8_strange_66 ?_
  refine g_iload_n C 1 dX8_strange_69 rfl ?_
  obtain ⟨hi1, h⟩ := cI_some h
  refine g_iald C 7 rfl ho_11 hi1 dX8_strange_70 ?_
  refine g_if_ne C 78 dX8_strange_71 (by decide) (fun hc2 => ?_) (fun hc2 => ?_)
  · have h := ite_f hc2 h
    refine g_aload_n C 0 dX8_strange_78 rfl ?_
    obtain ⟨q3, hq3, h⟩ := bd h
    refine g_callVL C [] qv_X8_182 (m_X8_count hq3) rfl (by decide) rfl rfl rfl ⟨rfl, rfl⟩ ⟨by decide, by decide⟩ (Nat.le_of_ble_eq_true rfl) dX8_strange_79 ?_
    exact g_sub [0] rfl ((s_X8_strange_82 C) q3.1 q3.2 h)
  · have h := ite_t hc2 h
    refine g_lconst C (0 : Int64) dX8_strange_74 rfl ?_
    refine g_goto C 82 dX8_strange_75 (by decide) ?_
    exact g_sub [0] rfl ((s_X8_strange_82 C) (0 : Int64) σ h)
def f_X8_strange (x1 : Int32) (σ : St) : Option (Int64 × St) := (f_X8_isFind x1 σ).bind (fun q1 => (if q1.1 = 0 then some ((-2 : Int64), q1.2) else (f_X8_askTotal q1.2).bind (fun q3 => (if q3.1 = 0 then (f_X8_strange_26 (f_X8_strange_64) FU) x1 (0 : Int32) q3.2 else some (q3.1.toInt64, q3.2)))))
set_option maxRecDepth 20000 in
theorem m_X8_strange {l : Launch} {D : va_G} {ca : Nat → ClassId} {ad : Nat → Nat} {x1 : Int32} {σ : St} {R : Int64 × St} (h : f_X8_strange x1 σ = some R) : gM l D ca ad 26 LM yX8_strange cX8_strange 4 (some .long) rm_X8_strange [.ref 0, .int x1] σ (some (.long R.1)) R.2 := by
  refine gM_of (by decide) (Nat.le_of_ble_eq_true rfl) (fun p e s m args below meth c C => ?_)
  refine g_ent (ls' := [(0, .ref 0), (1, .int x1)]) rfl ?_
  unfold f_X8_strange at h
  refine g_aload_n C 0 dX8_strange_0 rfl ?_
  refine g_iload_n C 1 dX8_strange_1 rfl ?_
  obtain ⟨q1, hq1, h⟩ := bd h
  refine g_callVI C [.int x1] qv_X8_117 (m_X8_isFind hq1) rfl (by decide) rfl rfl rfl ⟨rfl, rfl⟩ ⟨by decide, by decide⟩ (Nat.le_of_ble_eq_true rfl) dX8_strange_2 ?_
  refine g_if_ne C 12 dX8_strange_5 (by decide) (fun hc2 => ?_) (fun hc2 => ?_)
  · have h := ite_f hc2 h
    refine g_aload_n C 0 dX8_strange_12 rfl ?_
    obtain ⟨q3, hq3, h⟩ := bd h
    refine g_callVI C [] qv_X8_201 (m_X8_askTotal hq3) rfl (by decide) rfl rfl rfl ⟨rfl, rfl⟩ ⟨by decide, by decide⟩ (Nat.le_of_ble_eq_true rfl) dX8_strange_13 ?_
    refine g_istore_n C [(2, .int q3.1), (0, .ref 0), (1, .int x1)] dX8_strange_16 (by decide) rfl ?_
    refine g_iload_n C 0 dX8_strange_17 rfl ?_
    refine g_if_eq C 24 dX8_strange_18 (by decide) (fun hc4 => ?_) (fun hc4 => ?_)
    · have h := ite_t hc4 h
      refine g_iconst C (0 : Int32) dX8_strange_24 rfl ?_
      refine g_istore_n C [(3, .int (0 : Int32)), (2, .int q3.1), (0, .ref 0), (1, .int x1)] dX8_strange_25 (by decide) rfl ?_
      exact g_sub [2, 3, 0] rfl ((s_X8_strange_26 C (s_X8_strange_64 C) FU) x1 (0 : Int32) q3.2 h)
    · have h := ite_f hc4 h
      refine g_iload_n C 0 dX8_strange_21 rfl ?_
      refine g_i2l C dX8_strange_22 ?_
      obtain rfl := Option.some.inj h
      exact g_lret C dX8_strange_23
  · have h := ite_t hc2 h
    refine g_ldc2 C (-2 : Int64) qc_X8_199 dX8_strange_8 ?_
    obtain rfl := Option.some.inj h
    exact g_lret C dX8_strange_11
def f_X8_without (x1 : Int32) (σ : St) : Option (Int64 × St) := (f_X8_isFind x1 σ).bind (fun q1 => (if q1.1 = 0 then some ((-2 : Int64), q1.2) else (f_X8_all q1.2).bind (fun q3 => ap (q3.1 &&& (((1 : Int32) <<< (x1 &&& 31)) ^^^ (-1 : Int32))) fun z4 => (f_X8_all q3.2).bind (fun q5 => (f_X8_isBig q5.1 q5.2).bind (fun q6 => (if q6.1 = 0 then (f_X8_isBig z4 q6.2).bind (fun q8 => (if q8.1 = 0 then (f_X8_all q8.2).bind (fun q10 => (f_X8_lay_ q10.1 q10.2).bind (fun q11 => (f_X8_count q11).bind (fun q12 => (f_X8_lay_ z4 q12.2).bind (fun q13 => (f_X8_count q13).bind (fun q14 => (if q14.1 = (0 : Int64) then some ((-4 : Int64), q14.2) else (f_X8_fraction q12.1 q14.1 q14.2).bind (fun q16 => some (q16.1, q16.2)))))))) else some ((-5 : Int64), q8.2))) else some ((-5 : Int64), q6.2)))))))
set_option maxRecDepth 20000 in
theorem m_X8_without {l : Launch} {D : va_G} {ca : Nat → ClassId} {ad : Nat → Nat} {x1 : Int32} {σ : St} {R : Int64 × St} (h : f_X8_without x1 σ = some R) : gM l D ca ad 26 LM yX8_without cX8_without 7 (some .long) rm_X8_without [.ref 0, .int x1] σ (some (.long R.1)) R.2 := by
  refine gM_of (by decide) (Nat.le_of_ble_eq_true rfl) (fun p e s m args below meth c C => ?_)
  refine g_ent (ls' := [(0, .ref 0), (1, .int x1)]) rfl ?_
  unfold f_X8_without at h
  refine g_aload_n C 0 dX8_without_0 rfl ?_
  refine g_iload_n C 1 dX8_without_1 rfl ?_
  obtain ⟨q1, hq1, h⟩ := bd h
  refine g_callVI C [.int x1] qv_X8_117 (m_X8_isFind hq1) rfl (by decide) rfl rfl rfl ⟨rfl, rfl⟩ ⟨by decide, by decide⟩ (Nat.le_of_ble_eq_true rfl) dX8_without_2 ?_
  refine g_if_ne C 12 dX8_without_5 (by decide) (fun hc2 => ?_) (fun hc2 => ?_)
  · have h := ite_f hc2 h
    refine g_aload_n C 0 dX8_without_12 rfl ?_
    obtain ⟨q3, hq3, h⟩ := bd h
    refine g_callVI C [] qv_X8_172 (m_X8_all hq3) rfl (by decide) rfl rfl rfl ⟨rfl, rfl⟩ ⟨by decide, by decide⟩ (Nat.le_of_ble_eq_true rfl) dX8_without_13 ?_
    refine g_iconst C (1 : Int32) dX8_without_16 rfl ?_
    refine g_iload_n C 1 dX8_without_17 rfl ?_
    refine g_ishl C dX8_without_18 ?_
    refine g_iconst C (-1 : Int32) dX8_without_19 rfl ?_
    refine g_ixor C dX8_without_20 ?_
    refine g_iand C dX8_without_21 ?_
    refine g_nmI (fun z4 ez4 => ?_)
    have h := ap_at ez4 h
    refine g_istore_n C [(2, .int z4), (0, .ref 0), (1, .int x1)] dX8_without_22 (by decide) rfl ?_
    refine g_aload_n C 1 dX8_without_23 rfl ?_
    refine g_aload_n C 1 dX8_without_24 rfl ?_
    obtain ⟨q5, hq5, h⟩ := bd h
    refine g_callVI C [] qv_X8_172 (m_X8_all hq5) rfl (by decide) rfl rfl rfl ⟨rfl, rfl⟩ ⟨by decide, by decide⟩ (Nat.le_of_ble_eq_true rfl) dX8_without_25 ?_
    obtain ⟨q6, hq6, h⟩ := bd h
    refine g_callVI C [.int q5.1] qv_X8_175 (m_X8_isBig hq6) rfl (by decide) rfl rfl rfl ⟨rfl, rfl⟩ ⟨by decide, by decide⟩ (Nat.le_of_ble_eq_true rfl) dX8_without_28 ?_
    refine g_if_ne C 42 dX8_without_31 (by decide) (fun hc7 => ?_) (fun hc7 => ?_)
    · have h := ite_f hc7 h
      refine g_ldc2 C (-5 : Int64) qc_X8_189 dX8_without_42 ?_
      obtain rfl := Option.some.inj h
      exact g_lret C dX8_without_45
    · have h := ite_t hc7 h
      refine g_aload_n C 1 dX8_without_34 rfl ?_
      refine g_iload_n C 0 dX8_without_35 rfl ?_
      obtain ⟨q8, hq8, h⟩ := bd h
      refine g_callVI C [.int z4] qv_X8_175 (m_X8_isBig hq8) rfl (by decide) rfl rfl rfl ⟨rfl, rfl⟩ ⟨by decide, by decide⟩ (Nat.le_of_ble_eq_true rfl) dX8_without_36 ?_
      refine g_if_eq C 46 dX8_without_39 (by decide) (fun hc9 => ?_) (fun hc9 => ?_)
      · have h := ite_t hc9 h
        refine g_aload_n C 1 dX8_without_46 rfl ?_
        refine g_aload_n C 1 dX8_without_47 rfl ?_
        obtain ⟨q10, hq10, h⟩ := bd h
        refine g_callVI C [] qv_X8_172 (m_X8_all hq10) rfl (by decide) rfl rfl rfl ⟨rfl, rfl⟩ ⟨by decide, by decide⟩ (Nat.le_of_ble_eq_true rfl) dX8_without_48 ?_
        obtain ⟨q11, hq11, h⟩ := bd h
        refine g_callVV C [.int q10.1] qv_X8_178 (m_X8_lay_ hq11) rfl (by decide) rfl rfl rfl ⟨rfl, rfl⟩ ⟨by decide, by decide⟩ (Nat.le_of_ble_eq_true rfl) dX8_without_51 ?_
        refine g_aload_n C 1 dX8_without_54 rfl ?_
        obtain ⟨q12, hq12, h⟩ := bd h
        refine g_callVL C [] qv_X8_182 (m_X8_count hq12) rfl (by decide) rfl rfl rfl ⟨rfl, rfl⟩ ⟨by decide, by decide⟩ (Nat.le_of_ble_eq_true rfl) dX8_without_55 ?_
        refine g_lstore_n C [(3, .long q12.1), (2, .int z4), (0, .ref 0), (1, .int x1)] dX8_without_58 (by decide) rfl ?_
        refine g_aload_n C 2 dX8_without_59 rfl ?_
        refine g_iload_n C 1 dX8_without_60 rfl ?_
        obtain ⟨q13, hq13, h⟩ := bd h
        refine g_callVV C [.int z4] qv_X8_178 (m_X8_lay_ hq13) rfl (by decide) rfl rfl rfl ⟨rfl, rfl⟩ ⟨by decide, by decide⟩ (Nat.le_of_ble_eq_true rfl) dX8_without_61 ?_
        refine g_aload_n C 2 dX8_without_64 rfl ?_
        obtain ⟨q14, hq14, h⟩ := bd h
        refine g_callVL C [] qv_X8_182 (m_X8_count hq14) rfl (by decide) rfl rfl rfl ⟨rfl, rfl⟩ ⟨by decide, by decide⟩ (Nat.le_of_ble_eq_true rfl) dX8_without_65 ?_
        refine g_lstore C [(5, .long q14.1), (3, .long q12.1), (2, .int z4), (0, .ref 0), (1, .int x1)] dX8_without_68 (by decide) rfl ?_
        refine g_lload C 0 dX8_without_70 rfl ?_
        refine g_lconst C (0 : Int64) dX8_without_72 rfl ?_
        refine g_lcmp_ne C 83 dX8_without_73 dX8_without_74 (by decide) (fun hc15 => ?_) (fun hc15 => ?_)
        · have h := ite_f hc15 h
          refine g_aload_n C 3 dX8_without_83 rfl ?_
          refine g_lload_n C 1 dX8_without_84 rfl ?_
          refine g_lload C 0 dX8_without_85 rfl ?_
          obtain ⟨q16, hq16, h⟩ := bd h
          refine g_callVL C [.long q12.1, .long q14.1] qv_X8_208 (m_X8_fraction hq16) rfl (by decide) rfl rfl rfl ⟨rfl, rfl⟩ ⟨by decide, by decide⟩ (Nat.le_of_ble_eq_true rfl) dX8_without_87 ?_
          obtain rfl := Option.some.inj h
          exact g_lret C dX8_without_90
        · have h := ite_t hc15 h
          refine g_ldc2 C (-4 : Int64) qc_X8_220 dX8_without_77 ?_
          refine g_goto C 90 dX8_without_80 (by decide) ?_
          obtain rfl := Option.some.inj h
          exact g_lret C dX8_without_90
      · have h := ite_f hc9 h
        refine g_ldc2 C (-5 : Int64) qc_X8_189 dX8_without_42 ?_
        obtain rfl := Option.some.inj h
        exact g_lret C dX8_without_45
  · have h := ite_t hc2 h
    refine g_ldc2 C (-2 : Int64) qc_X8_199 dX8_without_8 ?_
    obtain rfl := Option.some.inj h
    exact g_lret C dX8_without_11
def f_X8_draw_36 (x3 : Int32) (σ : St) : Option (Int64 × St) := (if x3 = (-5 : Int32) then some ((-5 : Int64), σ) else some ((-4 : Int64), σ))
set_option maxRecDepth 20000 in
theorem s_X8_draw_36 {R : Int64 × St} (C : gC p s m args meth c D ca ad 26 LM RX8 cX8_draw 12 (some .long)) (x3 : Int32) (σ : St) (h : f_X8_draw_36 x3 σ = some R) : G p l e rm_X8_draw s m args below meth c D ca ad 26 LM 12 (gEnd below args s D ca ad 26 LM (some (.long R.1)) R.2) 36 [(3, .int x3)] [] σ := by
  unfold f_X8_draw_36 at h
  refine g_iload_n C 0 dX8_draw_36 rfl ?_
  refine g_bipush C (-5 : Int32) dX8_draw_37 rfl ?_
  refine g_icmp_ne C 48 dX8_draw_39 (by decide) (fun hc1 => ?_) (fun hc1 => ?_)
  · have h := ite_f hc1 h
    refine g_ldc2 C (-4 : Int64) qc_X8_220 dX8_draw_48 ?_
    obtain rfl := Option.some.inj h
    exact g_lret C dX8_draw_51
  · have h := ite_t hc1 h
    refine g_ldc2 C (-5 : Int64) qc_X8_189 dX8_draw_42 ?_
    refine g_goto C 51 dX8_draw_45 (by decide) ?_
    obtain rfl := Option.some.inj h
    exact g_lret C dX8_draw_51
def f_X8_draw_87 (kk124 : Int64 → Int64 → Int32 → Int32 → St → Option (Int64 × St)) : Nat → Int64 → Int64 → Int32 → Int32 → Int64 → St → Option (Int64 × St)
  | 0, _, _, _, _, _, _ => none
  | n + 1, x4, x6, x8, x9, x10, σ => (if x4 < x10 then kk124 x4 x6 x8 x9 σ else (f_X8_only x8 (x9 + (1 : Int32)) (x9 + (1 : Int32)) σ).bind (fun q2 => (f_X8_count q2).bind (fun q3 => (f_X8_draw_87 kk124 n) (x4 - x10) x6 x8 (x9 + (1 : Int32)) q3.1 q3.2)))
set_option maxRecDepth 20000 in
theorem s_X8_draw_87 {R : Int64 × St} (C : gC p s m args meth c D ca ad 26 LM RX8 cX8_draw 12 (some .long)) {kk124 : Int64 → Int64 → Int32 → Int32 → St → Option (Int64 × St)} (HK124 : ∀ (x4 : Int64) (x6 : Int64) (x8 : Int32) (x9 : Int32) (σ : St), kk124 x4 x6 x8 x9 σ = some R → G p l e rm_X8_draw s m args below meth c D ca ad 26 LM 12 (gEnd below args s D ca ad 26 LM (some (.long R.1)) R.2) 124 [(0, .ref 0), (4, .long x4), (6, .long x6), (8, .int x8), (9, .int x9)] [] σ) : ∀ (n : Nat) (x4 : Int64) (x6 : Int64) (x8 : Int32) (x9 : Int32) (x10 : Int64) (σ : St), f_X8_draw_87 kk124 n x4 x6 x8 x9 x10 σ = some R → G p l e rm_X8_draw s m args below meth c D ca ad 26 LM 12 (gEnd below args s D ca ad 26 LM (some (.long R.1)) R.2) 87 [(0, .ref 0), (4, .long x4), (6, .long x6), (8, .int x8), (9, .int x9), (10, .long x10)] [] σ := by
  intro n
  induction n with
  | zero =>
    intro x4 x6 x8 x9 x10 σ h
    have h : none = some R := h
    cases h
  | succ n ih =>
    intro x4 x6 x8 x9 x10 σ h
    rw [f_X8_draw_87] at h
    refine g_lload C 1 dX8_draw_87 rfl ?_
    refine g_lload C 5 dX8_draw_89 rfl ?_
    refine g_lcmp_lt C 124 dX8_draw_91 dX8_draw_92 (by decide) (fun hc1 => ?_) (fun hc1 => ?_)
    · have h := ite_t hc1 h
      exact g_sub [0, 1, 2, 3, 4] rfl (HK124 x4 x6 x8 x9 σ h)
    · have h := ite_f hc1 h
      refine g_lload C 1 dX8_draw_95 rfl ?_
      refine g_lload C 5 dX8_draw_97 rfl ?_
      refine g_lsub C dX8_draw_99 ?_
      refine g_lstore C [(4, .long (x4 - x10)), (0, .ref 0), (6, .long x6), (8, .int x8), (9, .int x9), (10, .long x10)] dX8_draw_100 (by decide) rfl ?_
      refine g_iinc C 4 [(9, .int (x9 + (1 : Int32))), (4, .long (x4 - x10)), (0, .ref 0), (6, .long x6), (8, .int x8), (10, .long x10)] dX8_draw_102 rfl rfl (by decide) rfl ?_
      refine g_aload_n C 2 dX8_draw_105 rfl ?_
      refine g_iload C 4 dX8_draw_106 rfl ?_
      refine g_iload C 0 dX8_draw_108 rfl ?_
      refine g_iload C 0 dX8_draw_110 rfl ?_
      obtain ⟨q2, hq2, h⟩ := bd h
      refine g_callVV C [.int x8, .int (x9 + (1 : Int32)), .int (x9 + (1 : Int32))] qv_X8_195 (m_X8_only hq2) rfl (by decide) rfl rfl rfl ⟨rfl, rfl⟩ ⟨by decide, by decide⟩ (Nat.le_of_ble_eq_true rfl) dX8_draw_112 ?_
      refine g_aload_n C 2 dX8_draw_115 rfl ?_
      obtain ⟨q3, hq3, h⟩ := bd h
      refine g_callVL C [] qv_X8_182 (m_X8_count hq3) rfl (by decide) rfl rfl rfl ⟨rfl, rfl⟩ ⟨by decide, by decide⟩ (Nat.le_of_ble_eq_true rfl) dX8_draw_116 ?_
      refine g_lstore C [(10, .long q3.1), (9, .int (x9 + (1 : Int32))), (4, .long (x4 - x10)), (0, .ref 0), (6, .long x6), (8, .int x8)] dX8_draw_119 (by decide) rfl ?_
      refine g_goto C 87 dX8_draw_121 (by decide) ?_
      exact g_sub [3, 2, 4, 5, 1, 0] rfl (ih (x4 - x10) x6 x8 (x9 + (1 : Int32)) q3.1 q3.2 h)
def f_X8_draw_124 (kk61 : Int64 → Int64 → Int32 → St → Option (Int64 × St)) (x4 : Int64) (x6 : Int64) (x8 : Int32) (x9 : Int32) (σ : St) : Option (Int64 × St) := cI (ix x8 7) (ap (up1 σ 9 x8.toNatClampNeg x9) fun σ2 => (f_X8_weightOf x8 x9 σ2).bind (fun q3 => kk61 x4 (x6 * q3.1) (x8 + (1 : Int32)) q3.2))
set_option maxRecDepth 20000 in
theorem s_X8_draw_124 {R : Int64 × St} (C : gC p s m args meth c D ca ad 26 LM RX8 cX8_draw 12 (some .long)) {kk61 : Int64 → Int64 → Int32 → St → Option (Int64 × St)} (HK61 : ∀ (x4 : Int64) (x6 : Int64) (x8 : Int32) (σ : St), kk61 x4 x6 x8 σ = some R → G p l e rm_X8_draw s m args below meth c D ca ad 26 LM 12 (gEnd below args s D ca ad 26 LM (some (.long R.1)) R.2) 61 [(0, .ref 0), (4, .long x4), (6, .long x6), (8, .int x8)] [] σ) (x4 : Int64) (x6 : Int64) (x8 : Int32) (x9 : Int32) (σ : St) (h : f_X8_draw_124 kk61 x4 x6 x8 x9 σ = some R) : G p l e rm_X8_draw s m args below meth c D ca ad 26 LM 12 (gEnd below args s D ca ad 26 LM (some (.long R.1)) R.2) 124 [(0, .ref 0), (4, .long x4), (6, .long x6), (8, .int x8), (9, .int x9)] [] σ := by
  unfold f_X8_draw_124 at h
  refine g_aload_n C 0 dX8_draw_124 rfl ?_
  refine g_getR C 11 9 rfl q_X8_38 rfl rfl dX8_draw_125 ?_
  refine g_iload C 3 dX8_draw_128 rfl ?_
  refine g_iload C 4 dX8_draw_130 rfl ?_
  obtain ⟨hi1, h⟩ := cI_some h
  refine g_iast C 7 rfl ho_11 hi1 dX8_draw_132 ?_
  refine g_nmS (fun σ2 eσ2 => ?_)
  have h := ap_at eσ2 h
  refine g_lload C 2 dX8_draw_133 rfl ?_
  refine g_aload_n C 0 dX8_draw_135 rfl ?_
  refine g_iload C 3 dX8_draw_136 rfl ?_
  refine g_iload C 4 dX8_draw_138 rfl ?_
  obtain ⟨q3, hq3, h⟩ := bd h
  refine g_callVL C [.int x8, .int x9] qv_X8_132 (m_X8_weightOf hq3) rfl (by decide) rfl rfl rfl ⟨rfl, rfl⟩ ⟨by decide, by decide⟩ (Nat.le_of_ble_eq_true rfl) dX8_draw_140 ?_
  refine g_lmul C dX8_draw_143 ?_
  refine g_lstore C [(6, .long (x6 * q3.1)), (0, .ref 0), (4, .long x4), (8, .int x8), (9, .int x9)] dX8_draw_144 (by decide) rfl ?_
  refine g_iinc C 3 [(8, .int (x8 + (1 : Int32))), (6, .long (x6 * q3.1)), (0, .ref 0), (4, .long x4), (9, .int x9)] dX8_draw_146 rfl rfl (by decide) rfl ?_
  refine g_goto C 61 dX8_draw_149 (by decide) ?_
  exact g_sub [2, 3, 1, 0] rfl (HK61 x4 (x6 * q3.1) (x8 + (1 : Int32)) q3.2 h)
def f_X8_draw_61 (kk152 : Int64 → St → Option (Int64 × St)) : Nat → Int64 → Int64 → Int32 → St → Option (Int64 × St)
  | 0, _, _, _, _ => none
  | n + 1, x4, x6, x8, σ => (if (σ.1 0 3) ≤ x8 then kk152 x6 σ else (f_X8_only x8 (0 : Int32) (0 : Int32) σ).bind (fun q2 => (f_X8_count q2).bind (fun q3 => (f_X8_draw_87 (f_X8_draw_124 (f_X8_draw_61 kk152 n)) FU) x4 x6 x8 (0 : Int32) q3.1 q3.2)))
set_option maxRecDepth 20000 in
theorem s_X8_draw_61 {R : Int64 × St} (C : gC p s m args meth c D ca ad 26 LM RX8 cX8_draw 12 (some .long)) {kk152 : Int64 → St → Option (Int64 × St)} (HK152 : ∀ (x6 : Int64) (σ : St), kk152 x6 σ = some R → G p l e rm_X8_draw s m args below meth c D ca ad 26 LM 12 (gEnd below args s D ca ad 26 LM (some (.long R.1)) R.2) 152 [(0, .ref 0), (6, .long x6)] [] σ) : ∀ (n : Nat) (x4 : Int64) (x6 : Int64) (x8 : Int32) (σ : St), f_X8_draw_61 kk152 n x4 x6 x8 σ = some R → G p l e rm_X8_draw s m args below meth c D ca ad 26 LM 12 (gEnd below args s D ca ad 26 LM (some (.long R.1)) R.2) 61 [(0, .ref 0), (4, .long x4), (6, .long x6), (8, .int x8)] [] σ := by
  intro n
  induction n with
  | zero =>
    intro x4 x6 x8 σ h
    have h : none = some R := h
    cases h
  | succ n ih =>
    intro x4 x6 x8 σ h
    rw [f_X8_draw_61] at h
    refine g_iload C 3 dX8_draw_61 rfl ?_
    refine g_aload_n C 0 dX8_draw_63 rfl ?_
    refine g_getI C 3 rfl q_X8_97 rfl dX8_draw_64 ?_
    refine g_icmp_ge C 152 dX8_draw_67 (by decide) (fun hc1 => ?_) (fun hc1 => ?_)
    · have h := ite_t hc1 h
      exact g_sub [0, 2] rfl (HK152 x6 σ h)
    · have h := ite_f hc1 h
      refine g_iconst C (0 : Int32) dX8_draw_70 rfl ?_
      refine g_istore C [(9, .int (0 : Int32)), (0, .ref 0), (4, .long x4), (6, .long x6), (8, .int x8)] dX8_draw_71 (by decide) rfl ?_
      refine g_aload_n C 1 dX8_draw_73 rfl ?_
      refine g_iload C 4 dX8_draw_74 rfl ?_
      refine g_iconst C (0 : Int32) dX8_draw_76 rfl ?_
      refine g_iconst C (0 : Int32) dX8_draw_77 rfl ?_
      obtain ⟨q2, hq2, h⟩ := bd h
      refine g_callVV C [.int x8, .int (0 : Int32), .int (0 : Int32)] qv_X8_195 (m_X8_only hq2) rfl (by decide) rfl rfl rfl ⟨rfl, rfl⟩ ⟨by decide, by decide⟩ (Nat.le_of_ble_eq_true rfl) dX8_draw_78 ?_
      refine g_aload_n C 1 dX8_draw_81 rfl ?_
      obtain ⟨q3, hq3, h⟩ := bd h
      refine g_callVL C [] qv_X8_182 (m_X8_count hq3) rfl (by decide) rfl rfl rfl ⟨rfl, rfl⟩ ⟨by decide, by decide⟩ (Nat.le_of_ble_eq_true rfl) dX8_draw_82 ?_
      refine g_lstore C [(10, .long q3.1), (9, .int (0 : Int32)), (0, .ref 0), (4, .long x4), (6, .long x6), (8, .int x8)] dX8_draw_85 (by decide) rfl ?_
      exact g_sub [2, 3, 4, 5, 1, 0] rfl ((s_X8_draw_87 C (s_X8_draw_124 C ih) FU) x4 x6 x8 (0 : Int32) q3.1 q3.2 h)
def f_X8_draw_152 (x6 : Int64) (σ : St) : Option (Int64 × St) := ap (up1 σ 0 10 (1 : Int32)) fun σ1 => some (x6, σ1)
set_option maxRecDepth 20000 in
theorem s_X8_draw_152 {R : Int64 × St} (C : gC p s m args meth c D ca ad 26 LM RX8 cX8_draw 12 (some .long)) (x6 : Int64) (σ : St) (h : f_X8_draw_152 x6 σ = some R) : G p l e rm_X8_draw s m args below meth c D ca ad 26 LM 12 (gEnd below args s D ca ad 26 LM (some (.long R.1)) R.2) 152 [(0, .ref 0), (6, .long x6)] [] σ := by
  unfold f_X8_draw_152 at h
  refine g_aload_n C 0 dX8_draw_152 rfl ?_
  refine g_iconst C (1 : Int32) dX8_draw_153 rfl ?_
  refine g_putZ C 10 rfl qp_X8_113 rfl rfl rfl dX8_draw_154 ?_
  refine g_nmS (fun σ1 eσ1 => ?_)
  have h := ap_at eσ1 h
  refine g_lload C 1 dX8_draw_157 rfl ?_
  obtain rfl := Option.some.inj h
  exact g_lret C dX8_draw_159
def f_X8_draw (x1 : Int64) (σ : St) : Option (Int64 × St) := (if (0 : Int64) ≤ x1 then (f_X8_askTotal σ).bind (fun q2 => (if q2.1 = (-5 : Int32) then (f_X8_draw_36) q2.1 q2.2 else (if q2.1 = (-4 : Int32) then (f_X8_draw_36) q2.1 q2.2 else (if x1 < (q2.2.2 0 33) then (f_X8_draw_61 (f_X8_draw_152) FU) x1 (1 : Int64) (0 : Int32) q2.2 else (f_X8_draw_36) q2.1 q2.2)))) else some ((-2 : Int64), σ))
set_option maxRecDepth 20000 in
theorem m_X8_draw {l : Launch} {D : va_G} {ca : Nat → ClassId} {ad : Nat → Nat} {x1 : Int64} {σ : St} {R : Int64 × St} (h : f_X8_draw x1 σ = some R) : gM l D ca ad 26 LM yX8_draw cX8_draw 12 (some .long) rm_X8_draw [.ref 0, .long x1] σ (some (.long R.1)) R.2 := by
  refine gM_of (by decide) (Nat.le_of_ble_eq_true rfl) (fun p e s m args below meth c C => ?_)
  refine g_ent (ls' := [(0, .ref 0), (1, .long x1)]) rfl ?_
  unfold f_X8_draw at h
  refine g_lload_n C 1 dX8_draw_0 rfl ?_
  refine g_lconst C (0 : Int64) dX8_draw_1 rfl ?_
  refine g_lcmp_ge C 10 dX8_draw_2 dX8_draw_3 (by decide) (fun hc1 => ?_) (fun hc1 => ?_)
  · have h := ite_t hc1 h
    refine g_aload_n C 0 dX8_draw_10 rfl ?_
    obtain ⟨q2, hq2, h⟩ := bd h
    refine g_callVI C [] qv_X8_201 (m_X8_askTotal hq2) rfl (by decide) rfl rfl rfl ⟨rfl, rfl⟩ ⟨by decide, by decide⟩ (Nat.le_of_ble_eq_true rfl) dX8_draw_11 ?_
    refine g_istore_n C [(3, .int q2.1), (0, .ref 0), (1, .long x1)] dX8_draw_14 (by decide) rfl ?_
    refine g_iload_n C 0 dX8_draw_15 rfl ?_
    refine g_bipush C (-5 : Int32) dX8_draw_16 rfl ?_
    refine g_icmp_eq C 36 dX8_draw_18 (by decide) (fun hc3 => ?_) (fun hc3 => ?_)
    · have h := ite_t hc3 h
      exact g_sub [0] rfl ((s_X8_draw_36 C) q2.1 q2.2 h)
    · have h := ite_f hc3 h
      refine g_iload_n C 0 dX8_draw_21 rfl ?_
      refine g_bipush C (-4 : Int32) dX8_draw_22 rfl ?_
      refine g_icmp_eq C 36 dX8_draw_24 (by decide) (fun hc4 => ?_) (fun hc4 => ?_)
      · have h := ite_t hc4 h
        exact g_sub [0] rfl ((s_X8_draw_36 C) q2.1 q2.2 h)
      · have h := ite_f hc4 h
        refine g_lload_n C 2 dX8_draw_27 rfl ?_
        refine g_aload_n C 1 dX8_draw_28 rfl ?_
        refine g_getL C 33 rfl q_X8_186 rfl dX8_draw_29 ?_
        refine g_lcmp_lt C 52 dX8_draw_32 dX8_draw_33 (by decide) (fun hc5 => ?_) (fun hc5 => ?_)
        · have h := ite_t hc5 h
          refine g_lload_n C 2 dX8_draw_52 rfl ?_
          refine g_lstore C [(4, .long x1), (3, .int q2.1), (0, .ref 0), (1, .long x1)] dX8_draw_53 (by decide) rfl ?_
          refine g_lconst C (1 : Int64) dX8_draw_55 rfl ?_
          refine g_lstore C [(6, .long (1 : Int64)), (4, .long x1), (3, .int q2.1), (0, .ref 0), (1, .long x1)] dX8_draw_56 (by decide) rfl ?_
          refine g_iconst C (0 : Int32) dX8_draw_58 rfl ?_
          refine g_istore C [(8, .int (0 : Int32)), (6, .long (1 : Int64)), (4, .long x1), (3, .int q2.1), (0, .ref 0), (1, .long x1)] dX8_draw_59 (by decide) rfl ?_
          exact g_sub [4, 2, 1, 0] rfl ((s_X8_draw_61 C (s_X8_draw_152 C) FU) x1 (1 : Int64) (0 : Int32) q2.2 h)
        · have h := ite_f hc5 h
          exact g_sub [0] rfl ((s_X8_draw_36 C) q2.1 q2.2 h)
  · have h := ite_f hc1 h
    refine g_ldc2 C (-2 : Int64) qc_X8_199 dX8_draw_6 ?_
    obtain rfl := Option.some.inj h
    exact g_lret C dX8_draw_9
def f_X8_drawn (x1 : Int32) (σ : St) : Option (Int32 × St) := (if (σ.1 0 10) = 0 then (f_X8_meet (-10 : Int32) σ).bind (fun q5 => some (q5.1, q5.2)) else (f_X8_isFind x1 σ).bind (fun q2 => (if q2.1 = 0 then some ((-2 : Int32), q2.2) else cI (ix x1 7) (some ((q2.2.1 9 x1.toNatClampNeg), q2.2)))))
set_option maxRecDepth 20000 in
theorem m_X8_drawn {l : Launch} {D : va_G} {ca : Nat → ClassId} {ad : Nat → Nat} {x1 : Int32} {σ : St} {R : Int32 × St} (h : f_X8_drawn x1 σ = some R) : gM l D ca ad 26 LM yX8_drawn cX8_drawn 2 (some .int) rm_X8_drawn [.ref 0, .int x1] σ (some (.int R.1)) R.2 := by
  refine gM_of (by decide) (Nat.le_of_ble_eq_true rfl) (fun p e s m args below meth c C => ?_)
  refine g_ent (ls' := [(0, .ref 0), (1, .int x1)]) rfl ?_
  unfold f_X8_drawn at h
  refine g_aload_n C 0 dX8_drawn_0 rfl ?_
  refine g_getI C 10 rfl q_X8_113 rfl dX8_drawn_1 ?_
  refine g_if_ne C 14 dX8_drawn_4 (by decide) (fun hc1 => ?_) (fun hc1 => ?_)
  · have h := ite_f hc1 h
    refine g_aload_n C 0 dX8_drawn_14 rfl ?_
    refine g_iload_n C 1 dX8_drawn_15 rfl ?_
    obtain ⟨q2, hq2, h⟩ := bd h
    refine g_callVI C [.int x1] qv_X8_117 (m_X8_isFind hq2) rfl (by decide) rfl rfl rfl ⟨rfl, rfl⟩ ⟨by decide, by decide⟩ (Nat.le_of_ble_eq_true rfl) dX8_drawn_16 ?_
    refine g_if_eq C 31 dX8_drawn_19 (by decide) (fun hc3 => ?_) (fun hc3 => ?_)
    · have h := ite_t hc3 h
      refine g_bipush C (-2 : Int32) dX8_drawn_31 rfl ?_
      obtain rfl := Option.some.inj h
      exact g_iret C dX8_drawn_33
    · have h := ite_f hc3 h
      refine g_aload_n C 0 dX8_drawn_22 rfl ?_
      refine g_getR C 11 9 rfl q_X8_38 rfl rfl dX8_drawn_23 ?_
      refine g_iload_n C 1 dX8_drawn_26 rfl ?_
      obtain ⟨hi4, h⟩ := cI_some h
      refine g_iald C 7 rfl ho_11 hi4 dX8_drawn_27 ?_
      refine g_goto C 33 dX8_drawn_28 (by decide) ?_
      obtain rfl := Option.some.inj h
      exact g_iret C dX8_drawn_33
  · have h := ite_t hc1 h
    refine g_aload_n C 0 dX8_drawn_7 rfl ?_
    refine g_bipush C (-10 : Int32) dX8_drawn_8 rfl ?_
    obtain ⟨q5, hq5, h⟩ := bd h
    refine g_callVI C [.int (-10 : Int32)] qv_X8_108 (m_X8_meet hq5) rfl (by decide) rfl rfl rfl ⟨rfl, rfl⟩ ⟨by decide, by decide⟩ (Nat.le_of_ble_eq_true rfl) dX8_drawn_10 ?_
    obtain rfl := Option.some.inj h
    exact g_iret C dX8_drawn_13
def f_X8_tell (x1 : Int32) (σ : St) : Option (Int32 × St) := (if (σ.1 0 20) = (20 : Int32) then some ((-2 : Int32), σ) else cI (ix (σ.1 0 20) 20) (ap (up1 σ 15 (σ.1 0 20).toNatClampNeg x1) fun σ3 => ap (up1 σ3 0 20 ((σ3.1 0 20) + (1 : Int32))) fun σ4 => some ((σ4.1 0 20), σ4)))
set_option maxRecDepth 20000 in
theorem m_X8_tell {l : Launch} {D : va_G} {ca : Nat → ClassId} {ad : Nat → Nat} {x1 : Int32} {σ : St} {R : Int32 × St} (h : f_X8_tell x1 σ = some R) : gM l D ca ad 26 LM yX8_tell cX8_tell 2 (some .int) rm_X8_tell [.ref 0, .int x1] σ (some (.int R.1)) R.2 := by
  refine gM_of (by decide) (Nat.le_of_ble_eq_true rfl) (fun p e s m args below meth c C => ?_)
  refine g_ent (ls' := [(0, .ref 0), (1, .int x1)]) rfl ?_
  unfold f_X8_tell at h
  refine g_aload_n C 0 dX8_tell_0 rfl ?_
  refine g_getI C 20 rfl q_X8_222 rfl dX8_tell_1 ?_
  refine g_bipush C (20 : Int32) dX8_tell_4 rfl ?_
  refine g_icmp_ne C 12 dX8_tell_6 (by decide) (fun hc1 => ?_) (fun hc1 => ?_)
  · have h := ite_f hc1 h
    refine g_aload_n C 0 dX8_tell_12 rfl ?_
    refine g_getR C 21 15 rfl q_X8_60 rfl rfl dX8_tell_13 ?_
    refine g_aload_n C 0 dX8_tell_16 rfl ?_
    refine g_getI C 20 rfl q_X8_222 rfl dX8_tell_17 ?_
    refine g_iload_n C 1 dX8_tell_20 rfl ?_
    obtain ⟨hi2, h⟩ := cI_some h
    refine g_iast C 20 rfl ho_12 hi2 dX8_tell_21 ?_
    refine g_nmS (fun σ3 eσ3 => ?_)
    have h := ap_at eσ3 h
    refine g_aload_n C 0 dX8_tell_22 rfl ?_
    refine g_dup C rfl dX8_tell_23 ?_
    refine g_getI C 20 rfl q_X8_222 rfl dX8_tell_24 ?_
    refine g_iconst C (1 : Int32) dX8_tell_27 rfl ?_
    refine g_iadd C dX8_tell_28 ?_
    refine g_putI C 20 rfl qp_X8_222 rfl dX8_tell_29 ?_
    refine g_nmS (fun σ4 eσ4 => ?_)
    have h := ap_at eσ4 h
    refine g_aload_n C 0 dX8_tell_32 rfl ?_
    refine g_getI C 20 rfl q_X8_222 rfl dX8_tell_33 ?_
    obtain rfl := Option.some.inj h
    exact g_iret C dX8_tell_36
  · have h := ite_t hc1 h
    refine g_bipush C (-2 : Int32) dX8_tell_9 rfl ?_
    obtain rfl := Option.some.inj h
    exact g_iret C dX8_tell_11
def f_X8_lessThan (x1 : Int32) (x2 : Int32) (σ : St) : Option (Int64 × St) := (f_X8_only x1 (0 : Int32) (x2 - (1 : Int32)) σ).bind (fun q1 => (f_X8_count q1).bind (fun q2 => some (q2.1, q2.2)))
set_option maxRecDepth 20000 in
theorem m_X8_lessThan {l : Launch} {D : va_G} {ca : Nat → ClassId} {ad : Nat → Nat} {x1 : Int32} {x2 : Int32} {σ : St} {R : Int64 × St} (h : f_X8_lessThan x1 x2 σ = some R) : gM l D ca ad 26 LM yX8_lessThan cX8_lessThan 3 (some .long) rm_X8_lessThan [.ref 0, .int x1, .int x2] σ (some (.long R.1)) R.2 := by
  refine gM_of (by decide) (Nat.le_of_ble_eq_true rfl) (fun p e s m args below meth c C => ?_)
  refine g_ent (ls' := [(0, .ref 0), (1, .int x1), (2, .int x2)]) rfl ?_
  unfold f_X8_lessThan at h
  refine g_aload_n C 0 dX8_lessThan_0 rfl ?_
  refine g_iload_n C 1 dX8_lessThan_1 rfl ?_
  refine g_iconst C (0 : Int32) dX8_lessThan_2 rfl ?_
  refine g_iload_n C 2 dX8_lessThan_3 rfl ?_
  refine g_iconst C (1 : Int32) dX8_lessThan_4 rfl ?_
  refine g_isub C dX8_lessThan_5 ?_
  obtain ⟨q1, hq1, h⟩ := bd h
  refine g_callVV C [.int x1, .int (0 : Int32), .int (x2 - (1 : Int32))] qv_X8_195 (m_X8_only hq1) rfl (by decide) rfl rfl rfl ⟨rfl, rfl⟩ ⟨by decide, by decide⟩ (Nat.le_of_ble_eq_true rfl) dX8_lessThan_6 ?_
  refine g_aload_n C 0 dX8_lessThan_9 rfl ?_
  obtain ⟨q2, hq2, h⟩ := bd h
  refine g_callVL C [] qv_X8_182 (m_X8_count hq2) rfl (by decide) rfl rfl rfl ⟨rfl, rfl⟩ ⟨by decide, by decide⟩ (Nat.le_of_ble_eq_true rfl) dX8_lessThan_10 ?_
  obtain rfl := Option.some.inj h
  exact g_lret C dX8_lessThan_13
end
