section
variable {p : Program} {l : Launch} {e : Env} {s : State} {m : MethodId} {args : Array Value} {below : List Frame} {meth : Method} {c : Code} {D : va_G} {ca : Nat → ClassId} {ad : Nat → Nat}
def f_X8_number_26 (kk50 : Int32 → St → Option (Int64 × St)) : Nat → Int32 → Int32 → Int32 → St → Option (Int64 × St)
  | 0, _, _, _, _ => none
  | n + 1, x1, x2, x3, σ => (if x1 ≤ x3 then kk50 x2 σ else cI (ix x3 20) ((f_X8_isYear (σ.1 15 x3.toNatClampNeg) σ).bind (fun q3 => (f_X8_number_26 kk50 n) x1 (x2 &&& q3.1) (x3 + (1 : Int32)) q3.2)))
set_option maxRecDepth 20000 in
theorem s_X8_number_26 {R : Int64 × St} (C : gC p s m args meth c D ca ad 26 LM RX8 cX8_number 6 (some .long)) {kk50 : Int32 → St → Option (Int64 × St)} (HK50 : ∀ (x2 : Int32) (σ : St), kk50 x2 σ = some R → G p l e rm_X8_number s m args below meth c D ca ad 26 LM 6 (gEnd below args s D ca ad 26 LM (some (.long R.1)) R.2) 50 [(0, .ref 0), (2, .int x2)] [] σ) : ∀ (n : Nat) (x1 : Int32) (x2 : Int32) (x3 : Int32) (σ : St), f_X8_number_26 kk50 n x1 x2 x3 σ = some R → G p l e rm_X8_number s m args below meth c D ca ad 26 LM 6 (gEnd below args s D ca ad 26 LM (some (.long R.1)) R.2) 26 [(0, .ref 0), (1, .int x1), (2, .int x2), (3, .int x3)] [] σ := by
  intro n
  induction n with
  | zero =>
    intro x1 x2 x3 σ h
    have h : none = some R := h
    cases h
  | succ n ih =>
    intro x1 x2 x3 σ h
    rw [f_X8_number_26] at h
    refine g_iload_n C 3 dX8_number_26 rfl ?_
    refine g_iload_n C 1 dX8_number_27 rfl ?_
    refine g_icmp_ge C 50 dX8_number_28 (by decide) (fun hc1 => ?_) (fun hc1 => ?_)
    · have h := ite_t hc1 h
      exact g_sub [0, 2] rfl (HK50 x2 σ h)
    · have h := ite_f hc1 h
      refine g_iload_n C 2 dX8_number_31 rfl ?_
      refine g_aload_n C 0 dX8_number_32 rfl ?_
      refine g_aload_n C 0 dX8_number_33 rfl ?_
      refine g_getR C 21 15 rfl q_X8_60 rfl rfl dX8_number_34 ?_
      refine g_iload_n C 3 dX8_number_37 rfl ?_
      obtain ⟨hi2, h⟩ := cI_some h
      refine g_iald C 20 rfl ho_12 hi2 dX8_number_38 ?_
      obtain ⟨q3, hq3, h⟩ := bd h
      refine g_callVI C [.int (σ.1 15 x3.toNatClampNeg)] qv_X8_135 (m_X8_isYear hq3) rfl (by decide) rfl rfl rfl ⟨rfl, rfl⟩ ⟨by decide, by decide⟩ (Nat.le_of_ble_eq_true rfl) dX8_number_39 ?_
      refine g_iand C dX8_number_42 ?_
      refine g_istore_n C [(2, .int (x2 &&& q3.1)), (0, .ref 0), (1, .int x1), (3, .int x3)] dX8_number_43 (by decide) rfl ?_
      refine g_iinc C 3 [(3, .int (x3 + (1 : Int32))), (2, .int (x2 &&& q3.1)), (0, .ref 0), (1, .int x1)] dX8_number_44 rfl rfl (by decide) rfl ?_
      refine g_goto C 26 dX8_number_47 (by decide) ?_
      exact g_sub [2, 3, 1, 0] rfl (ih x1 (x2 &&& q3.1) (x3 + (1 : Int32)) q3.2 h)
def f_X8_number_123 (kk86 : Int64 → Int32 → St → Option (Int64 × St)) (x5 : Int32) (xs0 : Int64) (xs1 : Int64) (σ : St) : Option (Int64 × St) := cI (ix x5 20) (cI (ix x5 20) ((f_X8_only x5 (σ.1 15 x5.toNatClampNeg) (σ.1 15 x5.toNatClampNeg) σ).bind (fun q3 => kk86 (xs1 + xs0) (x5 + (1 : Int32)) q3)))
set_option maxRecDepth 20000 in
theorem s_X8_number_123 {R : Int64 × St} (C : gC p s m args meth c D ca ad 26 LM RX8 cX8_number 6 (some .long)) {kk86 : Int64 → Int32 → St → Option (Int64 × St)} (HK86 : ∀ (x3 : Int64) (x5 : Int32) (σ : St), kk86 x3 x5 σ = some R → G p l e rm_X8_number s m args below meth c D ca ad 26 LM 6 (gEnd below args s D ca ad 26 LM (some (.long R.1)) R.2) 86 [(0, .ref 0), (3, .long x3), (5, .int x5)] [] σ) (x5 : Int32) (xs0 : Int64) (xs1 : Int64) (σ : St) (h : f_X8_number_123 kk86 x5 xs0 xs1 σ = some R) : G p l e rm_X8_number s m args below meth c D ca ad 26 LM 6 (gEnd below args s D ca ad 26 LM (some (.long R.1)) R.2) 123 [(0, .ref 0), (5, .int x5)] [.long xs0, .long xs1] σ := by
  unfold f_X8_number_123 at h
  refine g_ladd C dX8_number_123 ?_
  refine g_lstore_n C [(3, .long (xs1 + xs0)), (0, .ref 0), (5, .int x5)] dX8_number_124 (by decide) rfl ?_
  refine g_aload_n C 1 dX8_number_125 rfl ?_
  refine g_iload C 2 dX8_number_126 rfl ?_
  refine g_aload_n C 1 dX8_number_128 rfl ?_
  refine g_getR C 21 15 rfl q_X8_60 rfl rfl dX8_number_129 ?_
  refine g_iload C 2 dX8_number_132 rfl ?_
  obtain ⟨hi1, h⟩ := cI_some h
  refine g_iald C 20 rfl ho_12 hi1 dX8_number_134 ?_
  refine g_aload_n C 1 dX8_number_135 rfl ?_
  refine g_getR C 21 15 rfl q_X8_60 rfl rfl dX8_number_136 ?_
  refine g_iload C 2 dX8_number_139 rfl ?_
  obtain ⟨hi2, h⟩ := cI_some h
  refine g_iald C 20 rfl ho_12 hi2 dX8_number_141 ?_
  obtain ⟨q3, hq3, h⟩ := bd h
  refine g_callVV C [.int x5, .int (σ.1 15 x5.toNatClampNeg), .int (σ.1 15 x5.toNatClampNeg)] qv_X8_195 (m_X8_only hq3) rfl (by decide) rfl rfl rfl ⟨rfl, rfl⟩ ⟨by decide, by decide⟩ (Nat.le_of_ble_eq_true rfl) dX8_number_142 ?_
  refine g_iinc C 2 [(5, .int (x5 + (1 : Int32))), (3, .long (xs1 + xs0)), (0, .ref 0)] dX8_number_145 rfl rfl (by decide) rfl ?_
  refine g_goto C 86 dX8_number_148 (by decide) ?_
  exact g_sub [2, 1, 0] rfl (HK86 (xs1 + xs0) (x5 + (1 : Int32)) q3 h)
def f_X8_number_86 (kk151 : Int64 → St → Option (Int64 × St)) : Nat → Int64 → Int32 → St → Option (Int64 × St)
  | 0, _, _, _ => none
  | n + 1, x3, x5, σ => (if (σ.1 0 3) ≤ x5 then kk151 x3 σ else cI (ix x5 20) ((if (σ.1 15 x5.toNatClampNeg) = 0 then (f_X8_number_123 (f_X8_number_86 kk151 n)) x5 (0 : Int64) x3 σ else cI (ix x5 20) ((f_X8_lessThan x5 (σ.1 15 x5.toNatClampNeg) σ).bind (fun q5 => (f_X8_number_123 (f_X8_number_86 kk151 n)) x5 q5.1 x3 q5.2)))))
set_option maxRecDepth 20000 in
theorem s_X8_number_86 {R : Int64 × St} (C : gC p s m args meth c D ca ad 26 LM RX8 cX8_number 6 (some .long)) {kk151 : Int64 → St → Option (Int64 × St)} (HK151 : ∀ (x3 : Int64) (σ : St), kk151 x3 σ = some R → G p l e rm_X8_number s m args below meth c D ca ad 26 LM 6 (gEnd below args s D ca ad 26 LM (some (.long R.1)) R.2) 151 [(0, .ref 0), (3, .long x3)] [] σ) : ∀ (n : Nat) (x3 : Int64) (x5 : Int32) (σ : St), f_X8_number_86 kk151 n x3 x5 σ = some R → G p l e rm_X8_number s m args below meth c D ca ad 26 LM 6 (gEnd below args s D ca ad 26 LM (some (.long R.1)) R.2) 86 [(0, .ref 0), (3, .long x3), (5, .int x5)] [] σ := by
  intro n
  induction n with
  | zero =>
    intro x3 x5 σ h
    have h : none = some R := h
    cases h
  | succ n ih =>
    intro x3 x5 σ h
    rw [f_X8_number_86] at h
    refine g_iload C 2 dX8_number_86 rfl ?_
    refine g_aload_n C 0 dX8_number_88 rfl ?_
    refine g_getI C 3 rfl q_X8_97 rfl dX8_number_89 ?_
    refine g_icmp_ge C 151 dX8_number_92 (by decide) (fun hc1 => ?_) (fun hc1 => ?_)
    · have h := ite_t hc1 h
      exact g_sub [0, 1] rfl (HK151 x3 σ h)
    · have h := ite_f hc1 h
      refine g_lload_n C 1 dX8_number_95 rfl ?_
      refine g_aload_n C 0 dX8_number_96 rfl ?_
      refine g_getR C 21 15 rfl q_X8_60 rfl rfl dX8_number_97 ?_
      refine g_iload C 2 dX8_number_100 rfl ?_
      obtain ⟨hi2, h⟩ := cI_some h
      refine g_iald C 20 rfl ho_12 hi2 dX8_number_102 ?_
      refine g_if_ne C 110 dX8_number_103 (by decide) (fun hc3 => ?_) (fun hc3 => ?_)
      · have h := ite_f hc3 h
        refine g_aload_n C 0 dX8_number_110 rfl ?_
        refine g_iload C 2 dX8_number_111 rfl ?_
        refine g_aload_n C 0 dX8_number_113 rfl ?_
        refine g_getR C 21 15 rfl q_X8_60 rfl rfl dX8_number_114 ?_
        refine g_iload C 2 dX8_number_117 rfl ?_
        obtain ⟨hi4, h⟩ := cI_some h
        refine g_iald C 20 rfl ho_12 hi4 dX8_number_119 ?_
        obtain ⟨q5, hq5, h⟩ := bd h
        refine g_callVL C [.int x5, .int (σ.1 15 x5.toNatClampNeg)] qv_X8_225 (m_X8_lessThan hq5) rfl (by decide) rfl rfl rfl ⟨rfl, rfl⟩ ⟨by decide, by decide⟩ (Nat.le_of_ble_eq_true rfl) dX8_number_120 ?_
        exact g_sub [0, 2] rfl ((s_X8_number_123 C ih) x5 q5.1 x3 q5.2 h)
      · have h := ite_t hc3 h
        refine g_lconst C (0 : Int64) dX8_number_106 rfl ?_
        refine g_goto C 123 dX8_number_107 (by decide) ?_
        exact g_sub [0, 2] rfl ((s_X8_number_123 C ih) x5 (0 : Int64) x3 σ h)
def f_X8_number_151 (x3 : Int64) (σ : St) : Option (Int64 × St) := (f_X8_count σ).bind (fun q1 => (if q1.1 = (0 : Int64) then some ((-4 : Int64), q1.2) else some (x3, q1.2)))
set_option maxRecDepth 20000 in
theorem s_X8_number_151 {R : Int64 × St} (C : gC p s m args meth c D ca ad 26 LM RX8 cX8_number 6 (some .long)) (x3 : Int64) (σ : St) (h : f_X8_number_151 x3 σ = some R) : G p l e rm_X8_number s m args below meth c D ca ad 26 LM 6 (gEnd below args s D ca ad 26 LM (some (.long R.1)) R.2) 151 [(0, .ref 0), (3, .long x3)] [] σ := by
  unfold f_X8_number_151 at h
  refine g_aload_n C 0 dX8_number_151 rfl ?_
  obtain ⟨q1, hq1, h⟩ := bd h
  refine g_callVL C [] qv_X8_182 (m_X8_count hq1) rfl (by decide) rfl rfl rfl ⟨rfl, rfl⟩ ⟨by decide, by decide⟩ (Nat.le_of_ble_eq_true rfl) dX8_number_152 ?_
  refine g_lconst C (0 : Int64) dX8_number_155 rfl ?_
  refine g_lcmp_ne C 166 dX8_number_156 dX8_number_157 (by decide) (fun hc2 => ?_) (fun hc2 => ?_)
  · have h := ite_f hc2 h
    refine g_lload_n C 1 dX8_number_166 rfl ?_
    obtain rfl := Option.some.inj h
    exact g_lret C dX8_number_167
  · have h := ite_t hc2 h
    refine g_ldc2 C (-4 : Int64) qc_X8_220 dX8_number_160 ?_
    refine g_goto C 167 dX8_number_163 (by decide) ?_
    obtain rfl := Option.some.inj h
    exact g_lret C dX8_number_167
def f_X8_number_50 (x2 : Int32) (σ : St) : Option (Int64 × St) := (if x2 = 0 then some ((-2 : Int64), σ) else (f_X8_all σ).bind (fun q2 => (f_X8_isBig q2.1 q2.2).bind (fun q3 => (if q3.1 = 0 then (f_X8_all q3.2).bind (fun q5 => (f_X8_lay_ q5.1 q5.2).bind (fun q6 => (f_X8_number_86 (f_X8_number_151) FU) (0 : Int64) (0 : Int32) q6)) else some ((-5 : Int64), q3.2)))))
set_option maxRecDepth 20000 in
theorem s_X8_number_50 {R : Int64 × St} (C : gC p s m args meth c D ca ad 26 LM RX8 cX8_number 6 (some .long)) (x2 : Int32) (σ : St) (h : f_X8_number_50 x2 σ = some R) : G p l e rm_X8_number s m args below meth c D ca ad 26 LM 6 (gEnd below args s D ca ad 26 LM (some (.long R.1)) R.2) 50 [(0, .ref 0), (2, .int x2)] [] σ := by
  unfold f_X8_number_50 at h
  refine g_iload_n C 1 dX8_number_50 rfl ?_
  refine g_if_ne C 58 dX8_number_51 (by decide) (fun hc1 => ?_) (fun hc1 => ?_)
  · have h := ite_f hc1 h
    refine g_aload_n C 0 dX8_number_58 rfl ?_
    refine g_aload_n C 0 dX8_number_59 rfl ?_
    obtain ⟨q2, hq2, h⟩ := bd h
    refine g_callVI C [] qv_X8_172 (m_X8_all hq2) rfl (by decide) rfl rfl rfl ⟨rfl, rfl⟩ ⟨by decide, by decide⟩ (Nat.le_of_ble_eq_true rfl) dX8_number_60 ?_
    obtain ⟨q3, hq3, h⟩ := bd h
    refine g_callVI C [.int q2.1] qv_X8_175 (m_X8_isBig hq3) rfl (by decide) rfl rfl rfl ⟨rfl, rfl⟩ ⟨by decide, by decide⟩ (Nat.le_of_ble_eq_true rfl) dX8_number_63 ?_
    refine g_if_eq C 73 dX8_number_66 (by decide) (fun hc4 => ?_) (fun hc4 => ?_)
    · have h := ite_t hc4 h
      refine g_aload_n C 0 dX8_number_73 rfl ?_
      refine g_aload_n C 0 dX8_number_74 rfl ?_
      obtain ⟨q5, hq5, h⟩ := bd h
      refine g_callVI C [] qv_X8_172 (m_X8_all hq5) rfl (by decide) rfl rfl rfl ⟨rfl, rfl⟩ ⟨by decide, by decide⟩ (Nat.le_of_ble_eq_true rfl) dX8_number_75 ?_
      obtain ⟨q6, hq6, h⟩ := bd h
      refine g_callVV C [.int q5.1] qv_X8_178 (m_X8_lay_ hq6) rfl (by decide) rfl rfl rfl ⟨rfl, rfl⟩ ⟨by decide, by decide⟩ (Nat.le_of_ble_eq_true rfl) dX8_number_78 ?_
      refine g_lconst C (0 : Int64) dX8_number_81 rfl ?_
      refine g_lstore_n C [(3, .long (0 : Int64)), (0, .ref 0), (2, .int x2)] dX8_number_82 (by decide) rfl ?_
      refine g_iconst C (0 : Int32) dX8_number_83 rfl ?_
      refine g_istore C [(5, .int (0 : Int32)), (3, .long (0 : Int64)), (0, .ref 0), (2, .int x2)] dX8_number_84 (by decide) rfl ?_
      exact g_sub [2, 1, 0] rfl ((s_X8_number_86 C (s_X8_number_151 C) FU) (0 : Int64) (0 : Int32) q6 h)
    · have h := ite_f hc4 h
      refine g_ldc2 C (-5 : Int64) qc_X8_189 dX8_number_69 ?_
      obtain rfl := Option.some.inj h
      exact g_lret C dX8_number_72
  · have h := ite_t hc1 h
    refine g_ldc2 C (-2 : Int64) qc_X8_199 dX8_number_54 ?_
    obtain rfl := Option.some.inj h
    exact g_lret C dX8_number_57
def f_X8_number_23 (x1 : Int32) (xs0 : Int32) (σ : St) : Option (Int64 × St) := (f_X8_number_26 (f_X8_number_50) FU) x1 xs0 (0 : Int32) σ
set_option maxRecDepth 20000 in
theorem s_X8_number_23 {R : Int64 × St} (C : gC p s m args meth c D ca ad 26 LM RX8 cX8_number 6 (some .long)) (x1 : Int32) (xs0 : Int32) (σ : St) (h : f_X8_number_23 x1 xs0 σ = some R) : G p l e rm_X8_number s m args below meth c D ca ad 26 LM 6 (gEnd below args s D ca ad 26 LM (some (.long R.1)) R.2) 23 [(0, .ref 0), (1, .int x1)] [.int xs0] σ := by
  unfold f_X8_number_23 at h
  refine g_istore_n C [(2, .int xs0), (0, .ref 0), (1, .int x1)] dX8_number_23 (by decide) rfl ?_
  refine g_iconst C (0 : Int32) dX8_number_24 rfl ?_
  refine g_istore_n C [(3, .int (0 : Int32)), (2, .int xs0), (0, .ref 0), (1, .int x1)] dX8_number_25 (by decide) rfl ?_
  exact g_sub [2, 3, 1, 0] rfl ((s_X8_number_26 C (s_X8_number_50 C) FU) x1 xs0 (0 : Int32) σ h)
def f_X8_number (σ : St) : Option (Int64 × St) := ap (up1 σ 0 20 (0 : Int32)) fun σ1 => (if (σ.1 0 20) = (σ1.1 0 3) then (f_X8_number_23) (σ.1 0 20) (1 : Int32) σ1 else (f_X8_number_23) (σ.1 0 20) (0 : Int32) σ1)
set_option maxRecDepth 20000 in
theorem m_X8_number {l : Launch} {D : va_G} {ca : Nat → ClassId} {ad : Nat → Nat} {σ : St} {R : Int64 × St} (h : f_X8_number σ = some R) : gM l D ca ad 26 LM yX8_number cX8_number 6 (some .long) rm_X8_number [.ref 0] σ (some (.long R.1)) R.2 := by
  refine gM_of (by decide) (Nat.le_of_ble_eq_true rfl) (fun p e s m args below meth c C => ?_)
  refine g_ent (ls' := [(0, .ref 0)]) rfl ?_
  unfold f_X8_number at h
  refine g_aload_n C 0 dX8_number_0 rfl ?_
  refine g_getI C 20 rfl q_X8_222 rfl dX8_number_1 ?_
  refine g_istore_n C [(1, .int (σ.1 0 20)), (0, .ref 0)] dX8_number_4 (by decide) rfl ?_
  refine g_aload_n C 1 dX8_number_5 rfl ?_
  refine g_iconst C (0 : Int32) dX8_number_6 rfl ?_
  refine g_putI C 20 rfl qp_X8_222 rfl dX8_number_7 ?_
  refine g_nmS (fun σ1 eσ1 => ?_)
  have h := ap_at eσ1 h
  refine g_iload_n C 0 dX8_number_10 rfl ?_
  refine g_aload_n C 1 dX8_number_11 rfl ?_
  refine g_getI C 3 rfl q_X8_97 rfl dX8_number_12 ?_
  refine g_icmp_ne C 22 dX8_number_15 (by decide) (fun hc2 => ?_) (fun hc2 => ?_)
  · have h := ite_f hc2 h
    refine g_iconst C (0 : Int32) dX8_number_22 rfl ?_
    exact g_sub [1, 0] rfl ((s_X8_number_23 C) (σ.1 0 20) (0 : Int32) σ1 h)
  · have h := ite_t hc2 h
    refine g_iconst C (1 : Int32) dX8_number_18 rfl ?_
    refine g_goto C 23 dX8_number_19 (by decide) ?_
    exact g_sub [1, 0] rfl ((s_X8_number_23 C) (σ.1 0 20) (1 : Int32) σ1 h)
def f_X8_carry_43 (kk3 : Nat → Nat → Int32 → Int32 → Int32 → Int32 → St → Option (Int32 × St)) (k1 : Nat) (n1 : Nat) (x2 : Int32) (x3 : Int32) (x4 : Int32) (x5 : Int32) (σ : St) : Option (Int32 × St) := kk3 k1 n1 x2 x3 x4 (x5 + (1 : Int32)) σ
set_option maxRecDepth 20000 in
theorem s_X8_carry_43 {R : Int32 × St} {cd1 : Nat} (C : gC p s m args meth c D ca ad 26 LM RX8 cX8_carry 6 (some .int)) {kk3 : Nat → Nat → Int32 → Int32 → Int32 → Int32 → St → Option (Int32 × St)} (HK3 : ∀ (k1 : Nat) (n1 : Nat) (hk1 : LM k1 = cd1) (ho1 : gok cd1 0 n1) (x2 : Int32) (x3 : Int32) (x4 : Int32) (x5 : Int32) (σ : St), kk3 k1 n1 x2 x3 x4 x5 σ = some R → G p l e rm_X8_carry s m args below meth c D ca ad 26 LM 6 (gEnd below args s D ca ad 26 LM (some (.int R.1)) R.2) 3 [(0, .ref 0), (1, .ref k1), (2, .int x2), (3, .int x3), (4, .int x4), (5, .int x5)] [] σ) (k1 : Nat) (n1 : Nat) (hk1 : LM k1 = cd1) (ho1 : gok cd1 0 n1) (x2 : Int32) (x3 : Int32) (x4 : Int32) (x5 : Int32) (σ : St) (h : f_X8_carry_43 kk3 k1 n1 x2 x3 x4 x5 σ = some R) : G p l e rm_X8_carry s m args below meth c D ca ad 26 LM 6 (gEnd below args s D ca ad 26 LM (some (.int R.1)) R.2) 43 [(0, .ref 0), (1, .ref k1), (2, .int x2), (3, .int x3), (4, .int x4), (5, .int x5)] [] σ := by
  unfold f_X8_carry_43 at h
  refine g_iinc C 5 [(5, .int (x5 + (1 : Int32))), (0, .ref 0), (1, .ref k1), (2, .int x2), (3, .int x3), (4, .int x4)] dX8_carry_43 rfl rfl (by decide) rfl ?_
  refine g_goto C 3 dX8_carry_46 (by decide) ?_
  exact g_sub [1, 2, 3, 4, 5, 0] rfl (HK3 k1 n1 hk1 ho1 x2 x3 x4 (x5 + (1 : Int32)) σ h)
def f_X8_carry_3 : Nat → Nat → Nat → Int32 → Int32 → Int32 → Int32 → St → Option (Int32 × St)
  | 0, _, _, _, _, _, _, _ => none
  | n + 1, k1, n1, x2, x3, x4, x5, σ => (if x2 ≤ x5 then some ((x3 + x2), σ) else (if x4 = 0 then cI (ix x5 n1) (cI (ix (x3 + x5) 260) (ap (up1 σ 10 (x3 + x5).toNatClampNeg (σ.1 k1 x5.toNatClampNeg)) fun σ5 => (f_X8_carry_43 (f_X8_carry_3 n)) k1 n1 x2 x3 x4 x5 σ5)) else cI (ix (x3 + x5) 260) (cI (ix x5 n1) (ap (up1 σ k1 x5.toNatClampNeg (σ.1 10 (x3 + x5).toNatClampNeg)) fun σ8 => (f_X8_carry_43 (f_X8_carry_3 n)) k1 n1 x2 x3 x4 x5 σ8))))
set_option maxRecDepth 20000 in
theorem s_X8_carry_3 {R : Int32 × St} {cd1 : Nat} (C : gC p s m args meth c D ca ad 26 LM RX8 cX8_carry 6 (some .int)) : ∀ (n : Nat) (k1 : Nat) (n1 : Nat) (hk1 : LM k1 = cd1) (ho1 : gok cd1 0 n1) (x2 : Int32) (x3 : Int32) (x4 : Int32) (x5 : Int32) (σ : St), f_X8_carry_3 n k1 n1 x2 x3 x4 x5 σ = some R → G p l e rm_X8_carry s m args below meth c D ca ad 26 LM 6 (gEnd below args s D ca ad 26 LM (some (.int R.1)) R.2) 3 [(0, .ref 0), (1, .ref k1), (2, .int x2), (3, .int x3), (4, .int x4), (5, .int x5)] [] σ := by
  intro n
  induction n with
  | zero =>
    intro k1 n1 hk1 ho1 x2 x3 x4 x5 σ h
    have h : none = some R := h
    cases h
  | succ n ih =>
    intro k1 n1 hk1 ho1 x2 x3 x4 x5 σ h
    rw [f_X8_carry_3] at h
    refine g_iload C 5 dX8_carry_3 rfl ?_
    refine g_iload_n C 2 dX8_carry_5 rfl ?_
    refine g_icmp_ge C 49 dX8_carry_6 (by decide) (fun hc1 => ?_) (fun hc1 => ?_)
    · have h := ite_t hc1 h
      refine g_iload_n C 3 dX8_carry_49 rfl ?_
      refine g_iload_n C 2 dX8_carry_50 rfl ?_
      refine g_iadd C dX8_carry_51 ?_
      obtain rfl := Option.some.inj h
      exact g_iret C dX8_carry_52
    · have h := ite_f hc1 h
      refine g_iload C 4 dX8_carry_9 rfl ?_
      refine g_if_eq C 30 dX8_carry_11 (by decide) (fun hc2 => ?_) (fun hc2 => ?_)
      · have h := ite_t hc2 h
        refine g_aload_n C 0 dX8_carry_30 rfl ?_
        refine g_getR C 14 10 rfl q_X8_45 rfl rfl dX8_carry_31 ?_
        refine g_iload_n C 3 dX8_carry_34 rfl ?_
        refine g_iload C 5 dX8_carry_35 rfl ?_
        refine g_iadd C dX8_carry_37 ?_
        refine g_aload_n C 1 dX8_carry_38 rfl ?_
        refine g_iload C 5 dX8_carry_39 rfl ?_
        obtain ⟨hi3, h⟩ := cI_some h
        refine g_iald C n1 hk1 ho1 hi3 dX8_carry_41 ?_
        obtain ⟨hi4, h⟩ := cI_some h
        refine g_iast C 260 rfl ho_26 hi4 dX8_carry_42 ?_
        refine g_nmS (fun σ5 eσ5 => ?_)
        have h := ap_at eσ5 h
        exact g_sub [0, 1, 2, 3, 4, 5] rfl ((s_X8_carry_43 C ih) k1 n1 hk1 ho1 x2 x3 x4 x5 σ5 h)
      · have h := ite_f hc2 h
        refine g_aload_n C 1 dX8_carry_14 rfl ?_
        refine g_iload C 5 dX8_carry_15 rfl ?_
        refine g_aload_n C 0 dX8_carry_17 rfl ?_
        refine g_getR C 14 10 rfl q_X8_45 rfl rfl dX8_carry_18 ?_
        refine g_iload_n C 3 dX8_carry_21 rfl ?_
        refine g_iload C 5 dX8_carry_22 rfl ?_
        refine g_iadd C dX8_carry_24 ?_
        obtain ⟨hi6, h⟩ := cI_some h
        refine g_iald C 260 rfl ho_26 hi6 dX8_carry_25 ?_
        obtain ⟨hi7, h⟩ := cI_some h
        refine g_iast C n1 hk1 ho1 hi7 dX8_carry_26 ?_
        refine g_nmS (fun σ8 eσ8 => ?_)
        have h := ap_at eσ8 h
        refine g_goto C 43 dX8_carry_27 (by decide) ?_
        exact g_sub [0, 1, 2, 3, 4, 5] rfl ((s_X8_carry_43 C ih) k1 n1 hk1 ho1 x2 x3 x4 x5 σ8 h)
def f_X8_carry (k1 : Nat) (n1 : Nat) (x2 : Int32) (x3 : Int32) (x4 : Int32) (σ : St) : Option (Int32 × St) := (f_X8_carry_3 FU) k1 n1 x2 x3 x4 (0 : Int32) σ
set_option maxRecDepth 20000 in
theorem m_X8_carry {l : Launch} {D : va_G} {ca : Nat → ClassId} {ad : Nat → Nat} {cd1 : Nat} {k1 : Nat} {n1 : Nat} {x2 : Int32} {x3 : Int32} {x4 : Int32} {σ : St} {R : Int32 × St} (hk1 : LM k1 = cd1) (ho1 : gok cd1 0 n1) (h : f_X8_carry k1 n1 x2 x3 x4 σ = some R) : gM l D ca ad 26 LM yX8_carry cX8_carry 6 (some .int) rm_X8_carry [.ref 0, .ref k1, .int x2, .int x3, .int x4] σ (some (.int R.1)) R.2 := by
  refine gM_of (by decide) (Nat.le_of_ble_eq_true rfl) (fun p e s m args below meth c C => ?_)
  refine g_ent (ls' := [(0, .ref 0), (1, .ref k1), (2, .int x2), (3, .int x3), (4, .int x4)]) rfl ?_
  unfold f_X8_carry at h
  refine g_iconst C (0 : Int32) dX8_carry_0 rfl ?_
  refine g_istore C [(5, .int (0 : Int32)), (0, .ref 0), (1, .ref k1), (2, .int x2), (3, .int x3), (4, .int x4)] dX8_carry_1 (by decide) rfl ?_
  exact g_sub [1, 2, 3, 4, 5, 0] rfl ((s_X8_carry_3 C FU) k1 n1 hk1 ho1 x2 x3 x4 (0 : Int32) σ h)
def f_X8_carryAll (x1 : Int32) (σ : St) : Option (St) := cI (ix (0 : Int32) 2) (ap (up1 σ 24 (0 : Int32).toNatClampNeg (σ.1 0 0)) fun σ2 => cI (ix (1 : Int32) 2) (ap (up1 σ2 24 (1 : Int32).toNatClampNeg (σ2.1 0 3)) fun σ4 => (f_X8_carry 24 2 (2 : Int32) (0 : Int32) x1 σ4).bind (fun q5 => (f_X8_carry 1 40 (40 : Int32) q5.1 x1 q5.2).bind (fun q6 => (f_X8_carry 2 21 (21 : Int32) q6.1 x1 q6.2).bind (fun q7 => (f_X8_carry 3 7 (7 : Int32) q7.1 x1 q7.2).bind (fun q8 => (f_X8_carry 4 7 (7 : Int32) q8.1 x1 q8.2).bind (fun q9 => (f_X8_carry 5 7 (7 : Int32) q9.1 x1 q9.2).bind (fun q10 => (f_X8_carry 6 35 (35 : Int32) q10.1 x1 q10.2).bind (fun q11 => (f_X8_carry 7 35 (35 : Int32) q11.1 x1 q11.2).bind (fun q12 => (f_X8_carry 8 49 (49 : Int32) q12.1 x1 q12.2).bind (fun q13 => cI (ix (0 : Int32) 2) (ap (up1 q13.2 0 0 (q13.2.1 24 (0 : Int32).toNatClampNeg)) fun σ15 => cI (ix (1 : Int32) 2) (ap (up1 σ15 0 3 (σ15.1 24 (1 : Int32).toNatClampNeg)) fun σ17 => some σ17)))))))))))))
set_option maxRecDepth 20000 in
theorem m_X8_carryAll {l : Launch} {D : va_G} {ca : Nat → ClassId} {ad : Nat → Nat} {x1 : Int32} {σ : St} {R : St} (h : f_X8_carryAll x1 σ = some R) : gM l D ca ad 26 LM yX8_carryAll cX8_carryAll 3 none rm_X8_carryAll [.ref 0, .int x1] σ none R := by
  refine gM_of (by decide) (Nat.le_of_ble_eq_true rfl) (fun p e s m args below meth c C => ?_)
  refine g_ent (ls' := [(0, .ref 0), (1, .int x1)]) rfl ?_
  unfold f_X8_carryAll at h
  refine g_aload_n C 0 dX8_carryAll_0 rfl ?_
  refine g_getR C 35 24 rfl q_X8_88 rfl rfl dX8_carryAll_1 ?_
  refine g_iconst C (0 : Int32) dX8_carryAll_4 rfl ?_
  refine g_aload_n C 0 dX8_carryAll_5 rfl ?_
  refine g_getI C 0 rfl q_X8_7 rfl dX8_carryAll_6 ?_
  obtain ⟨hi1, h⟩ := cI_some h
  refine g_iast C 2 rfl ho_30 hi1 dX8_carryAll_9 ?_
  refine g_nmS (fun σ2 eσ2 => ?_)
  have h := ap_at eσ2 h
  refine g_aload_n C 0 dX8_carryAll_10 rfl ?_
  refine g_getR C 35 24 rfl q_X8_88 rfl rfl dX8_carryAll_11 ?_
  refine g_iconst C (1 : Int32) dX8_carryAll_14 rfl ?_
  refine g_aload_n C 0 dX8_carryAll_15 rfl ?_
  refine g_getI C 3 rfl q_X8_97 rfl dX8_carryAll_16 ?_
  obtain ⟨hi3, h⟩ := cI_some h
  refine g_iast C 2 rfl ho_30 hi3 dX8_carryAll_19 ?_
  refine g_nmS (fun σ4 eσ4 => ?_)
  have h := ap_at eσ4 h
  refine g_aload_n C 0 dX8_carryAll_20 rfl ?_
  refine g_aload_n C 0 dX8_carryAll_21 rfl ?_
  refine g_getR C 35 24 rfl q_X8_88 rfl rfl dX8_carryAll_22 ?_
  refine g_iconst C (2 : Int32) dX8_carryAll_25 rfl ?_
  refine g_iconst C (0 : Int32) dX8_carryAll_26 rfl ?_
  refine g_iload_n C 1 dX8_carryAll_27 rfl ?_
  obtain ⟨q5, hq5, h⟩ := bd h
  refine g_callVI C [.ref 24, .int (2 : Int32), .int (0 : Int32), .int x1] qv_X8_228 (m_X8_carry rfl ho_30 hq5) rfl (by decide) rfl rfl rfl ⟨rfl, rfl⟩ ⟨by decide, by decide⟩ (Nat.le_of_ble_eq_true rfl) dX8_carryAll_28 ?_
  refine g_istore_n C [(2, .int q5.1), (0, .ref 0), (1, .int x1)] dX8_carryAll_31 (by decide) rfl ?_
  refine g_aload_n C 1 dX8_carryAll_32 rfl ?_
  refine g_aload_n C 1 dX8_carryAll_33 rfl ?_
  refine g_getR C 1 1 rfl q_X8_13 rfl rfl dX8_carryAll_34 ?_
  refine g_bipush C (40 : Int32) dX8_carryAll_37 rfl ?_
  refine g_iload_n C 0 dX8_carryAll_39 rfl ?_
  refine g_iload_n C 2 dX8_carryAll_40 rfl ?_
  obtain ⟨q6, hq6, h⟩ := bd h
  refine g_callVI C [.ref 1, .int (40 : Int32), .int q5.1, .int x1] qv_X8_228 (m_X8_carry rfl ho_14 hq6) rfl (by decide) rfl rfl rfl ⟨rfl, rfl⟩ ⟨by decide, by decide⟩ (Nat.le_of_ble_eq_true rfl) dX8_carryAll_41 ?_
  refine g_istore_n C [(2, .int q6.1), (0, .ref 0), (1, .int x1)] dX8_carryAll_44 (by decide) rfl ?_
  refine g_aload_n C 1 dX8_carryAll_45 rfl ?_
  refine g_aload_n C 1 dX8_carryAll_46 rfl ?_
  refine g_getR C 2 2 rfl q_X8_17 rfl rfl dX8_carryAll_47 ?_
  refine g_bipush C (21 : Int32) dX8_carryAll_50 rfl ?_
  refine g_iload_n C 0 dX8_carryAll_52 rfl ?_
  refine g_iload_n C 2 dX8_carryAll_53 rfl ?_
  obtain ⟨q7, hq7, h⟩ := bd h
  refine g_callVI C [.ref 2, .int (21 : Int32), .int q6.1, .int x1] qv_X8_228 (m_X8_carry rfl ho_13 hq7) rfl (by decide) rfl rfl rfl ⟨rfl, rfl⟩ ⟨by decide, by decide⟩ (Nat.le_of_ble_eq_true rfl) dX8_carryAll_54 ?_
  refine g_istore_n C [(2, .int q7.1), (0, .ref 0), (1, .int x1)] dX8_carryAll_57 (by decide) rfl ?_
  refine g_aload_n C 1 dX8_carryAll_58 rfl ?_
  refine g_aload_n C 1 dX8_carryAll_59 rfl ?_
  refine g_getR C 4 3 rfl q_X8_20 rfl rfl dX8_carryAll_60 ?_
  refine g_bipush C (7 : Int32) dX8_carryAll_63 rfl ?_
  refine g_iload_n C 0 dX8_carryAll_65 rfl ?_
  refine g_iload_n C 2 dX8_carryAll_66 rfl ?_
  obtain ⟨q8, hq8, h⟩ := bd h
  refine g_callVI C [.ref 3, .int (7 : Int32), .int q7.1, .int x1] qv_X8_228 (m_X8_carry rfl ho_11 hq8) rfl (by decide) rfl rfl rfl ⟨rfl, rfl⟩ ⟨by decide, by decide⟩ (Nat.le_of_ble_eq_true rfl) dX8_carryAll_67 ?_
  refine g_istore_n C [(2, .int q8.1), (0, .ref 0), (1, .int x1)] dX8_carryAll_70 (by decide) rfl ?_
  refine g_aload_n C 1 dX8_carryAll_71 rfl ?_
  refine g_aload_n C 1 dX8_carryAll_72 rfl ?_
  refine g_getR C 5 4 rfl q_X8_23 rfl rfl dX8_carryAll_73 ?_
  refine g_bipush C (7 : Int32) dX8_carryAll_76 rfl ?_
  refine g_iload_n C 0 dX8_carryAll_78 rfl ?_
  refine g_iload_n C 2 dX8_carryAll_79 rfl ?_
  obtain ⟨q9, hq9, h⟩ := bd h
  refine g_callVI C [.ref 4, .int (7 : Int32), .int q8.1, .int x1] qv_X8_228 (m_X8_carry rfl ho_11 hq9) rfl (by decide) rfl rfl rfl ⟨rfl, rfl⟩ ⟨by decide, by decide⟩ (Nat.le_of_ble_eq_true rfl) dX8_carryAll_80 ?_
  refine g_istore_n C [(2, .int q9.1), (0, .ref 0), (1, .int x1)] dX8_carryAll_83 (by decide) rfl ?_
  refine g_aload_n C 1 dX8_carryAll_84 rfl ?_
  refine g_aload_n C 1 dX8_carryAll_85 rfl ?_
  refine g_getR C 6 5 rfl q_X8_26 rfl rfl dX8_carryAll_86 ?_
  refine g_bipush C (7 : Int32) dX8_carryAll_89 rfl ?_
  refine g_iload_n C 0 dX8_carryAll_91 rfl ?_
  refine g_iload_n C 2 dX8_carryAll_92 rfl ?_
  obtain ⟨q10, hq10, h⟩ := bd h
  refine g_callVI C [.ref 5, .int (7 : Int32), .int q9.1, .int x1] qv_X8_228 (m_X8_carry rfl ho_11 hq10) rfl (by decide) rfl rfl rfl ⟨rfl, rfl⟩ ⟨by decide, by decide⟩ (Nat.le_of_ble_eq_true rfl) dX8_carryAll_93 ?_
  refine g_istore_n C [(2, .int q10.1), (0, .ref 0), (1, .int x1)] dX8_carryAll_96 (by decide) rfl ?_
  refine g_aload_n C 1 dX8_carryAll_97 rfl ?_
  refine g_aload_n C 1 dX8_carryAll_98 rfl ?_
  refine g_getR C 7 6 rfl q_X8_29 rfl rfl dX8_carryAll_99 ?_
  refine g_bipush C (35 : Int32) dX8_carryAll_102 rfl ?_
  refine g_iload_n C 0 dX8_carryAll_104 rfl ?_
  refine g_iload_n C 2 dX8_carryAll_105 rfl ?_
  obtain ⟨q11, hq11, h⟩ := bd h
  refine g_callVI C [.ref 6, .int (35 : Int32), .int q10.1, .int x1] qv_X8_228 (m_X8_carry rfl ho_24 hq11) rfl (by decide) rfl rfl rfl ⟨rfl, rfl⟩ ⟨by decide, by decide⟩ (Nat.le_of_ble_eq_true rfl) dX8_carryAll_106 ?_
  refine g_istore_n C [(2, .int q11.1), (0, .ref 0), (1, .int x1)] dX8_carryAll_109 (by decide) rfl ?_
  refine g_aload_n C 1 dX8_carryAll_110 rfl ?_
  refine g_aload_n C 1 dX8_carryAll_111 rfl ?_
  refine g_getR C 8 7 rfl q_X8_32 rfl rfl dX8_carryAll_112 ?_
  refine g_bipush C (35 : Int32) dX8_carryAll_115 rfl ?_
  refine g_iload_n C 0 dX8_carryAll_117 rfl ?_
  refine g_iload_n C 2 dX8_carryAll_118 rfl ?_
  obtain ⟨q12, hq12, h⟩ := bd h
  refine g_callVI C [.ref 7, .int (35 : Int32), .int q11.1, .int x1] qv_X8_228 (m_X8_carry rfl ho_24 hq12) rfl (by decide) rfl rfl rfl ⟨rfl, rfl⟩ ⟨by decide, by decide⟩ (Nat.le_of_ble_eq_true rfl) dX8_carryAll_119 ?_
  refine g_istore_n C [(2, .int q12.1), (0, .ref 0), (1, .int x1)] dX8_carryAll_122 (by decide) rfl ?_
  refine g_aload_n C 1 dX8_carryAll_123 rfl ?_
  refine g_aload_n C 1 dX8_carryAll_124 rfl ?_
  refine g_getR C 9 8 rfl q_X8_35 rfl rfl dX8_carryAll_125 ?_
  refine g_bipush C (49 : Int32) dX8_carryAll_128 rfl ?_
  refine g_iload_n C 0 dX8_carryAll_130 rfl ?_
  refine g_iload_n C 2 dX8_carryAll_131 rfl ?_
  obtain ⟨q13, hq13, h⟩ := bd h
  refine g_callVI C [.ref 8, .int (49 : Int32), .int q12.1, .int x1] qv_X8_228 (m_X8_carry rfl ho_25 hq13) rfl (by decide) rfl rfl rfl ⟨rfl, rfl⟩ ⟨by decide, by decide⟩ (Nat.le_of_ble_eq_true rfl) dX8_carryAll_132 ?_
  refine g_istore_n C [(2, .int q13.1), (0, .ref 0), (1, .int x1)] dX8_carryAll_135 (by decide) rfl ?_
  refine g_aload_n C 1 dX8_carryAll_136 rfl ?_
  refine g_aload_n C 1 dX8_carryAll_137 rfl ?_
  refine g_getR C 35 24 rfl q_X8_88 rfl rfl dX8_carryAll_138 ?_
  refine g_iconst C (0 : Int32) dX8_carryAll_141 rfl ?_
  obtain ⟨hi14, h⟩ := cI_some h
  refine g_iald C 2 rfl ho_30 hi14 dX8_carryAll_142 ?_
  refine g_putI C 0 rfl qp_X8_7 rfl dX8_carryAll_143 ?_
  refine g_nmS (fun σ15 eσ15 => ?_)
  have h := ap_at eσ15 h
  refine g_aload_n C 1 dX8_carryAll_146 rfl ?_
  refine g_aload_n C 1 dX8_carryAll_147 rfl ?_
  refine g_getR C 35 24 rfl q_X8_88 rfl rfl dX8_carryAll_148 ?_
  refine g_iconst C (1 : Int32) dX8_carryAll_151 rfl ?_
  obtain ⟨hi16, h⟩ := cI_some h
  refine g_iald C 2 rfl ho_30 hi16 dX8_carryAll_152 ?_
  refine g_putI C 3 rfl qp_X8_97 rfl dX8_carryAll_153 ?_
  refine g_nmS (fun σ17 eσ17 => ?_)
  have h := ap_at eσ17 h
  obtain rfl := Option.some.inj h
  exact g_vret C dX8_carryAll_156
def f_X8_keep (σ : St) : Option (Int32 × St) := (f_X8_carryAll (0 : Int32) σ).bind (fun q1 => ap (up1 q1 0 13 (1 : Int32)) fun σ2 => some ((σ2.1 0 3), σ2))
set_option maxRecDepth 20000 in
theorem m_X8_keep {l : Launch} {D : va_G} {ca : Nat → ClassId} {ad : Nat → Nat} {σ : St} {R : Int32 × St} (h : f_X8_keep σ = some R) : gM l D ca ad 26 LM yX8_keep cX8_keep 1 (some .int) rm_X8_keep [.ref 0] σ (some (.int R.1)) R.2 := by
  refine gM_of (by decide) (Nat.le_of_ble_eq_true rfl) (fun p e s m args below meth c C => ?_)
  refine g_ent (ls' := [(0, .ref 0)]) rfl ?_
  unfold f_X8_keep at h
  refine g_aload_n C 0 dX8_keep_0 rfl ?_
  refine g_iconst C (0 : Int32) dX8_keep_1 rfl ?_
  obtain ⟨q1, hq1, h⟩ := bd h
  refine g_callVV C [.int (0 : Int32)] qv_X8_232 (m_X8_carryAll hq1) rfl (by decide) rfl rfl rfl ⟨rfl, rfl⟩ ⟨by decide, by decide⟩ (Nat.le_of_ble_eq_true rfl) dX8_keep_2 ?_
  refine g_aload_n C 0 dX8_keep_5 rfl ?_
  refine g_iconst C (1 : Int32) dX8_keep_6 rfl ?_
  refine g_putZ C 13 rfl qp_X8_236 rfl rfl rfl dX8_keep_7 ?_
  refine g_nmS (fun σ2 eσ2 => ?_)
  have h := ap_at eσ2 h
  refine g_aload_n C 0 dX8_keep_10 rfl ?_
  refine g_getI C 3 rfl q_X8_97 rfl dX8_keep_11 ?_
  obtain rfl := Option.some.inj h
  exact g_iret C dX8_keep_14
def f_X8_back (σ : St) : Option (Int32 × St) := (if (σ.1 0 13) = 0 then (f_X8_meet (-10 : Int32) σ).bind (fun q4 => some (q4.1, q4.2)) else (f_X8_carryAll (1 : Int32) σ).bind (fun q2 => ap (up1 q2 0 10 (0 : Int32)) fun σ3 => some ((σ3.1 0 3), σ3)))
set_option maxRecDepth 20000 in
theorem m_X8_back {l : Launch} {D : va_G} {ca : Nat → ClassId} {ad : Nat → Nat} {σ : St} {R : Int32 × St} (h : f_X8_back σ = some R) : gM l D ca ad 26 LM yX8_back cX8_back 1 (some .int) rm_X8_back [.ref 0] σ (some (.int R.1)) R.2 := by
  refine gM_of (by decide) (Nat.le_of_ble_eq_true rfl) (fun p e s m args below meth c C => ?_)
  refine g_ent (ls' := [(0, .ref 0)]) rfl ?_
  unfold f_X8_back at h
  refine g_aload_n C 0 dX8_back_0 rfl ?_
  refine g_getI C 13 rfl q_X8_236 rfl dX8_back_1 ?_
  refine g_if_ne C 14 dX8_back_4 (by decide) (fun hc1 => ?_) (fun hc1 => ?_)
  · have h := ite_f hc1 h
    refine g_aload_n C 0 dX8_back_14 rfl ?_
    refine g_iconst C (1 : Int32) dX8_back_15 rfl ?_
    obtain ⟨q2, hq2, h⟩ := bd h
    refine g_callVV C [.int (1 : Int32)] qv_X8_232 (m_X8_carryAll hq2) rfl (by decide) rfl rfl rfl ⟨rfl, rfl⟩ ⟨by decide, by decide⟩ (Nat.le_of_ble_eq_true rfl) dX8_back_16 ?_
    refine g_aload_n C 0 dX8_back_19 rfl ?_
    refine g_iconst C (0 : Int32) dX8_back_20 rfl ?_
    refine g_putZ C 10 rfl qp_X8_113 rfl rfl rfl dX8_back_21 ?_
    refine g_nmS (fun σ3 eσ3 => ?_)
    have h := ap_at eσ3 h
    refine g_aload_n C 0 dX8_back_24 rfl ?_
    refine g_getI C 3 rfl q_X8_97 rfl dX8_back_25 ?_
    obtain rfl := Option.some.inj h
    exact g_iret C dX8_back_28
  · have h := ite_t hc1 h
    refine g_aload_n C 0 dX8_back_7 rfl ?_
    refine g_bipush C (-10 : Int32) dX8_back_8 rfl ?_
    obtain ⟨q4, hq4, h⟩ := bd h
    refine g_callVI C [.int (-10 : Int32)] qv_X8_108 (m_X8_meet hq4) rfl (by decide) rfl rfl rfl ⟨rfl, rfl⟩ ⟨by decide, by decide⟩ (Nat.le_of_ble_eq_true rfl) dX8_back_10 ?_
    obtain rfl := Option.some.inj h
    exact g_iret C dX8_back_13
def f_X8_change_2 (kk27 : St → Option (St)) : Nat → Int32 → St → Option (St)
  | 0, _, _ => none
  | n + 1, x1, σ => (if (260 : Int32) ≤ x1 then kk27 σ else cI (ix x1 260) (cI (ix x1 260) (ap (up1 σ 25 x1.toNatClampNeg (σ.1 10 x1.toNatClampNeg)) fun σ4 => (f_X8_change_2 kk27 n) (x1 + (1 : Int32)) σ4)))
set_option maxRecDepth 20000 in
theorem s_X8_change_2 {R : St} (C : gC p s m args meth c D ca ad 26 LM RX8 cX8_change 3 none) {kk27 : St → Option (St)} (HK27 : ∀ (σ : St), kk27 σ = some R → G p l e rm_X8_change s m args below meth c D ca ad 26 LM 3 (gEnd below args s D ca ad 26 LM none R) 27 [(0, .ref 0)] [] σ) : ∀ (n : Nat) (x1 : Int32) (σ : St), f_X8_change_2 kk27 n x1 σ = some R → G p l e rm_X8_change s m args below meth c D ca ad 26 LM 3 (gEnd below args s D ca ad 26 LM none R) 2 [(0, .ref 0), (1, .int x1)] [] σ := by
  intro n
  induction n with
  | zero =>
    intro x1 σ h
    have h : none = some R := h
    cases h
  | succ n ih =>
    intro x1 σ h
    rw [f_X8_change_2] at h
    refine g_iload_n C 1 dX8_change_2 rfl ?_
    refine g_sipush C (260 : Int32) dX8_change_3 rfl ?_
    refine g_icmp_ge C 27 dX8_change_6 (by decide) (fun hc1 => ?_) (fun hc1 => ?_)
    · have h := ite_t hc1 h
      exact g_sub [0] rfl (HK27 σ h)
    · have h := ite_f hc1 h
      refine g_aload_n C 0 dX8_change_9 rfl ?_
      refine g_getR C 36 25 rfl q_X8_91 rfl rfl dX8_change_10 ?_
      refine g_iload_n C 1 dX8_change_13 rfl ?_
      refine g_aload_n C 0 dX8_change_14 rfl ?_
      refine g_getR C 14 10 rfl q_X8_45 rfl rfl dX8_change_15 ?_
      refine g_iload_n C 1 dX8_change_18 rfl ?_
      obtain ⟨hi2, h⟩ := cI_some h
      refine g_iald C 260 rfl ho_26 hi2 dX8_change_19 ?_
      obtain ⟨hi3, h⟩ := cI_some h
      refine g_iast C 260 rfl ho_26 hi3 dX8_change_20 ?_
      refine g_nmS (fun σ4 eσ4 => ?_)
      have h := ap_at eσ4 h
      refine g_iinc C 1 [(1, .int (x1 + (1 : Int32))), (0, .ref 0)] dX8_change_21 rfl rfl (by decide) rfl ?_
      refine g_goto C 2 dX8_change_24 (by decide) ?_
      exact g_sub [1, 0] rfl (ih (x1 + (1 : Int32)) σ4 h)
def f_X8_change_34 (kk73 : St → Option (St)) : Nat → Int32 → St → Option (St)
  | 0, _, _ => none
  | n + 1, x1, σ => (if (260 : Int32) ≤ x1 then kk73 σ else cI (ix x1 260) (ap (σ.1 10 x1.toNatClampNeg) fun z3 => cI (ix x1 260) (cI (ix x1 260) (ap (up1 σ 10 x1.toNatClampNeg (σ.1 25 x1.toNatClampNeg)) fun σ6 => cI (ix x1 260) (ap (up1 σ6 25 x1.toNatClampNeg z3) fun σ8 => (f_X8_change_34 kk73 n) (x1 + (1 : Int32)) σ8)))))
set_option maxRecDepth 20000 in
theorem s_X8_change_34 {R : St} (C : gC p s m args meth c D ca ad 26 LM RX8 cX8_change 3 none) {kk73 : St → Option (St)} (HK73 : ∀ (σ : St), kk73 σ = some R → G p l e rm_X8_change s m args below meth c D ca ad 26 LM 3 (gEnd below args s D ca ad 26 LM none R) 73 [(0, .ref 0)] [] σ) : ∀ (n : Nat) (x1 : Int32) (σ : St), f_X8_change_34 kk73 n x1 σ = some R → G p l e rm_X8_change s m args below meth c D ca ad 26 LM 3 (gEnd below args s D ca ad 26 LM none R) 34 [(0, .ref 0), (1, .int x1)] [] σ := by
  intro n
  induction n with
  | zero =>
    intro x1 σ h
    have h : none = some R := h
    cases h
  | succ n ih =>
    intro x1 σ h
    rw [f_X8_change_34] at h
    refine g_iload_n C 1 dX8_change_34 rfl ?_
    refine g_sipush C (260 : Int32) dX8_change_35 rfl ?_
    refine g_icmp_ge C 73 dX8_change_38 (by decide) (fun hc1 => ?_) (fun hc1 => ?_)
    · have h := ite_t hc1 h
      exact g_sub [0] rfl (HK73 σ h)
    · have h := ite_f hc1 h
      refine g_aload_n C 0 dX8_change_41 rfl ?_
      refine g_getR C 14 10 rfl q_X8_45 rfl rfl dX8_change_42 ?_
      refine g_iload_n C 1 dX8_change_45 rfl ?_
      obtain ⟨hi2, h⟩ := cI_some h
      refine g_iald C 260 rfl ho_26 hi2 dX8_change_46 ?_
      refine g_nmI (fun z3 ez3 => ?_)
      have h := ap_at ez3 h
      refine g_istore_n C [(2, .int z3), (0, .ref 0), (1, .int x1)] dX8_change_47 (by decide) rfl ?_
      refine g_aload_n C 1 dX8_change_48 rfl ?_
      refine g_getR C 14 10 rfl q_X8_45 rfl rfl dX8_change_49 ?_
      refine g_iload_n C 2 dX8_change_52 rfl ?_
      refine g_aload_n C 1 dX8_change_53 rfl ?_
      refine g_getR C 36 25 rfl q_X8_91 rfl rfl dX8_change_54 ?_
      refine g_iload_n C 2 dX8_change_57 rfl ?_
      obtain ⟨hi4, h⟩ := cI_some h
      refine g_iald C 260 rfl ho_26 hi4 dX8_change_58 ?_
      obtain ⟨hi5, h⟩ := cI_some h
      refine g_iast C 260 rfl ho_26 hi5 dX8_change_59 ?_
      refine g_nmS (fun σ6 eσ6 => ?_)
      have h := ap_at eσ6 h
      refine g_aload_n C 1 dX8_change_60 rfl ?_
      refine g_getR C 36 25 rfl q_X8_91 rfl rfl dX8_change_61 ?_
      refine g_iload_n C 2 dX8_change_64 rfl ?_
      refine g_iload_n C 0 dX8_change_65 rfl ?_
      obtain ⟨hi7, h⟩ := cI_some h
      refine g_iast C 260 rfl ho_26 hi7 dX8_change_66 ?_
      refine g_nmS (fun σ8 eσ8 => ?_)
      have h := ap_at eσ8 h
      refine g_iinc C 2 [(1, .int (x1 + (1 : Int32))), (2, .int z3), (0, .ref 0)] dX8_change_67 rfl rfl (by decide) rfl ?_
      refine g_goto C 34 dX8_change_70 (by decide) ?_
      exact g_sub [2, 0] rfl (ih (x1 + (1 : Int32)) σ8 h)
def f_X8_change_80 : Nat → Int32 → St → Option (St)
  | 0, _, _ => none
  | n + 1, x1, σ => (if (260 : Int32) ≤ x1 then some σ else cI (ix x1 260) (cI (ix x1 260) (ap (up1 σ 10 x1.toNatClampNeg (σ.1 25 x1.toNatClampNeg)) fun σ4 => (f_X8_change_80 n) (x1 + (1 : Int32)) σ4)))
set_option maxRecDepth 20000 in
theorem s_X8_change_80 {R : St} (C : gC p s m args meth c D ca ad 26 LM RX8 cX8_change 3 none) : ∀ (n : Nat) (x1 : Int32) (σ : St), f_X8_change_80 n x1 σ = some R → G p l e rm_X8_change s m args below meth c D ca ad 26 LM 3 (gEnd below args s D ca ad 26 LM none R) 80 [(0, .ref 0), (1, .int x1)] [] σ := by
  intro n
  induction n with
  | zero =>
    intro x1 σ h
    have h : none = some R := h
    cases h
  | succ n ih =>
    intro x1 σ h
    rw [f_X8_change_80] at h
    refine g_iload_n C 1 dX8_change_80 rfl ?_
    refine g_sipush C (260 : Int32) dX8_change_81 rfl ?_
    refine g_icmp_ge C 105 dX8_change_84 (by decide) (fun hc1 => ?_) (fun hc1 => ?_)
    · have h := ite_t hc1 h
      obtain rfl := Option.some.inj h
      exact g_vret C dX8_change_105
    · have h := ite_f hc1 h
      refine g_aload_n C 0 dX8_change_87 rfl ?_
      refine g_getR C 14 10 rfl q_X8_45 rfl rfl dX8_change_88 ?_
      refine g_iload_n C 1 dX8_change_91 rfl ?_
      refine g_aload_n C 0 dX8_change_92 rfl ?_
      refine g_getR C 36 25 rfl q_X8_91 rfl rfl dX8_change_93 ?_
      refine g_iload_n C 1 dX8_change_96 rfl ?_
      obtain ⟨hi2, h⟩ := cI_some h
      refine g_iald C 260 rfl ho_26 hi2 dX8_change_97 ?_
      obtain ⟨hi3, h⟩ := cI_some h
      refine g_iast C 260 rfl ho_26 hi3 dX8_change_98 ?_
      refine g_nmS (fun σ4 eσ4 => ?_)
      have h := ap_at eσ4 h
      refine g_iinc C 1 [(1, .int (x1 + (1 : Int32))), (0, .ref 0)] dX8_change_99 rfl rfl (by decide) rfl ?_
      refine g_goto C 80 dX8_change_102 (by decide) ?_
      exact g_sub [1, 0] rfl (ih (x1 + (1 : Int32)) σ4 h)
def f_X8_change_73 (σ : St) : Option (St) := (f_X8_carryAll (1 : Int32) σ).bind (fun q1 => (f_X8_change_80 FU) (0 : Int32) q1)
set_option maxRecDepth 20000 in
theorem s_X8_change_73 {R : St} (C : gC p s m args meth c D ca ad 26 LM RX8 cX8_change 3 none) (σ : St) (h : f_X8_change_73 σ = some R) : G p l e rm_X8_change s m args below meth c D ca ad 26 LM 3 (gEnd below args s D ca ad 26 LM none R) 73 [(0, .ref 0)] [] σ := by
  unfold f_X8_change_73 at h
  refine g_aload_n C 0 dX8_change_73 rfl ?_
  refine g_iconst C (1 : Int32) dX8_change_74 rfl ?_
  obtain ⟨q1, hq1, h⟩ := bd h
  refine g_callVV C [.int (1 : Int32)] qv_X8_232 (m_X8_carryAll hq1) rfl (by decide) rfl rfl rfl ⟨rfl, rfl⟩ ⟨by decide, by decide⟩ (Nat.le_of_ble_eq_true rfl) dX8_change_75 ?_
  refine g_iconst C (0 : Int32) dX8_change_78 rfl ?_
  refine g_istore_n C [(1, .int (0 : Int32)), (0, .ref 0)] dX8_change_79 (by decide) rfl ?_
  exact g_sub [1, 0] rfl ((s_X8_change_80 C FU) (0 : Int32) q1 h)
def f_X8_change_27 (σ : St) : Option (St) := (f_X8_carryAll (0 : Int32) σ).bind (fun q1 => (f_X8_change_34 (f_X8_change_73) FU) (0 : Int32) q1)
set_option maxRecDepth 20000 in
theorem s_X8_change_27 {R : St} (C : gC p s m args meth c D ca ad 26 LM RX8 cX8_change 3 none) (σ : St) (h : f_X8_change_27 σ = some R) : G p l e rm_X8_change s m args below meth c D ca ad 26 LM 3 (gEnd below args s D ca ad 26 LM none R) 27 [(0, .ref 0)] [] σ := by
  unfold f_X8_change_27 at h
  refine g_aload_n C 0 dX8_change_27 rfl ?_
  refine g_iconst C (0 : Int32) dX8_change_28 rfl ?_
  obtain ⟨q1, hq1, h⟩ := bd h
  refine g_callVV C [.int (0 : Int32)] qv_X8_232 (m_X8_carryAll hq1) rfl (by decide) rfl rfl rfl ⟨rfl, rfl⟩ ⟨by decide, by decide⟩ (Nat.le_of_ble_eq_true rfl) dX8_change_29 ?_
  refine g_iconst C (0 : Int32) dX8_change_32 rfl ?_
  refine g_istore_n C [(1, .int (0 : Int32)), (0, .ref 0)] dX8_change_33 (by decide) rfl ?_
  exact g_sub [1, 0] rfl ((s_X8_change_34 C (s_X8_change_73 C) FU) (0 : Int32) q1 h)
def f_X8_change (σ : St) : Option (St) := (f_X8_change_2 (f_X8_change_27) FU) (0 : Int32) σ
set_option maxRecDepth 20000 in
theorem m_X8_change {l : Launch} {D : va_G} {ca : Nat → ClassId} {ad : Nat → Nat} {σ : St} {R : St} (h : f_X8_change σ = some R) : gM l D ca ad 26 LM yX8_change cX8_change 3 none rm_X8_change [.ref 0] σ none R := by
  refine gM_of (by decide) (Nat.le_of_ble_eq_true rfl) (fun p e s m args below meth c C => ?_)
  refine g_ent (ls' := [(0, .ref 0)]) rfl ?_
  unfold f_X8_change at h
  refine g_iconst C (0 : Int32) dX8_change_0 rfl ?_
  refine g_istore_n C [(1, .int (0 : Int32)), (0, .ref 0)] dX8_change_1 (by decide) rfl ?_
  exact g_sub [1, 0] rfl ((s_X8_change_2 C (s_X8_change_27 C) FU) (0 : Int32) σ h)
def f_X8_bears (σ : St) : Option (Int64 × St) := (if (σ.1 0 13) = 0 then (f_X8_meet (-10 : Int32) σ).bind (fun q10 => some (q10.1.toInt64, q10.2)) else (f_X8_total σ).bind (fun q2 => (f_X8_change q2.2).bind (fun q3 => (f_X8_total q3).bind (fun q4 => (f_X8_change q4.2).bind (fun q5 => (if q2.1 < (0 : Int64) then some ((-5 : Int64), q5) else (if (0 : Int64) ≤ q4.1 then (if q4.1 = (0 : Int64) then some ((-4 : Int64), q5) else (f_X8_fraction q2.1 q4.1 q5).bind (fun q9 => some (q9.1, q9.2))) else some ((-5 : Int64), q5))))))))
set_option maxRecDepth 20000 in
theorem m_X8_bears {l : Launch} {D : va_G} {ca : Nat → ClassId} {ad : Nat → Nat} {σ : St} {R : Int64 × St} (h : f_X8_bears σ = some R) : gM l D ca ad 26 LM yX8_bears cX8_bears 5 (some .long) rm_X8_bears [.ref 0] σ (some (.long R.1)) R.2 := by
  refine gM_of (by decide) (Nat.le_of_ble_eq_true rfl) (fun p e s m args below meth c C => ?_)
  refine g_ent (ls' := [(0, .ref 0)]) rfl ?_
  unfold f_X8_bears at h
  refine g_aload_n C 0 dX8_bears_0 rfl ?_
  refine g_getI C 13 rfl q_X8_236 rfl dX8_bears_1 ?_
  refine g_if_ne C 15 dX8_bears_4 (by decide) (fun hc1 => ?_) (fun hc1 => ?_)
  · have h := ite_f hc1 h
    refine g_aload_n C 0 dX8_bears_15 rfl ?_
    obtain ⟨q2, hq2, h⟩ := bd h
    refine g_callVL C [] qv_X8_239 (m_X8_total hq2) rfl (by decide) rfl rfl rfl ⟨rfl, rfl⟩ ⟨by decide, by decide⟩ (Nat.le_of_ble_eq_true rfl) dX8_bears_16 ?_
    refine g_lstore_n C [(1, .long q2.1), (0, .ref 0)] dX8_bears_19 (by decide) rfl ?_
    refine g_aload_n C 1 dX8_bears_20 rfl ?_
    obtain ⟨q3, hq3, h⟩ := bd h
    refine g_callVV C [] qv_X8_242 (m_X8_change hq3) rfl (by decide) rfl rfl rfl ⟨rfl, rfl⟩ ⟨by decide, by decide⟩ (Nat.le_of_ble_eq_true rfl) dX8_bears_21 ?_
    refine g_aload_n C 1 dX8_bears_24 rfl ?_
    obtain ⟨q4, hq4, h⟩ := bd h
    refine g_callVL C [] qv_X8_239 (m_X8_total hq4) rfl (by decide) rfl rfl rfl ⟨rfl, rfl⟩ ⟨by decide, by decide⟩ (Nat.le_of_ble_eq_true rfl) dX8_bears_25 ?_
    refine g_lstore_n C [(3, .long q4.1), (1, .long q2.1), (0, .ref 0)] dX8_bears_28 (by decide) rfl ?_
    refine g_aload_n C 2 dX8_bears_29 rfl ?_
    obtain ⟨q5, hq5, h⟩ := bd h
    refine g_callVV C [] qv_X8_242 (m_X8_change hq5) rfl (by decide) rfl rfl rfl ⟨rfl, rfl⟩ ⟨by decide, by decide⟩ (Nat.le_of_ble_eq_true rfl) dX8_bears_30 ?_
    refine g_lload_n C 1 dX8_bears_33 rfl ?_
    refine g_lconst C (0 : Int64) dX8_bears_34 rfl ?_
    refine g_lcmp_lt C 45 dX8_bears_35 dX8_bears_36 (by decide) (fun hc6 => ?_) (fun hc6 => ?_)
    · have h := ite_t hc6 h
      refine g_ldc2 C (-5 : Int64) qc_X8_189 dX8_bears_45 ?_
      obtain rfl := Option.some.inj h
      exact g_lret C dX8_bears_48
    · have h := ite_f hc6 h
      refine g_lload_n C 0 dX8_bears_39 rfl ?_
      refine g_lconst C (0 : Int64) dX8_bears_40 rfl ?_
      refine g_lcmp_ge C 49 dX8_bears_41 dX8_bears_42 (by decide) (fun hc7 => ?_) (fun hc7 => ?_)
      · have h := ite_t hc7 h
        refine g_lload_n C 0 dX8_bears_49 rfl ?_
        refine g_lconst C (0 : Int64) dX8_bears_50 rfl ?_
        refine g_lcmp_ne C 61 dX8_bears_51 dX8_bears_52 (by decide) (fun hc8 => ?_) (fun hc8 => ?_)
        · have h := ite_f hc8 h
          refine g_aload_n C 2 dX8_bears_61 rfl ?_
          refine g_lload_n C 1 dX8_bears_62 rfl ?_
          refine g_lload_n C 0 dX8_bears_63 rfl ?_
          obtain ⟨q9, hq9, h⟩ := bd h
          refine g_callVL C [.long q2.1, .long q4.1] qv_X8_208 (m_X8_fraction hq9) rfl (by decide) rfl rfl rfl ⟨rfl, rfl⟩ ⟨by decide, by decide⟩ (Nat.le_of_ble_eq_true rfl) dX8_bears_64 ?_
          obtain rfl := Option.some.inj h
          exact g_lret C dX8_bears_67
        · have h := ite_t hc8 h
          refine g_ldc2 C (-4 : Int64) qc_X8_220 dX8_bears_55 ?_
          refine g_goto C 67 dX8_bears_58 (by decide) ?_
          obtain rfl := Option.some.inj h
          exact g_lret C dX8_bears_67
      · have h := ite_f hc7 h
        refine g_ldc2 C (-5 : Int64) qc_X8_189 dX8_bears_45 ?_
        obtain rfl := Option.some.inj h
        exact g_lret C dX8_bears_48
  · have h := ite_t hc1 h
    refine g_aload_n C 0 dX8_bears_7 rfl ?_
    refine g_bipush C (-10 : Int32) dX8_bears_8 rfl ?_
    obtain ⟨q10, hq10, h⟩ := bd h
    refine g_callVI C [.int (-10 : Int32)] qv_X8_108 (m_X8_meet hq10) rfl (by decide) rfl rfl rfl ⟨rfl, rfl⟩ ⟨by decide, by decide⟩ (Nat.le_of_ble_eq_true rfl) dX8_bears_10 ?_
    refine g_i2l C dX8_bears_13 ?_
    obtain rfl := Option.some.inj h
    exact g_lret C dX8_bears_14
def f_X8_count_ (x1 : Int32) (σ : St) : Option (Int32 × St) := (if x1 = (0 : Int32) then some ((σ.1 0 3), σ) else (if x1 = (1 : Int32) then some ((σ.1 0 0), σ) else (if x1 = (2 : Int32) then (f_X8_pairMany σ).bind (fun q4 => some (q4.1, q4.2)) else (if x1 = (3 : Int32) then some ((σ.1 0 20), σ) else (if x1 = (4 : Int32) then some ((σ.1 0 22), σ) else some ((-2 : Int32), σ))))))
set_option maxRecDepth 20000 in
theorem m_X8_count_ {l : Launch} {D : va_G} {ca : Nat → ClassId} {ad : Nat → Nat} {x1 : Int32} {σ : St} {R : Int32 × St} (h : f_X8_count_ x1 σ = some R) : gM l D ca ad 26 LM yX8_count_ cX8_count_ 2 (some .int) rm_X8_count_ [.ref 0, .int x1] σ (some (.int R.1)) R.2 := by
  refine gM_of (by decide) (Nat.le_of_ble_eq_true rfl) (fun p e s m args below meth c C => ?_)
  refine g_ent (ls' := [(0, .ref 0), (1, .int x1)]) rfl ?_
  unfold f_X8_count_ at h
  refine g_iload_n C 1 dX8_count__0 rfl ?_
  by_cases hc1 : x1 = (0 : Int32)
  · have h := ite_t hc1 h
    refine g_tableIn C 36 dX8_count__1 (by rw [hc1]; decide) (by rw [hc1]; decide) (by rw [hc1]; rfl) (by decide) ?_
    refine g_aload_n C 0 dX8_count__36 rfl ?_
    refine g_getI C 3 rfl q_X8_97 rfl dX8_count__37 ?_
    obtain rfl := Option.some.inj h
    exact g_iret C dX8_count__40
  · have h := ite_f hc1 h
    by_cases hc2 : x1 = (1 : Int32)
    · have h := ite_t hc2 h
      refine g_tableIn C 41 dX8_count__1 (by rw [hc2]; decide) (by rw [hc2]; decide) (by rw [hc2]; rfl) (by decide) ?_
      refine g_aload_n C 0 dX8_count__41 rfl ?_
      refine g_getI C 0 rfl q_X8_7 rfl dX8_count__42 ?_
      obtain rfl := Option.some.inj h
      exact g_iret C dX8_count__45
    · have h := ite_f hc2 h
      by_cases hc3 : x1 = (2 : Int32)
      · have h := ite_t hc3 h
        refine g_tableIn C 46 dX8_count__1 (by rw [hc3]; decide) (by rw [hc3]; decide) (by rw [hc3]; rfl) (by decide) ?_
        refine g_aload_n C 0 dX8_count__46 rfl ?_
        obtain ⟨q4, hq4, h⟩ := bd h
        refine g_callVI C [] qv_X8_160 (m_X8_pairMany hq4) rfl (by decide) rfl rfl rfl ⟨rfl, rfl⟩ ⟨by decide, by decide⟩ (Nat.le_of_ble_eq_true rfl) dX8_count__47 ?_
        obtain rfl := Option.some.inj h
        exact g_iret C dX8_count__50
      · have h := ite_f hc3 h
        by_cases hc5 : x1 = (3 : Int32)
        · have h := ite_t hc5 h
          refine g_tableIn C 51 dX8_count__1 (by rw [hc5]; decide) (by rw [hc5]; decide) (by rw [hc5]; rfl) (by decide) ?_
          refine g_aload_n C 0 dX8_count__51 rfl ?_
          refine g_getI C 20 rfl q_X8_222 rfl dX8_count__52 ?_
          obtain rfl := Option.some.inj h
          exact g_iret C dX8_count__55
        · have h := ite_f hc5 h
          by_cases hc6 : x1 = (4 : Int32)
          · have h := ite_t hc6 h
            refine g_tableIn C 56 dX8_count__1 (by rw [hc6]; decide) (by rw [hc6]; decide) (by rw [hc6]; rfl) (by decide) ?_
            refine g_aload_n C 0 dX8_count__56 rfl ?_
            refine g_getI C 22 rfl q_X8_94 rfl dX8_count__57 ?_
            obtain rfl := Option.some.inj h
            exact g_iret C dX8_count__60
          · have h := ite_f hc6 h
            refine g_tableOut C 61 dX8_count__1 (sw_out 4 (by decide) (fun j hj => by rcases (show j = 0 ∨ j = 1 ∨ j = 2 ∨ j = 3 ∨ j = 4 by omega) with rfl | rfl | rfl | rfl | rfl; exact hc1; exact hc2; exact hc3; exact hc5; exact hc6)) (by decide) ?_
            refine g_bipush C (-2 : Int32) dX8_count__61 rfl ?_
            obtain rfl := Option.some.inj h
            exact g_iret C dX8_count__63
end
