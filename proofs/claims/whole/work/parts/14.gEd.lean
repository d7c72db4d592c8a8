section
variable {p : Program} {l : Launch} {e : Env} {s : State} {m : MethodId} {args : Array Value} {below : List Frame} {meth : Method} {c : Code} {D : va_G} {ca : Nat → ClassId} {ad : Nat → Nat}
def f_X8_text_2 (kk21 : St → Option (Int32 × St)) : Nat → Int32 → St → Option (Int32 × St)
  | 0, _, _ => none
  | n + 1, x1, σ => (if (49 : Int32) ≤ x1 then kk21 σ else cI (ix x1 49) (ap (up1 σ 16 x1.toNatClampNeg (0 : Int32)) fun σ3 => (f_X8_text_2 kk21 n) (x1 + (1 : Int32)) σ3))
set_option maxRecDepth 20000 in
theorem s_X8_text_2 {R : Int32 × St} (C : gC p s m args meth c D ca ad 26 LM RX8 cX8_text 3 (some .int)) {kk21 : St → Option (Int32 × St)} (HK21 : ∀ (σ : St), kk21 σ = some R → G p l e rm_X8_text s m args below meth c D ca ad 26 LM 3 (gEnd below args s D ca ad 26 LM (some (.int R.1)) R.2) 21 [(0, .ref 0)] [] σ) : ∀ (n : Nat) (x1 : Int32) (σ : St), f_X8_text_2 kk21 n x1 σ = some R → G p l e rm_X8_text s m args below meth c D ca ad 26 LM 3 (gEnd below args s D ca ad 26 LM (some (.int R.1)) R.2) 2 [(0, .ref 0), (1, .int x1)] [] σ := by
  intro n
  induction n with
  | zero =>
    intro x1 σ h
    have h : none = some R := h
    cases h
  | succ n ih =>
    intro x1 σ h
    rw [f_X8_text_2] at h
    refine g_iload_n C 1 dX8_text_2 rfl ?_
    refine g_bipush C (49 : Int32) dX8_text_3 rfl ?_
    refine g_icmp_ge C 21 dX8_text_5 (by decide) (fun hc1 => ?_) (fun hc1 => ?_)
    · have h := ite_t hc1 h
      exact g_sub [0] rfl (HK21 σ h)
    · have h := ite_f hc1 h
      refine g_aload_n C 0 dX8_text_8 rfl ?_
      refine g_getR C 25 16 rfl q_X8_63 rfl rfl dX8_text_9 ?_
      refine g_iload_n C 1 dX8_text_12 rfl ?_
      refine g_iconst C (0 : Int32) dX8_text_13 rfl ?_
      obtain ⟨hi2, h⟩ := cI_some h
      refine g_iast C 49 rfl ho_25 hi2 dX8_text_14 ?_
      refine g_nmS (fun σ3 eσ3 => ?_)
      have h := ap_at eσ3 h
      refine g_iinc C 1 [(1, .int (x1 + (1 : Int32))), (0, .ref 0)] dX8_text_15 rfl rfl (by decide) rfl ?_
      refine g_goto C 2 dX8_text_18 (by decide) ?_
      exact g_sub [1, 0] rfl (ih (x1 + (1 : Int32)) σ3 h)
def f_X8_text_35 (kk68 : St → Option (Int32 × St)) : Nat → St → Option (Int32 × St)
  | 0, _ => none
  | n + 1, σ => (if (σ.1 0 24) = 0 then (f_X8_here σ).bind (fun q2 => (if q2.1 = (59 : Int32) then ap (up1 q2.2 0 23 ((q2.2.1 0 23) + (1 : Int32))) fun σ4 => (f_X8_chain σ4).bind (fun q5 => (f_X8_text_35 kk68 n) q5) else kk68 q2.2)) else kk68 σ)
set_option maxRecDepth 20000 in
theorem s_X8_text_35 {R : Int32 × St} (C : gC p s m args meth c D ca ad 26 LM RX8 cX8_text 3 (some .int)) {kk68 : St → Option (Int32 × St)} (HK68 : ∀ (σ : St), kk68 σ = some R → G p l e rm_X8_text s m args below meth c D ca ad 26 LM 3 (gEnd below args s D ca ad 26 LM (some (.int R.1)) R.2) 68 [(0, .ref 0)] [] σ) : ∀ (n : Nat) (σ : St), f_X8_text_35 kk68 n σ = some R → G p l e rm_X8_text s m args below meth c D ca ad 26 LM 3 (gEnd below args s D ca ad 26 LM (some (.int R.1)) R.2) 35 [(0, .ref 0)] [] σ := by
  intro n
  induction n with
  | zero =>
    intro σ h
    have h : none = some R := h
    cases h
  | succ n ih =>
    intro σ h
    rw [f_X8_text_35] at h
    refine g_aload_n C 0 dX8_text_35 rfl ?_
    refine g_getI C 24 rfl q_X8_148 rfl dX8_text_36 ?_
    refine g_if_ne C 68 dX8_text_39 (by decide) (fun hc1 => ?_) (fun hc1 => ?_)
    · have h := ite_f hc1 h
      exact g_sub [0] rfl (HK68 σ h)
    · have h := ite_t hc1 h
      refine g_aload_n C 0 dX8_text_42 rfl ?_
      obtain ⟨q2, hq2, h⟩ := bd h
      refine g_callVI C [] qv_X8_144 (m_X8_here hq2) rfl (by decide) rfl rfl rfl ⟨rfl, rfl⟩ ⟨by decide, by decide⟩ (Nat.le_of_ble_eq_true rfl) dX8_text_43 ?_
      refine g_bipush C (59 : Int32) dX8_text_46 rfl ?_
      refine g_icmp_ne C 68 dX8_text_48 (by decide) (fun hc3 => ?_) (fun hc3 => ?_)
      · have h := ite_f hc3 h
        exact g_sub [0] rfl (HK68 q2.2 h)
      · have h := ite_t hc3 h
        refine g_aload_n C 0 dX8_text_51 rfl ?_
        refine g_dup C rfl dX8_text_52 ?_
        refine g_getI C 23 rfl q_X8_141 rfl dX8_text_53 ?_
        refine g_iconst C (1 : Int32) dX8_text_56 rfl ?_
        refine g_iadd C dX8_text_57 ?_
        refine g_putI C 23 rfl qp_X8_141 rfl dX8_text_58 ?_
        refine g_nmS (fun σ4 eσ4 => ?_)
        have h := ap_at eσ4 h
        refine g_aload_n C 0 dX8_text_61 rfl ?_
        obtain ⟨q5, hq5, h⟩ := bd h
        refine g_callVV C [] qv_X8_157 (m_X8_chain hq5) rfl (by decide) rfl rfl rfl ⟨rfl, rfl⟩ ⟨by decide, by decide⟩ (Nat.le_of_ble_eq_true rfl) dX8_text_62 ?_
        refine g_goto C 35 dX8_text_65 (by decide) ?_
        exact g_sub [0] rfl (ih q5 h)
def f_X8_text_111 (kk135 : St → Option (Int32 × St)) : Nat → Int32 → St → Option (Int32 × St)
  | 0, _, _ => none
  | n + 1, x2, σ => (if (49 : Int32) ≤ x2 then kk135 σ else cI (ix x2 49) (cI (ix x2 49) (ap (up1 σ 8 x2.toNatClampNeg (σ.1 16 x2.toNatClampNeg)) fun σ4 => (f_X8_text_111 kk135 n) (x2 + (1 : Int32)) σ4)))
set_option maxRecDepth 20000 in
theorem s_X8_text_111 {R : Int32 × St} (C : gC p s m args meth c D ca ad 26 LM RX8 cX8_text 3 (some .int)) {kk135 : St → Option (Int32 × St)} (HK135 : ∀ (σ : St), kk135 σ = some R → G p l e rm_X8_text s m args below meth c D ca ad 26 LM 3 (gEnd below args s D ca ad 26 LM (some (.int R.1)) R.2) 135 [(0, .ref 0)] [] σ) : ∀ (n : Nat) (x2 : Int32) (σ : St), f_X8_text_111 kk135 n x2 σ = some R → G p l e rm_X8_text s m args below meth c D ca ad 26 LM 3 (gEnd below args s D ca ad 26 LM (some (.int R.1)) R.2) 111 [(0, .ref 0), (2, .int x2)] [] σ := by
  intro n
  induction n with
  | zero =>
    intro x2 σ h
    have h : none = some R := h
    cases h
  | succ n ih =>
    intro x2 σ h
    rw [f_X8_text_111] at h
    refine g_iload_n C 1 dX8_text_111 rfl ?_
    refine g_bipush C (49 : Int32) dX8_text_112 rfl ?_
    refine g_icmp_ge C 135 dX8_text_114 (by decide) (fun hc1 => ?_) (fun hc1 => ?_)
    · have h := ite_t hc1 h
      exact g_sub [0] rfl (HK135 σ h)
    · have h := ite_f hc1 h
      refine g_aload_n C 0 dX8_text_117 rfl ?_
      refine g_getR C 9 8 rfl q_X8_35 rfl rfl dX8_text_118 ?_
      refine g_iload_n C 1 dX8_text_121 rfl ?_
      refine g_aload_n C 0 dX8_text_122 rfl ?_
      refine g_getR C 25 16 rfl q_X8_63 rfl rfl dX8_text_123 ?_
      refine g_iload_n C 1 dX8_text_126 rfl ?_
      obtain ⟨hi2, h⟩ := cI_some h
      refine g_iald C 49 rfl ho_25 hi2 dX8_text_127 ?_
      obtain ⟨hi3, h⟩ := cI_some h
      refine g_iast C 49 rfl ho_25 hi3 dX8_text_128 ?_
      refine g_nmS (fun σ4 eσ4 => ?_)
      have h := ap_at eσ4 h
      refine g_iinc C 1 [(2, .int (x2 + (1 : Int32))), (0, .ref 0)] dX8_text_129 rfl rfl (by decide) rfl ?_
      refine g_goto C 111 dX8_text_132 (by decide) ?_
      exact g_sub [1, 0] rfl (ih (x2 + (1 : Int32)) σ4 h)
def f_X8_text_135 (σ : St) : Option (Int32 × St) := (f_X8_pairMany σ).bind (fun q1 => some (q1.1, q1.2))
set_option maxRecDepth 20000 in
theorem s_X8_text_135 {R : Int32 × St} (C : gC p s m args meth c D ca ad 26 LM RX8 cX8_text 3 (some .int)) (σ : St) (h : f_X8_text_135 σ = some R) : G p l e rm_X8_text s m args below meth c D ca ad 26 LM 3 (gEnd below args s D ca ad 26 LM (some (.int R.1)) R.2) 135 [(0, .ref 0)] [] σ := by
  unfold f_X8_text_135 at h
  refine g_aload_n C 0 dX8_text_135 rfl ?_
  obtain ⟨q1, hq1, h⟩ := bd h
  refine g_callVI C [] qv_X8_160 (m_X8_pairMany hq1) rfl (by decide) rfl rfl rfl ⟨rfl, rfl⟩ ⟨by decide, by decide⟩ (Nat.le_of_ble_eq_true rfl) dX8_text_136 ?_
  obtain rfl := Option.some.inj h
  exact g_iret C dX8_text_139
def f_X8_text_91 (xs0 : Int32) (σ : St) : Option (Int32 × St) := ap (up1 σ 0 19 (0 : Int32)) fun σ1 => (if xs0 = 0 then some (((-3 : Int32) - (σ1.1 0 23)), σ1) else (f_X8_text_111 (f_X8_text_135) FU) (0 : Int32) σ1)
set_option maxRecDepth 20000 in
theorem s_X8_text_91 {R : Int32 × St} (C : gC p s m args meth c D ca ad 26 LM RX8 cX8_text 3 (some .int)) (xs0 : Int32) (σ : St) (h : f_X8_text_91 xs0 σ = some R) : G p l e rm_X8_text s m args below meth c D ca ad 26 LM 3 (gEnd below args s D ca ad 26 LM (some (.int R.1)) R.2) 91 [(0, .ref 0)] [.int xs0] σ := by
  unfold f_X8_text_91 at h
  refine g_istore_n C [(1, .int xs0), (0, .ref 0)] dX8_text_91 (by decide) rfl ?_
  refine g_aload_n C 1 dX8_text_92 rfl ?_
  refine g_iconst C (0 : Int32) dX8_text_93 rfl ?_
  refine g_putI C 19 rfl qp_X8_138 rfl dX8_text_94 ?_
  refine g_nmS (fun σ1 eσ1 => ?_)
  have h := ap_at eσ1 h
  refine g_iload_n C 0 dX8_text_97 rfl ?_
  refine g_if_ne C 109 dX8_text_98 (by decide) (fun hc2 => ?_) (fun hc2 => ?_)
  · have h := ite_f hc2 h
    refine g_iconst C (0 : Int32) dX8_text_109 rfl ?_
    refine g_istore_n C [(2, .int (0 : Int32)), (1, .int xs0), (0, .ref 0)] dX8_text_110 (by decide) rfl ?_
    exact g_sub [2, 0] rfl ((s_X8_text_111 C (s_X8_text_135 C) FU) (0 : Int32) σ1 h)
  · have h := ite_t hc2 h
    refine g_bipush C (-3 : Int32) dX8_text_101 rfl ?_
    refine g_aload_n C 1 dX8_text_103 rfl ?_
    refine g_getI C 23 rfl q_X8_141 rfl dX8_text_104 ?_
    refine g_isub C dX8_text_107 ?_
    obtain rfl := Option.some.inj h
    exact g_iret C dX8_text_108
def f_X8_text_90 (σ : St) : Option (Int32 × St) := (f_X8_text_91) (0 : Int32) σ
set_option maxRecDepth 20000 in
theorem s_X8_text_90 {R : Int32 × St} (C : gC p s m args meth c D ca ad 26 LM RX8 cX8_text 3 (some .int)) (σ : St) (h : f_X8_text_90 σ = some R) : G p l e rm_X8_text s m args below meth c D ca ad 26 LM 3 (gEnd below args s D ca ad 26 LM (some (.int R.1)) R.2) 90 [(0, .ref 0)] [] σ := by
  unfold f_X8_text_90 at h
  refine g_iconst C (0 : Int32) dX8_text_90 rfl ?_
  exact g_sub [0] rfl ((s_X8_text_91 C) (0 : Int32) σ h)
def f_X8_text_68 (σ : St) : Option (Int32 × St) := (if (σ.1 0 24) = 0 then (if (σ.1 0 23) = (σ.1 0 19) then (f_X8_text_91) (1 : Int32) σ else (f_X8_text_90) σ) else (f_X8_text_90) σ)
set_option maxRecDepth 20000 in
theorem s_X8_text_68 {R : Int32 × St} (C : gC p s m args meth c D ca ad 26 LM RX8 cX8_text 3 (some .int)) (σ : St) (h : f_X8_text_68 σ = some R) : G p l e rm_X8_text s m args below meth c D ca ad 26 LM 3 (gEnd below args s D ca ad 26 LM (some (.int R.1)) R.2) 68 [(0, .ref 0)] [] σ := by
  unfold f_X8_text_68 at h
  refine g_aload_n C 0 dX8_text_68 rfl ?_
  refine g_getI C 24 rfl q_X8_148 rfl dX8_text_69 ?_
  refine g_if_ne C 90 dX8_text_72 (by decide) (fun hc1 => ?_) (fun hc1 => ?_)
  · have h := ite_f hc1 h
    exact g_sub [0] rfl ((s_X8_text_90 C) σ h)
  · have h := ite_t hc1 h
    refine g_aload_n C 0 dX8_text_75 rfl ?_
    refine g_getI C 23 rfl q_X8_141 rfl dX8_text_76 ?_
    refine g_aload_n C 0 dX8_text_79 rfl ?_
    refine g_getI C 19 rfl q_X8_138 rfl dX8_text_80 ?_
    refine g_icmp_ne C 90 dX8_text_83 (by decide) (fun hc2 => ?_) (fun hc2 => ?_)
    · have h := ite_f hc2 h
      exact g_sub [0] rfl ((s_X8_text_90 C) σ h)
    · have h := ite_t hc2 h
      refine g_iconst C (1 : Int32) dX8_text_86 rfl ?_
      refine g_goto C 91 dX8_text_87 (by decide) ?_
      exact g_sub [0] rfl ((s_X8_text_91 C) (1 : Int32) σ h)
def f_X8_text_21 (σ : St) : Option (Int32 × St) := ap (up1 σ 0 23 (0 : Int32)) fun σ1 => ap (up1 σ1 0 24 (0 : Int32)) fun σ2 => (f_X8_chain σ2).bind (fun q3 => (f_X8_text_35 (f_X8_text_68) FU) q3)
set_option maxRecDepth 20000 in
theorem s_X8_text_21 {R : Int32 × St} (C : gC p s m args meth c D ca ad 26 LM RX8 cX8_text 3 (some .int)) (σ : St) (h : f_X8_text_21 σ = some R) : G p l e rm_X8_text s m args below meth c D ca ad 26 LM 3 (gEnd below args s D ca ad 26 LM (some (.int R.1)) R.2) 21 [(0, .ref 0)] [] σ := by
  unfold f_X8_text_21 at h
  refine g_aload_n C 0 dX8_text_21 rfl ?_
  refine g_iconst C (0 : Int32) dX8_text_22 rfl ?_
  refine g_putI C 23 rfl qp_X8_141 rfl dX8_text_23 ?_
  refine g_nmS (fun σ1 eσ1 => ?_)
  have h := ap_at eσ1 h
  refine g_aload_n C 0 dX8_text_26 rfl ?_
  refine g_iconst C (0 : Int32) dX8_text_27 rfl ?_
  refine g_putZ C 24 rfl qp_X8_148 rfl rfl rfl dX8_text_28 ?_
  refine g_nmS (fun σ2 eσ2 => ?_)
  have h := ap_at eσ2 h
  refine g_aload_n C 0 dX8_text_31 rfl ?_
  obtain ⟨q3, hq3, h⟩ := bd h
  refine g_callVV C [] qv_X8_157 (m_X8_chain hq3) rfl (by decide) rfl rfl rfl ⟨rfl, rfl⟩ ⟨by decide, by decide⟩ (Nat.le_of_ble_eq_true rfl) dX8_text_32 ?_
  exact g_sub [0] rfl ((s_X8_text_35 C (s_X8_text_68 C) FU) q3 h)
def f_X8_text (σ : St) : Option (Int32 × St) := (f_X8_text_2 (f_X8_text_21) FU) (0 : Int32) σ
set_option maxRecDepth 20000 in
theorem m_X8_text {l : Launch} {D : va_G} {ca : Nat → ClassId} {ad : Nat → Nat} {σ : St} {R : Int32 × St} (h : f_X8_text σ = some R) : gM l D ca ad 26 LM yX8_text cX8_text 3 (some .int) rm_X8_text [.ref 0] σ (some (.int R.1)) R.2 := by
  refine gM_of (by decide) (Nat.le_of_ble_eq_true rfl) (fun p e s m args below meth c C => ?_)
  refine g_ent (ls' := [(0, .ref 0)]) rfl ?_
  unfold f_X8_text at h
  refine g_iconst C (0 : Int32) dX8_text_0 rfl ?_
  refine g_istore_n C [(1, .int (0 : Int32)), (0, .ref 0)] dX8_text_1 (by decide) rfl ?_
  exact g_sub [1, 0] rfl ((s_X8_text_2 C (s_X8_text_21 C) FU) (0 : Int32) σ h)
def f_X8_in (x0 : Int32) (x1 : Int32) (σ : St) : Option (Int32 × St) := (if ((x0 >>> (x1 &&& 31)) &&& (1 : Int32)) = (1 : Int32) then some ((1 : Int32), σ) else some ((0 : Int32), σ))
set_option maxRecDepth 20000 in
theorem m_X8_in {l : Launch} {D : va_G} {ca : Nat → ClassId} {ad : Nat → Nat} {x0 : Int32} {x1 : Int32} {σ : St} {R : Int32 × St} (h : f_X8_in x0 x1 σ = some R) : gM l D ca ad 26 LM yX8_in cX8_in 2 (some .boolean) rm_X8_in [.int x0, .int x1] σ (some (.int R.1)) R.2 := by
  refine gM_of (by decide) (Nat.le_of_ble_eq_true rfl) (fun p e s m args below meth c C => ?_)
  refine g_ent (ls' := [(0, .int x0), (1, .int x1)]) rfl ?_
  unfold f_X8_in at h
  refine g_iload_n C 0 dX8_in_0 rfl ?_
  refine g_iload_n C 1 dX8_in_1 rfl ?_
  refine g_ishr C dX8_in_2 ?_
  refine g_iconst C (1 : Int32) dX8_in_3 rfl ?_
  refine g_iand C dX8_in_4 ?_
  refine g_iconst C (1 : Int32) dX8_in_5 rfl ?_
  refine g_icmp_ne C 13 dX8_in_6 (by decide) (fun hc1 => ?_) (fun hc1 => ?_)
  · have h := ite_f hc1 h
    refine g_iconst C (0 : Int32) dX8_in_13 rfl ?_
    obtain rfl := Option.some.inj h
    exact g_zret C nz0 dX8_in_14
  · have h := ite_t hc1 h
    refine g_iconst C (1 : Int32) dX8_in_9 rfl ?_
    refine g_goto C 14 dX8_in_10 (by decide) ?_
    obtain rfl := Option.some.inj h
    exact g_zret C nz1 dX8_in_14
def f_X8_lay__17 (kk48 : Int32 → Int32 → St → Option (St)) : Nat → Int32 → Int32 → Int32 → St → Option (St)
  | 0, _, _, _, _ => none
  | n + 1, x1, x2, x3, σ => (if (σ.1 0 0) ≤ x3 then kk48 x1 x2 σ else (f_X8_weightOf x2 x3 σ).bind (fun q2 => cI (ix (((40 : Int32) * x2) + x3) 280) (ap (up2 q2.2 17 (((40 : Int32) * x2) + x3).toNatClampNeg q2.1) fun σ4 => (f_X8_lay__17 kk48 n) x1 x2 (x3 + (1 : Int32)) σ4)))
set_option maxRecDepth 20000 in
theorem s_X8_lay__17 {R : St} (C : gC p s m args meth c D ca ad 26 LM RX8 cX8_lay_ 5 none) {kk48 : Int32 → Int32 → St → Option (St)} (HK48 : ∀ (x1 : Int32) (x2 : Int32) (σ : St), kk48 x1 x2 σ = some R → G p l e rm_X8_lay_ s m args below meth c D ca ad 26 LM 5 (gEnd below args s D ca ad 26 LM none R) 48 [(0, .ref 0), (1, .int x1), (2, .int x2)] [] σ) : ∀ (n : Nat) (x1 : Int32) (x2 : Int32) (x3 : Int32) (σ : St), f_X8_lay__17 kk48 n x1 x2 x3 σ = some R → G p l e rm_X8_lay_ s m args below meth c D ca ad 26 LM 5 (gEnd below args s D ca ad 26 LM none R) 17 [(0, .ref 0), (1, .int x1), (2, .int x2), (3, .int x3)] [] σ := by
  intro n
  induction n with
  | zero =>
    intro x1 x2 x3 σ h
    have h : none = some R := h
    cases h
  | succ n ih =>
    intro x1 x2 x3 σ h
    rw [f_X8_lay__17] at h
    refine g_iload_n C 3 dX8_lay__17 rfl ?_
    refine g_aload_n C 0 dX8_lay__18 rfl ?_
    refine g_getI C 0 rfl q_X8_7 rfl dX8_lay__19 ?_
    refine g_icmp_ge C 48 dX8_lay__22 (by decide) (fun hc1 => ?_) (fun hc1 => ?_)
    · have h := ite_t hc1 h
      exact g_sub [0, 1, 2] rfl (HK48 x1 x2 σ h)
    · have h := ite_f hc1 h
      refine g_aload_n C 0 dX8_lay__25 rfl ?_
      refine g_getR C 26 17 rfl q_X8_66 rfl rfl dX8_lay__26 ?_
      refine g_bipush C (40 : Int32) dX8_lay__29 rfl ?_
      refine g_iload_n C 2 dX8_lay__31 rfl ?_
      refine g_imul C dX8_lay__32 ?_
      refine g_iload_n C 3 dX8_lay__33 rfl ?_
      refine g_iadd C dX8_lay__34 ?_
      refine g_aload_n C 0 dX8_lay__35 rfl ?_
      refine g_iload_n C 2 dX8_lay__36 rfl ?_
      refine g_iload_n C 3 dX8_lay__37 rfl ?_
      obtain ⟨q2, hq2, h⟩ := bd h
      refine g_callVL C [.int x2, .int x3] qv_X8_132 (m_X8_weightOf hq2) rfl (by decide) rfl rfl rfl ⟨rfl, rfl⟩ ⟨by decide, by decide⟩ (Nat.le_of_ble_eq_true rfl) dX8_lay__38 ?_
      obtain ⟨hi3, h⟩ := cI_some h
      refine g_last C 280 rfl ho_19 hi3 dX8_lay__41 ?_
      refine g_nmS (fun σ4 eσ4 => ?_)
      have h := ap_at eσ4 h
      refine g_iinc C 3 [(3, .int (x3 + (1 : Int32))), (0, .ref 0), (1, .int x1), (2, .int x2)] dX8_lay__42 rfl rfl (by decide) rfl ?_
      refine g_goto C 17 dX8_lay__45 (by decide) ?_
      exact g_sub [1, 2, 3, 0] rfl (ih x1 x2 (x3 + (1 : Int32)) σ4 h)
def f_X8_lay__48 (kk7 : Int32 → Int32 → St → Option (St)) (x1 : Int32) (x2 : Int32) (σ : St) : Option (St) := kk7 x1 (x2 + (1 : Int32)) σ
set_option maxRecDepth 20000 in
theorem s_X8_lay__48 {R : St} (C : gC p s m args meth c D ca ad 26 LM RX8 cX8_lay_ 5 none) {kk7 : Int32 → Int32 → St → Option (St)} (HK7 : ∀ (x1 : Int32) (x2 : Int32) (σ : St), kk7 x1 x2 σ = some R → G p l e rm_X8_lay_ s m args below meth c D ca ad 26 LM 5 (gEnd below args s D ca ad 26 LM none R) 7 [(0, .ref 0), (1, .int x1), (2, .int x2)] [] σ) (x1 : Int32) (x2 : Int32) (σ : St) (h : f_X8_lay__48 kk7 x1 x2 σ = some R) : G p l e rm_X8_lay_ s m args below meth c D ca ad 26 LM 5 (gEnd below args s D ca ad 26 LM none R) 48 [(0, .ref 0), (1, .int x1), (2, .int x2)] [] σ := by
  unfold f_X8_lay__48 at h
  refine g_iinc C 2 [(2, .int (x2 + (1 : Int32))), (0, .ref 0), (1, .int x1)] dX8_lay__48 rfl rfl (by decide) rfl ?_
  refine g_goto C 7 dX8_lay__51 (by decide) ?_
  exact g_sub [1, 2, 0] rfl (HK7 x1 (x2 + (1 : Int32)) σ h)
def f_X8_lay__7 (kk54 : Int32 → St → Option (St)) : Nat → Int32 → Int32 → St → Option (St)
  | 0, _, _, _ => none
  | n + 1, x1, x2, σ => (if (σ.1 0 3) ≤ x2 then kk54 x1 σ else (f_X8_lay__17 (f_X8_lay__48 (f_X8_lay__7 kk54 n)) FU) x1 x2 (0 : Int32) σ)
set_option maxRecDepth 20000 in
theorem s_X8_lay__7 {R : St} (C : gC p s m args meth c D ca ad 26 LM RX8 cX8_lay_ 5 none) {kk54 : Int32 → St → Option (St)} (HK54 : ∀ (x1 : Int32) (σ : St), kk54 x1 σ = some R → G p l e rm_X8_lay_ s m args below meth c D ca ad 26 LM 5 (gEnd below args s D ca ad 26 LM none R) 54 [(0, .ref 0), (1, .int x1)] [] σ) : ∀ (n : Nat) (x1 : Int32) (x2 : Int32) (σ : St), f_X8_lay__7 kk54 n x1 x2 σ = some R → G p l e rm_X8_lay_ s m args below meth c D ca ad 26 LM 5 (gEnd below args s D ca ad 26 LM none R) 7 [(0, .ref 0), (1, .int x1), (2, .int x2)] [] σ := by
  intro n
  induction n with
  | zero =>
    intro x1 x2 σ h
    have h : none = some R := h
    cases h
  | succ n ih =>
    intro x1 x2 σ h
    rw [f_X8_lay__7] at h
    refine g_iload_n C 2 dX8_lay__7 rfl ?_
    refine g_aload_n C 0 dX8_lay__8 rfl ?_
    refine g_getI C 3 rfl q_X8_97 rfl dX8_lay__9 ?_
    refine g_icmp_ge C 54 dX8_lay__12 (by decide) (fun hc1 => ?_) (fun hc1 => ?_)
    · have h := ite_t hc1 h
      exact g_sub [0, 1] rfl (HK54 x1 σ h)
    · have h := ite_f hc1 h
      refine g_iconst C (0 : Int32) dX8_lay__15 rfl ?_
      refine g_istore_n C [(3, .int (0 : Int32)), (0, .ref 0), (1, .int x1), (2, .int x2)] dX8_lay__16 (by decide) rfl ?_
      exact g_sub [1, 2, 3, 0] rfl ((s_X8_lay__17 C (s_X8_lay__48 C ih) FU) x1 x2 (0 : Int32) σ h)
def f_X8_lay__177 (kk93 : Int32 → Int32 → Int32 → Int32 → St → Option (St)) (x1 : Int32) (x2 : Int32) (x3 : Int32) (x4 : Int32) (σ : St) : Option (St) := kk93 x1 x2 x3 (x4 + (1 : Int32)) σ
set_option maxRecDepth 20000 in
theorem s_X8_lay__177 {R : St} (C : gC p s m args meth c D ca ad 26 LM RX8 cX8_lay_ 5 none) {kk93 : Int32 → Int32 → Int32 → Int32 → St → Option (St)} (HK93 : ∀ (x1 : Int32) (x2 : Int32) (x3 : Int32) (x4 : Int32) (σ : St), kk93 x1 x2 x3 x4 σ = some R → G p l e rm_X8_lay_ s m args below meth c D ca ad 26 LM 5 (gEnd below args s D ca ad 26 LM none R) 93 [(0, .ref 0), (1, .int x1), (2, .int x2), (3, .int x3), (4, .int x4)] [] σ) (x1 : Int32) (x2 : Int32) (x3 : Int32) (x4 : Int32) (σ : St) (h : f_X8_lay__177 kk93 x1 x2 x3 x4 σ = some R) : G p l e rm_X8_lay_ s m args below meth c D ca ad 26 LM 5 (gEnd below args s D ca ad 26 LM none R) 177 [(0, .ref 0), (1, .int x1), (2, .int x2), (3, .int x3), (4, .int x4)] [] σ := by
  unfold f_X8_lay__177 at h
  refine g_iinc C 4 [(4, .int (x4 + (1 : Int32))), (0, .ref 0), (1, .int x1), (2, .int x2), (3, .int x3)] dX8_lay__177 rfl rfl (by decide) rfl ?_
  refine g_goto C 93 dX8_lay__180 (by decide) ?_
  exact g_sub [1, 2, 3, 4, 0] rfl (HK93 x1 x2 x3 (x4 + (1 : Int32)) σ h)
def f_X8_lay__93 (kk183 : Int32 → Int32 → Int32 → St → Option (St)) : Nat → Int32 → Int32 → Int32 → Int32 → St → Option (St)
  | 0, _, _, _, _, _ => none
  | n + 1, x1, x2, x3, x4, σ => (if (σ.1 0 3) ≤ x4 then kk183 x1 x2 x3 σ else (f_X8_in x2 x4 σ).bind (fun q2 => (if q2.1 = 0 then (f_X8_lay__177 (f_X8_lay__93 kk183 n)) x1 x2 x3 x4 q2.2 else (f_X8_in x1 x3 q2.2).bind (fun q4 => (if q4.1 = 0 then (f_X8_lay__177 (f_X8_lay__93 kk183 n)) x1 x2 x3 x4 q4.2 else cI (ix (((7 : Int32) * x3) + x4) 49) ((if (q4.2.1 8 (((7 : Int32) * x3) + x4).toNatClampNeg) ≤ 0 then (f_X8_lay__177 (f_X8_lay__93 kk183 n)) x1 x2 x3 x4 q4.2 else cI (ix (((7 : Int32) * x3) + x4) 49) ((if (q4.2.1 8 (((7 : Int32) * x3) + x4).toNatClampNeg) = (1 : Int32) then cI (ix x2 128) (cI (ix x2 128) (ap (up1 q4.2 18 x2.toNatClampNeg ((q4.2.1 18 x2.toNatClampNeg) ||| ((1 : Int32) <<< (x3 &&& 31)))) fun σ15 => (f_X8_lay__177 (f_X8_lay__93 kk183 n)) x1 x2 x3 x4 σ15)) else cI (ix x2 128) (cI (ix x2 128) (ap (up1 q4.2 19 x2.toNatClampNeg ((q4.2.1 19 x2.toNatClampNeg) ||| ((1 : Int32) <<< (x3 &&& 31)))) fun σ12 => (f_X8_lay__177 (f_X8_lay__93 kk183 n)) x1 x2 x3 x4 σ12)))))))))))
set_option maxRecDepth 20000 in
theorem s_X8_lay__93 {R : St} (C : gC p s m args meth c D ca ad 26 LM RX8 cX8_lay_ 5 none) {kk183 : Int32 → Int32 → Int32 → St → Option (St)} (HK183 : ∀ (x1 : Int32) (x2 : Int32) (x3 : Int32) (σ : St), kk183 x1 x2 x3 σ = some R → G p l e rm_X8_lay_ s m args below meth c D ca ad 26 LM 5 (gEnd below args s D ca ad 26 LM none R) 183 [(0, .ref 0), (1, .int x1), (2, .int x2), (3, .int x3)] [] σ) : ∀ (n : Nat) (x1 : Int32) (x2 : Int32) (x3 : Int32) (x4 : Int32) (σ : St), f_X8_lay__93 kk183 n x1 x2 x3 x4 σ = some R → G p l e rm_X8_lay_ s m args below meth c D ca ad 26 LM 5 (gEnd below args s D ca ad 26 LM none R) 93 [(0, .ref 0), (1, .int x1), (2, .int x2), (3, .int x3), (4, .int x4)] [] σ := by
  intro n
  induction n with
  | zero =>
    intro x1 x2 x3 x4 σ h
    have h : none = some R := h
    cases h
  | succ n ih =>
    intro x1 x2 x3 x4 σ h
    rw [f_X8_lay__93] at h
    refine g_iload C 4 dX8_lay__93 rfl ?_
    refine g_aload_n C 0 dX8_lay__95 rfl ?_
    refine g_getI C 3 rfl q_X8_97 rfl dX8_lay__96 ?_
    refine g_icmp_ge C 183 dX8_lay__99 (by decide) (fun hc1 => ?_) (fun hc1 => ?_)
    · have h := ite_t hc1 h
      exact g_sub [0, 1, 2, 3] rfl (HK183 x1 x2 x3 σ h)
    · have h := ite_f hc1 h
      refine g_iload_n C 2 dX8_lay__102 rfl ?_
      refine g_iload C 4 dX8_lay__103 rfl ?_
      obtain ⟨q2, hq2, h⟩ := bd h
      refine g_callSI C [.int x2, .int x4] qs_X8_166 (m_X8_in hq2) rfl rfl ⟨rfl, rfl⟩ ⟨by decide, by decide⟩ (Nat.le_of_ble_eq_true rfl) dX8_lay__105 ?_
      refine g_if_eq C 177 dX8_lay__108 (by decide) (fun hc3 => ?_) (fun hc3 => ?_)
      · have h := ite_t hc3 h
        exact g_sub [0, 1, 2, 3, 4] rfl ((s_X8_lay__177 C ih) x1 x2 x3 x4 q2.2 h)
      · have h := ite_f hc3 h
        refine g_iload_n C 1 dX8_lay__111 rfl ?_
        refine g_iload_n C 3 dX8_lay__112 rfl ?_
        obtain ⟨q4, hq4, h⟩ := bd h
        refine g_callSI C [.int x1, .int x3] qs_X8_166 (m_X8_in hq4) rfl rfl ⟨rfl, rfl⟩ ⟨by decide, by decide⟩ (Nat.le_of_ble_eq_true rfl) dX8_lay__113 ?_
        refine g_if_eq C 177 dX8_lay__116 (by decide) (fun hc5 => ?_) (fun hc5 => ?_)
        · have h := ite_t hc5 h
          exact g_sub [0, 1, 2, 3, 4] rfl ((s_X8_lay__177 C ih) x1 x2 x3 x4 q4.2 h)
        · have h := ite_f hc5 h
          refine g_aload_n C 0 dX8_lay__119 rfl ?_
          refine g_getR C 9 8 rfl q_X8_35 rfl rfl dX8_lay__120 ?_
          refine g_bipush C (7 : Int32) dX8_lay__123 rfl ?_
          refine g_iload_n C 3 dX8_lay__125 rfl ?_
          refine g_imul C dX8_lay__126 ?_
          refine g_iload C 4 dX8_lay__127 rfl ?_
          refine g_iadd C dX8_lay__129 ?_
          obtain ⟨hi6, h⟩ := cI_some h
          refine g_iald C 49 rfl ho_25 hi6 dX8_lay__130 ?_
          refine g_if_le C 177 dX8_lay__131 (by decide) (fun hc7 => ?_) (fun hc7 => ?_)
          · have h := ite_t hc7 h
            exact g_sub [0, 1, 2, 3, 4] rfl ((s_X8_lay__177 C ih) x1 x2 x3 x4 q4.2 h)
          · have h := ite_f hc7 h
            refine g_aload_n C 0 dX8_lay__134 rfl ?_
            refine g_getR C 9 8 rfl q_X8_35 rfl rfl dX8_lay__135 ?_
            refine g_bipush C (7 : Int32) dX8_lay__138 rfl ?_
            refine g_iload_n C 3 dX8_lay__140 rfl ?_
            refine g_imul C dX8_lay__141 ?_
            refine g_iload C 4 dX8_lay__142 rfl ?_
            refine g_iadd C dX8_lay__144 ?_
            obtain ⟨hi8, h⟩ := cI_some h
            refine g_iald C 49 rfl ho_25 hi8 dX8_lay__145 ?_
            refine g_iconst C (1 : Int32) dX8_lay__146 rfl ?_
            refine g_icmp_ne C 165 dX8_lay__147 (by decide) (fun hc9 => ?_) (fun hc9 => ?_)
            · have h := ite_f hc9 h
              refine g_aload_n C 0 dX8_lay__165 rfl ?_
              refine g_getR C 29 19 rfl q_X8_73 rfl rfl dX8_lay__166 ?_
              refine g_iload_n C 2 dX8_lay__169 rfl ?_
              refine g_dup2 C rfl rfl dX8_lay__170 ?_
              obtain ⟨hi10, h⟩ := cI_some h
              refine g_iald C 128 rfl ho_16 hi10 dX8_lay__171 ?_
              refine g_iconst C (1 : Int32) dX8_lay__172 rfl ?_
              refine g_iload_n C 3 dX8_lay__173 rfl ?_
              refine g_ishl C dX8_lay__174 ?_
              refine g_ior C dX8_lay__175 ?_
              obtain ⟨hi11, h⟩ := cI_some h
              refine g_iast C 128 rfl ho_16 hi11 dX8_lay__176 ?_
              refine g_nmS (fun σ12 eσ12 => ?_)
              have h := ap_at eσ12 h
              exact g_sub [0, 1, 2, 3, 4] rfl ((s_X8_lay__177 C ih) x1 x2 x3 x4 σ12 h)
            · have h := ite_t hc9 h
              refine g_aload_n C 0 dX8_lay__150 rfl ?_
              refine g_getR C 28 18 rfl q_X8_70 rfl rfl dX8_lay__151 ?_
              refine g_iload_n C 2 dX8_lay__154 rfl ?_
              refine g_dup2 C rfl rfl dX8_lay__155 ?_
              obtain ⟨hi13, h⟩ := cI_some h
              refine g_iald C 128 rfl ho_16 hi13 dX8_lay__156 ?_
              refine g_iconst C (1 : Int32) dX8_lay__157 rfl ?_
              refine g_iload_n C 3 dX8_lay__158 rfl ?_
              refine g_ishl C dX8_lay__159 ?_
              refine g_ior C dX8_lay__160 ?_
              obtain ⟨hi14, h⟩ := cI_some h
              refine g_iast C 128 rfl ho_16 hi14 dX8_lay__161 ?_
              refine g_nmS (fun σ15 eσ15 => ?_)
              have h := ap_at eσ15 h
              refine g_goto C 177 dX8_lay__162 (by decide) ?_
              exact g_sub [0, 1, 2, 3, 4] rfl ((s_X8_lay__177 C ih) x1 x2 x3 x4 σ15 h)
def f_X8_lay__183 (kk82 : Int32 → Int32 → Int32 → St → Option (St)) (x1 : Int32) (x2 : Int32) (x3 : Int32) (σ : St) : Option (St) := kk82 x1 x2 (x3 + (1 : Int32)) σ
set_option maxRecDepth 20000 in
theorem s_X8_lay__183 {R : St} (C : gC p s m args meth c D ca ad 26 LM RX8 cX8_lay_ 5 none) {kk82 : Int32 → Int32 → Int32 → St → Option (St)} (HK82 : ∀ (x1 : Int32) (x2 : Int32) (x3 : Int32) (σ : St), kk82 x1 x2 x3 σ = some R → G p l e rm_X8_lay_ s m args below meth c D ca ad 26 LM 5 (gEnd below args s D ca ad 26 LM none R) 82 [(0, .ref 0), (1, .int x1), (2, .int x2), (3, .int x3)] [] σ) (x1 : Int32) (x2 : Int32) (x3 : Int32) (σ : St) (h : f_X8_lay__183 kk82 x1 x2 x3 σ = some R) : G p l e rm_X8_lay_ s m args below meth c D ca ad 26 LM 5 (gEnd below args s D ca ad 26 LM none R) 183 [(0, .ref 0), (1, .int x1), (2, .int x2), (3, .int x3)] [] σ := by
  unfold f_X8_lay__183 at h
  refine g_iinc C 3 [(3, .int (x3 + (1 : Int32))), (0, .ref 0), (1, .int x1), (2, .int x2)] dX8_lay__183 rfl rfl (by decide) rfl ?_
  refine g_goto C 82 dX8_lay__186 (by decide) ?_
  exact g_sub [1, 2, 3, 0] rfl (HK82 x1 x2 (x3 + (1 : Int32)) σ h)
def f_X8_lay__82 (kk189 : Int32 → Int32 → St → Option (St)) : Nat → Int32 → Int32 → Int32 → St → Option (St)
  | 0, _, _, _, _ => none
  | n + 1, x1, x2, x3, σ => (if (σ.1 0 3) ≤ x3 then kk189 x1 x2 σ else (f_X8_lay__93 (f_X8_lay__183 (f_X8_lay__82 kk189 n)) FU) x1 x2 x3 (0 : Int32) σ)
set_option maxRecDepth 20000 in
theorem s_X8_lay__82 {R : St} (C : gC p s m args meth c D ca ad 26 LM RX8 cX8_lay_ 5 none) {kk189 : Int32 → Int32 → St → Option (St)} (HK189 : ∀ (x1 : Int32) (x2 : Int32) (σ : St), kk189 x1 x2 σ = some R → G p l e rm_X8_lay_ s m args below meth c D ca ad 26 LM 5 (gEnd below args s D ca ad 26 LM none R) 189 [(0, .ref 0), (1, .int x1), (2, .int x2)] [] σ) : ∀ (n : Nat) (x1 : Int32) (x2 : Int32) (x3 : Int32) (σ : St), f_X8_lay__82 kk189 n x1 x2 x3 σ = some R → G p l e rm_X8_lay_ s m args below meth c D ca ad 26 LM 5 (gEnd below args s D ca ad 26 LM none R) 82 [(0, .ref 0), (1, .int x1), (2, .int x2), (3, .int x3)] [] σ := by
  intro n
  induction n with
  | zero =>
    intro x1 x2 x3 σ h
    have h : none = some R := h
    cases h
  | succ n ih =>
    intro x1 x2 x3 σ h
    rw [f_X8_lay__82] at h
    refine g_iload_n C 3 dX8_lay__82 rfl ?_
    refine g_aload_n C 0 dX8_lay__83 rfl ?_
    refine g_getI C 3 rfl q_X8_97 rfl dX8_lay__84 ?_
    refine g_icmp_ge C 189 dX8_lay__87 (by decide) (fun hc1 => ?_) (fun hc1 => ?_)
    · have h := ite_t hc1 h
      exact g_sub [0, 1, 2] rfl (HK189 x1 x2 σ h)
    · have h := ite_f hc1 h
      refine g_iconst C (0 : Int32) dX8_lay__90 rfl ?_
      refine g_istore C [(4, .int (0 : Int32)), (0, .ref 0), (1, .int x1), (2, .int x2), (3, .int x3)] dX8_lay__91 (by decide) rfl ?_
      exact g_sub [1, 2, 3, 4, 0] rfl ((s_X8_lay__93 C (s_X8_lay__183 C ih) FU) x1 x2 x3 (0 : Int32) σ h)
def f_X8_lay__189 (kk56 : Int32 → Int32 → St → Option (St)) (x1 : Int32) (x2 : Int32) (σ : St) : Option (St) := kk56 x1 (x2 + (1 : Int32)) σ
set_option maxRecDepth 20000 in
theorem s_X8_lay__189 {R : St} (C : gC p s m args meth c D ca ad 26 LM RX8 cX8_lay_ 5 none) {kk56 : Int32 → Int32 → St → Option (St)} (HK56 : ∀ (x1 : Int32) (x2 : Int32) (σ : St), kk56 x1 x2 σ = some R → G p l e rm_X8_lay_ s m args below meth c D ca ad 26 LM 5 (gEnd below args s D ca ad 26 LM none R) 56 [(0, .ref 0), (1, .int x1), (2, .int x2)] [] σ) (x1 : Int32) (x2 : Int32) (σ : St) (h : f_X8_lay__189 kk56 x1 x2 σ = some R) : G p l e rm_X8_lay_ s m args below meth c D ca ad 26 LM 5 (gEnd below args s D ca ad 26 LM none R) 189 [(0, .ref 0), (1, .int x1), (2, .int x2)] [] σ := by
  unfold f_X8_lay__189 at h
  refine g_iinc C 2 [(2, .int (x2 + (1 : Int32))), (0, .ref 0), (1, .int x1)] dX8_lay__189 rfl rfl (by decide) rfl ?_
  refine g_goto C 56 dX8_lay__192 (by decide) ?_
  exact g_sub [1, 2, 0] rfl (HK56 x1 (x2 + (1 : Int32)) σ h)
def f_X8_lay__56 : Nat → Int32 → Int32 → St → Option (St)
  | 0, _, _, _ => none
  | n + 1, x1, x2, σ => (if ((1 : Int32) <<< ((σ.1 0 3) &&& 31)) ≤ x2 then some σ else cI (ix x2 128) (ap (up1 σ 18 x2.toNatClampNeg (0 : Int32)) fun σ3 => cI (ix x2 128) (ap (up1 σ3 19 x2.toNatClampNeg (0 : Int32)) fun σ5 => (f_X8_lay__82 (f_X8_lay__189 (f_X8_lay__56 n)) FU) x1 x2 (0 : Int32) σ5)))
set_option maxRecDepth 20000 in
theorem s_X8_lay__56 {R : St} (C : gC p s m args meth c D ca ad 26 LM RX8 cX8_lay_ 5 none) : ∀ (n : Nat) (x1 : Int32) (x2 : Int32) (σ : St), f_X8_lay__56 n x1 x2 σ = some R → G p l e rm_X8_lay_ s m args below meth c D ca ad 26 LM 5 (gEnd below args s D ca ad 26 LM none R) 56 [(0, .ref 0), (1, .int x1), (2, .int x2)] [] σ := by
  intro n
  induction n with
  | zero =>
    intro x1 x2 σ h
    have h : none = some R := h
    cases h
  | succ n ih =>
    intro x1 x2 σ h
    rw [f_X8_lay__56] at h
    refine g_iload_n C 2 dX8_lay__56 rfl ?_
    refine g_iconst C (1 : Int32) dX8_lay__57 rfl ?_
    refine g_aload_n C 0 dX8_lay__58 rfl ?_
    refine g_getI C 3 rfl q_X8_97 rfl dX8_lay__59 ?_
    refine g_ishl C dX8_lay__62 ?_
    refine g_icmp_ge C 195 dX8_lay__63 (by decide) (fun hc1 => ?_) (fun hc1 => ?_)
    · have h := ite_t hc1 h
      obtain rfl := Option.some.inj h
      exact g_vret C dX8_lay__195
    · have h := ite_f hc1 h
      refine g_aload_n C 0 dX8_lay__66 rfl ?_
      refine g_getR C 28 18 rfl q_X8_70 rfl rfl dX8_lay__67 ?_
      refine g_iload_n C 2 dX8_lay__70 rfl ?_
      refine g_iconst C (0 : Int32) dX8_lay__71 rfl ?_
      obtain ⟨hi2, h⟩ := cI_some h
      refine g_iast C 128 rfl ho_16 hi2 dX8_lay__72 ?_
      refine g_nmS (fun σ3 eσ3 => ?_)
      have h := ap_at eσ3 h
      refine g_aload_n C 0 dX8_lay__73 rfl ?_
      refine g_getR C 29 19 rfl q_X8_73 rfl rfl dX8_lay__74 ?_
      refine g_iload_n C 2 dX8_lay__77 rfl ?_
      refine g_iconst C (0 : Int32) dX8_lay__78 rfl ?_
      obtain ⟨hi4, h⟩ := cI_some h
      refine g_iast C 128 rfl ho_16 hi4 dX8_lay__79 ?_
      refine g_nmS (fun σ5 eσ5 => ?_)
      have h := ap_at eσ5 h
      refine g_iconst C (0 : Int32) dX8_lay__80 rfl ?_
      refine g_istore_n C [(3, .int (0 : Int32)), (0, .ref 0), (1, .int x1), (2, .int x2)] dX8_lay__81 (by decide) rfl ?_
      exact g_sub [1, 2, 3, 0] rfl ((s_X8_lay__82 C (s_X8_lay__189 C ih) FU) x1 x2 (0 : Int32) σ5 h)
def f_X8_lay__54 (x1 : Int32) (σ : St) : Option (St) := (f_X8_lay__56 FU) x1 (0 : Int32) σ
set_option maxRecDepth 20000 in
theorem s_X8_lay__54 {R : St} (C : gC p s m args meth c D ca ad 26 LM RX8 cX8_lay_ 5 none) (x1 : Int32) (σ : St) (h : f_X8_lay__54 x1 σ = some R) : G p l e rm_X8_lay_ s m args below meth c D ca ad 26 LM 5 (gEnd below args s D ca ad 26 LM none R) 54 [(0, .ref 0), (1, .int x1)] [] σ := by
  unfold f_X8_lay__54 at h
  refine g_iconst C (0 : Int32) dX8_lay__54 rfl ?_
  refine g_istore_n C [(2, .int (0 : Int32)), (0, .ref 0), (1, .int x1)] dX8_lay__55 (by decide) rfl ?_
  exact g_sub [1, 2, 0] rfl ((s_X8_lay__56 C FU) x1 (0 : Int32) σ h)
def f_X8_lay_ (x1 : Int32) (σ : St) : Option (St) := (f_X8_lay__7 (f_X8_lay__54) FU) x1 (0 : Int32) (up1 σ 0 27 x1)
set_option maxRecDepth 20000 in
theorem m_X8_lay_ {l : Launch} {D : va_G} {ca : Nat → ClassId} {ad : Nat → Nat} {x1 : Int32} {σ : St} {R : St} (h : f_X8_lay_ x1 σ = some R) : gM l D ca ad 26 LM yX8_lay_ cX8_lay_ 5 none rm_X8_lay_ [.ref 0, .int x1] σ none R := by
  refine gM_of (by decide) (Nat.le_of_ble_eq_true rfl) (fun p e s m args below meth c C => ?_)
  refine g_ent (ls' := [(0, .ref 0), (1, .int x1)]) rfl ?_
  unfold f_X8_lay_ at h
  refine g_aload_n C 0 dX8_lay__0 rfl ?_
  refine g_iload_n C 1 dX8_lay__1 rfl ?_
  refine g_putI C 27 rfl qp_X8_163 rfl dX8_lay__2 ?_
  refine g_iconst C (0 : Int32) dX8_lay__5 rfl ?_
  refine g_istore_n C [(2, .int (0 : Int32)), (0, .ref 0), (1, .int x1)] dX8_lay__6 (by decide) rfl ?_
  exact g_sub [1, 2, 0] rfl ((s_X8_lay__7 C (s_X8_lay__54 C) FU) x1 (0 : Int32) (up1 σ 0 27 x1) h)
def f_X8_count_24 (kk2 : Int32 → St → Option (Int64 × St)) (x1 : Int32) (xs0 : Int64) (xs1 : Int32) (σ : St) : Option (Int64 × St) := cI (ix xs1 128) (ap (up2 σ 21 xs1.toNatClampNeg xs0) fun σ2 => kk2 (x1 + (1 : Int32)) σ2)
set_option maxRecDepth 20000 in
theorem s_X8_count_24 {R : Int64 × St} (C : gC p s m args meth c D ca ad 26 LM RX8 cX8_count 5 (some .long)) {kk2 : Int32 → St → Option (Int64 × St)} (HK2 : ∀ (x1 : Int32) (σ : St), kk2 x1 σ = some R → G p l e rm_X8_count s m args below meth c D ca ad 26 LM 5 (gEnd below args s D ca ad 26 LM (some (.long R.1)) R.2) 2 [(0, .ref 0), (1, .int x1)] [] σ) (x1 : Int32) (xs0 : Int64) (xs1 : Int32) (σ : St) (h : f_X8_count_24 kk2 x1 xs0 xs1 σ = some R) : G p l e rm_X8_count s m args below meth c D ca ad 26 LM 5 (gEnd below args s D ca ad 26 LM (some (.long R.1)) R.2) 24 [(0, .ref 0), (1, .int x1)] [.long xs0, .int xs1, .ref 21] σ := by
  unfold f_X8_count_24 at h
  obtain ⟨hi1, h⟩ := cI_some h
  refine g_last C 128 rfl ho_18 hi1 dX8_count_24 ?_
  refine g_nmS (fun σ2 eσ2 => ?_)
  have h := ap_at eσ2 h
  refine g_iinc C 1 [(1, .int (x1 + (1 : Int32))), (0, .ref 0)] dX8_count_25 rfl rfl (by decide) rfl ?_
  refine g_goto C 2 dX8_count_28 (by decide) ?_
  exact g_sub [1, 0] rfl (HK2 (x1 + (1 : Int32)) σ2 h)
def f_X8_count_2 (kk31 : St → Option (Int64 × St)) : Nat → Int32 → St → Option (Int64 × St)
  | 0, _, _ => none
  | n + 1, x1, σ => (if (σ.1 0 27) < x1 then kk31 σ else (if x1 = 0 then (f_X8_count_24 (f_X8_count_2 kk31 n)) x1 (1 : Int64) x1 σ else (f_X8_count_24 (f_X8_count_2 kk31 n)) x1 (0 : Int64) x1 σ))
set_option maxRecDepth 20000 in
theorem s_X8_count_2 {R : Int64 × St} (C : gC p s m args meth c D ca ad 26 LM RX8 cX8_count 5 (some .long)) {kk31 : St → Option (Int64 × St)} (HK31 : ∀ (σ : St), kk31 σ = some R → G p l e rm_X8_count s m args below meth c D ca ad 26 LM 5 (gEnd below args s D ca ad 26 LM (some (.long R.1)) R.2) 31 [(0, .ref 0)] [] σ) : ∀ (n : Nat) (x1 : Int32) (σ : St), f_X8_count_2 kk31 n x1 σ = some R → G p l e rm_X8_count s m args below meth c D ca ad 26 LM 5 (gEnd below args s D ca ad 26 LM (some (.long R.1)) R.2) 2 [(0, .ref 0), (1, .int x1)] [] σ := by
  intro n
  induction n with
  | zero =>
    intro x1 σ h
    have h : none = some R := h
    cases h
  | succ n ih =>
    intro x1 σ h
    rw [f_X8_count_2] at h
    refine g_iload_n C 1 dX8_count_2 rfl ?_
    refine g_aload_n C 0 dX8_count_3 rfl ?_
    refine g_getI C 27 rfl q_X8_163 rfl dX8_count_4 ?_
    refine g_icmp_gt C 31 dX8_count_7 (by decide) (fun hc1 => ?_) (fun hc1 => ?_)
    · have h := ite_t hc1 h
      exact g_sub [0] rfl (HK31 σ h)
    · have h := ite_f hc1 h
      refine g_aload_n C 0 dX8_count_10 rfl ?_
      refine g_getR C 31 21 rfl q_X8_79 rfl rfl dX8_count_11 ?_
      refine g_iload_n C 1 dX8_count_14 rfl ?_
      refine g_iload_n C 1 dX8_count_15 rfl ?_
      refine g_if_ne C 23 dX8_count_16 (by decide) (fun hc2 => ?_) (fun hc2 => ?_)
      · have h := ite_f hc2 h
        refine g_lconst C (0 : Int64) dX8_count_23 rfl ?_
        exact g_sub [0, 1] rfl ((s_X8_count_24 C ih) x1 (0 : Int64) x1 σ h)
      · have h := ite_t hc2 h
        refine g_lconst C (1 : Int64) dX8_count_19 rfl ?_
        refine g_goto C 24 dX8_count_20 (by decide) ?_
        exact g_sub [0, 1] rfl ((s_X8_count_24 C ih) x1 (1 : Int64) x1 σ h)
def f_X8_count_60 (kk74 : Int32 → Int32 → Int32 → St → Option (Int64 × St)) : Nat → Int32 → Int32 → Int32 → St → Option (Int64 × St)
  | 0, _, _, _, _ => none
  | n + 1, x1, x2, x3, σ => (f_X8_in x2 x3 σ).bind (fun q1 => (if q1.1 = 0 then (f_X8_count_60 kk74 n) x1 x2 (x3 + (1 : Int32)) q1.2 else kk74 x1 x2 x3 q1.2))
set_option maxRecDepth 20000 in
theorem s_X8_count_60 {R : Int64 × St} (C : gC p s m args meth c D ca ad 26 LM RX8 cX8_count 5 (some .long)) {kk74 : Int32 → Int32 → Int32 → St → Option (Int64 × St)} (HK74 : ∀ (x1 : Int32) (x2 : Int32) (x3 : Int32) (σ : St), kk74 x1 x2 x3 σ = some R → G p l e rm_X8_count s m args below meth c D ca ad 26 LM 5 (gEnd below args s D ca ad 26 LM (some (.long R.1)) R.2) 74 [(0, .ref 0), (1, .int x1), (2, .int x2), (3, .int x3)] [] σ) : ∀ (n : Nat) (x1 : Int32) (x2 : Int32) (x3 : Int32) (σ : St), f_X8_count_60 kk74 n x1 x2 x3 σ = some R → G p l e rm_X8_count s m args below meth c D ca ad 26 LM 5 (gEnd below args s D ca ad 26 LM (some (.long R.1)) R.2) 60 [(0, .ref 0), (1, .int x1), (2, .int x2), (3, .int x3)] [] σ := by
  intro n
  induction n with
  | zero =>
    intro x1 x2 x3 σ h
    have h : none = some R := h
    cases h
  | succ n ih =>
    intro x1 x2 x3 σ h
    rw [f_X8_count_60] at h
    refine g_iload_n C 2 dX8_count_60 rfl ?_
    refine g_iload_n C 3 dX8_count_61 rfl ?_
    obtain ⟨q1, hq1, h⟩ := bd h
    refine g_callSI C [.int x2, .int x3] qs_X8_166 (m_X8_in hq1) rfl rfl ⟨rfl, rfl⟩ ⟨by decide, by decide⟩ (Nat.le_of_ble_eq_true rfl) dX8_count_62 ?_
    refine g_if_ne C 74 dX8_count_65 (by decide) (fun hc2 => ?_) (fun hc2 => ?_)
    · have h := ite_f hc2 h
      exact g_sub [0, 1, 2, 3] rfl (HK74 x1 x2 x3 q1.2 h)
    · have h := ite_t hc2 h
      refine g_iinc C 3 [(3, .int (x3 + (1 : Int32))), (0, .ref 0), (1, .int x1), (2, .int x2)] dX8_count_68 rfl rfl (by decide) rfl ?_
      refine g_goto C 60 dX8_count_71 (by decide) ?_
      exact g_sub [1, 2, 3, 0] rfl (ih x1 x2 (x3 + (1 : Int32)) q1.2 h)
def f_X8_count_74 (kk50 : Int32 → Int32 → St → Option (Int64 × St)) (x1 : Int32) (x2 : Int32) (x3 : Int32) (σ : St) : Option (Int64 × St) := cI (ix (x2 &&& (x2 - (1 : Int32))) 128) (cI (ix (((40 : Int32) * x3) + x1) 280) (cI (ix x2 128) (ap (up2 σ 20 x2.toNatClampNeg ((σ.2 20 (x2 &&& (x2 - (1 : Int32))).toNatClampNeg) * (σ.2 17 (((40 : Int32) * x3) + x1).toNatClampNeg))) fun σ4 => kk50 x1 (x2 + (1 : Int32)) σ4)))
set_option maxRecDepth 20000 in
theorem s_X8_count_74 {R : Int64 × St} (C : gC p s m args meth c D ca ad 26 LM RX8 cX8_count 5 (some .long)) {kk50 : Int32 → Int32 → St → Option (Int64 × St)} (HK50 : ∀ (x1 : Int32) (x2 : Int32) (σ : St), kk50 x1 x2 σ = some R → G p l e rm_X8_count s m args below meth c D ca ad 26 LM 5 (gEnd below args s D ca ad 26 LM (some (.long R.1)) R.2) 50 [(0, .ref 0), (1, .int x1), (2, .int x2)] [] σ) (x1 : Int32) (x2 : Int32) (x3 : Int32) (σ : St) (h : f_X8_count_74 kk50 x1 x2 x3 σ = some R) : G p l e rm_X8_count s m args below meth c D ca ad 26 LM 5 (gEnd below args s D ca ad 26 LM (some (.long R.1)) R.2) 74 [(0, .ref 0), (1, .int x1), (2, .int x2), (3, .int x3)] [] σ := by
  unfold f_X8_count_74 at h
  refine g_aload_n C 0 dX8_count_74 rfl ?_
  refine g_getR C 30 20 rfl q_X8_76 rfl rfl dX8_count_75 ?_
  refine g_iload_n C 2 dX8_count_78 rfl ?_
  refine g_aload_n C 0 dX8_count_79 rfl ?_
  refine g_getR C 30 20 rfl q_X8_76 rfl rfl dX8_count_80 ?_
  refine g_iload_n C 2 dX8_count_83 rfl ?_
  refine g_iload_n C 2 dX8_count_84 rfl ?_
  refine g_iconst C (1 : Int32) dX8_count_85 rfl ?_
  refine g_isub C dX8_count_86 ?_
  refine g_iand C dX8_count_87 ?_
  obtain ⟨hi1, h⟩ := cI_some h
  refine g_lald C 128 rfl ho_18 hi1 dX8_count_88 ?_
  refine g_aload_n C 0 dX8_count_89 rfl ?_
  refine g_getR C 26 17 rfl q_X8_66 rfl rfl dX8_count_90 ?_
  refine g_bipush C (40 : Int32) dX8_count_93 rfl ?_
  refine g_iload_n C 3 dX8_count_95 rfl ?_
  refine g_imul C dX8_count_96 ?_
  refine g_iload_n C 1 dX8_count_97 rfl ?_
  refine g_iadd C dX8_count_98 ?_
  obtain ⟨hi2, h⟩ := cI_some h
  refine g_lald C 280 rfl ho_19 hi2 dX8_count_99 ?_
  refine g_lmul C dX8_count_100 ?_
  obtain ⟨hi3, h⟩ := cI_some h
  refine g_last C 128 rfl ho_18 hi3 dX8_count_101 ?_
  refine g_nmS (fun σ4 eσ4 => ?_)
  have h := ap_at eσ4 h
  refine g_iinc C 2 [(2, .int (x2 + (1 : Int32))), (0, .ref 0), (1, .int x1), (3, .int x3)] dX8_count_102 rfl rfl (by decide) rfl ?_
  refine g_goto C 50 dX8_count_105 (by decide) ?_
  exact g_sub [1, 2, 0] rfl (HK50 x1 (x2 + (1 : Int32)) σ4 h)
def f_X8_count_50 (kk108 : Int32 → St → Option (Int64 × St)) : Nat → Int32 → Int32 → St → Option (Int64 × St)
  | 0, _, _, _ => none
  | n + 1, x1, x2, σ => (if (σ.1 0 27) < x2 then kk108 x1 σ else (f_X8_count_60 (f_X8_count_74 (f_X8_count_50 kk108 n)) FU) x1 x2 (0 : Int32) σ)
set_option maxRecDepth 20000 in
theorem s_X8_count_50 {R : Int64 × St} (C : gC p s m args meth c D ca ad 26 LM RX8 cX8_count 5 (some .long)) {kk108 : Int32 → St → Option (Int64 × St)} (HK108 : ∀ (x1 : Int32) (σ : St), kk108 x1 σ = some R → G p l e rm_X8_count s m args below meth c D ca ad 26 LM 5 (gEnd below args s D ca ad 26 LM (some (.long R.1)) R.2) 108 [(0, .ref 0), (1, .int x1)] [] σ) : ∀ (n : Nat) (x1 : Int32) (x2 : Int32) (σ : St), f_X8_count_50 kk108 n x1 x2 σ = some R → G p l e rm_X8_count s m args below meth c D ca ad 26 LM 5 (gEnd below args s D ca ad 26 LM (some (.long R.1)) R.2) 50 [(0, .ref 0), (1, .int x1), (2, .int x2)] [] σ := by
  intro n
  induction n with
  | zero =>
    intro x1 x2 σ h
    have h : none = some R := h
    cases h
  | succ n ih =>
    intro x1 x2 σ h
    rw [f_X8_count_50] at h
    refine g_iload_n C 2 dX8_count_50 rfl ?_
    refine g_aload_n C 0 dX8_count_51 rfl ?_
    refine g_getI C 27 rfl q_X8_163 rfl dX8_count_52 ?_
    refine g_icmp_gt C 108 dX8_count_55 (by decide) (fun hc1 => ?_) (fun hc1 => ?_)
    · have h := ite_t hc1 h
      exact g_sub [0, 1] rfl (HK108 x1 σ h)
    · have h := ite_f hc1 h
      refine g_iconst C (0 : Int32) dX8_count_58 rfl ?_
      refine g_istore_n C [(3, .int (0 : Int32)), (0, .ref 0), (1, .int x1), (2, .int x2)] dX8_count_59 (by decide) rfl ?_
      exact g_sub [1, 2, 3, 0] rfl ((s_X8_count_60 C (s_X8_count_74 C ih) FU) x1 x2 (0 : Int32) σ h)
def f_X8_count_110 (kk136 : Int32 → St → Option (Int64 × St)) : Nat → Int32 → Int32 → St → Option (Int64 × St)
  | 0, _, _, _ => none
  | n + 1, x1, x2, σ => (if (σ.1 0 27) < x2 then kk136 x1 σ else cI (ix x2 128) (cI (ix x2 128) (ap (up2 σ 22 x2.toNatClampNeg (σ.2 21 x2.toNatClampNeg)) fun σ4 => (f_X8_count_110 kk136 n) x1 (x2 + (1 : Int32)) σ4)))
set_option maxRecDepth 20000 in
theorem s_X8_count_110 {R : Int64 × St} (C : gC p s m args meth c D ca ad 26 LM RX8 cX8_count 5 (some .long)) {kk136 : Int32 → St → Option (Int64 × St)} (HK136 : ∀ (x1 : Int32) (σ : St), kk136 x1 σ = some R → G p l e rm_X8_count s m args below meth c D ca ad 26 LM 5 (gEnd below args s D ca ad 26 LM (some (.long R.1)) R.2) 136 [(0, .ref 0), (1, .int x1)] [] σ) : ∀ (n : Nat) (x1 : Int32) (x2 : Int32) (σ : St), f_X8_count_110 kk136 n x1 x2 σ = some R → G p l e rm_X8_count s m args below meth c D ca ad 26 LM 5 (gEnd below args s D ca ad 26 LM (some (.long R.1)) R.2) 110 [(0, .ref 0), (1, .int x1), (2, .int x2)] [] σ := by
  intro n
  induction n with
  | zero =>
    intro x1 x2 σ h
    have h : none = some R := h
    cases h
  | succ n ih =>
    intro x1 x2 σ h
    rw [f_X8_count_110] at h
    refine g_iload_n C 2 dX8_count_110 rfl ?_
    refine g_aload_n C 0 dX8_count_111 rfl ?_
    refine g_getI C 27 rfl q_X8_163 rfl dX8_count_112 ?_
    refine g_icmp_gt C 136 dX8_count_115 (by decide) (fun hc1 => ?_) (fun hc1 => ?_)
    · have h := ite_t hc1 h
      exact g_sub [0, 1] rfl (HK136 x1 σ h)
    · have h := ite_f hc1 h
      refine g_aload_n C 0 dX8_count_118 rfl ?_
      refine g_getR C 32 22 rfl q_X8_82 rfl rfl dX8_count_119 ?_
      refine g_iload_n C 2 dX8_count_122 rfl ?_
      refine g_aload_n C 0 dX8_count_123 rfl ?_
      refine g_getR C 31 21 rfl q_X8_79 rfl rfl dX8_count_124 ?_
      refine g_iload_n C 2 dX8_count_127 rfl ?_
      obtain ⟨hi2, h⟩ := cI_some h
      refine g_lald C 128 rfl ho_18 hi2 dX8_count_128 ?_
      obtain ⟨hi3, h⟩ := cI_some h
      refine g_last C 128 rfl ho_18 hi3 dX8_count_129 ?_
      refine g_nmS (fun σ4 eσ4 => ?_)
      have h := ap_at eσ4 h
      refine g_iinc C 2 [(2, .int (x2 + (1 : Int32))), (0, .ref 0), (1, .int x1)] dX8_count_130 rfl rfl (by decide) rfl ?_
      refine g_goto C 110 dX8_count_133 (by decide) ?_
      exact g_sub [1, 2, 0] rfl (ih x1 (x2 + (1 : Int32)) σ4 h)
def f_X8_count_243 (kk158 : Int32 → Int32 → Int32 → Int32 → St → Option (Int64 × St)) (x1 : Int32) (x2 : Int32) (x3 : Int32) (x4 : Int32) (σ : St) : Option (Int64 × St) := ap ((x4 - (1 : Int32)) &&& x3) fun z1 => kk158 x1 x2 x3 z1 σ
set_option maxRecDepth 20000 in
theorem s_X8_count_243 {R : Int64 × St} (C : gC p s m args meth c D ca ad 26 LM RX8 cX8_count 5 (some .long)) {kk158 : Int32 → Int32 → Int32 → Int32 → St → Option (Int64 × St)} (HK158 : ∀ (x1 : Int32) (x2 : Int32) (x3 : Int32) (x4 : Int32) (σ : St), kk158 x1 x2 x3 x4 σ = some R → G p l e rm_X8_count s m args below meth c D ca ad 26 LM 5 (gEnd below args s D ca ad 26 LM (some (.long R.1)) R.2) 158 [(0, .ref 0), (1, .int x1), (2, .int x2), (3, .int x3), (4, .int x4)] [] σ) (x1 : Int32) (x2 : Int32) (x3 : Int32) (x4 : Int32) (σ : St) (h : f_X8_count_243 kk158 x1 x2 x3 x4 σ = some R) : G p l e rm_X8_count s m args below meth c D ca ad 26 LM 5 (gEnd below args s D ca ad 26 LM (some (.long R.1)) R.2) 243 [(0, .ref 0), (1, .int x1), (2, .int x2), (3, .int x3), (4, .int x4)] [] σ := by
  unfold f_X8_count_243 at h
  refine g_iload C 4 dX8_count_243 rfl ?_
  refine g_iconst C (1 : Int32) dX8_count_245 rfl ?_
  refine g_isub C dX8_count_246 ?_
  refine g_iload_n C 3 dX8_count_247 rfl ?_
  refine g_iand C dX8_count_248 ?_
  refine g_nmI (fun z1 ez1 => ?_)
  have h := ap_at ez1 h
  refine g_istore C [(4, .int z1), (0, .ref 0), (1, .int x1), (2, .int x2), (3, .int x3)] dX8_count_249 (by decide) rfl ?_
  refine g_goto C 158 dX8_count_251 (by decide) ?_
  exact g_sub [1, 2, 3, 4, 0] rfl (HK158 x1 x2 x3 z1 σ h)
def f_X8_count_158 (kk254 : Int32 → Int32 → St → Option (Int64 × St)) : Nat → Int32 → Int32 → Int32 → Int32 → St → Option (Int64 × St)
  | 0, _, _, _, _, _ => none
  | n + 1, x1, x2, x3, x4, σ => (if x4 ≤ 0 then kk254 x1 x2 σ else cI (ix x2 128) ((if (σ.2 22 x2.toNatClampNeg) = (0 : Int64) then kk254 x1 x2 σ else cI (ix x4 128) ((if (σ.2 20 x4.toNatClampNeg) = (0 : Int64) then (f_X8_count_243 (f_X8_count_158 kk254 n)) x1 x2 x3 x4 σ else cI (ix x4 128) ((if ((σ.1 18 x4.toNatClampNeg) &&& (x2 ^^^ (-1 : Int32))) = 0 then cI (ix x4 128) ((if ((σ.1 19 x4.toNatClampNeg) &&& ((x2 ||| x4) ^^^ (-1 : Int32))) = 0 then cI (ix (x2 ||| x4) 128) (cI (ix x2 128) (cI (ix x4 128) (cI (ix (x2 ||| x4) 128) (ap (up2 σ 21 (x2 ||| x4).toNatClampNeg ((σ.2 21 (x2 ||| x4).toNatClampNeg) + ((σ.2 22 x2.toNatClampNeg) * (σ.2 20 x4.toNatClampNeg)))) fun σ14 => (f_X8_count_243 (f_X8_count_158 kk254 n)) x1 x2 x3 x4 σ14)))) else (f_X8_count_243 (f_X8_count_158 kk254 n)) x1 x2 x3 x4 σ)) else (f_X8_count_243 (f_X8_count_158 kk254 n)) x1 x2 x3 x4 σ)))))))
set_option maxRecDepth 20000 in
theorem s_X8_count_158 {R : Int64 × St} (C : gC p s m args meth c D ca ad 26 LM RX8 cX8_count 5 (some .long)) {kk254 : Int32 → Int32 → St → Option (Int64 × St)} (HK254 : ∀ (x1 : Int32) (x2 : Int32) (σ : St), kk254 x1 x2 σ = some R → G p l e rm_X8_count s m args below meth c D ca ad 26 LM 5 (gEnd below args s D ca ad 26 LM (some (.long R.1)) R.2) 254 [(0, .ref 0), (1, .int x1), (2, .int x2)] [] σ) : ∀ (n : Nat) (x1 : Int32) (x2 : Int32) (x3 : Int32) (x4 : Int32) (σ : St), f_X8_count_158 kk254 n x1 x2 x3 x4 σ = some R → G p l e rm_X8_count s m args below meth c D ca ad 26 LM 5 (gEnd below args s D ca ad 26 LM (some (.long R.1)) R.2) 158 [(0, .ref 0), (1, .int x1), (2, .int x2), (3, .int x3), (4, .int x4)] [] σ := by
  intro n
  induction n with
  | zero =>
    intro x1 x2 x3 x4 σ h
    have h : none = some R := h
    cases h
  | succ n ih =>
    intro x1 x2 x3 x4 σ h
    rw [f_X8_count_158] at h
    refine g_iload C 4 dX8_count_158 rfl ?_
    refine g_if_le C 254 dX8_count_160 (by decide) (fun hc1 => ?_) (fun hc1 => ?_)
    · have h := ite_t hc1 h
      exact g_sub [0, 1, 2] rfl (HK254 x1 x2 σ h)
    · have h := ite_f hc1 h
      refine g_aload_n C 0 dX8_count_163 rfl ?_
      refine g_getR C 32 22 rfl q_X8_82 rfl rfl dX8_count_164 ?_
      refine g_iload_n C 2 dX8_count_167 rfl ?_
      obtain ⟨hi2, h⟩ := cI_some h
      refine g_lald C 128 rfl ho_18 hi2 dX8_count_168 ?_
      refine g_lconst C (0 : Int64) dX8_count_169 rfl ?_
      refine g_lcmp_eq C 254 dX8_count_170 dX8_count_171 (by decide) (fun hc3 => ?_) (fun hc3 => ?_)
      · have h := ite_t hc3 h
        exact g_sub [0, 1, 2] rfl (HK254 x1 x2 σ h)
      · have h := ite_f hc3 h
        refine g_aload_n C 0 dX8_count_174 rfl ?_
        refine g_getR C 30 20 rfl q_X8_76 rfl rfl dX8_count_175 ?_
        refine g_iload C 4 dX8_count_178 rfl ?_
        obtain ⟨hi4, h⟩ := cI_some h
        refine g_lald C 128 rfl ho_18 hi4 dX8_count_180 ?_
        refine g_lconst C (0 : Int64) dX8_count_181 rfl ?_
        refine g_lcmp_eq C 243 dX8_count_182 dX8_count_183 (by decide) (fun hc5 => ?_) (fun hc5 => ?_)
        · have h := ite_t hc5 h
          exact g_sub [0, 1, 2, 3, 4] rfl ((s_X8_count_243 C ih) x1 x2 x3 x4 σ h)
        · have h := ite_f hc5 h
          refine g_aload_n C 0 dX8_count_186 rfl ?_
          refine g_getR C 28 18 rfl q_X8_70 rfl rfl dX8_count_187 ?_
          refine g_iload C 4 dX8_count_190 rfl ?_
          obtain ⟨hi6, h⟩ := cI_some h
          refine g_iald C 128 rfl ho_16 hi6 dX8_count_192 ?_
          refine g_iload_n C 2 dX8_count_193 rfl ?_
          refine g_iconst C (-1 : Int32) dX8_count_194 rfl ?_
          refine g_ixor C dX8_count_195 ?_
          refine g_iand C dX8_count_196 ?_
          refine g_if_ne C 243 dX8_count_197 (by decide) (fun hc7 => ?_) (fun hc7 => ?_)
          · have h := ite_f hc7 h
            exact g_sub [0, 1, 2, 3, 4] rfl ((s_X8_count_243 C ih) x1 x2 x3 x4 σ h)
          · have h := ite_t hc7 h
            refine g_aload_n C 0 dX8_count_200 rfl ?_
            refine g_getR C 29 19 rfl q_X8_73 rfl rfl dX8_count_201 ?_
            refine g_iload C 4 dX8_count_204 rfl ?_
            obtain ⟨hi8, h⟩ := cI_some h
            refine g_iald C 128 rfl ho_16 hi8 dX8_count_206 ?_
            refine g_iload_n C 2 dX8_count_207 rfl ?_
            refine g_iload C 4 dX8_count_208 rfl ?_
            refine g_ior C dX8_count_210 ?_
            refine g_iconst C (-1 : Int32) dX8_count_211 rfl ?_
            refine g_ixor C dX8_count_212 ?_
            refine g_iand C dX8_count_213 ?_
            refine g_if_ne C 243 dX8_count_214 (by decide) (fun hc9 => ?_) (fun hc9 => ?_)
            · have h := ite_f hc9 h
              exact g_sub [0, 1, 2, 3, 4] rfl ((s_X8_count_243 C ih) x1 x2 x3 x4 σ h)
            · have h := ite_t hc9 h
              refine g_aload_n C 0 dX8_count_217 rfl ?_
              refine g_getR C 31 21 rfl q_X8_79 rfl rfl dX8_count_218 ?_
              refine g_iload_n C 2 dX8_count_221 rfl ?_
              refine g_iload C 4 dX8_count_222 rfl ?_
              refine g_ior C dX8_count_224 ?_
              refine g_dup2 C rfl rfl dX8_count_225 ?_
              obtain ⟨hi10, h⟩ := cI_some h
              refine g_lald C 128 rfl ho_18 hi10 dX8_count_226 ?_
              refine g_aload_n C 0 dX8_count_227 rfl ?_
              refine g_getR C 32 22 rfl q_X8_82 rfl rfl dX8_count_228 ?_
              refine g_iload_n C 2 dX8_count_231 rfl ?_
              obtain ⟨hi11, h⟩ := cI_some h
              refine g_lald C 128 rfl ho_18 hi11 dX8_count_232 ?_
              refine g_aload_n C 0 dX8_count_233 rfl ?_
              refine g_getR C 30 20 rfl q_X8_76 rfl rfl dX8_count_234 ?_
              refine g_iload C 4 dX8_count_237 rfl ?_
              obtain ⟨hi12, h⟩ := cI_some h
              refine g_lald C 128 rfl ho_18 hi12 dX8_count_239 ?_
              refine g_lmul C dX8_count_240 ?_
              refine g_ladd C dX8_count_241 ?_
              obtain ⟨hi13, h⟩ := cI_some h
              refine g_last C 128 rfl ho_18 hi13 dX8_count_242 ?_
              refine g_nmS (fun σ14 eσ14 => ?_)
              have h := ap_at eσ14 h
              exact g_sub [0, 1, 2, 3, 4] rfl ((s_X8_count_243 C ih) x1 x2 x3 x4 σ14 h)
def f_X8_count_254 (kk138 : Int32 → Int32 → St → Option (Int64 × St)) (x1 : Int32) (x2 : Int32) (σ : St) : Option (Int64 × St) := kk138 x1 (x2 + (1 : Int32)) σ
set_option maxRecDepth 20000 in
theorem s_X8_count_254 {R : Int64 × St} (C : gC p s m args meth c D ca ad 26 LM RX8 cX8_count 5 (some .long)) {kk138 : Int32 → Int32 → St → Option (Int64 × St)} (HK138 : ∀ (x1 : Int32) (x2 : Int32) (σ : St), kk138 x1 x2 σ = some R → G p l e rm_X8_count s m args below meth c D ca ad 26 LM 5 (gEnd below args s D ca ad 26 LM (some (.long R.1)) R.2) 138 [(0, .ref 0), (1, .int x1), (2, .int x2)] [] σ) (x1 : Int32) (x2 : Int32) (σ : St) (h : f_X8_count_254 kk138 x1 x2 σ = some R) : G p l e rm_X8_count s m args below meth c D ca ad 26 LM 5 (gEnd below args s D ca ad 26 LM (some (.long R.1)) R.2) 254 [(0, .ref 0), (1, .int x1), (2, .int x2)] [] σ := by
  unfold f_X8_count_254 at h
  refine g_iinc C 2 [(2, .int (x2 + (1 : Int32))), (0, .ref 0), (1, .int x1)] dX8_count_254 rfl rfl (by decide) rfl ?_
  refine g_goto C 138 dX8_count_257 (by decide) ?_
  exact g_sub [1, 2, 0] rfl (HK138 x1 (x2 + (1 : Int32)) σ h)
def f_X8_count_138 (kk260 : Int32 → St → Option (Int64 × St)) : Nat → Int32 → Int32 → St → Option (Int64 × St)
  | 0, _, _, _ => none
  | n + 1, x1, x2, σ => (if (σ.1 0 27) < x2 then kk260 x1 σ else ap ((σ.1 0 27) &&& (x2 ^^^ (-1 : Int32))) fun z2 => (f_X8_count_158 (f_X8_count_254 (f_X8_count_138 kk260 n)) FU) x1 x2 z2 z2 σ)
set_option maxRecDepth 20000 in
theorem s_X8_count_138 {R : Int64 × St} (C : gC p s m args meth c D ca ad 26 LM RX8 cX8_count 5 (some .long)) {kk260 : Int32 → St → Option (Int64 × St)} (HK260 : ∀ (x1 : Int32) (σ : St), kk260 x1 σ = some R → G p l e rm_X8_count s m args below meth c D ca ad 26 LM 5 (gEnd below args s D ca ad 26 LM (some (.long R.1)) R.2) 260 [(0, .ref 0), (1, .int x1)] [] σ) : ∀ (n : Nat) (x1 : Int32) (x2 : Int32) (σ : St), f_X8_count_138 kk260 n x1 x2 σ = some R → G p l e rm_X8_count s m args below meth c D ca ad 26 LM 5 (gEnd below args s D ca ad 26 LM (some (.long R.1)) R.2) 138 [(0, .ref 0), (1, .int x1), (2, .int x2)] [] σ := by
  intro n
  induction n with
  | zero =>
    intro x1 x2 σ h
    have h : none = some R := h
    cases h
  | succ n ih =>
    intro x1 x2 σ h
    rw [f_X8_count_138] at h
    refine g_iload_n C 2 dX8_count_138 rfl ?_
    refine g_aload_n C 0 dX8_count_139 rfl ?_
    refine g_getI C 27 rfl q_X8_163 rfl dX8_count_140 ?_
    refine g_icmp_gt C 260 dX8_count_143 (by decide) (fun hc1 => ?_) (fun hc1 => ?_)
    · have h := ite_t hc1 h
      exact g_sub [0, 1] rfl (HK260 x1 σ h)
    · have h := ite_f hc1 h
      refine g_aload_n C 0 dX8_count_146 rfl ?_
      refine g_getI C 27 rfl q_X8_163 rfl dX8_count_147 ?_
      refine g_iload_n C 2 dX8_count_150 rfl ?_
      refine g_iconst C (-1 : Int32) dX8_count_151 rfl ?_
      refine g_ixor C dX8_count_152 ?_
      refine g_iand C dX8_count_153 ?_
      refine g_nmI (fun z2 ez2 => ?_)
      have h := ap_at ez2 h
      refine g_istore_n C [(3, .int z2), (0, .ref 0), (1, .int x1), (2, .int x2)] dX8_count_154 (by decide) rfl ?_
      refine g_iload_n C 0 dX8_count_155 rfl ?_
      refine g_istore C [(4, .int z2), (3, .int z2), (0, .ref 0), (1, .int x1), (2, .int x2)] dX8_count_156 (by decide) rfl ?_
      exact g_sub [2, 3, 4, 1, 0] rfl ((s_X8_count_158 C (s_X8_count_254 C ih) FU) x1 x2 z2 z2 σ h)
def f_X8_count_260 (kk33 : Int32 → St → Option (Int64 × St)) (x1 : Int32) (σ : St) : Option (Int64 × St) := kk33 (x1 + (1 : Int32)) σ
set_option maxRecDepth 20000 in
theorem s_X8_count_260 {R : Int64 × St} (C : gC p s m args meth c D ca ad 26 LM RX8 cX8_count 5 (some .long)) {kk33 : Int32 → St → Option (Int64 × St)} (HK33 : ∀ (x1 : Int32) (σ : St), kk33 x1 σ = some R → G p l e rm_X8_count s m args below meth c D ca ad 26 LM 5 (gEnd below args s D ca ad 26 LM (some (.long R.1)) R.2) 33 [(0, .ref 0), (1, .int x1)] [] σ) (x1 : Int32) (σ : St) (h : f_X8_count_260 kk33 x1 σ = some R) : G p l e rm_X8_count s m args below meth c D ca ad 26 LM 5 (gEnd below args s D ca ad 26 LM (some (.long R.1)) R.2) 260 [(0, .ref 0), (1, .int x1)] [] σ := by
  unfold f_X8_count_260 at h
  refine g_iinc C 1 [(1, .int (x1 + (1 : Int32))), (0, .ref 0)] dX8_count_260 rfl rfl (by decide) rfl ?_
  refine g_goto C 33 dX8_count_263 (by decide) ?_
  exact g_sub [1, 0] rfl (HK33 (x1 + (1 : Int32)) σ h)
def f_X8_count_136 (kk33 : Int32 → St → Option (Int64 × St)) (x1 : Int32) (σ : St) : Option (Int64 × St) := (f_X8_count_138 (f_X8_count_260 kk33) FU) x1 (0 : Int32) σ
set_option maxRecDepth 20000 in
theorem s_X8_count_136 {R : Int64 × St} (C : gC p s m args meth c D ca ad 26 LM RX8 cX8_count 5 (some .long)) {kk33 : Int32 → St → Option (Int64 × St)} (HK33 : ∀ (x1 : Int32) (σ : St), kk33 x1 σ = some R → G p l e rm_X8_count s m args below meth c D ca ad 26 LM 5 (gEnd below args s D ca ad 26 LM (some (.long R.1)) R.2) 33 [(0, .ref 0), (1, .int x1)] [] σ) (x1 : Int32) (σ : St) (h : f_X8_count_136 kk33 x1 σ = some R) : G p l e rm_X8_count s m args below meth c D ca ad 26 LM 5 (gEnd below args s D ca ad 26 LM (some (.long R.1)) R.2) 136 [(0, .ref 0), (1, .int x1)] [] σ := by
  unfold f_X8_count_136 at h
  refine g_iconst C (0 : Int32) dX8_count_136 rfl ?_
  refine g_istore_n C [(2, .int (0 : Int32)), (0, .ref 0), (1, .int x1)] dX8_count_137 (by decide) rfl ?_
  exact g_sub [1, 2, 0] rfl ((s_X8_count_138 C (s_X8_count_260 C HK33) FU) x1 (0 : Int32) σ h)
def f_X8_count_108 (kk33 : Int32 → St → Option (Int64 × St)) (x1 : Int32) (σ : St) : Option (Int64 × St) := (f_X8_count_110 (f_X8_count_136 kk33) FU) x1 (0 : Int32) σ
set_option maxRecDepth 20000 in
theorem s_X8_count_108 {R : Int64 × St} (C : gC p s m args meth c D ca ad 26 LM RX8 cX8_count 5 (some .long)) {kk33 : Int32 → St → Option (Int64 × St)} (HK33 : ∀ (x1 : Int32) (σ : St), kk33 x1 σ = some R → G p l e rm_X8_count s m args below meth c D ca ad 26 LM 5 (gEnd below args s D ca ad 26 LM (some (.long R.1)) R.2) 33 [(0, .ref 0), (1, .int x1)] [] σ) (x1 : Int32) (σ : St) (h : f_X8_count_108 kk33 x1 σ = some R) : G p l e rm_X8_count s m args below meth c D ca ad 26 LM 5 (gEnd below args s D ca ad 26 LM (some (.long R.1)) R.2) 108 [(0, .ref 0), (1, .int x1)] [] σ := by
  unfold f_X8_count_108 at h
  refine g_iconst C (0 : Int32) dX8_count_108 rfl ?_
  refine g_istore_n C [(2, .int (0 : Int32)), (0, .ref 0), (1, .int x1)] dX8_count_109 (by decide) rfl ?_
  exact g_sub [1, 2, 0] rfl ((s_X8_count_110 C (s_X8_count_136 C HK33) FU) x1 (0 : Int32) σ h)
def f_X8_count_33 : Nat → Int32 → St → Option (Int64 × St)
  | 0, _, _ => none
  | n + 1, x1, σ => (if (σ.1 0 0) ≤ x1 then cI (ix (σ.1 0 27) 128) (some ((σ.2 21 (σ.1 0 27).toNatClampNeg), σ)) else cI (ix (0 : Int32) 128) (ap (up2 σ 20 (0 : Int32).toNatClampNeg (1 : Int64)) fun σ4 => (f_X8_count_50 (f_X8_count_108 (f_X8_count_33 n)) FU) x1 (1 : Int32) σ4))
set_option maxRecDepth 20000 in
theorem s_X8_count_33 {R : Int64 × St} (C : gC p s m args meth c D ca ad 26 LM RX8 cX8_count 5 (some .long)) : ∀ (n : Nat) (x1 : Int32) (σ : St), f_X8_count_33 n x1 σ = some R → G p l e rm_X8_count s m args below meth c D ca ad 26 LM 5 (gEnd below args s D ca ad 26 LM (some (.long R.1)) R.2) 33 [(0, .ref 0), (1, .int x1)] [] σ := by
  intro n
  induction n with
  | zero =>
    intro x1 σ h
    have h : none = some R := h
    cases h
  | succ n ih =>
    intro x1 σ h
    rw [f_X8_count_33] at h
    refine g_iload_n C 1 dX8_count_33 rfl ?_
    refine g_aload_n C 0 dX8_count_34 rfl ?_
    refine g_getI C 0 rfl q_X8_7 rfl dX8_count_35 ?_
    refine g_icmp_ge C 266 dX8_count_38 (by decide) (fun hc1 => ?_) (fun hc1 => ?_)
    · have h := ite_t hc1 h
      refine g_aload_n C 0 dX8_count_266 rfl ?_
      refine g_getR C 31 21 rfl q_X8_79 rfl rfl dX8_count_267 ?_
      refine g_aload_n C 0 dX8_count_270 rfl ?_
      refine g_getI C 27 rfl q_X8_163 rfl dX8_count_271 ?_
      obtain ⟨hi2, h⟩ := cI_some h
      refine g_lald C 128 rfl ho_18 hi2 dX8_count_274 ?_
      obtain rfl := Option.some.inj h
      exact g_lret C dX8_count_275
    · have h := ite_f hc1 h
      refine g_aload_n C 0 dX8_count_41 rfl ?_
      refine g_getR C 30 20 rfl q_X8_76 rfl rfl dX8_count_42 ?_
      refine g_iconst C (0 : Int32) dX8_count_45 rfl ?_
      refine g_lconst C (1 : Int64) dX8_count_46 rfl ?_
      obtain ⟨hi3, h⟩ := cI_some h
      refine g_last C 128 rfl ho_18 hi3 dX8_count_47 ?_
      refine g_nmS (fun σ4 eσ4 => ?_)
      have h := ap_at eσ4 h
      refine g_iconst C (1 : Int32) dX8_count_48 rfl ?_
      refine g_istore_n C [(2, .int (1 : Int32)), (0, .ref 0), (1, .int x1)] dX8_count_49 (by decide) rfl ?_
      exact g_sub [1, 2, 0] rfl ((s_X8_count_50 C (s_X8_count_108 C ih) FU) x1 (1 : Int32) σ4 h)
def f_X8_count_31 (σ : St) : Option (Int64 × St) := (f_X8_count_33 FU) (0 : Int32) σ
set_option maxRecDepth 20000 in
theorem s_X8_count_31 {R : Int64 × St} (C : gC p s m args meth c D ca ad 26 LM RX8 cX8_count 5 (some .long)) (σ : St) (h : f_X8_count_31 σ = some R) : G p l e rm_X8_count s m args below meth c D ca ad 26 LM 5 (gEnd below args s D ca ad 26 LM (some (.long R.1)) R.2) 31 [(0, .ref 0)] [] σ := by
  unfold f_X8_count_31 at h
  refine g_iconst C (0 : Int32) dX8_count_31 rfl ?_
  refine g_istore_n C [(1, .int (0 : Int32)), (0, .ref 0)] dX8_count_32 (by decide) rfl ?_
  exact g_sub [1, 0] rfl ((s_X8_count_33 C FU) (0 : Int32) σ h)
def f_X8_count (σ : St) : Option (Int64 × St) := (f_X8_count_2 (f_X8_count_31) FU) (0 : Int32) σ
set_option maxRecDepth 20000 in
theorem m_X8_count {l : Launch} {D : va_G} {ca : Nat → ClassId} {ad : Nat → Nat} {σ : St} {R : Int64 × St} (h : f_X8_count σ = some R) : gM l D ca ad 26 LM yX8_count cX8_count 5 (some .long) rm_X8_count [.ref 0] σ (some (.long R.1)) R.2 := by
  refine gM_of (by decide) (Nat.le_of_ble_eq_true rfl) (fun p e s m args below meth c C => ?_)
  refine g_ent (ls' := [(0, .ref 0)]) rfl ?_
  unfold f_X8_count at h
  refine g_iconst C (0 : Int32) dX8_count_0 rfl ?_
  refine g_istore_n C [(1, .int (0 : Int32)), (0, .ref 0)] dX8_count_1 (by decide) rfl ?_
  exact g_sub [1, 0] rfl ((s_X8_count_2 C (s_X8_count_31 C) FU) (0 : Int32) σ h)
end
