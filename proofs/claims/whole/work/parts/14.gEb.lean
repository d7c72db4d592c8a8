section
variable {p : Program} {l : Launch} {e : Env} {s : State} {m : MethodId} {args : Array Value} {below : List Frame} {meth : Method} {c : Code} {D : va_G} {ca : Nat → ClassId} {ad : Nat → Nat}
def f_X8_find_137 (kk178 : Int32 → St → Option (Int32 × St)) : Nat → Int32 → Int32 → St → Option (Int32 × St)
  | 0, _, _, _ => none
  | n + 1, x4, x5, σ => (if (7 : Int32) ≤ x5 then kk178 x4 σ else cI (ix (((7 : Int32) * x4) + x5) 49) (ap (up1 σ 8 (((7 : Int32) * x4) + x5).toNatClampNeg (0 : Int32)) fun σ3 => cI (ix (((7 : Int32) * x5) + x4) 49) (ap (up1 σ3 8 (((7 : Int32) * x5) + x4).toNatClampNeg (0 : Int32)) fun σ5 => (f_X8_find_137 kk178 n) x4 (x5 + (1 : Int32)) σ5)))
set_option maxRecDepth 20000 in
theorem s_X8_find_137 {R : Int32 × St} (C : gC p s m args meth c D ca ad 26 LM RX8 cX8_find 6 (some .int)) {kk178 : Int32 → St → Option (Int32 × St)} (HK178 : ∀ (x4 : Int32) (σ : St), kk178 x4 σ = some R → G p l e rm_X8_find s m args below meth c D ca ad 26 LM 6 (gEnd below args s D ca ad 26 LM (some (.int R.1)) R.2) 178 [(0, .ref 0), (4, .int x4)] [] σ) : ∀ (n : Nat) (x4 : Int32) (x5 : Int32) (σ : St), f_X8_find_137 kk178 n x4 x5 σ = some R → G p l e rm_X8_find s m args below meth c D ca ad 26 LM 6 (gEnd below args s D ca ad 26 LM (some (.int R.1)) R.2) 137 [(0, .ref 0), (4, .int x4), (5, .int x5)] [] σ := by
  intro n
  induction n with
  | zero =>
    intro x4 x5 σ h
    have h : none = some R := h
    cases h
  | succ n ih =>
    intro x4 x5 σ h
    rw [f_X8_find_137] at h
    refine g_iload C 2 dX8_find_137 rfl ?_
    refine g_bipush C (7 : Int32) dX8_find_139 rfl ?_
    refine g_icmp_ge C 178 dX8_find_141 (by decide) (fun hc1 => ?_) (fun hc1 => ?_)
    · have h := ite_t hc1 h
      exact g_sub [0, 1] rfl (HK178 x4 σ h)
    · have h := ite_f hc1 h
      refine g_aload_n C 0 dX8_find_144 rfl ?_
      refine g_getR C 9 8 rfl q_X8_35 rfl rfl dX8_find_145 ?_
      refine g_bipush C (7 : Int32) dX8_find_148 rfl ?_
      refine g_iload C 1 dX8_find_150 rfl ?_
      refine g_imul C dX8_find_152 ?_
      refine g_iload C 2 dX8_find_153 rfl ?_
      refine g_iadd C dX8_find_155 ?_
      refine g_iconst C (0 : Int32) dX8_find_156 rfl ?_
      obtain ⟨hi2, h⟩ := cI_some h
      refine g_iast C 49 rfl ho_25 hi2 dX8_find_157 ?_
      refine g_nmS (fun σ3 eσ3 => ?_)
      have h := ap_at eσ3 h
      refine g_aload_n C 0 dX8_find_158 rfl ?_
      refine g_getR C 9 8 rfl q_X8_35 rfl rfl dX8_find_159 ?_
      refine g_bipush C (7 : Int32) dX8_find_162 rfl ?_
      refine g_iload C 2 dX8_find_164 rfl ?_
      refine g_imul C dX8_find_166 ?_
      refine g_iload C 1 dX8_find_167 rfl ?_
      refine g_iadd C dX8_find_169 ?_
      refine g_iconst C (0 : Int32) dX8_find_170 rfl ?_
      obtain ⟨hi4, h⟩ := cI_some h
      refine g_iast C 49 rfl ho_25 hi4 dX8_find_171 ?_
      refine g_nmS (fun σ5 eσ5 => ?_)
      have h := ap_at eσ5 h
      refine g_iinc C 2 [(5, .int (x5 + (1 : Int32))), (0, .ref 0), (4, .int x4)] dX8_find_172 rfl rfl (by decide) rfl ?_
      refine g_goto C 137 dX8_find_175 (by decide) ?_
      exact g_sub [1, 2, 0] rfl (ih x4 (x5 + (1 : Int32)) σ5 h)
def f_X8_find_178 (x4 : Int32) (σ : St) : Option (Int32 × St) := ap (up1 σ 0 3 ((σ.1 0 3) + (1 : Int32))) fun σ1 => ap (up1 σ1 0 10 (0 : Int32)) fun σ2 => some (x4, σ2)
set_option maxRecDepth 20000 in
theorem s_X8_find_178 {R : Int32 × St} (C : gC p s m args meth c D ca ad 26 LM RX8 cX8_find 6 (some .int)) (x4 : Int32) (σ : St) (h : f_X8_find_178 x4 σ = some R) : G p l e rm_X8_find s m args below meth c D ca ad 26 LM 6 (gEnd below args s D ca ad 26 LM (some (.int R.1)) R.2) 178 [(0, .ref 0), (4, .int x4)] [] σ := by
  unfold f_X8_find_178 at h
  refine g_aload_n C 0 dX8_find_178 rfl ?_
  refine g_dup C rfl dX8_find_179 ?_
  refine g_getI C 3 rfl q_X8_97 rfl dX8_find_180 ?_
  refine g_iconst C (1 : Int32) dX8_find_183 rfl ?_
  refine g_iadd C dX8_find_184 ?_
  refine g_putI C 3 rfl qp_X8_97 rfl dX8_find_185 ?_
  refine g_nmS (fun σ1 eσ1 => ?_)
  have h := ap_at eσ1 h
  refine g_aload_n C 0 dX8_find_188 rfl ?_
  refine g_iconst C (0 : Int32) dX8_find_189 rfl ?_
  refine g_putZ C 10 rfl qp_X8_113 rfl rfl rfl dX8_find_190 ?_
  refine g_nmS (fun σ2 eσ2 => ?_)
  have h := ap_at eσ2 h
  refine g_iload C 1 dX8_find_193 rfl ?_
  obtain rfl := Option.some.inj h
  exact g_iret C dX8_find_195
def f_X8_find_123 (x4 : Int32) (xs0 : Int32) (xs1 : Int32) (σ : St) : Option (Int32 × St) := cI (ix xs1 35) (ap (up1 σ 6 xs1.toNatClampNeg xs0) fun σ2 => cI (ix ((5 : Int32) * x4) 35) (ap (up1 σ2 7 ((5 : Int32) * x4).toNatClampNeg (0 : Int32)) fun σ4 => (f_X8_find_137 (f_X8_find_178) FU) x4 (0 : Int32) σ4))
set_option maxRecDepth 20000 in
theorem s_X8_find_123 {R : Int32 × St} (C : gC p s m args meth c D ca ad 26 LM RX8 cX8_find 6 (some .int)) (x4 : Int32) (xs0 : Int32) (xs1 : Int32) (σ : St) (h : f_X8_find_123 x4 xs0 xs1 σ = some R) : G p l e rm_X8_find s m args below meth c D ca ad 26 LM 6 (gEnd below args s D ca ad 26 LM (some (.int R.1)) R.2) 123 [(0, .ref 0), (4, .int x4)] [.int xs0, .int xs1, .ref 6] σ := by
  unfold f_X8_find_123 at h
  obtain ⟨hi1, h⟩ := cI_some h
  refine g_iast C 35 rfl ho_24 hi1 dX8_find_123 ?_
  refine g_nmS (fun σ2 eσ2 => ?_)
  have h := ap_at eσ2 h
  refine g_aload_n C 0 dX8_find_124 rfl ?_
  refine g_getR C 8 7 rfl q_X8_32 rfl rfl dX8_find_125 ?_
  refine g_iconst C (5 : Int32) dX8_find_128 rfl ?_
  refine g_iload C 1 dX8_find_129 rfl ?_
  refine g_imul C dX8_find_131 ?_
  refine g_iconst C (0 : Int32) dX8_find_132 rfl ?_
  obtain ⟨hi3, h⟩ := cI_some h
  refine g_iast C 35 rfl ho_24 hi3 dX8_find_133 ?_
  refine g_nmS (fun σ4 eσ4 => ?_)
  have h := ap_at eσ4 h
  refine g_iconst C (0 : Int32) dX8_find_134 rfl ?_
  refine g_istore C [(5, .int (0 : Int32)), (0, .ref 0), (4, .int x4)] dX8_find_135 (by decide) rfl ?_
  exact g_sub [1, 2, 0] rfl ((s_X8_find_137 C (s_X8_find_178 C) FU) x4 (0 : Int32) σ4 h)
def f_X8_find_104 (x1 : Int32) (x2 : Int32) (x4 : Int32) (xs0 : Int32) (xs1 : Int32) (σ : St) : Option (Int32 × St) := cI (ix xs1 7) (ap (up1 σ 5 xs1.toNatClampNeg xs0) fun σ2 => (if x1 = (2 : Int32) then (f_X8_find_123) x4 (0 : Int32) ((5 : Int32) * x4) σ2 else (f_X8_find_123) x4 x2 ((5 : Int32) * x4) σ2))
set_option maxRecDepth 20000 in
theorem s_X8_find_104 {R : Int32 × St} (C : gC p s m args meth c D ca ad 26 LM RX8 cX8_find 6 (some .int)) (x1 : Int32) (x2 : Int32) (x4 : Int32) (xs0 : Int32) (xs1 : Int32) (σ : St) (h : f_X8_find_104 x1 x2 x4 xs0 xs1 σ = some R) : G p l e rm_X8_find s m args below meth c D ca ad 26 LM 6 (gEnd below args s D ca ad 26 LM (some (.int R.1)) R.2) 104 [(0, .ref 0), (1, .int x1), (2, .int x2), (4, .int x4)] [.int xs0, .int xs1, .ref 5] σ := by
  unfold f_X8_find_104 at h
  obtain ⟨hi1, h⟩ := cI_some h
  refine g_iast C 7 rfl ho_11 hi1 dX8_find_104 ?_
  refine g_nmS (fun σ2 eσ2 => ?_)
  have h := ap_at eσ2 h
  refine g_aload_n C 0 dX8_find_105 rfl ?_
  refine g_getR C 7 6 rfl q_X8_29 rfl rfl dX8_find_106 ?_
  refine g_iconst C (5 : Int32) dX8_find_109 rfl ?_
  refine g_iload C 3 dX8_find_110 rfl ?_
  refine g_imul C dX8_find_112 ?_
  refine g_iload_n C 1 dX8_find_113 rfl ?_
  refine g_iconst C (2 : Int32) dX8_find_114 rfl ?_
  refine g_icmp_ne C 122 dX8_find_115 (by decide) (fun hc3 => ?_) (fun hc3 => ?_)
  · have h := ite_f hc3 h
    refine g_iload_n C 2 dX8_find_122 rfl ?_
    exact g_sub [0, 3] rfl ((s_X8_find_123 C) x4 x2 ((5 : Int32) * x4) σ2 h)
  · have h := ite_t hc3 h
    refine g_iconst C (0 : Int32) dX8_find_118 rfl ?_
    refine g_goto C 123 dX8_find_119 (by decide) ?_
    exact g_sub [0, 3] rfl ((s_X8_find_123 C) x4 (0 : Int32) ((5 : Int32) * x4) σ2 h)
def f_X8_find_99 (x1 : Int32) (x2 : Int32) (x4 : Int32) (xs0 : Int32) (σ : St) : Option (Int32 × St) := (f_X8_find_104) x1 x2 x4 (1 : Int32) xs0 σ
set_option maxRecDepth 20000 in
theorem s_X8_find_99 {R : Int32 × St} (C : gC p s m args meth c D ca ad 26 LM RX8 cX8_find 6 (some .int)) (x1 : Int32) (x2 : Int32) (x4 : Int32) (xs0 : Int32) (σ : St) (h : f_X8_find_99 x1 x2 x4 xs0 σ = some R) : G p l e rm_X8_find s m args below meth c D ca ad 26 LM 6 (gEnd below args s D ca ad 26 LM (some (.int R.1)) R.2) 99 [(0, .ref 0), (1, .int x1), (2, .int x2), (4, .int x4)] [.int xs0, .ref 5] σ := by
  unfold f_X8_find_99 at h
  refine g_iconst C (1 : Int32) dX8_find_99 rfl ?_
  refine g_goto C 104 dX8_find_100 (by decide) ?_
  exact g_sub [0, 1, 2, 3] rfl ((s_X8_find_104 C) x1 x2 x4 (1 : Int32) xs0 σ h)
def f_X8_find_45 (x1 : Int32) (x2 : Int32) (xs0 : Int32) (σ : St) : Option (Int32 × St) := (if xs0 = 0 then some ((-2 : Int32), σ) else (if (σ.1 0 3) = (7 : Int32) then some ((-2 : Int32), σ) else cI (ix (σ.1 0 3) 7) (ap (up1 σ 3 (σ.1 0 3).toNatClampNeg x1) fun σ4 => cI (ix (σ.1 0 3) 7) (ap (up1 σ4 4 (σ.1 0 3).toNatClampNeg (0 : Int32)) fun σ6 => (if x1 = 0 then (f_X8_find_99) x1 x2 (σ.1 0 3) (σ.1 0 3) σ6 else (if x1 = (1 : Int32) then (f_X8_find_99) x1 x2 (σ.1 0 3) (σ.1 0 3) σ6 else (f_X8_find_104) x1 x2 (σ.1 0 3) (0 : Int32) (σ.1 0 3) σ6))))))
set_option maxRecDepth 20000 in
theorem s_X8_find_45 {R : Int32 × St} (C : gC p s m args meth c D ca ad 26 LM RX8 cX8_find 6 (some .int)) (x1 : Int32) (x2 : Int32) (xs0 : Int32) (σ : St) (h : f_X8_find_45 x1 x2 xs0 σ = some R) : G p l e rm_X8_find s m args below meth c D ca ad 26 LM 6 (gEnd below args s D ca ad 26 LM (some (.int R.1)) R.2) 45 [(0, .ref 0), (1, .int x1), (2, .int x2)] [.int xs0] σ := by
  unfold f_X8_find_45 at h
  refine g_istore_n C [(3, .int xs0), (0, .ref 0), (1, .int x1), (2, .int x2)] dX8_find_45 (by decide) rfl ?_
  refine g_iload_n C 0 dX8_find_46 rfl ?_
  refine g_if_eq C 59 dX8_find_47 (by decide) (fun hc1 => ?_) (fun hc1 => ?_)
  · have h := ite_t hc1 h
    refine g_bipush C (-2 : Int32) dX8_find_59 rfl ?_
    obtain rfl := Option.some.inj h
    exact g_iret C dX8_find_61
  · have h := ite_f hc1 h
    refine g_aload_n C 1 dX8_find_50 rfl ?_
    refine g_getI C 3 rfl q_X8_97 rfl dX8_find_51 ?_
    refine g_bipush C (7 : Int32) dX8_find_54 rfl ?_
    refine g_icmp_ne C 62 dX8_find_56 (by decide) (fun hc2 => ?_) (fun hc2 => ?_)
    · have h := ite_f hc2 h
      refine g_aload_n C 1 dX8_find_62 rfl ?_
      refine g_getI C 3 rfl q_X8_97 rfl dX8_find_63 ?_
      refine g_istore C [(4, .int (σ.1 0 3)), (3, .int xs0), (0, .ref 0), (1, .int x1), (2, .int x2)] dX8_find_66 (by decide) rfl ?_
      refine g_aload_n C 2 dX8_find_68 rfl ?_
      refine g_getR C 4 3 rfl q_X8_20 rfl rfl dX8_find_69 ?_
      refine g_iload C 0 dX8_find_72 rfl ?_
      refine g_iload_n C 3 dX8_find_74 rfl ?_
      obtain ⟨hi3, h⟩ := cI_some h
      refine g_iast C 7 rfl ho_11 hi3 dX8_find_75 ?_
      refine g_nmS (fun σ4 eσ4 => ?_)
      have h := ap_at eσ4 h
      refine g_aload_n C 2 dX8_find_76 rfl ?_
      refine g_getR C 5 4 rfl q_X8_23 rfl rfl dX8_find_77 ?_
      refine g_iload C 0 dX8_find_80 rfl ?_
      refine g_iconst C (0 : Int32) dX8_find_82 rfl ?_
      obtain ⟨hi5, h⟩ := cI_some h
      refine g_iast C 7 rfl ho_11 hi5 dX8_find_83 ?_
      refine g_nmS (fun σ6 eσ6 => ?_)
      have h := ap_at eσ6 h
      refine g_aload_n C 2 dX8_find_84 rfl ?_
      refine g_getR C 6 5 rfl q_X8_26 rfl rfl dX8_find_85 ?_
      refine g_iload C 0 dX8_find_88 rfl ?_
      refine g_iload_n C 3 dX8_find_90 rfl ?_
      refine g_if_eq C 99 dX8_find_91 (by decide) (fun hc7 => ?_) (fun hc7 => ?_)
      · have h := ite_t hc7 h
        exact g_sub [2, 3, 4, 0] rfl ((s_X8_find_99 C) x1 x2 (σ.1 0 3) (σ.1 0 3) σ6 h)
      · have h := ite_f hc7 h
        refine g_iload_n C 3 dX8_find_94 rfl ?_
        refine g_iconst C (1 : Int32) dX8_find_95 rfl ?_
        refine g_icmp_ne C 103 dX8_find_96 (by decide) (fun hc8 => ?_) (fun hc8 => ?_)
        · have h := ite_f hc8 h
          refine g_iconst C (0 : Int32) dX8_find_103 rfl ?_
          exact g_sub [2, 3, 4, 0] rfl ((s_X8_find_104 C) x1 x2 (σ.1 0 3) (0 : Int32) (σ.1 0 3) σ6 h)
        · have h := ite_t hc8 h
          exact g_sub [2, 3, 4, 0] rfl ((s_X8_find_99 C) x1 x2 (σ.1 0 3) (σ.1 0 3) σ6 h)
    · have h := ite_t hc2 h
      refine g_bipush C (-2 : Int32) dX8_find_59 rfl ?_
      obtain rfl := Option.some.inj h
      exact g_iret C dX8_find_61
def f_X8_find_40 (x1 : Int32) (x2 : Int32) (σ : St) : Option (Int32 × St) := (f_X8_find_45) x1 x2 (1 : Int32) σ
set_option maxRecDepth 20000 in
theorem s_X8_find_40 {R : Int32 × St} (C : gC p s m args meth c D ca ad 26 LM RX8 cX8_find 6 (some .int)) (x1 : Int32) (x2 : Int32) (σ : St) (h : f_X8_find_40 x1 x2 σ = some R) : G p l e rm_X8_find s m args below meth c D ca ad 26 LM 6 (gEnd below args s D ca ad 26 LM (some (.int R.1)) R.2) 40 [(0, .ref 0), (1, .int x1), (2, .int x2)] [] σ := by
  unfold f_X8_find_40 at h
  refine g_iconst C (1 : Int32) dX8_find_40 rfl ?_
  refine g_goto C 45 dX8_find_41 (by decide) ?_
  exact g_sub [0, 1, 2] rfl ((s_X8_find_45 C) x1 x2 (1 : Int32) σ h)
def f_X8_find_44 (x1 : Int32) (x2 : Int32) (σ : St) : Option (Int32 × St) := (f_X8_find_45) x1 x2 (0 : Int32) σ
set_option maxRecDepth 20000 in
theorem s_X8_find_44 {R : Int32 × St} (C : gC p s m args meth c D ca ad 26 LM RX8 cX8_find 6 (some .int)) (x1 : Int32) (x2 : Int32) (σ : St) (h : f_X8_find_44 x1 x2 σ = some R) : G p l e rm_X8_find s m args below meth c D ca ad 26 LM 6 (gEnd below args s D ca ad 26 LM (some (.int R.1)) R.2) 44 [(0, .ref 0), (1, .int x1), (2, .int x2)] [] σ := by
  unfold f_X8_find_44 at h
  refine g_iconst C (0 : Int32) dX8_find_44 rfl ?_
  exact g_sub [0, 1, 2] rfl ((s_X8_find_45 C) x1 x2 (0 : Int32) σ h)
def f_X8_find_25 (x1 : Int32) (x2 : Int32) (σ : St) : Option (Int32 × St) := (if x1 = (3 : Int32) then (f_X8_isIn x2 (0 : Int32) (39 : Int32) σ).bind (fun q2 => (if q2.1 = 0 then (f_X8_find_44) x1 x2 q2.2 else (f_X8_find_40) x1 x2 q2.2)) else (f_X8_find_44) x1 x2 σ)
set_option maxRecDepth 20000 in
theorem s_X8_find_25 {R : Int32 × St} (C : gC p s m args meth c D ca ad 26 LM RX8 cX8_find 6 (some .int)) (x1 : Int32) (x2 : Int32) (σ : St) (h : f_X8_find_25 x1 x2 σ = some R) : G p l e rm_X8_find s m args below meth c D ca ad 26 LM 6 (gEnd below args s D ca ad 26 LM (some (.int R.1)) R.2) 25 [(0, .ref 0), (1, .int x1), (2, .int x2)] [] σ := by
  unfold f_X8_find_25 at h
  refine g_iload_n C 1 dX8_find_25 rfl ?_
  refine g_iconst C (3 : Int32) dX8_find_26 rfl ?_
  refine g_icmp_ne C 44 dX8_find_27 (by decide) (fun hc1 => ?_) (fun hc1 => ?_)
  · have h := ite_f hc1 h
    exact g_sub [0, 1, 2] rfl ((s_X8_find_44 C) x1 x2 σ h)
  · have h := ite_t hc1 h
    refine g_iload_n C 2 dX8_find_30 rfl ?_
    refine g_iconst C (0 : Int32) dX8_find_31 rfl ?_
    refine g_bipush C (39 : Int32) dX8_find_32 rfl ?_
    obtain ⟨q2, hq2, h⟩ := bd h
    refine g_callSI C [.int x2, .int (0 : Int32), .int (39 : Int32)] qs_X8_100 (m_X8_isIn hq2) rfl rfl ⟨rfl, rfl⟩ ⟨by decide, by decide⟩ (Nat.le_of_ble_eq_true rfl) dX8_find_34 ?_
    refine g_if_eq C 44 dX8_find_37 (by decide) (fun hc3 => ?_) (fun hc3 => ?_)
    · have h := ite_t hc3 h
      exact g_sub [0, 1, 2] rfl ((s_X8_find_44 C) x1 x2 q2.2 h)
    · have h := ite_f hc3 h
      exact g_sub [0, 1, 2] rfl ((s_X8_find_40 C) x1 x2 q2.2 h)
def f_X8_find_14 (x1 : Int32) (x2 : Int32) (σ : St) : Option (Int32 × St) := (f_X8_isIn x2 (0 : Int32) (2000 : Int32) σ).bind (fun q1 => (if q1.1 = 0 then (f_X8_find_25) x1 x2 q1.2 else (f_X8_find_40) x1 x2 q1.2))
set_option maxRecDepth 20000 in
theorem s_X8_find_14 {R : Int32 × St} (C : gC p s m args meth c D ca ad 26 LM RX8 cX8_find 6 (some .int)) (x1 : Int32) (x2 : Int32) (σ : St) (h : f_X8_find_14 x1 x2 σ = some R) : G p l e rm_X8_find s m args below meth c D ca ad 26 LM 6 (gEnd below args s D ca ad 26 LM (some (.int R.1)) R.2) 14 [(0, .ref 0), (1, .int x1), (2, .int x2)] [] σ := by
  unfold f_X8_find_14 at h
  refine g_iload_n C 2 dX8_find_14 rfl ?_
  refine g_iconst C (0 : Int32) dX8_find_15 rfl ?_
  refine g_sipush C (2000 : Int32) dX8_find_16 rfl ?_
  obtain ⟨q1, hq1, h⟩ := bd h
  refine g_callSI C [.int x2, .int (0 : Int32), .int (2000 : Int32)] qs_X8_100 (m_X8_isIn hq1) rfl rfl ⟨rfl, rfl⟩ ⟨by decide, by decide⟩ (Nat.le_of_ble_eq_true rfl) dX8_find_19 ?_
  refine g_if_ne C 40 dX8_find_22 (by decide) (fun hc2 => ?_) (fun hc2 => ?_)
  · have h := ite_f hc2 h
    exact g_sub [0, 1, 2] rfl ((s_X8_find_40 C) x1 x2 q1.2 h)
  · have h := ite_t hc2 h
    exact g_sub [0, 1, 2] rfl ((s_X8_find_25 C) x1 x2 q1.2 h)
def f_X8_find (x1 : Int32) (x2 : Int32) (σ : St) : Option (Int32 × St) := (if x1 = (2 : Int32) then (f_X8_find_40) x1 x2 σ else (if x1 = 0 then (f_X8_find_14) x1 x2 σ else (if x1 = (1 : Int32) then (f_X8_find_14) x1 x2 σ else (f_X8_find_25) x1 x2 σ)))
set_option maxRecDepth 20000 in
theorem m_X8_find {l : Launch} {D : va_G} {ca : Nat → ClassId} {ad : Nat → Nat} {x1 : Int32} {x2 : Int32} {σ : St} {R : Int32 × St} (h : f_X8_find x1 x2 σ = some R) : gM l D ca ad 26 LM yX8_find cX8_find 6 (some .int) rm_X8_find [.ref 0, .int x1, .int x2] σ (some (.int R.1)) R.2 := by
  refine gM_of (by decide) (Nat.le_of_ble_eq_true rfl) (fun p e s m args below meth c C => ?_)
  refine g_ent (ls' := [(0, .ref 0), (1, .int x1), (2, .int x2)]) rfl ?_
  unfold f_X8_find at h
  refine g_iload_n C 1 dX8_find_0 rfl ?_
  refine g_iconst C (2 : Int32) dX8_find_1 rfl ?_
  refine g_icmp_eq C 40 dX8_find_2 (by decide) (fun hc1 => ?_) (fun hc1 => ?_)
  · have h := ite_t hc1 h
    exact g_sub [0, 1, 2] rfl ((s_X8_find_40 C) x1 x2 σ h)
  · have h := ite_f hc1 h
    refine g_iload_n C 1 dX8_find_5 rfl ?_
    refine g_if_eq C 14 dX8_find_6 (by decide) (fun hc2 => ?_) (fun hc2 => ?_)
    · have h := ite_t hc2 h
      exact g_sub [0, 1, 2] rfl ((s_X8_find_14 C) x1 x2 σ h)
    · have h := ite_f hc2 h
      refine g_iload_n C 1 dX8_find_9 rfl ?_
      refine g_iconst C (1 : Int32) dX8_find_10 rfl ?_
      refine g_icmp_ne C 25 dX8_find_11 (by decide) (fun hc3 => ?_) (fun hc3 => ?_)
      · have h := ite_f hc3 h
        exact g_sub [0, 1, 2] rfl ((s_X8_find_25 C) x1 x2 σ h)
      · have h := ite_t hc3 h
        exact g_sub [0, 1, 2] rfl ((s_X8_find_14 C) x1 x2 σ h)
def f_X8_ring (x1 : Int32) (x2 : Int32) (x3 : Int32) (σ : St) : Option (Int32 × St) := (f_X8_isFind x1 σ).bind (fun q1 => (if q1.1 = 0 then some ((-2 : Int32), q1.2) else (f_X8_isIn x2 (0 : Int32) (2000 : Int32) q1.2).bind (fun q3 => (if q3.1 = 0 then some ((-2 : Int32), q3.2) else (f_X8_isIn x3 (0 : Int32) (39 : Int32) q3.2).bind (fun q5 => (if q5.1 = 0 then some ((-2 : Int32), q5.2) else cI (ix x1 7) ((if (q5.2.1 3 x1.toNatClampNeg) = (1 : Int32) then cI (ix x1 7) ((if (q5.2.1 5 x1.toNatClampNeg) = (5 : Int32) then some ((-2 : Int32), q5.2) else cI (ix x1 7) (cI (ix (((5 : Int32) * x1) + (q5.2.1 5 x1.toNatClampNeg)) 35) (ap (up1 q5.2 6 (((5 : Int32) * x1) + (q5.2.1 5 x1.toNatClampNeg)).toNatClampNeg x2) fun σ13 => cI (ix x1 7) (cI (ix (((5 : Int32) * x1) + (σ13.1 5 x1.toNatClampNeg)) 35) (ap (up1 σ13 7 (((5 : Int32) * x1) + (σ13.1 5 x1.toNatClampNeg)).toNatClampNeg x3) fun σ16 => cI (ix x1 7) (cI (ix x1 7) (ap (up1 σ16 5 x1.toNatClampNeg ((σ16.1 5 x1.toNatClampNeg) + (1 : Int32))) fun σ19 => cI (ix x1 7) (some ((σ19.1 5 x1.toNatClampNeg), σ19)))))))))) else (f_X8_meet (-12 : Int32) q5.2).bind (fun q21 => some (q21.1, q21.2))))))))))
set_option maxRecDepth 20000 in
theorem m_X8_ring {l : Launch} {D : va_G} {ca : Nat → ClassId} {ad : Nat → Nat} {x1 : Int32} {x2 : Int32} {x3 : Int32} {σ : St} {R : Int32 × St} (h : f_X8_ring x1 x2 x3 σ = some R) : gM l D ca ad 26 LM yX8_ring cX8_ring 4 (some .int) rm_X8_ring [.ref 0, .int x1, .int x2, .int x3] σ (some (.int R.1)) R.2 := by
  refine gM_of (by decide) (Nat.le_of_ble_eq_true rfl) (fun p e s m args below meth c C => ?_)
  refine g_ent (ls' := [(0, .ref 0), (1, .int x1), (2, .int x2), (3, .int x3)]) rfl ?_
  unfold f_X8_ring at h
  refine g_aload_n C 0 dX8_ring_0 rfl ?_
  refine g_iload_n C 1 dX8_ring_1 rfl ?_
  obtain ⟨q1, hq1, h⟩ := bd h
  refine g_callVI C [.int x1] qv_X8_117 (m_X8_isFind hq1) rfl (by decide) rfl rfl rfl ⟨rfl, rfl⟩ ⟨by decide, by decide⟩ (Nat.le_of_ble_eq_true rfl) dX8_ring_2 ?_
  refine g_if_eq C 29 dX8_ring_5 (by decide) (fun hc2 => ?_) (fun hc2 => ?_)
  · have h := ite_t hc2 h
    refine g_bipush C (-2 : Int32) dX8_ring_29 rfl ?_
    obtain rfl := Option.some.inj h
    exact g_iret C dX8_ring_31
  · have h := ite_f hc2 h
    refine g_iload_n C 2 dX8_ring_8 rfl ?_
    refine g_iconst C (0 : Int32) dX8_ring_9 rfl ?_
    refine g_sipush C (2000 : Int32) dX8_ring_10 rfl ?_
    obtain ⟨q3, hq3, h⟩ := bd h
    refine g_callSI C [.int x2, .int (0 : Int32), .int (2000 : Int32)] qs_X8_100 (m_X8_isIn hq3) rfl rfl ⟨rfl, rfl⟩ ⟨by decide, by decide⟩ (Nat.le_of_ble_eq_true rfl) dX8_ring_13 ?_
    refine g_if_eq C 29 dX8_ring_16 (by decide) (fun hc4 => ?_) (fun hc4 => ?_)
    · have h := ite_t hc4 h
      refine g_bipush C (-2 : Int32) dX8_ring_29 rfl ?_
      obtain rfl := Option.some.inj h
      exact g_iret C dX8_ring_31
    · have h := ite_f hc4 h
      refine g_iload_n C 3 dX8_ring_19 rfl ?_
      refine g_iconst C (0 : Int32) dX8_ring_20 rfl ?_
      refine g_bipush C (39 : Int32) dX8_ring_21 rfl ?_
      obtain ⟨q5, hq5, h⟩ := bd h
      refine g_callSI C [.int x3, .int (0 : Int32), .int (39 : Int32)] qs_X8_100 (m_X8_isIn hq5) rfl rfl ⟨rfl, rfl⟩ ⟨by decide, by decide⟩ (Nat.le_of_ble_eq_true rfl) dX8_ring_23 ?_
      refine g_if_ne C 32 dX8_ring_26 (by decide) (fun hc6 => ?_) (fun hc6 => ?_)
      · have h := ite_f hc6 h
        refine g_aload_n C 0 dX8_ring_32 rfl ?_
        refine g_getR C 4 3 rfl q_X8_20 rfl rfl dX8_ring_33 ?_
        refine g_iload_n C 1 dX8_ring_36 rfl ?_
        obtain ⟨hi7, h⟩ := cI_some h
        refine g_iald C 7 rfl ho_11 hi7 dX8_ring_37 ?_
        refine g_iconst C (1 : Int32) dX8_ring_38 rfl ?_
        refine g_icmp_eq C 49 dX8_ring_39 (by decide) (fun hc8 => ?_) (fun hc8 => ?_)
        · have h := ite_t hc8 h
          refine g_aload_n C 0 dX8_ring_49 rfl ?_
          refine g_getR C 6 5 rfl q_X8_26 rfl rfl dX8_ring_50 ?_
          refine g_iload_n C 1 dX8_ring_53 rfl ?_
          obtain ⟨hi9, h⟩ := cI_some h
          refine g_iald C 7 rfl ho_11 hi9 dX8_ring_54 ?_
          refine g_iconst C (5 : Int32) dX8_ring_55 rfl ?_
          refine g_icmp_ne C 62 dX8_ring_56 (by decide) (fun hc10 => ?_) (fun hc10 => ?_)
          · have h := ite_f hc10 h
            refine g_aload_n C 0 dX8_ring_62 rfl ?_
            refine g_getR C 7 6 rfl q_X8_29 rfl rfl dX8_ring_63 ?_
            refine g_iconst C (5 : Int32) dX8_ring_66 rfl ?_
            refine g_iload_n C 1 dX8_ring_67 rfl ?_
            refine g_imul C dX8_ring_68 ?_
            refine g_aload_n C 0 dX8_ring_69 rfl ?_
            refine g_getR C 6 5 rfl q_X8_26 rfl rfl dX8_ring_70 ?_
            refine g_iload_n C 1 dX8_ring_73 rfl ?_
            obtain ⟨hi11, h⟩ := cI_some h
            refine g_iald C 7 rfl ho_11 hi11 dX8_ring_74 ?_
            refine g_iadd C dX8_ring_75 ?_
            refine g_iload_n C 2 dX8_ring_76 rfl ?_
            obtain ⟨hi12, h⟩ := cI_some h
            refine g_iast C 35 rfl ho_24 hi12 dX8_ring_77 ?_
            refine g_nmS (fun σ13 eσ13 => ?_)
            have h := ap_at eσ13 h
            refine g_aload_n C 0 dX8_ring_78 rfl ?_
            refine g_getR C 8 7 rfl q_X8_32 rfl rfl dX8_ring_79 ?_
            refine g_iconst C (5 : Int32) dX8_ring_82 rfl ?_
            refine g_iload_n C 1 dX8_ring_83 rfl ?_
            refine g_imul C dX8_ring_84 ?_
            refine g_aload_n C 0 dX8_ring_85 rfl ?_
            refine g_getR C 6 5 rfl q_X8_26 rfl rfl dX8_ring_86 ?_
            refine g_iload_n C 1 dX8_ring_89 rfl ?_
            obtain ⟨hi14, h⟩ := cI_some h
            refine g_iald C 7 rfl ho_11 hi14 dX8_ring_90 ?_
            refine g_iadd C dX8_ring_91 ?_
            refine g_iload_n C 3 dX8_ring_92 rfl ?_
            obtain ⟨hi15, h⟩ := cI_some h
            refine g_iast C 35 rfl ho_24 hi15 dX8_ring_93 ?_
            refine g_nmS (fun σ16 eσ16 => ?_)
            have h := ap_at eσ16 h
            refine g_aload_n C 0 dX8_ring_94 rfl ?_
            refine g_getR C 6 5 rfl q_X8_26 rfl rfl dX8_ring_95 ?_
            refine g_iload_n C 1 dX8_ring_98 rfl ?_
            refine g_dup2 C rfl rfl dX8_ring_99 ?_
            obtain ⟨hi17, h⟩ := cI_some h
            refine g_iald C 7 rfl ho_11 hi17 dX8_ring_100 ?_
            refine g_iconst C (1 : Int32) dX8_ring_101 rfl ?_
            refine g_iadd C dX8_ring_102 ?_
            obtain ⟨hi18, h⟩ := cI_some h
            refine g_iast C 7 rfl ho_11 hi18 dX8_ring_103 ?_
            refine g_nmS (fun σ19 eσ19 => ?_)
            have h := ap_at eσ19 h
            refine g_aload_n C 0 dX8_ring_104 rfl ?_
            refine g_getR C 6 5 rfl q_X8_26 rfl rfl dX8_ring_105 ?_
            refine g_iload_n C 1 dX8_ring_108 rfl ?_
            obtain ⟨hi20, h⟩ := cI_some h
            refine g_iald C 7 rfl ho_11 hi20 dX8_ring_109 ?_
            obtain rfl := Option.some.inj h
            exact g_iret C dX8_ring_110
          · have h := ite_t hc10 h
            refine g_bipush C (-2 : Int32) dX8_ring_59 rfl ?_
            obtain rfl := Option.some.inj h
            exact g_iret C dX8_ring_61
        · have h := ite_f hc8 h
          refine g_aload_n C 0 dX8_ring_42 rfl ?_
          refine g_bipush C (-12 : Int32) dX8_ring_43 rfl ?_
          obtain ⟨q21, hq21, h⟩ := bd h
          refine g_callVI C [.int (-12 : Int32)] qv_X8_108 (m_X8_meet hq21) rfl (by decide) rfl rfl rfl ⟨rfl, rfl⟩ ⟨by decide, by decide⟩ (Nat.le_of_ble_eq_true rfl) dX8_ring_45 ?_
          obtain rfl := Option.some.inj h
          exact g_iret C dX8_ring_48
      · have h := ite_t hc6 h
        refine g_bipush C (-2 : Int32) dX8_ring_29 rfl ?_
        obtain rfl := Option.some.inj h
        exact g_iret C dX8_ring_31
def f_X8_odd (x1 : Int32) (x2 : Int32) (σ : St) : Option (Int32 × St) := (f_X8_isFind x1 σ).bind (fun q1 => (if q1.1 = 0 then some ((-2 : Int32), q1.2) else (f_X8_isIn x2 (0 : Int32) (9 : Int32) q1.2).bind (fun q3 => (if q3.1 = 0 then some ((-2 : Int32), q3.2) else cI (ix x1 7) (ap (q3.2.1 4 x1.toNatClampNeg) fun z6 => cI (ix x1 7) (ap (up1 q3.2 4 x1.toNatClampNeg x2) fun σ8 => some (z6, σ8)))))))
set_option maxRecDepth 20000 in
theorem m_X8_odd {l : Launch} {D : va_G} {ca : Nat → ClassId} {ad : Nat → Nat} {x1 : Int32} {x2 : Int32} {σ : St} {R : Int32 × St} (h : f_X8_odd x1 x2 σ = some R) : gM l D ca ad 26 LM yX8_odd cX8_odd 4 (some .int) rm_X8_odd [.ref 0, .int x1, .int x2] σ (some (.int R.1)) R.2 := by
  refine gM_of (by decide) (Nat.le_of_ble_eq_true rfl) (fun p e s m args below meth c C => ?_)
  refine g_ent (ls' := [(0, .ref 0), (1, .int x1), (2, .int x2)]) rfl ?_
  unfold f_X8_odd at h
  refine g_aload_n C 0 dX8_odd_0 rfl ?_
  refine g_iload_n C 1 dX8_odd_1 rfl ?_
  obtain ⟨q1, hq1, h⟩ := bd h
  refine g_callVI C [.int x1] qv_X8_117 (m_X8_isFind hq1) rfl (by decide) rfl rfl rfl ⟨rfl, rfl⟩ ⟨by decide, by decide⟩ (Nat.le_of_ble_eq_true rfl) dX8_odd_2 ?_
  refine g_if_eq C 18 dX8_odd_5 (by decide) (fun hc2 => ?_) (fun hc2 => ?_)
  · have h := ite_t hc2 h
    refine g_bipush C (-2 : Int32) dX8_odd_18 rfl ?_
    obtain rfl := Option.some.inj h
    exact g_iret C dX8_odd_20
  · have h := ite_f hc2 h
    refine g_iload_n C 2 dX8_odd_8 rfl ?_
    refine g_iconst C (0 : Int32) dX8_odd_9 rfl ?_
    refine g_bipush C (9 : Int32) dX8_odd_10 rfl ?_
    obtain ⟨q3, hq3, h⟩ := bd h
    refine g_callSI C [.int x2, .int (0 : Int32), .int (9 : Int32)] qs_X8_100 (m_X8_isIn hq3) rfl rfl ⟨rfl, rfl⟩ ⟨by decide, by decide⟩ (Nat.le_of_ble_eq_true rfl) dX8_odd_12 ?_
    refine g_if_ne C 21 dX8_odd_15 (by decide) (fun hc4 => ?_) (fun hc4 => ?_)
    · have h := ite_f hc4 h
      refine g_aload_n C 0 dX8_odd_21 rfl ?_
      refine g_getR C 5 4 rfl q_X8_23 rfl rfl dX8_odd_22 ?_
      refine g_iload_n C 1 dX8_odd_25 rfl ?_
      obtain ⟨hi5, h⟩ := cI_some h
      refine g_iald C 7 rfl ho_11 hi5 dX8_odd_26 ?_
      refine g_nmI (fun z6 ez6 => ?_)
      have h := ap_at ez6 h
      refine g_istore_n C [(3, .int z6), (0, .ref 0), (1, .int x1), (2, .int x2)] dX8_odd_27 (by decide) rfl ?_
      refine g_aload_n C 1 dX8_odd_28 rfl ?_
      refine g_getR C 5 4 rfl q_X8_23 rfl rfl dX8_odd_29 ?_
      refine g_iload_n C 2 dX8_odd_32 rfl ?_
      refine g_iload_n C 3 dX8_odd_33 rfl ?_
      obtain ⟨hi7, h⟩ := cI_some h
      refine g_iast C 7 rfl ho_11 hi7 dX8_odd_34 ?_
      refine g_nmS (fun σ8 eσ8 => ?_)
      have h := ap_at eσ8 h
      refine g_iload_n C 0 dX8_odd_35 rfl ?_
      obtain rfl := Option.some.inj h
      exact g_iret C dX8_odd_36
    · have h := ite_t hc4 h
      refine g_bipush C (-2 : Int32) dX8_odd_18 rfl ?_
      obtain rfl := Option.some.inj h
      exact g_iret C dX8_odd_20
def f_X8_pair (x1 : Int32) (x2 : Int32) (x3 : Int32) (σ : St) : Option (Int32 × St) := (f_X8_isFind x1 σ).bind (fun q1 => (if q1.1 = 0 then some ((-2 : Int32), q1.2) else (f_X8_isFind x2 q1.2).bind (fun q3 => (if q3.1 = 0 then some ((-2 : Int32), q3.2) else (if x1 = x2 then some ((-2 : Int32), q3.2) else (f_X8_isIn x3 (0 : Int32) (2 : Int32) q3.2).bind (fun q6 => (if q6.1 = 0 then some ((-2 : Int32), q6.2) else cI (ix (((7 : Int32) * x1) + x2) 49) (ap (q6.2.1 8 (((7 : Int32) * x1) + x2).toNatClampNeg) fun z9 => cI (ix (((7 : Int32) * x1) + x2) 49) (ap (up1 q6.2 8 (((7 : Int32) * x1) + x2).toNatClampNeg x3) fun σ11 => some (z9, σ11))))))))))
set_option maxRecDepth 20000 in
theorem m_X8_pair {l : Launch} {D : va_G} {ca : Nat → ClassId} {ad : Nat → Nat} {x1 : Int32} {x2 : Int32} {x3 : Int32} {σ : St} {R : Int32 × St} (h : f_X8_pair x1 x2 x3 σ = some R) : gM l D ca ad 26 LM yX8_pair cX8_pair 5 (some .int) rm_X8_pair [.ref 0, .int x1, .int x2, .int x3] σ (some (.int R.1)) R.2 := by
  refine gM_of (by decide) (Nat.le_of_ble_eq_true rfl) (fun p e s m args below meth c C => ?_)
  refine g_ent (ls' := [(0, .ref 0), (1, .int x1), (2, .int x2), (3, .int x3)]) rfl ?_
  unfold f_X8_pair at h
  refine g_aload_n C 0 dX8_pair_0 rfl ?_
  refine g_iload_n C 1 dX8_pair_1 rfl ?_
  obtain ⟨q1, hq1, h⟩ := bd h
  refine g_callVI C [.int x1] qv_X8_117 (m_X8_isFind hq1) rfl (by decide) rfl rfl rfl ⟨rfl, rfl⟩ ⟨by decide, by decide⟩ (Nat.le_of_ble_eq_true rfl) dX8_pair_2 ?_
  refine g_if_eq C 30 dX8_pair_5 (by decide) (fun hc2 => ?_) (fun hc2 => ?_)
  · have h := ite_t hc2 h
    refine g_bipush C (-2 : Int32) dX8_pair_30 rfl ?_
    obtain rfl := Option.some.inj h
    exact g_iret C dX8_pair_32
  · have h := ite_f hc2 h
    refine g_aload_n C 0 dX8_pair_8 rfl ?_
    refine g_iload_n C 2 dX8_pair_9 rfl ?_
    obtain ⟨q3, hq3, h⟩ := bd h
    refine g_callVI C [.int x2] qv_X8_117 (m_X8_isFind hq3) rfl (by decide) rfl rfl rfl ⟨rfl, rfl⟩ ⟨by decide, by decide⟩ (Nat.le_of_ble_eq_true rfl) dX8_pair_10 ?_
    refine g_if_eq C 30 dX8_pair_13 (by decide) (fun hc4 => ?_) (fun hc4 => ?_)
    · have h := ite_t hc4 h
      refine g_bipush C (-2 : Int32) dX8_pair_30 rfl ?_
      obtain rfl := Option.some.inj h
      exact g_iret C dX8_pair_32
    · have h := ite_f hc4 h
      refine g_iload_n C 1 dX8_pair_16 rfl ?_
      refine g_iload_n C 2 dX8_pair_17 rfl ?_
      refine g_icmp_eq C 30 dX8_pair_18 (by decide) (fun hc5 => ?_) (fun hc5 => ?_)
      · have h := ite_t hc5 h
        refine g_bipush C (-2 : Int32) dX8_pair_30 rfl ?_
        obtain rfl := Option.some.inj h
        exact g_iret C dX8_pair_32
      · have h := ite_f hc5 h
        refine g_iload_n C 3 dX8_pair_21 rfl ?_
        refine g_iconst C (0 : Int32) dX8_pair_22 rfl ?_
        refine g_iconst C (2 : Int32) dX8_pair_23 rfl ?_
        obtain ⟨q6, hq6, h⟩ := bd h
        refine g_callSI C [.int x3, .int (0 : Int32), .int (2 : Int32)] qs_X8_100 (m_X8_isIn hq6) rfl rfl ⟨rfl, rfl⟩ ⟨by decide, by decide⟩ (Nat.le_of_ble_eq_true rfl) dX8_pair_24 ?_
        refine g_if_ne C 33 dX8_pair_27 (by decide) (fun hc7 => ?_) (fun hc7 => ?_)
        · have h := ite_f hc7 h
          refine g_aload_n C 0 dX8_pair_33 rfl ?_
          refine g_getR C 9 8 rfl q_X8_35 rfl rfl dX8_pair_34 ?_
          refine g_bipush C (7 : Int32) dX8_pair_37 rfl ?_
          refine g_iload_n C 1 dX8_pair_39 rfl ?_
          refine g_imul C dX8_pair_40 ?_
          refine g_iload_n C 2 dX8_pair_41 rfl ?_
          refine g_iadd C dX8_pair_42 ?_
          obtain ⟨hi8, h⟩ := cI_some h
          refine g_iald C 49 rfl ho_25 hi8 dX8_pair_43 ?_
          refine g_nmI (fun z9 ez9 => ?_)
          have h := ap_at ez9 h
          refine g_istore C [(4, .int z9), (0, .ref 0), (1, .int x1), (2, .int x2), (3, .int x3)] dX8_pair_44 (by decide) rfl ?_
          refine g_aload_n C 1 dX8_pair_46 rfl ?_
          refine g_getR C 9 8 rfl q_X8_35 rfl rfl dX8_pair_47 ?_
          refine g_bipush C (7 : Int32) dX8_pair_50 rfl ?_
          refine g_iload_n C 2 dX8_pair_52 rfl ?_
          refine g_imul C dX8_pair_53 ?_
          refine g_iload_n C 3 dX8_pair_54 rfl ?_
          refine g_iadd C dX8_pair_55 ?_
          refine g_iload_n C 4 dX8_pair_56 rfl ?_
          obtain ⟨hi10, h⟩ := cI_some h
          refine g_iast C 49 rfl ho_25 hi10 dX8_pair_57 ?_
          refine g_nmS (fun σ11 eσ11 => ?_)
          have h := ap_at eσ11 h
          refine g_iload C 0 dX8_pair_58 rfl ?_
          obtain rfl := Option.some.inj h
          exact g_iret C dX8_pair_60
        · have h := ite_t hc7 h
          refine g_bipush C (-2 : Int32) dX8_pair_30 rfl ?_
          obtain rfl := Option.some.inj h
          exact g_iret C dX8_pair_32
def f_X8_missOf_29 (xs0 : Int32) (σ : St) : Option (Int32 × St) := (if (21 : Int32) ≤ xs0 then some ((0 : Int32), σ) else cI (ix xs0 21) (some ((σ.1 2 xs0.toNatClampNeg), σ)))
set_option maxRecDepth 20000 in
theorem s_X8_missOf_29 {R : Int32 × St} (C : gC p s m args meth c D ca ad 26 LM RX8 cX8_missOf 4 (some .int)) (xs0 : Int32) (σ : St) (h : f_X8_missOf_29 xs0 σ = some R) : G p l e rm_X8_missOf s m args below meth c D ca ad 26 LM 4 (gEnd below args s D ca ad 26 LM (some (.int R.1)) R.2) 29 [(0, .ref 0)] [.int xs0] σ := by
  unfold f_X8_missOf_29 at h
  refine g_istore_n C [(3, .int xs0), (0, .ref 0)] dX8_missOf_29 (by decide) rfl ?_
  refine g_iload_n C 0 dX8_missOf_30 rfl ?_
  refine g_bipush C (21 : Int32) dX8_missOf_31 rfl ?_
  refine g_icmp_ge C 45 dX8_missOf_33 (by decide) (fun hc1 => ?_) (fun hc1 => ?_)
  · have h := ite_t hc1 h
    refine g_iconst C (0 : Int32) dX8_missOf_45 rfl ?_
    obtain rfl := Option.some.inj h
    exact g_iret C dX8_missOf_46
  · have h := ite_f hc1 h
    refine g_aload_n C 1 dX8_missOf_36 rfl ?_
    refine g_getR C 2 2 rfl q_X8_17 rfl rfl dX8_missOf_37 ?_
    refine g_iload_n C 0 dX8_missOf_40 rfl ?_
    obtain ⟨hi2, h⟩ := cI_some h
    refine g_iald C 21 rfl ho_13 hi2 dX8_missOf_41 ?_
    refine g_goto C 46 dX8_missOf_42 (by decide) ?_
    obtain rfl := Option.some.inj h
    exact g_iret C dX8_missOf_46
def f_X8_missOf (x1 : Int32) (x2 : Int32) (σ : St) : Option (Int32 × St) := cI (ix x2 40) ((if x1 ≤ (σ.1 1 x2.toNatClampNeg) then cI (ix x2 40) ((f_X8_missOf_29) ((σ.1 1 x2.toNatClampNeg) - x1) σ) else cI (ix x2 40) ((f_X8_missOf_29) (x1 - (σ.1 1 x2.toNatClampNeg)) σ)))
set_option maxRecDepth 20000 in
theorem m_X8_missOf {l : Launch} {D : va_G} {ca : Nat → ClassId} {ad : Nat → Nat} {x1 : Int32} {x2 : Int32} {σ : St} {R : Int32 × St} (h : f_X8_missOf x1 x2 σ = some R) : gM l D ca ad 26 LM yX8_missOf cX8_missOf 4 (some .int) rm_X8_missOf [.ref 0, .int x1, .int x2] σ (some (.int R.1)) R.2 := by
  refine gM_of (by decide) (Nat.le_of_ble_eq_true rfl) (fun p e s m args below meth c C => ?_)
  refine g_ent (ls' := [(0, .ref 0), (1, .int x1), (2, .int x2)]) rfl ?_
  unfold f_X8_missOf at h
  refine g_iload_n C 1 dX8_missOf_0 rfl ?_
  refine g_aload_n C 0 dX8_missOf_1 rfl ?_
  refine g_getR C 1 1 rfl q_X8_13 rfl rfl dX8_missOf_2 ?_
  refine g_iload_n C 2 dX8_missOf_5 rfl ?_
  obtain ⟨hi1, h⟩ := cI_some h
  refine g_iald C 40 rfl ho_14 hi1 dX8_missOf_6 ?_
  refine g_icmp_le C 21 dX8_missOf_7 (by decide) (fun hc2 => ?_) (fun hc2 => ?_)
  · have h := ite_t hc2 h
    refine g_aload_n C 0 dX8_missOf_21 rfl ?_
    refine g_getR C 1 1 rfl q_X8_13 rfl rfl dX8_missOf_22 ?_
    refine g_iload_n C 2 dX8_missOf_25 rfl ?_
    obtain ⟨hi3, h⟩ := cI_some h
    refine g_iald C 40 rfl ho_14 hi3 dX8_missOf_26 ?_
    refine g_iload_n C 1 dX8_missOf_27 rfl ?_
    refine g_isub C dX8_missOf_28 ?_
    exact g_sub [0] rfl ((s_X8_missOf_29 C) ((σ.1 1 x2.toNatClampNeg) - x1) σ h)
  · have h := ite_f hc2 h
    refine g_iload_n C 1 dX8_missOf_10 rfl ?_
    refine g_aload_n C 0 dX8_missOf_11 rfl ?_
    refine g_getR C 1 1 rfl q_X8_13 rfl rfl dX8_missOf_12 ?_
    refine g_iload_n C 2 dX8_missOf_15 rfl ?_
    obtain ⟨hi4, h⟩ := cI_some h
    refine g_iald C 40 rfl ho_14 hi4 dX8_missOf_16 ?_
    refine g_isub C dX8_missOf_17 ?_
    refine g_goto C 29 dX8_missOf_18 (by decide) ?_
    exact g_sub [0] rfl ((s_X8_missOf_29 C) (x1 - (σ.1 1 x2.toNatClampNeg)) σ h)
def f_X8_plain_101 (kk43 : Int32 → Int32 → Int64 → Int32 → St → Option (Int64 × St)) (x1 : Int32) (x2 : Int32) (x5 : Int32) (xs0 : Int64) (xs1 : Int64) (σ : St) : Option (Int64 × St) := kk43 x1 x2 (xs1 * xs0) (x5 + (1 : Int32)) σ
set_option maxRecDepth 20000 in
theorem s_X8_plain_101 {R : Int64 × St} (C : gC p s m args meth c D ca ad 26 LM RX8 cX8_plain 7 (some .long)) {kk43 : Int32 → Int32 → Int64 → Int32 → St → Option (Int64 × St)} (HK43 : ∀ (x1 : Int32) (x2 : Int32) (x3 : Int64) (x5 : Int32) (σ : St), kk43 x1 x2 x3 x5 σ = some R → G p l e rm_X8_plain s m args below meth c D ca ad 26 LM 7 (gEnd below args s D ca ad 26 LM (some (.long R.1)) R.2) 43 [(0, .ref 0), (1, .int x1), (2, .int x2), (3, .long x3), (5, .int x5)] [] σ) (x1 : Int32) (x2 : Int32) (x5 : Int32) (xs0 : Int64) (xs1 : Int64) (σ : St) (h : f_X8_plain_101 kk43 x1 x2 x5 xs0 xs1 σ = some R) : G p l e rm_X8_plain s m args below meth c D ca ad 26 LM 7 (gEnd below args s D ca ad 26 LM (some (.long R.1)) R.2) 101 [(0, .ref 0), (1, .int x1), (2, .int x2), (5, .int x5)] [.long xs0, .long xs1] σ := by
  unfold f_X8_plain_101 at h
  refine g_lmul C dX8_plain_101 ?_
  refine g_lstore_n C [(3, .long (xs1 * xs0)), (0, .ref 0), (1, .int x1), (2, .int x2), (5, .int x5)] dX8_plain_102 (by decide) rfl ?_
  refine g_iinc C 4 [(5, .int (x5 + (1 : Int32))), (3, .long (xs1 * xs0)), (0, .ref 0), (1, .int x1), (2, .int x2)] dX8_plain_103 rfl rfl (by decide) rfl ?_
  refine g_goto C 43 dX8_plain_106 (by decide) ?_
  exact g_sub [2, 3, 4, 1, 0] rfl (HK43 x1 x2 (xs1 * xs0) (x5 + (1 : Int32)) σ h)
def f_X8_plain_43 : Nat → Int32 → Int32 → Int64 → Int32 → St → Option (Int64 × St)
  | 0, _, _, _, _, _ => none
  | n + 1, x1, x2, x3, x5, σ => cI (ix x1 7) ((if (σ.1 5 x1.toNatClampNeg) ≤ x5 then some (x3, σ) else cI (ix (((5 : Int32) * x1) + x5) 35) (ap (x2 + (σ.1 7 (((5 : Int32) * x1) + x5).toNatClampNeg)) fun z4 => (if (σ.1 0 0) ≤ z4 then (f_X8_plain_101 (f_X8_plain_43 n)) x1 x2 x5 (0 : Int64) x3 σ else cI (ix (((5 : Int32) * x1) + x5) 35) ((f_X8_missOf (σ.1 6 (((5 : Int32) * x1) + x5).toNatClampNeg) z4 σ).bind (fun q7 => (f_X8_plain_101 (f_X8_plain_43 n)) x1 x2 x5 q7.1.toInt64 x3 q7.2))))))
set_option maxRecDepth 20000 in
theorem s_X8_plain_43 {R : Int64 × St} (C : gC p s m args meth c D ca ad 26 LM RX8 cX8_plain 7 (some .long)) : ∀ (n : Nat) (x1 : Int32) (x2 : Int32) (x3 : Int64) (x5 : Int32) (σ : St), f_X8_plain_43 n x1 x2 x3 x5 σ = some R → G p l e rm_X8_plain s m args below meth c D ca ad 26 LM 7 (gEnd below args s D ca ad 26 LM (some (.long R.1)) R.2) 43 [(0, .ref 0), (1, .int x1), (2, .int x2), (3, .long x3), (5, .int x5)] [] σ := by
  intro n
  induction n with
  | zero =>
    intro x1 x2 x3 x5 σ h
    have h : none = some R := h
    cases h
  | succ n ih =>
    intro x1 x2 x3 x5 σ h
    rw [f_X8_plain_43] at h
    refine g_iload C 4 dX8_plain_43 rfl ?_
    refine g_aload_n C 0 dX8_plain_45 rfl ?_
    refine g_getR C 6 5 rfl q_X8_26 rfl rfl dX8_plain_46 ?_
    refine g_iload_n C 1 dX8_plain_49 rfl ?_
    obtain ⟨hi1, h⟩ := cI_some h
    refine g_iald C 7 rfl ho_11 hi1 dX8_plain_50 ?_
    refine g_icmp_ge C 109 dX8_plain_51 (by decide) (fun hc2 => ?_) (fun hc2 => ?_)
    · have h := ite_t hc2 h
      refine g_lload_n C 3 dX8_plain_109 rfl ?_
      obtain rfl := Option.some.inj h
      exact g_lret C dX8_plain_110
    · have h := ite_f hc2 h
      refine g_iload_n C 2 dX8_plain_54 rfl ?_
      refine g_aload_n C 0 dX8_plain_55 rfl ?_
      refine g_getR C 8 7 rfl q_X8_32 rfl rfl dX8_plain_56 ?_
      refine g_iconst C (5 : Int32) dX8_plain_59 rfl ?_
      refine g_iload_n C 1 dX8_plain_60 rfl ?_
      refine g_imul C dX8_plain_61 ?_
      refine g_iload C 4 dX8_plain_62 rfl ?_
      refine g_iadd C dX8_plain_64 ?_
      obtain ⟨hi3, h⟩ := cI_some h
      refine g_iald C 35 rfl ho_24 hi3 dX8_plain_65 ?_
      refine g_iadd C dX8_plain_66 ?_
      refine g_nmI (fun z4 ez4 => ?_)
      have h := ap_at ez4 h
      refine g_istore C [(6, .int z4), (0, .ref 0), (1, .int x1), (2, .int x2), (3, .long x3), (5, .int x5)] dX8_plain_67 (by decide) rfl ?_
      refine g_lload_n C 4 dX8_plain_69 rfl ?_
      refine g_iload C 0 dX8_plain_70 rfl ?_
      refine g_aload_n C 1 dX8_plain_72 rfl ?_
      refine g_getI C 0 rfl q_X8_7 rfl dX8_plain_73 ?_
      refine g_icmp_ge C 100 dX8_plain_76 (by decide) (fun hc5 => ?_) (fun hc5 => ?_)
      · have h := ite_t hc5 h
        refine g_lconst C (0 : Int64) dX8_plain_100 rfl ?_
        exact g_sub [1, 2, 3, 5] rfl ((s_X8_plain_101 C ih) x1 x2 x5 (0 : Int64) x3 σ h)
      · have h := ite_f hc5 h
        refine g_aload_n C 1 dX8_plain_79 rfl ?_
        refine g_aload_n C 1 dX8_plain_80 rfl ?_
        refine g_getR C 7 6 rfl q_X8_29 rfl rfl dX8_plain_81 ?_
        refine g_iconst C (5 : Int32) dX8_plain_84 rfl ?_
        refine g_iload_n C 2 dX8_plain_85 rfl ?_
        refine g_imul C dX8_plain_86 ?_
        refine g_iload C 5 dX8_plain_87 rfl ?_
        refine g_iadd C dX8_plain_89 ?_
        obtain ⟨hi6, h⟩ := cI_some h
        refine g_iald C 35 rfl ho_24 hi6 dX8_plain_90 ?_
        refine g_iload C 0 dX8_plain_91 rfl ?_
        obtain ⟨q7, hq7, h⟩ := bd h
        refine g_callVI C [.int (σ.1 6 (((5 : Int32) * x1) + x5).toNatClampNeg), .int z4] qv_X8_120 (m_X8_missOf hq7) rfl (by decide) rfl rfl rfl ⟨rfl, rfl⟩ ⟨by decide, by decide⟩ (Nat.le_of_ble_eq_true rfl) dX8_plain_93 ?_
        refine g_i2l C dX8_plain_96 ?_
        refine g_goto C 101 dX8_plain_97 (by decide) ?_
        exact g_sub [1, 2, 3, 5] rfl ((s_X8_plain_101 C ih) x1 x2 x5 q7.1.toInt64 x3 q7.2 h)
def f_X8_plain (x1 : Int32) (x2 : Int32) (σ : St) : Option (Int64 × St) := cI (ix x1 7) ((if (σ.1 3 x1.toNatClampNeg) < (2 : Int32) then (f_X8_plain_43 FU) x1 x2 (1 : Int64) (0 : Int32) σ else cI (ix x1 7) ((if (σ.1 3 x1.toNatClampNeg) = (2 : Int32) then some ((1 : Int64), σ) else cI (ix ((5 : Int32) * x1) 35) ((if (σ.1 6 ((5 : Int32) * x1).toNatClampNeg) = x2 then some ((1 : Int64), σ) else some ((0 : Int64), σ)))))))
set_option maxRecDepth 20000 in
theorem m_X8_plain {l : Launch} {D : va_G} {ca : Nat → ClassId} {ad : Nat → Nat} {x1 : Int32} {x2 : Int32} {σ : St} {R : Int64 × St} (h : f_X8_plain x1 x2 σ = some R) : gM l D ca ad 26 LM yX8_plain cX8_plain 7 (some .long) rm_X8_plain [.ref 0, .int x1, .int x2] σ (some (.long R.1)) R.2 := by
  refine gM_of (by decide) (Nat.le_of_ble_eq_true rfl) (fun p e s m args below meth c C => ?_)
  refine g_ent (ls' := [(0, .ref 0), (1, .int x1), (2, .int x2)]) rfl ?_
  unfold f_X8_plain at h
  refine g_aload_n C 0 dX8_plain_0 rfl ?_
  refine g_getR C 4 3 rfl q_X8_20 rfl rfl dX8_plain_1 ?_
  refine g_iload_n C 1 dX8_plain_4 rfl ?_
  obtain ⟨hi1, h⟩ := cI_some h
  refine g_iald C 7 rfl ho_11 hi1 dX8_plain_5 ?_
  refine g_iconst C (2 : Int32) dX8_plain_6 rfl ?_
  refine g_icmp_lt C 38 dX8_plain_7 (by decide) (fun hc2 => ?_) (fun hc2 => ?_)
  · have h := ite_t hc2 h
    refine g_lconst C (1 : Int64) dX8_plain_38 rfl ?_
    refine g_lstore_n C [(3, .long (1 : Int64)), (0, .ref 0), (1, .int x1), (2, .int x2)] dX8_plain_39 (by decide) rfl ?_
    refine g_iconst C (0 : Int32) dX8_plain_40 rfl ?_
    refine g_istore C [(5, .int (0 : Int32)), (3, .long (1 : Int64)), (0, .ref 0), (1, .int x1), (2, .int x2)] dX8_plain_41 (by decide) rfl ?_
    exact g_sub [2, 3, 4, 1, 0] rfl ((s_X8_plain_43 C FU) x1 x2 (1 : Int64) (0 : Int32) σ h)
  · have h := ite_f hc2 h
    refine g_aload_n C 0 dX8_plain_10 rfl ?_
    refine g_getR C 4 3 rfl q_X8_20 rfl rfl dX8_plain_11 ?_
    refine g_iload_n C 1 dX8_plain_14 rfl ?_
    obtain ⟨hi3, h⟩ := cI_some h
    refine g_iald C 7 rfl ho_11 hi3 dX8_plain_15 ?_
    refine g_iconst C (2 : Int32) dX8_plain_16 rfl ?_
    refine g_icmp_eq C 32 dX8_plain_17 (by decide) (fun hc4 => ?_) (fun hc4 => ?_)
    · have h := ite_t hc4 h
      refine g_lconst C (1 : Int64) dX8_plain_32 rfl ?_
      refine g_goto C 37 dX8_plain_33 (by decide) ?_
      obtain rfl := Option.some.inj h
      exact g_lret C dX8_plain_37
    · have h := ite_f hc4 h
      refine g_aload_n C 0 dX8_plain_20 rfl ?_
      refine g_getR C 7 6 rfl q_X8_29 rfl rfl dX8_plain_21 ?_
      refine g_iconst C (5 : Int32) dX8_plain_24 rfl ?_
      refine g_iload_n C 1 dX8_plain_25 rfl ?_
      refine g_imul C dX8_plain_26 ?_
      obtain ⟨hi5, h⟩ := cI_some h
      refine g_iald C 35 rfl ho_24 hi5 dX8_plain_27 ?_
      refine g_iload_n C 2 dX8_plain_28 rfl ?_
      refine g_icmp_ne C 36 dX8_plain_29 (by decide) (fun hc6 => ?_) (fun hc6 => ?_)
      · have h := ite_f hc6 h
        refine g_lconst C (0 : Int64) dX8_plain_36 rfl ?_
        obtain rfl := Option.some.inj h
        exact g_lret C dX8_plain_37
      · have h := ite_t hc6 h
        refine g_lconst C (1 : Int64) dX8_plain_32 rfl ?_
        refine g_goto C 37 dX8_plain_33 (by decide) ?_
        obtain rfl := Option.some.inj h
        exact g_lret C dX8_plain_37
def f_X8_meanOf_5 : Nat → Int32 → Int64 → Int32 → St → Option (Int64 × St)
  | 0, _, _, _, _ => none
  | n + 1, x1, x2, x4, σ => (if (σ.1 0 0) ≤ x4 then cI (!decide ((σ.1 0 0).toInt64 = 0)) (some ((x2 / (σ.1 0 0).toInt64), σ)) else (f_X8_plain x1 x4 σ).bind (fun q3 => (f_X8_meanOf_5 n) x1 (x2 + q3.1) (x4 + (1 : Int32)) q3.2))
set_option maxRecDepth 20000 in
theorem s_X8_meanOf_5 {R : Int64 × St} (C : gC p s m args meth c D ca ad 26 LM RX8 cX8_meanOf 5 (some .long)) : ∀ (n : Nat) (x1 : Int32) (x2 : Int64) (x4 : Int32) (σ : St), f_X8_meanOf_5 n x1 x2 x4 σ = some R → G p l e rm_X8_meanOf s m args below meth c D ca ad 26 LM 5 (gEnd below args s D ca ad 26 LM (some (.long R.1)) R.2) 5 [(0, .ref 0), (1, .int x1), (2, .long x2), (4, .int x4)] [] σ := by
  intro n
  induction n with
  | zero =>
    intro x1 x2 x4 σ h
    have h : none = some R := h
    cases h
  | succ n ih =>
    intro x1 x2 x4 σ h
    rw [f_X8_meanOf_5] at h
    refine g_iload C 3 dX8_meanOf_5 rfl ?_
    refine g_aload_n C 0 dX8_meanOf_7 rfl ?_
    refine g_getI C 0 rfl q_X8_7 rfl dX8_meanOf_8 ?_
    refine g_icmp_ge C 30 dX8_meanOf_11 (by decide) (fun hc1 => ?_) (fun hc1 => ?_)
    · have h := ite_t hc1 h
      refine g_lload_n C 2 dX8_meanOf_30 rfl ?_
      refine g_aload_n C 0 dX8_meanOf_31 rfl ?_
      refine g_getI C 0 rfl q_X8_7 rfl dX8_meanOf_32 ?_
      refine g_i2l C dX8_meanOf_35 ?_
      obtain ⟨hz2, h⟩ := cI_some h
      refine g_ldiv C dX8_meanOf_36 (by simpa using hz2) ?_
      obtain rfl := Option.some.inj h
      exact g_lret C dX8_meanOf_37
    · have h := ite_f hc1 h
      refine g_lload_n C 2 dX8_meanOf_14 rfl ?_
      refine g_aload_n C 0 dX8_meanOf_15 rfl ?_
      refine g_iload_n C 1 dX8_meanOf_16 rfl ?_
      refine g_iload C 3 dX8_meanOf_17 rfl ?_
      obtain ⟨q3, hq3, h⟩ := bd h
      refine g_callVL C [.int x1, .int x4] qv_X8_124 (m_X8_plain hq3) rfl (by decide) rfl rfl rfl ⟨rfl, rfl⟩ ⟨by decide, by decide⟩ (Nat.le_of_ble_eq_true rfl) dX8_meanOf_19 ?_
      refine g_ladd C dX8_meanOf_22 ?_
      refine g_lstore_n C [(2, .long (x2 + q3.1)), (0, .ref 0), (1, .int x1), (4, .int x4)] dX8_meanOf_23 (by decide) rfl ?_
      refine g_iinc C 3 [(4, .int (x4 + (1 : Int32))), (2, .long (x2 + q3.1)), (0, .ref 0), (1, .int x1)] dX8_meanOf_24 rfl rfl (by decide) rfl ?_
      refine g_goto C 5 dX8_meanOf_27 (by decide) ?_
      exact g_sub [2, 3, 1, 0] rfl (ih x1 (x2 + q3.1) (x4 + (1 : Int32)) q3.2 h)
def f_X8_meanOf (x1 : Int32) (σ : St) : Option (Int64 × St) := (f_X8_meanOf_5 FU) x1 (0 : Int64) (0 : Int32) σ
set_option maxRecDepth 20000 in
theorem m_X8_meanOf {l : Launch} {D : va_G} {ca : Nat → ClassId} {ad : Nat → Nat} {x1 : Int32} {σ : St} {R : Int64 × St} (h : f_X8_meanOf x1 σ = some R) : gM l D ca ad 26 LM yX8_meanOf cX8_meanOf 5 (some .long) rm_X8_meanOf [.ref 0, .int x1] σ (some (.long R.1)) R.2 := by
  refine gM_of (by decide) (Nat.le_of_ble_eq_true rfl) (fun p e s m args below meth c C => ?_)
  refine g_ent (ls' := [(0, .ref 0), (1, .int x1)]) rfl ?_
  unfold f_X8_meanOf at h
  refine g_lconst C (0 : Int64) dX8_meanOf_0 rfl ?_
  refine g_lstore_n C [(2, .long (0 : Int64)), (0, .ref 0), (1, .int x1)] dX8_meanOf_1 (by decide) rfl ?_
  refine g_iconst C (0 : Int32) dX8_meanOf_2 rfl ?_
  refine g_istore C [(4, .int (0 : Int32)), (2, .long (0 : Int64)), (0, .ref 0), (1, .int x1)] dX8_meanOf_3 (by decide) rfl ?_
  exact g_sub [2, 3, 1, 0] rfl ((s_X8_meanOf_5 C FU) x1 (0 : Int64) (0 : Int32) σ h)
def f_X8_weightOf (x1 : Int32) (x2 : Int32) (σ : St) : Option (Int64 × St) := cI (ix x1 7) ((if (σ.1 4 x1.toNatClampNeg) = 0 then (f_X8_plain x1 x2 σ).bind (fun q5 => some (q5.1, q5.2)) else (f_X8_plain x1 x2 σ).bind (fun q3 => (f_X8_meanOf x1 q3.2).bind (fun q4 => some (((((10 : Int32) - (σ.1 4 x1.toNatClampNeg)).toInt64 * q3.1) + ((σ.1 4 x1.toNatClampNeg).toInt64 * q4.1)), q4.2)))))
set_option maxRecDepth 20000 in
theorem m_X8_weightOf {l : Launch} {D : va_G} {ca : Nat → ClassId} {ad : Nat → Nat} {x1 : Int32} {x2 : Int32} {σ : St} {R : Int64 × St} (h : f_X8_weightOf x1 x2 σ = some R) : gM l D ca ad 26 LM yX8_weightOf cX8_weightOf 4 (some .long) rm_X8_weightOf [.ref 0, .int x1, .int x2] σ (some (.long R.1)) R.2 := by
  refine gM_of (by decide) (Nat.le_of_ble_eq_true rfl) (fun p e s m args below meth c C => ?_)
  refine g_ent (ls' := [(0, .ref 0), (1, .int x1), (2, .int x2)]) rfl ?_
  unfold f_X8_weightOf at h
  refine g_aload_n C 0 dX8_weightOf_0 rfl ?_
  refine g_getR C 5 4 rfl q_X8_23 rfl rfl dX8_weightOf_1 ?_
  refine g_iload_n C 1 dX8_weightOf_4 rfl ?_
  obtain ⟨hi1, h⟩ := cI_some h
  refine g_iald C 7 rfl ho_11 hi1 dX8_weightOf_5 ?_
  refine g_istore_n C [(3, .int (σ.1 4 x1.toNatClampNeg)), (0, .ref 0), (1, .int x1), (2, .int x2)] dX8_weightOf_6 (by decide) rfl ?_
  refine g_iload_n C 0 dX8_weightOf_7 rfl ?_
  refine g_if_ne C 20 dX8_weightOf_8 (by decide) (fun hc2 => ?_) (fun hc2 => ?_)
  · have h := ite_f hc2 h
    refine g_bipush C (10 : Int32) dX8_weightOf_20 rfl ?_
    refine g_iload_n C 0 dX8_weightOf_22 rfl ?_
    refine g_isub C dX8_weightOf_23 ?_
    refine g_i2l C dX8_weightOf_24 ?_
    refine g_aload_n C 1 dX8_weightOf_25 rfl ?_
    refine g_iload_n C 2 dX8_weightOf_26 rfl ?_
    refine g_iload_n C 3 dX8_weightOf_27 rfl ?_
    obtain ⟨q3, hq3, h⟩ := bd h
    refine g_callVL C [.int x1, .int x2] qv_X8_124 (m_X8_plain hq3) rfl (by decide) rfl rfl rfl ⟨rfl, rfl⟩ ⟨by decide, by decide⟩ (Nat.le_of_ble_eq_true rfl) dX8_weightOf_28 ?_
    refine g_lmul C dX8_weightOf_31 ?_
    refine g_iload_n C 0 dX8_weightOf_32 rfl ?_
    refine g_i2l C dX8_weightOf_33 ?_
    refine g_aload_n C 1 dX8_weightOf_34 rfl ?_
    refine g_iload_n C 2 dX8_weightOf_35 rfl ?_
    obtain ⟨q4, hq4, h⟩ := bd h
    refine g_callVL C [.int x1] qv_X8_128 (m_X8_meanOf hq4) rfl (by decide) rfl rfl rfl ⟨rfl, rfl⟩ ⟨by decide, by decide⟩ (Nat.le_of_ble_eq_true rfl) dX8_weightOf_36 ?_
    refine g_lmul C dX8_weightOf_39 ?_
    refine g_ladd C dX8_weightOf_40 ?_
    obtain rfl := Option.some.inj h
    exact g_lret C dX8_weightOf_41
  · have h := ite_t hc2 h
    refine g_aload_n C 1 dX8_weightOf_11 rfl ?_
    refine g_iload_n C 2 dX8_weightOf_12 rfl ?_
    refine g_iload_n C 3 dX8_weightOf_13 rfl ?_
    obtain ⟨q5, hq5, h⟩ := bd h
    refine g_callVL C [.int x1, .int x2] qv_X8_124 (m_X8_plain hq5) rfl (by decide) rfl rfl rfl ⟨rfl, rfl⟩ ⟨by decide, by decide⟩ (Nat.le_of_ble_eq_true rfl) dX8_weightOf_14 ?_
    refine g_goto C 41 dX8_weightOf_17 (by decide) ?_
    obtain rfl := Option.some.inj h
    exact g_lret C dX8_weightOf_41
end
