section
variable {p : Program} {l : Launch} {e : Env} {s : State} {m : MethodId} {args : Array Value} {below : List Frame} {meth : Method} {c : Code} {D : va_G} {ca : Nat → ClassId} {ad : Nat → Nat}
def f_X8_isBig_26 (kk54 : Int32 → Int64 → Int32 → Int32 → Int32 → Int64 → St → Option (Int32 × St)) : Nat → Int32 → Int64 → Int32 → Int32 → Int32 → Int64 → Int32 → St → Option (Int32 × St)
  | 0, _, _, _, _, _, _, _, _ => none
  | n + 1, x1, x2, x4, x5, x6, x7, x9, σ => (if (σ.1 0 0) ≤ x9 then kk54 x1 x2 x4 x5 x6 x7 σ else (f_X8_weightOf x6 x9 σ).bind (fun q2 => (f_X8_isBig_26 kk54 n) x1 x2 x4 x5 x6 (x7 + q2.1) (x9 + (1 : Int32)) q2.2))
set_option maxRecDepth 20000 in
theorem s_X8_isBig_26 {R : Int32 × St} (C : gC p s m args meth c D ca ad 26 LM RX8 cX8_isBig 10 (some .boolean)) {kk54 : Int32 → Int64 → Int32 → Int32 → Int32 → Int64 → St → Option (Int32 × St)} (HK54 : ∀ (x1 : Int32) (x2 : Int64) (x4 : Int32) (x5 : Int32) (x6 : Int32) (x7 : Int64) (σ : St), kk54 x1 x2 x4 x5 x6 x7 σ = some R → G p l e rm_X8_isBig s m args below meth c D ca ad 26 LM 10 (gEnd below args s D ca ad 26 LM (some (.int R.1)) R.2) 54 [(0, .ref 0), (1, .int x1), (2, .long x2), (4, .int x4), (5, .int x5), (6, .int x6), (7, .long x7)] [] σ) : ∀ (n : Nat) (x1 : Int32) (x2 : Int64) (x4 : Int32) (x5 : Int32) (x6 : Int32) (x7 : Int64) (x9 : Int32) (σ : St), f_X8_isBig_26 kk54 n x1 x2 x4 x5 x6 x7 x9 σ = some R → G p l e rm_X8_isBig s m args below meth c D ca ad 26 LM 10 (gEnd below args s D ca ad 26 LM (some (.int R.1)) R.2) 26 [(0, .ref 0), (1, .int x1), (2, .long x2), (4, .int x4), (5, .int x5), (6, .int x6), (7, .long x7), (9, .int x9)] [] σ := by
  intro n
  induction n with
  | zero =>
    intro x1 x2 x4 x5 x6 x7 x9 σ h
    have h : none = some R := h
    cases h
  | succ n ih =>
    intro x1 x2 x4 x5 x6 x7 x9 σ h
    rw [f_X8_isBig_26] at h
    refine g_iload C 7 dX8_isBig_26 rfl ?_
    refine g_aload_n C 0 dX8_isBig_28 rfl ?_
    refine g_getI C 0 rfl q_X8_7 rfl dX8_isBig_29 ?_
    refine g_icmp_ge C 54 dX8_isBig_32 (by decide) (fun hc1 => ?_) (fun hc1 => ?_)
    · have h := ite_t hc1 h
      exact g_sub [0, 1, 2, 3, 4, 5, 6] rfl (HK54 x1 x2 x4 x5 x6 x7 σ h)
    · have h := ite_f hc1 h
      refine g_lload C 6 dX8_isBig_35 rfl ?_
      refine g_aload_n C 0 dX8_isBig_37 rfl ?_
      refine g_iload C 5 dX8_isBig_38 rfl ?_
      refine g_iload C 7 dX8_isBig_40 rfl ?_
      obtain ⟨q2, hq2, h⟩ := bd h
      refine g_callVL C [.int x6, .int x9] qv_X8_132 (m_X8_weightOf hq2) rfl (by decide) rfl rfl rfl ⟨rfl, rfl⟩ ⟨by decide, by decide⟩ (Nat.le_of_ble_eq_true rfl) dX8_isBig_42 ?_
      refine g_ladd C dX8_isBig_45 ?_
      refine g_lstore C [(7, .long (x7 + q2.1)), (0, .ref 0), (1, .int x1), (2, .long x2), (4, .int x4), (5, .int x5), (6, .int x6), (9, .int x9)] dX8_isBig_46 (by decide) rfl ?_
      refine g_iinc C 7 [(9, .int (x9 + (1 : Int32))), (7, .long (x7 + q2.1)), (0, .ref 0), (1, .int x1), (2, .long x2), (4, .int x4), (5, .int x5), (6, .int x6)] dX8_isBig_48 rfl rfl (by decide) rfl ?_
      refine g_goto C 26 dX8_isBig_51 (by decide) ?_
      exact g_sub [2, 3, 4, 5, 6, 7, 1, 0] rfl (ih x1 x2 x4 x5 x6 (x7 + q2.1) (x9 + (1 : Int32)) q2.2 h)
def f_X8_isBig_129 (kk11 : Int32 → Int64 → Int32 → Int32 → Int32 → St → Option (Int32 × St)) (x1 : Int32) (x2 : Int64) (x4 : Int32) (x5 : Int32) (x6 : Int32) (σ : St) : Option (Int32 × St) := kk11 x1 x2 x4 x5 (x6 + (1 : Int32)) σ
set_option maxRecDepth 20000 in
theorem s_X8_isBig_129 {R : Int32 × St} (C : gC p s m args meth c D ca ad 26 LM RX8 cX8_isBig 10 (some .boolean)) {kk11 : Int32 → Int64 → Int32 → Int32 → Int32 → St → Option (Int32 × St)} (HK11 : ∀ (x1 : Int32) (x2 : Int64) (x4 : Int32) (x5 : Int32) (x6 : Int32) (σ : St), kk11 x1 x2 x4 x5 x6 σ = some R → G p l e rm_X8_isBig s m args below meth c D ca ad 26 LM 10 (gEnd below args s D ca ad 26 LM (some (.int R.1)) R.2) 11 [(0, .ref 0), (1, .int x1), (2, .long x2), (4, .int x4), (5, .int x5), (6, .int x6)] [] σ) (x1 : Int32) (x2 : Int64) (x4 : Int32) (x5 : Int32) (x6 : Int32) (σ : St) (h : f_X8_isBig_129 kk11 x1 x2 x4 x5 x6 σ = some R) : G p l e rm_X8_isBig s m args below meth c D ca ad 26 LM 10 (gEnd below args s D ca ad 26 LM (some (.int R.1)) R.2) 129 [(0, .ref 0), (1, .int x1), (2, .long x2), (4, .int x4), (5, .int x5), (6, .int x6)] [] σ := by
  unfold f_X8_isBig_129 at h
  refine g_iinc C 5 [(6, .int (x6 + (1 : Int32))), (0, .ref 0), (1, .int x1), (2, .long x2), (4, .int x4), (5, .int x5)] dX8_isBig_129 rfl rfl (by decide) rfl ?_
  refine g_goto C 11 dX8_isBig_132 (by decide) ?_
  exact g_sub [1, 2, 3, 4, 5, 0] rfl (HK11 x1 x2 x4 x5 (x6 + (1 : Int32)) σ h)
def f_X8_isBig_128 (kk11 : Int32 → Int64 → Int32 → Int32 → Int32 → St → Option (Int32 × St)) (x1 : Int32) (x4 : Int32) (x5 : Int32) (x6 : Int32) (xs0 : Int64) (σ : St) : Option (Int32 × St) := (f_X8_isBig_129 kk11) x1 xs0 x4 x5 x6 σ
set_option maxRecDepth 20000 in
theorem s_X8_isBig_128 {R : Int32 × St} (C : gC p s m args meth c D ca ad 26 LM RX8 cX8_isBig 10 (some .boolean)) {kk11 : Int32 → Int64 → Int32 → Int32 → Int32 → St → Option (Int32 × St)} (HK11 : ∀ (x1 : Int32) (x2 : Int64) (x4 : Int32) (x5 : Int32) (x6 : Int32) (σ : St), kk11 x1 x2 x4 x5 x6 σ = some R → G p l e rm_X8_isBig s m args below meth c D ca ad 26 LM 10 (gEnd below args s D ca ad 26 LM (some (.int R.1)) R.2) 11 [(0, .ref 0), (1, .int x1), (2, .long x2), (4, .int x4), (5, .int x5), (6, .int x6)] [] σ) (x1 : Int32) (x4 : Int32) (x5 : Int32) (x6 : Int32) (xs0 : Int64) (σ : St) (h : f_X8_isBig_128 kk11 x1 x4 x5 x6 xs0 σ = some R) : G p l e rm_X8_isBig s m args below meth c D ca ad 26 LM 10 (gEnd below args s D ca ad 26 LM (some (.int R.1)) R.2) 128 [(0, .ref 0), (1, .int x1), (4, .int x4), (5, .int x5), (6, .int x6)] [.long xs0] σ := by
  unfold f_X8_isBig_128 at h
  refine g_lstore_n C [(2, .long xs0), (0, .ref 0), (1, .int x1), (4, .int x4), (5, .int x5), (6, .int x6)] dX8_isBig_128 (by decide) rfl ?_
  exact g_sub [1, 2, 0, 3, 4, 5] rfl ((s_X8_isBig_129 C HK11) x1 xs0 x4 x5 x6 σ h)
def f_X8_isBig_120 (kk11 : Int32 → Int64 → Int32 → Int32 → Int32 → St → Option (Int32 × St)) (x1 : Int32) (x2 : Int64) (x4 : Int32) (x5 : Int32) (x6 : Int32) (σ : St) : Option (Int32 × St) := (f_X8_isBig_128 kk11) x1 x4 x5 x6 x2 σ
set_option maxRecDepth 20000 in
theorem s_X8_isBig_120 {R : Int32 × St} (C : gC p s m args meth c D ca ad 26 LM RX8 cX8_isBig 10 (some .boolean)) {kk11 : Int32 → Int64 → Int32 → Int32 → Int32 → St → Option (Int32 × St)} (HK11 : ∀ (x1 : Int32) (x2 : Int64) (x4 : Int32) (x5 : Int32) (x6 : Int32) (σ : St), kk11 x1 x2 x4 x5 x6 σ = some R → G p l e rm_X8_isBig s m args below meth c D ca ad 26 LM 10 (gEnd below args s D ca ad 26 LM (some (.int R.1)) R.2) 11 [(0, .ref 0), (1, .int x1), (2, .long x2), (4, .int x4), (5, .int x5), (6, .int x6)] [] σ) (x1 : Int32) (x2 : Int64) (x4 : Int32) (x5 : Int32) (x6 : Int32) (σ : St) (h : f_X8_isBig_120 kk11 x1 x2 x4 x5 x6 σ = some R) : G p l e rm_X8_isBig s m args below meth c D ca ad 26 LM 10 (gEnd below args s D ca ad 26 LM (some (.int R.1)) R.2) 120 [(0, .ref 0), (1, .int x1), (2, .long x2), (4, .int x4), (5, .int x5), (6, .int x6)] [] σ := by
  unfold f_X8_isBig_120 at h
  refine g_lload_n C 2 dX8_isBig_120 rfl ?_
  refine g_goto C 128 dX8_isBig_121 (by decide) ?_
  exact g_sub [0, 1, 3, 4, 5] rfl ((s_X8_isBig_128 C HK11) x1 x4 x5 x6 x2 σ h)
def f_X8_isBig_105 (kk11 : Int32 → Int64 → Int32 → Int32 → Int32 → St → Option (Int32 × St)) (x1 : Int32) (x2 : Int64) (x4 : Int32) (x6 : Int32) (x7 : Int64) (xs0 : Int32) (xs1 : Int32) (σ : St) : Option (Int32 × St) := (if (xs1 ||| xs0) = 0 then (if x7 = (0 : Int64) then (f_X8_isBig_120 kk11) x1 x2 x4 (xs1 ||| xs0) x6 σ else (f_X8_isBig_128 kk11) x1 x4 (xs1 ||| xs0) x6 (x2 * x7) σ) else (f_X8_isBig_120 kk11) x1 x2 x4 (xs1 ||| xs0) x6 σ)
set_option maxRecDepth 20000 in
theorem s_X8_isBig_105 {R : Int32 × St} (C : gC p s m args meth c D ca ad 26 LM RX8 cX8_isBig 10 (some .boolean)) {kk11 : Int32 → Int64 → Int32 → Int32 → Int32 → St → Option (Int32 × St)} (HK11 : ∀ (x1 : Int32) (x2 : Int64) (x4 : Int32) (x5 : Int32) (x6 : Int32) (σ : St), kk11 x1 x2 x4 x5 x6 σ = some R → G p l e rm_X8_isBig s m args below meth c D ca ad 26 LM 10 (gEnd below args s D ca ad 26 LM (some (.int R.1)) R.2) 11 [(0, .ref 0), (1, .int x1), (2, .long x2), (4, .int x4), (5, .int x5), (6, .int x6)] [] σ) (x1 : Int32) (x2 : Int64) (x4 : Int32) (x6 : Int32) (x7 : Int64) (xs0 : Int32) (xs1 : Int32) (σ : St) (h : f_X8_isBig_105 kk11 x1 x2 x4 x6 x7 xs0 xs1 σ = some R) : G p l e rm_X8_isBig s m args below meth c D ca ad 26 LM 10 (gEnd below args s D ca ad 26 LM (some (.int R.1)) R.2) 105 [(0, .ref 0), (1, .int x1), (2, .long x2), (4, .int x4), (6, .int x6), (7, .long x7)] [.int xs0, .int xs1] σ := by
  unfold f_X8_isBig_105 at h
  refine g_ior C dX8_isBig_105 ?_
  refine g_istore C [(5, .int (xs1 ||| xs0)), (0, .ref 0), (1, .int x1), (2, .long x2), (4, .int x4), (6, .int x6), (7, .long x7)] dX8_isBig_106 (by decide) rfl ?_
  refine g_iload C 0 dX8_isBig_108 rfl ?_
  refine g_if_ne C 120 dX8_isBig_110 (by decide) (fun hc1 => ?_) (fun hc1 => ?_)
  · have h := ite_f hc1 h
    exact g_sub [1, 2, 3, 4, 0, 5] rfl ((s_X8_isBig_120 C HK11) x1 x2 x4 (xs1 ||| xs0) x6 σ h)
  · have h := ite_t hc1 h
    refine g_lload C 6 dX8_isBig_113 rfl ?_
    refine g_lconst C (0 : Int64) dX8_isBig_115 rfl ?_
    refine g_lcmp_ne C 124 dX8_isBig_116 dX8_isBig_117 (by decide) (fun hc2 => ?_) (fun hc2 => ?_)
    · have h := ite_f hc2 h
      refine g_lload_n C 3 dX8_isBig_124 rfl ?_
      refine g_lload C 6 dX8_isBig_125 rfl ?_
      refine g_lmul C dX8_isBig_127 ?_
      exact g_sub [1, 2, 4, 0, 5] rfl ((s_X8_isBig_128 C HK11) x1 x4 (xs1 ||| xs0) x6 (x2 * x7) σ h)
    · have h := ite_t hc2 h
      exact g_sub [1, 2, 3, 4, 0, 5] rfl ((s_X8_isBig_120 C HK11) x1 x2 x4 (xs1 ||| xs0) x6 σ h)
def f_X8_isBig_104 (kk11 : Int32 → Int64 → Int32 → Int32 → Int32 → St → Option (Int32 × St)) (x1 : Int32) (x2 : Int64) (x4 : Int32) (x6 : Int32) (x7 : Int64) (xs0 : Int32) (σ : St) : Option (Int32 × St) := (f_X8_isBig_105 kk11) x1 x2 x4 x6 x7 (0 : Int32) xs0 σ
set_option maxRecDepth 20000 in
theorem s_X8_isBig_104 {R : Int32 × St} (C : gC p s m args meth c D ca ad 26 LM RX8 cX8_isBig 10 (some .boolean)) {kk11 : Int32 → Int64 → Int32 → Int32 → Int32 → St → Option (Int32 × St)} (HK11 : ∀ (x1 : Int32) (x2 : Int64) (x4 : Int32) (x5 : Int32) (x6 : Int32) (σ : St), kk11 x1 x2 x4 x5 x6 σ = some R → G p l e rm_X8_isBig s m args below meth c D ca ad 26 LM 10 (gEnd below args s D ca ad 26 LM (some (.int R.1)) R.2) 11 [(0, .ref 0), (1, .int x1), (2, .long x2), (4, .int x4), (5, .int x5), (6, .int x6)] [] σ) (x1 : Int32) (x2 : Int64) (x4 : Int32) (x6 : Int32) (x7 : Int64) (xs0 : Int32) (σ : St) (h : f_X8_isBig_104 kk11 x1 x2 x4 x6 x7 xs0 σ = some R) : G p l e rm_X8_isBig s m args below meth c D ca ad 26 LM 10 (gEnd below args s D ca ad 26 LM (some (.int R.1)) R.2) 104 [(0, .ref 0), (1, .int x1), (2, .long x2), (4, .int x4), (6, .int x6), (7, .long x7)] [.int xs0] σ := by
  unfold f_X8_isBig_104 at h
  refine g_iconst C (0 : Int32) dX8_isBig_104 rfl ?_
  exact g_sub [0, 1, 2, 3, 4, 5] rfl ((s_X8_isBig_105 C HK11) x1 x2 x4 x6 x7 (0 : Int32) xs0 σ h)
def f_X8_isBig_77 (kk11 : Int32 → Int64 → Int32 → Int32 → Int32 → St → Option (Int32 × St)) (x1 : Int32) (x2 : Int64) (x5 : Int32) (x6 : Int32) (x7 : Int64) (xs0 : Int32) (xs1 : Int32) (σ : St) : Option (Int32 × St) := (if x7 ≤ (0 : Int64) then (f_X8_isBig_104 kk11) x1 x2 (xs1 ||| xs0) x6 x7 x5 σ else cI (!decide (x7 = 0)) ((if x2 ≤ ((4000000000000000 : Int64) / x7) then (f_X8_isBig_104 kk11) x1 x2 (xs1 ||| xs0) x6 x7 x5 σ else (f_X8_isBig_105 kk11) x1 x2 (xs1 ||| xs0) x6 x7 (1 : Int32) x5 σ)))
set_option maxRecDepth 20000 in
theorem s_X8_isBig_77 {R : Int32 × St} (C : gC p s m args meth c D ca ad 26 LM RX8 cX8_isBig 10 (some .boolean)) {kk11 : Int32 → Int64 → Int32 → Int32 → Int32 → St → Option (Int32 × St)} (HK11 : ∀ (x1 : Int32) (x2 : Int64) (x4 : Int32) (x5 : Int32) (x6 : Int32) (σ : St), kk11 x1 x2 x4 x5 x6 σ = some R → G p l e rm_X8_isBig s m args below meth c D ca ad 26 LM 10 (gEnd below args s D ca ad 26 LM (some (.int R.1)) R.2) 11 [(0, .ref 0), (1, .int x1), (2, .long x2), (4, .int x4), (5, .int x5), (6, .int x6)] [] σ) (x1 : Int32) (x2 : Int64) (x5 : Int32) (x6 : Int32) (x7 : Int64) (xs0 : Int32) (xs1 : Int32) (σ : St) (h : f_X8_isBig_77 kk11 x1 x2 x5 x6 x7 xs0 xs1 σ = some R) : G p l e rm_X8_isBig s m args below meth c D ca ad 26 LM 10 (gEnd below args s D ca ad 26 LM (some (.int R.1)) R.2) 77 [(0, .ref 0), (1, .int x1), (2, .long x2), (5, .int x5), (6, .int x6), (7, .long x7)] [.int xs0, .int xs1] σ := by
  unfold f_X8_isBig_77 at h
  refine g_ior C dX8_isBig_77 ?_
  refine g_istore C [(4, .int (xs1 ||| xs0)), (0, .ref 0), (1, .int x1), (2, .long x2), (5, .int x5), (6, .int x6), (7, .long x7)] dX8_isBig_78 (by decide) rfl ?_
  refine g_iload C 4 dX8_isBig_80 rfl ?_
  refine g_lload C 6 dX8_isBig_82 rfl ?_
  refine g_lconst C (0 : Int64) dX8_isBig_84 rfl ?_
  refine g_lcmp_le C 104 dX8_isBig_85 dX8_isBig_86 (by decide) (fun hc1 => ?_) (fun hc1 => ?_)
  · have h := ite_t hc1 h
    exact g_sub [1, 2, 3, 0, 5, 6] rfl ((s_X8_isBig_104 C HK11) x1 x2 (xs1 ||| xs0) x6 x7 x5 σ h)
  · have h := ite_f hc1 h
    refine g_lload_n C 3 dX8_isBig_89 rfl ?_
    refine g_ldc2 C (4000000000000000 : Int64) qc_X8_170 dX8_isBig_90 ?_
    refine g_lload C 6 dX8_isBig_93 rfl ?_
    obtain ⟨hz2, h⟩ := cI_some h
    refine g_ldiv C dX8_isBig_95 (by simpa using hz2) ?_
    refine g_lcmp_le C 104 dX8_isBig_96 dX8_isBig_97 (by decide) (fun hc3 => ?_) (fun hc3 => ?_)
    · have h := ite_t hc3 h
      exact g_sub [1, 2, 3, 0, 5, 6] rfl ((s_X8_isBig_104 C HK11) x1 x2 (xs1 ||| xs0) x6 x7 x5 σ h)
    · have h := ite_f hc3 h
      refine g_iconst C (1 : Int32) dX8_isBig_100 rfl ?_
      refine g_goto C 105 dX8_isBig_101 (by decide) ?_
      exact g_sub [1, 2, 3, 0, 5, 6] rfl ((s_X8_isBig_105 C HK11) x1 x2 (xs1 ||| xs0) x6 x7 (1 : Int32) x5 σ h)
def f_X8_isBig_54 (kk11 : Int32 → Int64 → Int32 → Int32 → Int32 → St → Option (Int32 × St)) (x1 : Int32) (x2 : Int64) (x4 : Int32) (x5 : Int32) (x6 : Int32) (x7 : Int64) (σ : St) : Option (Int32 × St) := (f_X8_in x1 x6 σ).bind (fun q1 => (if q1.1 = 0 then (f_X8_isBig_129 kk11) x1 x2 x4 x5 x6 q1.2 else (if x7 = (0 : Int64) then (f_X8_isBig_77 kk11) x1 x2 x5 x6 x7 (1 : Int32) x4 q1.2 else (f_X8_isBig_77 kk11) x1 x2 x5 x6 x7 (0 : Int32) x4 q1.2)))
set_option maxRecDepth 20000 in
theorem s_X8_isBig_54 {R : Int32 × St} (C : gC p s m args meth c D ca ad 26 LM RX8 cX8_isBig 10 (some .boolean)) {kk11 : Int32 → Int64 → Int32 → Int32 → Int32 → St → Option (Int32 × St)} (HK11 : ∀ (x1 : Int32) (x2 : Int64) (x4 : Int32) (x5 : Int32) (x6 : Int32) (σ : St), kk11 x1 x2 x4 x5 x6 σ = some R → G p l e rm_X8_isBig s m args below meth c D ca ad 26 LM 10 (gEnd below args s D ca ad 26 LM (some (.int R.1)) R.2) 11 [(0, .ref 0), (1, .int x1), (2, .long x2), (4, .int x4), (5, .int x5), (6, .int x6)] [] σ) (x1 : Int32) (x2 : Int64) (x4 : Int32) (x5 : Int32) (x6 : Int32) (x7 : Int64) (σ : St) (h : f_X8_isBig_54 kk11 x1 x2 x4 x5 x6 x7 σ = some R) : G p l e rm_X8_isBig s m args below meth c D ca ad 26 LM 10 (gEnd below args s D ca ad 26 LM (some (.int R.1)) R.2) 54 [(0, .ref 0), (1, .int x1), (2, .long x2), (4, .int x4), (5, .int x5), (6, .int x6), (7, .long x7)] [] σ := by
  unfold f_X8_isBig_54 at h
  refine g_iload_n C 1 dX8_isBig_54 rfl ?_
  refine g_iload C 5 dX8_isBig_55 rfl ?_
  obtain ⟨q1, hq1, h⟩ := bd h
  refine g_callSI C [.int x1, .int x6] qs_X8_166 (m_X8_in hq1) rfl rfl ⟨rfl, rfl⟩ ⟨by decide, by decide⟩ (Nat.le_of_ble_eq_true rfl) dX8_isBig_57 ?_
  refine g_if_eq C 129 dX8_isBig_60 (by decide) (fun hc2 => ?_) (fun hc2 => ?_)
  · have h := ite_t hc2 h
    exact g_sub [0, 1, 2, 3, 4, 5] rfl ((s_X8_isBig_129 C HK11) x1 x2 x4 x5 x6 q1.2 h)
  · have h := ite_f hc2 h
    refine g_iload C 3 dX8_isBig_63 rfl ?_
    refine g_lload C 6 dX8_isBig_65 rfl ?_
    refine g_lconst C (0 : Int64) dX8_isBig_67 rfl ?_
    refine g_lcmp_ne C 76 dX8_isBig_68 dX8_isBig_69 (by decide) (fun hc3 => ?_) (fun hc3 => ?_)
    · have h := ite_f hc3 h
      refine g_iconst C (0 : Int32) dX8_isBig_76 rfl ?_
      exact g_sub [0, 1, 2, 4, 5, 6] rfl ((s_X8_isBig_77 C HK11) x1 x2 x5 x6 x7 (0 : Int32) x4 q1.2 h)
    · have h := ite_t hc3 h
      refine g_iconst C (1 : Int32) dX8_isBig_72 rfl ?_
      refine g_goto C 77 dX8_isBig_73 (by decide) ?_
      exact g_sub [0, 1, 2, 4, 5, 6] rfl ((s_X8_isBig_77 C HK11) x1 x2 x5 x6 x7 (1 : Int32) x4 q1.2 h)
def f_X8_isBig_11 (kk135 : Int32 → Int32 → St → Option (Int32 × St)) : Nat → Int32 → Int64 → Int32 → Int32 → Int32 → St → Option (Int32 × St)
  | 0, _, _, _, _, _, _ => none
  | n + 1, x1, x2, x4, x5, x6, σ => (if (σ.1 0 3) ≤ x6 then kk135 x4 x5 σ else (f_X8_isBig_26 (f_X8_isBig_54 (f_X8_isBig_11 kk135 n)) FU) x1 x2 x4 x5 x6 (0 : Int64) (0 : Int32) σ)
set_option maxRecDepth 20000 in
theorem s_X8_isBig_11 {R : Int32 × St} (C : gC p s m args meth c D ca ad 26 LM RX8 cX8_isBig 10 (some .boolean)) {kk135 : Int32 → Int32 → St → Option (Int32 × St)} (HK135 : ∀ (x4 : Int32) (x5 : Int32) (σ : St), kk135 x4 x5 σ = some R → G p l e rm_X8_isBig s m args below meth c D ca ad 26 LM 10 (gEnd below args s D ca ad 26 LM (some (.int R.1)) R.2) 135 [(4, .int x4), (5, .int x5)] [] σ) : ∀ (n : Nat) (x1 : Int32) (x2 : Int64) (x4 : Int32) (x5 : Int32) (x6 : Int32) (σ : St), f_X8_isBig_11 kk135 n x1 x2 x4 x5 x6 σ = some R → G p l e rm_X8_isBig s m args below meth c D ca ad 26 LM 10 (gEnd below args s D ca ad 26 LM (some (.int R.1)) R.2) 11 [(0, .ref 0), (1, .int x1), (2, .long x2), (4, .int x4), (5, .int x5), (6, .int x6)] [] σ := by
  intro n
  induction n with
  | zero =>
    intro x1 x2 x4 x5 x6 σ h
    have h : none = some R := h
    cases h
  | succ n ih =>
    intro x1 x2 x4 x5 x6 σ h
    rw [f_X8_isBig_11] at h
    refine g_iload C 5 dX8_isBig_11 rfl ?_
    refine g_aload_n C 0 dX8_isBig_13 rfl ?_
    refine g_getI C 3 rfl q_X8_97 rfl dX8_isBig_14 ?_
    refine g_icmp_ge C 135 dX8_isBig_17 (by decide) (fun hc1 => ?_) (fun hc1 => ?_)
    · have h := ite_t hc1 h
      exact g_sub [3, 4] rfl (HK135 x4 x5 σ h)
    · have h := ite_f hc1 h
      refine g_lconst C (0 : Int64) dX8_isBig_20 rfl ?_
      refine g_lstore C [(7, .long (0 : Int64)), (0, .ref 0), (1, .int x1), (2, .long x2), (4, .int x4), (5, .int x5), (6, .int x6)] dX8_isBig_21 (by decide) rfl ?_
      refine g_iconst C (0 : Int32) dX8_isBig_23 rfl ?_
      refine g_istore C [(9, .int (0 : Int32)), (7, .long (0 : Int64)), (0, .ref 0), (1, .int x1), (2, .long x2), (4, .int x4), (5, .int x5), (6, .int x6)] dX8_isBig_24 (by decide) rfl ?_
      exact g_sub [2, 3, 4, 5, 6, 7, 1, 0] rfl ((s_X8_isBig_26 C (s_X8_isBig_54 C ih) FU) x1 x2 x4 x5 x6 (0 : Int64) (0 : Int32) σ h)
def f_X8_isBig_135 (x4 : Int32) (x5 : Int32) (σ : St) : Option (Int32 × St) := (if x5 = 0 then some ((0 : Int32), σ) else (if x4 = 0 then some ((1 : Int32), σ) else some ((0 : Int32), σ)))
set_option maxRecDepth 20000 in
theorem s_X8_isBig_135 {R : Int32 × St} (C : gC p s m args meth c D ca ad 26 LM RX8 cX8_isBig 10 (some .boolean)) (x4 : Int32) (x5 : Int32) (σ : St) (h : f_X8_isBig_135 x4 x5 σ = some R) : G p l e rm_X8_isBig s m args below meth c D ca ad 26 LM 10 (gEnd below args s D ca ad 26 LM (some (.int R.1)) R.2) 135 [(4, .int x4), (5, .int x5)] [] σ := by
  unfold f_X8_isBig_135 at h
  refine g_iload C 1 dX8_isBig_135 rfl ?_
  refine g_if_eq C 149 dX8_isBig_137 (by decide) (fun hc1 => ?_) (fun hc1 => ?_)
  · have h := ite_t hc1 h
    refine g_iconst C (0 : Int32) dX8_isBig_149 rfl ?_
    obtain rfl := Option.some.inj h
    exact g_zret C nz0 dX8_isBig_150
  · have h := ite_f hc1 h
    refine g_iload C 0 dX8_isBig_140 rfl ?_
    refine g_if_ne C 149 dX8_isBig_142 (by decide) (fun hc2 => ?_) (fun hc2 => ?_)
    · have h := ite_f hc2 h
      refine g_iconst C (0 : Int32) dX8_isBig_149 rfl ?_
      obtain rfl := Option.some.inj h
      exact g_zret C nz0 dX8_isBig_150
    · have h := ite_t hc2 h
      refine g_iconst C (1 : Int32) dX8_isBig_145 rfl ?_
      refine g_goto C 150 dX8_isBig_146 (by decide) ?_
      obtain rfl := Option.some.inj h
      exact g_zret C nz1 dX8_isBig_150
def f_X8_isBig (x1 : Int32) (σ : St) : Option (Int32 × St) := (f_X8_isBig_11 (f_X8_isBig_135) FU) x1 (1 : Int64) (0 : Int32) (0 : Int32) (0 : Int32) σ
set_option maxRecDepth 20000 in
theorem m_X8_isBig {l : Launch} {D : va_G} {ca : Nat → ClassId} {ad : Nat → Nat} {x1 : Int32} {σ : St} {R : Int32 × St} (h : f_X8_isBig x1 σ = some R) : gM l D ca ad 26 LM yX8_isBig cX8_isBig 10 (some .boolean) rm_X8_isBig [.ref 0, .int x1] σ (some (.int R.1)) R.2 := by
  refine gM_of (by decide) (Nat.le_of_ble_eq_true rfl) (fun p e s m args below meth c C => ?_)
  refine g_ent (ls' := [(0, .ref 0), (1, .int x1)]) rfl ?_
  unfold f_X8_isBig at h
  refine g_lconst C (1 : Int64) dX8_isBig_0 rfl ?_
  refine g_lstore_n C [(2, .long (1 : Int64)), (0, .ref 0), (1, .int x1)] dX8_isBig_1 (by decide) rfl ?_
  refine g_iconst C (0 : Int32) dX8_isBig_2 rfl ?_
  refine g_istore C [(4, .int (0 : Int32)), (2, .long (1 : Int64)), (0, .ref 0), (1, .int x1)] dX8_isBig_3 (by decide) rfl ?_
  refine g_iconst C (0 : Int32) dX8_isBig_5 rfl ?_
  refine g_istore C [(5, .int (0 : Int32)), (4, .int (0 : Int32)), (2, .long (1 : Int64)), (0, .ref 0), (1, .int x1)] dX8_isBig_6 (by decide) rfl ?_
  refine g_iconst C (0 : Int32) dX8_isBig_8 rfl ?_
  refine g_istore C [(6, .int (0 : Int32)), (5, .int (0 : Int32)), (4, .int (0 : Int32)), (2, .long (1 : Int64)), (0, .ref 0), (1, .int x1)] dX8_isBig_9 (by decide) rfl ?_
  exact g_sub [4, 5, 3, 2, 1, 0] rfl ((s_X8_isBig_11 C (s_X8_isBig_135 C) FU) x1 (1 : Int64) (0 : Int32) (0 : Int32) (0 : Int32) σ h)
def f_X8_all (σ : St) : Option (Int32 × St) := some ((((1 : Int32) <<< ((σ.1 0 3) &&& 31)) - (1 : Int32)), σ)
set_option maxRecDepth 20000 in
theorem m_X8_all {l : Launch} {D : va_G} {ca : Nat → ClassId} {ad : Nat → Nat} {σ : St} {R : Int32 × St} (h : f_X8_all σ = some R) : gM l D ca ad 26 LM yX8_all cX8_all 1 (some .int) rm_X8_all [.ref 0] σ (some (.int R.1)) R.2 := by
  refine gM_of (by decide) (Nat.le_of_ble_eq_true rfl) (fun p e s m args below meth c C => ?_)
  refine g_ent (ls' := [(0, .ref 0)]) rfl ?_
  unfold f_X8_all at h
  refine g_iconst C (1 : Int32) dX8_all_0 rfl ?_
  refine g_aload_n C 0 dX8_all_1 rfl ?_
  refine g_getI C 3 rfl q_X8_97 rfl dX8_all_2 ?_
  refine g_ishl C dX8_all_5 ?_
  refine g_iconst C (1 : Int32) dX8_all_6 rfl ?_
  refine g_isub C dX8_all_7 ?_
  obtain rfl := Option.some.inj h
  exact g_iret C dX8_all_8
def f_X8_askTotal (σ : St) : Option (Int32 × St) := (f_X8_all σ).bind (fun q1 => (f_X8_isBig q1.1 q1.2).bind (fun q2 => (if q2.1 = 0 then (f_X8_all q2.2).bind (fun q4 => (f_X8_lay_ q4.1 q4.2).bind (fun q5 => (f_X8_count q5).bind (fun q6 => ap (up2 q6.2 0 33 q6.1) fun σ7 => (if (σ7.2 0 33) = (0 : Int64) then some ((-4 : Int32), σ7) else some ((0 : Int32), σ7))))) else some ((-5 : Int32), q2.2))))
set_option maxRecDepth 20000 in
theorem m_X8_askTotal {l : Launch} {D : va_G} {ca : Nat → ClassId} {ad : Nat → Nat} {σ : St} {R : Int32 × St} (h : f_X8_askTotal σ = some R) : gM l D ca ad 26 LM yX8_askTotal cX8_askTotal 1 (some .int) rm_X8_askTotal [.ref 0] σ (some (.int R.1)) R.2 := by
  refine gM_of (by decide) (Nat.le_of_ble_eq_true rfl) (fun p e s m args below meth c C => ?_)
  refine g_ent (ls' := [(0, .ref 0)]) rfl ?_
  unfold f_X8_askTotal at h
  refine g_aload_n C 0 dX8_askTotal_0 rfl ?_
  refine g_aload_n C 0 dX8_askTotal_1 rfl ?_
  obtain ⟨q1, hq1, h⟩ := bd h
  refine g_callVI C [] qv_X8_172 (m_X8_all hq1) rfl (by decide) rfl rfl rfl ⟨rfl, rfl⟩ ⟨by decide, by decide⟩ (Nat.le_of_ble_eq_true rfl) dX8_askTotal_2 ?_
  obtain ⟨q2, hq2, h⟩ := bd h
  refine g_callVI C [.int q1.1] qv_X8_175 (m_X8_isBig hq2) rfl (by decide) rfl rfl rfl ⟨rfl, rfl⟩ ⟨by decide, by decide⟩ (Nat.le_of_ble_eq_true rfl) dX8_askTotal_5 ?_
  refine g_if_eq C 14 dX8_askTotal_8 (by decide) (fun hc3 => ?_) (fun hc3 => ?_)
  · have h := ite_t hc3 h
    refine g_aload_n C 0 dX8_askTotal_14 rfl ?_
    refine g_aload_n C 0 dX8_askTotal_15 rfl ?_
    obtain ⟨q4, hq4, h⟩ := bd h
    refine g_callVI C [] qv_X8_172 (m_X8_all hq4) rfl (by decide) rfl rfl rfl ⟨rfl, rfl⟩ ⟨by decide, by decide⟩ (Nat.le_of_ble_eq_true rfl) dX8_askTotal_16 ?_
    obtain ⟨q5, hq5, h⟩ := bd h
    refine g_callVV C [.int q4.1] qv_X8_178 (m_X8_lay_ hq5) rfl (by decide) rfl rfl rfl ⟨rfl, rfl⟩ ⟨by decide, by decide⟩ (Nat.le_of_ble_eq_true rfl) dX8_askTotal_19 ?_
    refine g_aload_n C 0 dX8_askTotal_22 rfl ?_
    refine g_aload_n C 0 dX8_askTotal_23 rfl ?_
    obtain ⟨q6, hq6, h⟩ := bd h
    refine g_callVL C [] qv_X8_182 (m_X8_count hq6) rfl (by decide) rfl rfl rfl ⟨rfl, rfl⟩ ⟨by decide, by decide⟩ (Nat.le_of_ble_eq_true rfl) dX8_askTotal_24 ?_
    refine g_putL C 33 rfl qp_X8_186 rfl dX8_askTotal_27 ?_
    refine g_nmS (fun σ7 eσ7 => ?_)
    have h := ap_at eσ7 h
    refine g_aload_n C 0 dX8_askTotal_30 rfl ?_
    refine g_getL C 33 rfl q_X8_186 rfl dX8_askTotal_31 ?_
    refine g_lconst C (0 : Int64) dX8_askTotal_34 rfl ?_
    refine g_lcmp_ne C 44 dX8_askTotal_35 dX8_askTotal_36 (by decide) (fun hc8 => ?_) (fun hc8 => ?_)
    · have h := ite_f hc8 h
      refine g_iconst C (0 : Int32) dX8_askTotal_44 rfl ?_
      obtain rfl := Option.some.inj h
      exact g_iret C dX8_askTotal_45
    · have h := ite_t hc8 h
      refine g_bipush C (-4 : Int32) dX8_askTotal_39 rfl ?_
      refine g_goto C 45 dX8_askTotal_41 (by decide) ?_
      obtain rfl := Option.some.inj h
      exact g_iret C dX8_askTotal_45
  · have h := ite_f hc3 h
    refine g_bipush C (-5 : Int32) dX8_askTotal_11 rfl ?_
    obtain rfl := Option.some.inj h
    exact g_iret C dX8_askTotal_13
def f_X8_total (σ : St) : Option (Int64 × St) := (f_X8_all σ).bind (fun q1 => (f_X8_isBig q1.1 q1.2).bind (fun q2 => (if q2.1 = 0 then (f_X8_all q2.2).bind (fun q4 => (f_X8_lay_ q4.1 q4.2).bind (fun q5 => (f_X8_count q5).bind (fun q6 => some (q6.1, q6.2)))) else some ((-5 : Int64), q2.2))))
set_option maxRecDepth 20000 in
theorem m_X8_total {l : Launch} {D : va_G} {ca : Nat → ClassId} {ad : Nat → Nat} {σ : St} {R : Int64 × St} (h : f_X8_total σ = some R) : gM l D ca ad 26 LM yX8_total cX8_total 1 (some .long) rm_X8_total [.ref 0] σ (some (.long R.1)) R.2 := by
  refine gM_of (by decide) (Nat.le_of_ble_eq_true rfl) (fun p e s m args below meth c C => ?_)
  refine g_ent (ls' := [(0, .ref 0)]) rfl ?_
  unfold f_X8_total at h
  refine g_aload_n C 0 dX8_total_0 rfl ?_
  refine g_aload_n C 0 dX8_total_1 rfl ?_
  obtain ⟨q1, hq1, h⟩ := bd h
  refine g_callVI C [] qv_X8_172 (m_X8_all hq1) rfl (by decide) rfl rfl rfl ⟨rfl, rfl⟩ ⟨by decide, by decide⟩ (Nat.le_of_ble_eq_true rfl) dX8_total_2 ?_
  obtain ⟨q2, hq2, h⟩ := bd h
  refine g_callVI C [.int q1.1] qv_X8_175 (m_X8_isBig hq2) rfl (by decide) rfl rfl rfl ⟨rfl, rfl⟩ ⟨by decide, by decide⟩ (Nat.le_of_ble_eq_true rfl) dX8_total_5 ?_
  refine g_if_eq C 15 dX8_total_8 (by decide) (fun hc3 => ?_) (fun hc3 => ?_)
  · have h := ite_t hc3 h
    refine g_aload_n C 0 dX8_total_15 rfl ?_
    refine g_aload_n C 0 dX8_total_16 rfl ?_
    obtain ⟨q4, hq4, h⟩ := bd h
    refine g_callVI C [] qv_X8_172 (m_X8_all hq4) rfl (by decide) rfl rfl rfl ⟨rfl, rfl⟩ ⟨by decide, by decide⟩ (Nat.le_of_ble_eq_true rfl) dX8_total_17 ?_
    obtain ⟨q5, hq5, h⟩ := bd h
    refine g_callVV C [.int q4.1] qv_X8_178 (m_X8_lay_ hq5) rfl (by decide) rfl rfl rfl ⟨rfl, rfl⟩ ⟨by decide, by decide⟩ (Nat.le_of_ble_eq_true rfl) dX8_total_20 ?_
    refine g_aload_n C 0 dX8_total_23 rfl ?_
    obtain ⟨q6, hq6, h⟩ := bd h
    refine g_callVL C [] qv_X8_182 (m_X8_count hq6) rfl (by decide) rfl rfl rfl ⟨rfl, rfl⟩ ⟨by decide, by decide⟩ (Nat.le_of_ble_eq_true rfl) dX8_total_24 ?_
    obtain rfl := Option.some.inj h
    exact g_lret C dX8_total_27
  · have h := ite_f hc3 h
    refine g_ldc2 C (-5 : Int64) qc_X8_189 dX8_total_11 ?_
    obtain rfl := Option.some.inj h
    exact g_lret C dX8_total_14
def f_X8_common_6 : Nat → Int64 → Int64 → St → Option (Int64 × St)
  | 0, _, _, _ => none
  | n + 1, x4, x6, σ => (if x6 = (0 : Int64) then some (x4, σ) else cI (!decide (x6 = 0)) ((f_X8_common_6 n) x6 (x4 - x4 / x6 * x6) σ))
set_option maxRecDepth 20000 in
theorem s_X8_common_6 {R : Int64 × St} (C : gC p s m args meth c D ca ad 26 LM RX8 cX8_common 10 (some .long)) : ∀ (n : Nat) (x4 : Int64) (x6 : Int64) (σ : St), f_X8_common_6 n x4 x6 σ = some R → G p l e rm_X8_common s m args below meth c D ca ad 26 LM 10 (gEnd below args s D ca ad 26 LM (some (.long R.1)) R.2) 6 [(4, .long x4), (6, .long x6)] [] σ := by
  intro n
  induction n with
  | zero =>
    intro x4 x6 σ h
    have h : none = some R := h
    cases h
  | succ n ih =>
    intro x4 x6 σ h
    rw [f_X8_common_6] at h
    refine g_lload C 1 dX8_common_6 rfl ?_
    refine g_lconst C (0 : Int64) dX8_common_8 rfl ?_
    refine g_lcmp_eq C 31 dX8_common_9 dX8_common_10 (by decide) (fun hc1 => ?_) (fun hc1 => ?_)
    · have h := ite_t hc1 h
      refine g_lload C 0 dX8_common_31 rfl ?_
      obtain rfl := Option.some.inj h
      exact g_lret C dX8_common_33
    · have h := ite_f hc1 h
      refine g_lload C 0 dX8_common_13 rfl ?_
      refine g_lload C 1 dX8_common_15 rfl ?_
      obtain ⟨hz2, h⟩ := cI_some h
      refine g_lrem C dX8_common_17 (by simpa using hz2) ?_
      refine g_lstore C [(8, .long (x4 - x4 / x6 * x6)), (4, .long x4), (6, .long x6)] dX8_common_18 (by decide) rfl ?_
      refine g_lload C 2 dX8_common_20 rfl ?_
      refine g_lstore C [(4, .long x6), (8, .long (x4 - x4 / x6 * x6)), (6, .long x6)] dX8_common_22 (by decide) rfl ?_
      refine g_lload C 1 dX8_common_24 rfl ?_
      refine g_lstore C [(6, .long (x4 - x4 / x6 * x6)), (4, .long x6), (8, .long (x4 - x4 / x6 * x6))] dX8_common_26 (by decide) rfl ?_
      refine g_goto C 6 dX8_common_28 (by decide) ?_
      exact g_sub [1, 0] rfl (ih x6 (x4 - x4 / x6 * x6) σ h)
def f_X8_common (x0 : Int64) (x2 : Int64) (σ : St) : Option (Int64 × St) := (f_X8_common_6 FU) x0 x2 σ
set_option maxRecDepth 20000 in
theorem m_X8_common {l : Launch} {D : va_G} {ca : Nat → ClassId} {ad : Nat → Nat} {x0 : Int64} {x2 : Int64} {σ : St} {R : Int64 × St} (h : f_X8_common x0 x2 σ = some R) : gM l D ca ad 26 LM yX8_common cX8_common 10 (some .long) rm_X8_common [.long x0, .long x2] σ (some (.long R.1)) R.2 := by
  refine gM_of (by decide) (Nat.le_of_ble_eq_true rfl) (fun p e s m args below meth c C => ?_)
  refine g_ent (ls' := [(0, .long x0), (2, .long x2)]) rfl ?_
  unfold f_X8_common at h
  refine g_lload_n C 0 dX8_common_0 rfl ?_
  refine g_lstore C [(4, .long x0), (0, .long x0), (2, .long x2)] dX8_common_1 (by decide) rfl ?_
  refine g_lload_n C 2 dX8_common_3 rfl ?_
  refine g_lstore C [(6, .long x2), (4, .long x0), (0, .long x0), (2, .long x2)] dX8_common_4 (by decide) rfl ?_
  exact g_sub [1, 0] rfl ((s_X8_common_6 C FU) x0 x2 σ h)
def f_X8_fraction (x1 : Int64) (x3 : Int64) (σ : St) : Option (Int64 × St) := (f_X8_common x1 x3 σ).bind (fun q1 => cI (!decide (q1.1 = 0)) (ap (up2 q1.2 0 12 (x3 / q1.1)) fun σ3 => cI (!decide (q1.1 = 0)) (some ((x1 / q1.1), σ3))))
set_option maxRecDepth 20000 in
theorem m_X8_fraction {l : Launch} {D : va_G} {ca : Nat → ClassId} {ad : Nat → Nat} {x1 : Int64} {x3 : Int64} {σ : St} {R : Int64 × St} (h : f_X8_fraction x1 x3 σ = some R) : gM l D ca ad 26 LM yX8_fraction cX8_fraction 7 (some .long) rm_X8_fraction [.ref 0, .long x1, .long x3] σ (some (.long R.1)) R.2 := by
  refine gM_of (by decide) (Nat.le_of_ble_eq_true rfl) (fun p e s m args below meth c C => ?_)
  refine g_ent (ls' := [(0, .ref 0), (1, .long x1), (3, .long x3)]) rfl ?_
  unfold f_X8_fraction at h
  refine g_lload_n C 1 dX8_fraction_0 rfl ?_
  refine g_lload_n C 2 dX8_fraction_1 rfl ?_
  obtain ⟨q1, hq1, h⟩ := bd h
  refine g_callSL C [.long x1, .long x3] qs_X8_191 (m_X8_common hq1) rfl rfl ⟨rfl, rfl⟩ ⟨by decide, by decide⟩ (Nat.le_of_ble_eq_true rfl) dX8_fraction_2 ?_
  refine g_lstore C [(5, .long q1.1), (0, .ref 0), (1, .long x1), (3, .long x3)] dX8_fraction_5 (by decide) rfl ?_
  refine g_aload_n C 1 dX8_fraction_7 rfl ?_
  refine g_lload_n C 3 dX8_fraction_8 rfl ?_
  refine g_lload C 0 dX8_fraction_9 rfl ?_
  obtain ⟨hz2, h⟩ := cI_some h
  refine g_ldiv C dX8_fraction_11 (by simpa using hz2) ?_
  refine g_putL C 12 rfl qp_X8_41 rfl dX8_fraction_12 ?_
  refine g_nmS (fun σ3 eσ3 => ?_)
  have h := ap_at eσ3 h
  refine g_lload_n C 2 dX8_fraction_15 rfl ?_
  refine g_lload C 0 dX8_fraction_16 rfl ?_
  obtain ⟨hz4, h⟩ := cI_some h
  refine g_ldiv C dX8_fraction_18 (by simpa using hz4) ?_
  obtain rfl := Option.some.inj h
  exact g_lret C dX8_fraction_19
def f_X8_below (σ : St) : Option (Int64 × St) := some ((σ.2 0 12), σ)
set_option maxRecDepth 20000 in
theorem m_X8_below {l : Launch} {D : va_G} {ca : Nat → ClassId} {ad : Nat → Nat} {σ : St} {R : Int64 × St} (h : f_X8_below σ = some R) : gM l D ca ad 26 LM yX8_below cX8_below 1 (some .long) rm_X8_below [.ref 0] σ (some (.long R.1)) R.2 := by
  refine gM_of (by decide) (Nat.le_of_ble_eq_true rfl) (fun p e s m args below meth c C => ?_)
  refine g_ent (ls' := [(0, .ref 0)]) rfl ?_
  unfold f_X8_below at h
  refine g_aload_n C 0 dX8_below_0 rfl ?_
  refine g_getL C 12 rfl q_X8_41 rfl dX8_below_1 ?_
  obtain rfl := Option.some.inj h
  exact g_lret C dX8_below_4
def f_X8_only_46 (kk3 : Int32 → Int32 → Int32 → Int32 → St → Option (St)) (x1 : Int32) (x2 : Int32) (x3 : Int32) (x4 : Int32) (xs0 : Int64) (xs1 : Int32) (σ : St) : Option (St) := cI (ix xs1 280) (ap (up2 σ 17 xs1.toNatClampNeg xs0) fun σ2 => kk3 x1 x2 x3 (x4 + (1 : Int32)) σ2)
set_option maxRecDepth 20000 in
theorem s_X8_only_46 {R : St} (C : gC p s m args meth c D ca ad 26 LM RX8 cX8_only 5 none) {kk3 : Int32 → Int32 → Int32 → Int32 → St → Option (St)} (HK3 : ∀ (x1 : Int32) (x2 : Int32) (x3 : Int32) (x4 : Int32) (σ : St), kk3 x1 x2 x3 x4 σ = some R → G p l e rm_X8_only s m args below meth c D ca ad 26 LM 5 (gEnd below args s D ca ad 26 LM none R) 3 [(0, .ref 0), (1, .int x1), (2, .int x2), (3, .int x3), (4, .int x4)] [] σ) (x1 : Int32) (x2 : Int32) (x3 : Int32) (x4 : Int32) (xs0 : Int64) (xs1 : Int32) (σ : St) (h : f_X8_only_46 kk3 x1 x2 x3 x4 xs0 xs1 σ = some R) : G p l e rm_X8_only s m args below meth c D ca ad 26 LM 5 (gEnd below args s D ca ad 26 LM none R) 46 [(0, .ref 0), (1, .int x1), (2, .int x2), (3, .int x3), (4, .int x4)] [.long xs0, .int xs1, .ref 17] σ := by
  unfold f_X8_only_46 at h
  obtain ⟨hi1, h⟩ := cI_some h
  refine g_last C 280 rfl ho_19 hi1 dX8_only_46 ?_
  refine g_nmS (fun σ2 eσ2 => ?_)
  have h := ap_at eσ2 h
  refine g_iinc C 4 [(4, .int (x4 + (1 : Int32))), (0, .ref 0), (1, .int x1), (2, .int x2), (3, .int x3)] dX8_only_47 rfl rfl (by decide) rfl ?_
  refine g_goto C 3 dX8_only_50 (by decide) ?_
  exact g_sub [1, 2, 3, 4, 0] rfl (HK3 x1 x2 x3 (x4 + (1 : Int32)) σ2 h)
def f_X8_only_45 (kk3 : Int32 → Int32 → Int32 → Int32 → St → Option (St)) (x1 : Int32) (x2 : Int32) (x3 : Int32) (x4 : Int32) (xs0 : Int32) (σ : St) : Option (St) := (f_X8_only_46 kk3) x1 x2 x3 x4 (0 : Int64) xs0 σ
set_option maxRecDepth 20000 in
theorem s_X8_only_45 {R : St} (C : gC p s m args meth c D ca ad 26 LM RX8 cX8_only 5 none) {kk3 : Int32 → Int32 → Int32 → Int32 → St → Option (St)} (HK3 : ∀ (x1 : Int32) (x2 : Int32) (x3 : Int32) (x4 : Int32) (σ : St), kk3 x1 x2 x3 x4 σ = some R → G p l e rm_X8_only s m args below meth c D ca ad 26 LM 5 (gEnd below args s D ca ad 26 LM none R) 3 [(0, .ref 0), (1, .int x1), (2, .int x2), (3, .int x3), (4, .int x4)] [] σ) (x1 : Int32) (x2 : Int32) (x3 : Int32) (x4 : Int32) (xs0 : Int32) (σ : St) (h : f_X8_only_45 kk3 x1 x2 x3 x4 xs0 σ = some R) : G p l e rm_X8_only s m args below meth c D ca ad 26 LM 5 (gEnd below args s D ca ad 26 LM none R) 45 [(0, .ref 0), (1, .int x1), (2, .int x2), (3, .int x3), (4, .int x4)] [.int xs0, .ref 17] σ := by
  unfold f_X8_only_45 at h
  refine g_lconst C (0 : Int64) dX8_only_45 rfl ?_
  exact g_sub [0, 1, 2, 3, 4] rfl ((s_X8_only_46 C HK3) x1 x2 x3 x4 (0 : Int64) xs0 σ h)
def f_X8_only_3 : Nat → Int32 → Int32 → Int32 → Int32 → St → Option (St)
  | 0, _, _, _, _, _ => none
  | n + 1, x1, x2, x3, x4, σ => (if (σ.1 0 0) ≤ x4 then some σ else (if x4 < x2 then (f_X8_only_45 (f_X8_only_3 n)) x1 x2 x3 x4 (((40 : Int32) * x1) + x4) σ else (if x3 < x4 then (f_X8_only_45 (f_X8_only_3 n)) x1 x2 x3 x4 (((40 : Int32) * x1) + x4) σ else (f_X8_weightOf x1 x4 σ).bind (fun q4 => (f_X8_only_46 (f_X8_only_3 n)) x1 x2 x3 x4 q4.1 (((40 : Int32) * x1) + x4) q4.2))))
set_option maxRecDepth 20000 in
theorem s_X8_only_3 {R : St} (C : gC p s m args meth c D ca ad 26 LM RX8 cX8_only 5 none) : ∀ (n : Nat) (x1 : Int32) (x2 : Int32) (x3 : Int32) (x4 : Int32) (σ : St), f_X8_only_3 n x1 x2 x3 x4 σ = some R → G p l e rm_X8_only s m args below meth c D ca ad 26 LM 5 (gEnd below args s D ca ad 26 LM none R) 3 [(0, .ref 0), (1, .int x1), (2, .int x2), (3, .int x3), (4, .int x4)] [] σ := by
  intro n
  induction n with
  | zero =>
    intro x1 x2 x3 x4 σ h
    have h : none = some R := h
    cases h
  | succ n ih =>
    intro x1 x2 x3 x4 σ h
    rw [f_X8_only_3] at h
    refine g_iload C 4 dX8_only_3 rfl ?_
    refine g_aload_n C 0 dX8_only_5 rfl ?_
    refine g_getI C 0 rfl q_X8_7 rfl dX8_only_6 ?_
    refine g_icmp_ge C 53 dX8_only_9 (by decide) (fun hc1 => ?_) (fun hc1 => ?_)
    · have h := ite_t hc1 h
      obtain rfl := Option.some.inj h
      exact g_vret C dX8_only_53
    · have h := ite_f hc1 h
      refine g_aload_n C 0 dX8_only_12 rfl ?_
      refine g_getR C 26 17 rfl q_X8_66 rfl rfl dX8_only_13 ?_
      refine g_bipush C (40 : Int32) dX8_only_16 rfl ?_
      refine g_iload_n C 1 dX8_only_18 rfl ?_
      refine g_imul C dX8_only_19 ?_
      refine g_iload C 4 dX8_only_20 rfl ?_
      refine g_iadd C dX8_only_22 ?_
      refine g_iload C 4 dX8_only_23 rfl ?_
      refine g_iload_n C 2 dX8_only_25 rfl ?_
      refine g_icmp_lt C 45 dX8_only_26 (by decide) (fun hc2 => ?_) (fun hc2 => ?_)
      · have h := ite_t hc2 h
        exact g_sub [0, 1, 2, 3, 4] rfl ((s_X8_only_45 C ih) x1 x2 x3 x4 (((40 : Int32) * x1) + x4) σ h)
      · have h := ite_f hc2 h
        refine g_iload C 4 dX8_only_29 rfl ?_
        refine g_iload_n C 3 dX8_only_31 rfl ?_
        refine g_icmp_gt C 45 dX8_only_32 (by decide) (fun hc3 => ?_) (fun hc3 => ?_)
        · have h := ite_t hc3 h
          exact g_sub [0, 1, 2, 3, 4] rfl ((s_X8_only_45 C ih) x1 x2 x3 x4 (((40 : Int32) * x1) + x4) σ h)
        · have h := ite_f hc3 h
          refine g_aload_n C 0 dX8_only_35 rfl ?_
          refine g_iload_n C 1 dX8_only_36 rfl ?_
          refine g_iload C 4 dX8_only_37 rfl ?_
          obtain ⟨q4, hq4, h⟩ := bd h
          refine g_callVL C [.int x1, .int x4] qv_X8_132 (m_X8_weightOf hq4) rfl (by decide) rfl rfl rfl ⟨rfl, rfl⟩ ⟨by decide, by decide⟩ (Nat.le_of_ble_eq_true rfl) dX8_only_39 ?_
          refine g_goto C 46 dX8_only_42 (by decide) ?_
          exact g_sub [0, 1, 2, 3, 4] rfl ((s_X8_only_46 C ih) x1 x2 x3 x4 q4.1 (((40 : Int32) * x1) + x4) q4.2 h)
def f_X8_only (x1 : Int32) (x2 : Int32) (x3 : Int32) (σ : St) : Option (St) := (f_X8_only_3 FU) x1 x2 x3 (0 : Int32) σ
set_option maxRecDepth 20000 in
theorem m_X8_only {l : Launch} {D : va_G} {ca : Nat → ClassId} {ad : Nat → Nat} {x1 : Int32} {x2 : Int32} {x3 : Int32} {σ : St} {R : St} (h : f_X8_only x1 x2 x3 σ = some R) : gM l D ca ad 26 LM yX8_only cX8_only 5 none rm_X8_only [.ref 0, .int x1, .int x2, .int x3] σ none R := by
  refine gM_of (by decide) (Nat.le_of_ble_eq_true rfl) (fun p e s m args below meth c C => ?_)
  refine g_ent (ls' := [(0, .ref 0), (1, .int x1), (2, .int x2), (3, .int x3)]) rfl ?_
  unfold f_X8_only at h
  refine g_iconst C (0 : Int32) dX8_only_0 rfl ?_
  refine g_istore C [(4, .int (0 : Int32)), (0, .ref 0), (1, .int x1), (2, .int x2), (3, .int x3)] dX8_only_1 (by decide) rfl ?_
  exact g_sub [1, 2, 3, 4, 0] rfl ((s_X8_only_3 C FU) x1 x2 x3 (0 : Int32) σ h)
def f_X8_countIn (x1 : Int32) (x2 : Int32) (x3 : Int32) (σ : St) : Option (Int64 × St) := (f_X8_only x1 x2 x3 σ).bind (fun q1 => (f_X8_count q1).bind (fun q2 => (f_X8_only x1 (0 : Int32) ((q2.2.1 0 0) - (1 : Int32)) q2.2).bind (fun q3 => some (q2.1, q3))))
set_option maxRecDepth 20000 in
theorem m_X8_countIn {l : Launch} {D : va_G} {ca : Nat → ClassId} {ad : Nat → Nat} {x1 : Int32} {x2 : Int32} {x3 : Int32} {σ : St} {R : Int64 × St} (h : f_X8_countIn x1 x2 x3 σ = some R) : gM l D ca ad 26 LM yX8_countIn cX8_countIn 6 (some .long) rm_X8_countIn [.ref 0, .int x1, .int x2, .int x3] σ (some (.long R.1)) R.2 := by
  refine gM_of (by decide) (Nat.le_of_ble_eq_true rfl) (fun p e s m args below meth c C => ?_)
  refine g_ent (ls' := [(0, .ref 0), (1, .int x1), (2, .int x2), (3, .int x3)]) rfl ?_
  unfold f_X8_countIn at h
  refine g_aload_n C 0 dX8_countIn_0 rfl ?_
  refine g_iload_n C 1 dX8_countIn_1 rfl ?_
  refine g_iload_n C 2 dX8_countIn_2 rfl ?_
  refine g_iload_n C 3 dX8_countIn_3 rfl ?_
  obtain ⟨q1, hq1, h⟩ := bd h
  refine g_callVV C [.int x1, .int x2, .int x3] qv_X8_195 (m_X8_only hq1) rfl (by decide) rfl rfl rfl ⟨rfl, rfl⟩ ⟨by decide, by decide⟩ (Nat.le_of_ble_eq_true rfl) dX8_countIn_4 ?_
  refine g_aload_n C 0 dX8_countIn_7 rfl ?_
  obtain ⟨q2, hq2, h⟩ := bd h
  refine g_callVL C [] qv_X8_182 (m_X8_count hq2) rfl (by decide) rfl rfl rfl ⟨rfl, rfl⟩ ⟨by decide, by decide⟩ (Nat.le_of_ble_eq_true rfl) dX8_countIn_8 ?_
  refine g_lstore C [(4, .long q2.1), (0, .ref 0), (1, .int x1), (2, .int x2), (3, .int x3)] dX8_countIn_11 (by decide) rfl ?_
  refine g_aload_n C 1 dX8_countIn_13 rfl ?_
  refine g_iload_n C 2 dX8_countIn_14 rfl ?_
  refine g_iconst C (0 : Int32) dX8_countIn_15 rfl ?_
  refine g_aload_n C 1 dX8_countIn_16 rfl ?_
  refine g_getI C 0 rfl q_X8_7 rfl dX8_countIn_17 ?_
  refine g_iconst C (1 : Int32) dX8_countIn_20 rfl ?_
  refine g_isub C dX8_countIn_21 ?_
  obtain ⟨q3, hq3, h⟩ := bd h
  refine g_callVV C [.int x1, .int (0 : Int32), .int ((q2.2.1 0 0) - (1 : Int32))] qv_X8_195 (m_X8_only hq3) rfl (by decide) rfl rfl rfl ⟨rfl, rfl⟩ ⟨by decide, by decide⟩ (Nat.le_of_ble_eq_true rfl) dX8_countIn_22 ?_
  refine g_lload C 0 dX8_countIn_25 rfl ?_
  obtain rfl := Option.some.inj h
  exact g_lret C dX8_countIn_27
def f_X8_share (x1 : Int32) (x2 : Int32) (σ : St) : Option (Int64 × St) := (f_X8_isFind x1 σ).bind (fun q1 => (if q1.1 = 0 then some ((-2 : Int64), q1.2) else (f_X8_isYear x2 q1.2).bind (fun q3 => (if q3.1 = 0 then some ((-2 : Int64), q3.2) else (f_X8_askTotal q3.2).bind (fun q5 => (if q5.1 = 0 then (f_X8_countIn x1 x2 x2 q5.2).bind (fun q7 => (f_X8_fraction q7.1 (q7.2.2 0 33) q7.2).bind (fun q8 => some (q8.1, q8.2))) else some (q5.1.toInt64, q5.2)))))))
set_option maxRecDepth 20000 in
theorem m_X8_share {l : Launch} {D : va_G} {ca : Nat → ClassId} {ad : Nat → Nat} {x1 : Int32} {x2 : Int32} {σ : St} {R : Int64 × St} (h : f_X8_share x1 x2 σ = some R) : gM l D ca ad 26 LM yX8_share cX8_share 4 (some .long) rm_X8_share [.ref 0, .int x1, .int x2] σ (some (.long R.1)) R.2 := by
  refine gM_of (by decide) (Nat.le_of_ble_eq_true rfl) (fun p e s m args below meth c C => ?_)
  refine g_ent (ls' := [(0, .ref 0), (1, .int x1), (2, .int x2)]) rfl ?_
  unfold f_X8_share at h
  refine g_aload_n C 0 dX8_share_0 rfl ?_
  refine g_iload_n C 1 dX8_share_1 rfl ?_
  obtain ⟨q1, hq1, h⟩ := bd h
  refine g_callVI C [.int x1] qv_X8_117 (m_X8_isFind hq1) rfl (by decide) rfl rfl rfl ⟨rfl, rfl⟩ ⟨by decide, by decide⟩ (Nat.le_of_ble_eq_true rfl) dX8_share_2 ?_
  refine g_if_eq C 16 dX8_share_5 (by decide) (fun hc2 => ?_) (fun hc2 => ?_)
  · have h := ite_t hc2 h
    refine g_ldc2 C (-2 : Int64) qc_X8_199 dX8_share_16 ?_
    obtain rfl := Option.some.inj h
    exact g_lret C dX8_share_19
  · have h := ite_f hc2 h
    refine g_aload_n C 0 dX8_share_8 rfl ?_
    refine g_iload_n C 2 dX8_share_9 rfl ?_
    obtain ⟨q3, hq3, h⟩ := bd h
    refine g_callVI C [.int x2] qv_X8_135 (m_X8_isYear hq3) rfl (by decide) rfl rfl rfl ⟨rfl, rfl⟩ ⟨by decide, by decide⟩ (Nat.le_of_ble_eq_true rfl) dX8_share_10 ?_
    refine g_if_ne C 20 dX8_share_13 (by decide) (fun hc4 => ?_) (fun hc4 => ?_)
    · have h := ite_f hc4 h
      refine g_aload_n C 0 dX8_share_20 rfl ?_
      obtain ⟨q5, hq5, h⟩ := bd h
      refine g_callVI C [] qv_X8_201 (m_X8_askTotal hq5) rfl (by decide) rfl rfl rfl ⟨rfl, rfl⟩ ⟨by decide, by decide⟩ (Nat.le_of_ble_eq_true rfl) dX8_share_21 ?_
      refine g_istore_n C [(3, .int q5.1), (0, .ref 0), (1, .int x1), (2, .int x2)] dX8_share_24 (by decide) rfl ?_
      refine g_iload_n C 0 dX8_share_25 rfl ?_
      refine g_if_eq C 34 dX8_share_26 (by decide) (fun hc6 => ?_) (fun hc6 => ?_)
      · have h := ite_t hc6 h
        refine g_aload_n C 1 dX8_share_34 rfl ?_
        refine g_aload_n C 1 dX8_share_35 rfl ?_
        refine g_iload_n C 2 dX8_share_36 rfl ?_
        refine g_iload_n C 3 dX8_share_37 rfl ?_
        refine g_iload_n C 3 dX8_share_38 rfl ?_
        obtain ⟨q7, hq7, h⟩ := bd h
        refine g_callVL C [.int x1, .int x2, .int x2] qv_X8_204 (m_X8_countIn hq7) rfl (by decide) rfl rfl rfl ⟨rfl, rfl⟩ ⟨by decide, by decide⟩ (Nat.le_of_ble_eq_true rfl) dX8_share_39 ?_
        refine g_aload_n C 1 dX8_share_42 rfl ?_
        refine g_getL C 33 rfl q_X8_186 rfl dX8_share_43 ?_
        obtain ⟨q8, hq8, h⟩ := bd h
        refine g_callVL C [.long q7.1, .long (q7.2.2 0 33)] qv_X8_208 (m_X8_fraction hq8) rfl (by decide) rfl rfl rfl ⟨rfl, rfl⟩ ⟨by decide, by decide⟩ (Nat.le_of_ble_eq_true rfl) dX8_share_46 ?_
        obtain rfl := Option.some.inj h
        exact g_lret C dX8_share_49
      · have h := ite_f hc6 h
        refine g_iload_n C 0 dX8_share_29 rfl ?_
        refine g_i2l C dX8_share_30 ?_
        refine g_goto C 49 dX8_share_31 (by decide) ?_
        obtain rfl := Option.some.inj h
        exact g_lret C dX8_share_49
    · have h := ite_t hc4 h
      refine g_ldc2 C (-2 : Int64) qc_X8_199 dX8_share_16 ?_
      obtain rfl := Option.some.inj h
      exact g_lret C dX8_share_19
def f_X8_until (x1 : Int32) (x2 : Int32) (σ : St) : Option (Int64 × St) := (f_X8_isFind x1 σ).bind (fun q1 => (if q1.1 = 0 then some ((-2 : Int64), q1.2) else (f_X8_isYear x2 q1.2).bind (fun q3 => (if q3.1 = 0 then some ((-2 : Int64), q3.2) else (f_X8_askTotal q3.2).bind (fun q5 => (if q5.1 = 0 then (f_X8_countIn x1 (0 : Int32) x2 q5.2).bind (fun q7 => (f_X8_fraction q7.1 (q7.2.2 0 33) q7.2).bind (fun q8 => some (q8.1, q8.2))) else some (q5.1.toInt64, q5.2)))))))
set_option maxRecDepth 20000 in
theorem m_X8_until {l : Launch} {D : va_G} {ca : Nat → ClassId} {ad : Nat → Nat} {x1 : Int32} {x2 : Int32} {σ : St} {R : Int64 × St} (h : f_X8_until x1 x2 σ = some R) : gM l D ca ad 26 LM yX8_until cX8_until 4 (some .long) rm_X8_until [.ref 0, .int x1, .int x2] σ (some (.long R.1)) R.2 := by
  refine gM_of (by decide) (Nat.le_of_ble_eq_true rfl) (fun p e s m args below meth c C => ?_)
  refine g_ent (ls' := [(0, .ref 0), (1, .int x1), (2, .int x2)]) rfl ?_
  unfold f_X8_until at h
  refine g_aload_n C 0 dX8_until_0 rfl ?_
  refine g_iload_n C 1 dX8_until_1 rfl ?_
  obtain ⟨q1, hq1, h⟩ := bd h
  refine g_callVI C [.int x1] qv_X8_117 (m_X8_isFind hq1) rfl (by decide) rfl rfl rfl ⟨rfl, rfl⟩ ⟨by decide, by decide⟩ (Nat.le_of_ble_eq_true rfl) dX8_until_2 ?_
  refine g_if_eq C 16 dX8_until_5 (by decide) (fun hc2 => ?_) (fun hc2 => ?_)
  · have h := ite_t hc2 h
    refine g_ldc2 C (-2 : Int64) qc_X8_199 dX8_until_16 ?_
    obtain rfl := Option.some.inj h
    exact g_lret C dX8_until_19
  · have h := ite_f hc2 h
    refine g_aload_n C 0 dX8_until_8 rfl ?_
    refine g_iload_n C 2 dX8_until_9 rfl ?_
    obtain ⟨q3, hq3, h⟩ := bd h
    refine g_callVI C [.int x2] qv_X8_135 (m_X8_isYear hq3) rfl (by decide) rfl rfl rfl ⟨rfl, rfl⟩ ⟨by decide, by decide⟩ (Nat.le_of_ble_eq_true rfl) dX8_until_10 ?_
    refine g_if_ne C 20 dX8_until_13 (by decide) (fun hc4 => ?_) (fun hc4 => ?_)
    · have h := ite_f hc4 h
      refine g_aload_n C 0 dX8_until_20 rfl ?_
      obtain ⟨q5, hq5, h⟩ := bd h
      refine g_callVI C [] qv_X8_201 (m_X8_askTotal hq5) rfl (by decide) rfl rfl rfl ⟨rfl, rfl⟩ ⟨by decide, by decide⟩ (Nat.le_of_ble_eq_true rfl) dX8_until_21 ?_
      refine g_istore_n C [(3, .int q5.1), (0, .ref 0), (1, .int x1), (2, .int x2)] dX8_until_24 (by decide) rfl ?_
      refine g_iload_n C 0 dX8_until_25 rfl ?_
      refine g_if_eq C 34 dX8_until_26 (by decide) (fun hc6 => ?_) (fun hc6 => ?_)
      · have h := ite_t hc6 h
        refine g_aload_n C 1 dX8_until_34 rfl ?_
        refine g_aload_n C 1 dX8_until_35 rfl ?_
        refine g_iload_n C 2 dX8_until_36 rfl ?_
        refine g_iconst C (0 : Int32) dX8_until_37 rfl ?_
        refine g_iload_n C 3 dX8_until_38 rfl ?_
        obtain ⟨q7, hq7, h⟩ := bd h
        refine g_callVL C [.int x1, .int (0 : Int32), .int x2] qv_X8_204 (m_X8_countIn hq7) rfl (by decide) rfl rfl rfl ⟨rfl, rfl⟩ ⟨by decide, by decide⟩ (Nat.le_of_ble_eq_true rfl) dX8_until_39 ?_
        refine g_aload_n C 1 dX8_until_42 rfl ?_
        refine g_getL C 33 rfl q_X8_186 rfl dX8_until_43 ?_
        obtain ⟨q8, hq8, h⟩ := bd h
        refine g_callVL C [.long q7.1, .long (q7.2.2 0 33)] qv_X8_208 (m_X8_fraction hq8) rfl (by decide) rfl rfl rfl ⟨rfl, rfl⟩ ⟨by decide, by decide⟩ (Nat.le_of_ble_eq_true rfl) dX8_until_46 ?_
        obtain rfl := Option.some.inj h
        exact g_lret C dX8_until_49
      · have h := ite_f hc6 h
        refine g_iload_n C 0 dX8_until_29 rfl ?_
        refine g_i2l C dX8_until_30 ?_
        refine g_goto C 49 dX8_until_31 (by decide) ?_
        obtain rfl := Option.some.inj h
        exact g_lret C dX8_until_49
    · have h := ite_t hc4 h
      refine g_ldc2 C (-2 : Int64) qc_X8_199 dX8_until_16 ?_
      obtain rfl := Option.some.inj h
      exact g_lret C dX8_until_19
def f_X8_together_41 (kk6 : Int32 → Int32 → Int32 → Int32 → Int64 → Int32 → St → Option (Int64 × St)) (x1 : Int32) (x2 : Int32) (x3 : Int32) (x4 : Int32) (x5 : Int64) (x7 : Int32) (xs0 : Int32) (xs1 : Int32) (σ : St) : Option (Int64 × St) := (f_X8_only xs1 xs0 (x7 + x4) σ).bind (fun q1 => (f_X8_count q1).bind (fun q2 => kk6 x1 x2 x3 x4 (x5 + q2.1) (x7 + (1 : Int32)) q2.2))
set_option maxRecDepth 20000 in
theorem s_X8_together_41 {R : Int64 × St} (C : gC p s m args meth c D ca ad 26 LM RX8 cX8_together 8 (some .long)) {kk6 : Int32 → Int32 → Int32 → Int32 → Int64 → Int32 → St → Option (Int64 × St)} (HK6 : ∀ (x1 : Int32) (x2 : Int32) (x3 : Int32) (x4 : Int32) (x5 : Int64) (x7 : Int32) (σ : St), kk6 x1 x2 x3 x4 x5 x7 σ = some R → G p l e rm_X8_together s m args below meth c D ca ad 26 LM 8 (gEnd below args s D ca ad 26 LM (some (.long R.1)) R.2) 6 [(0, .ref 0), (1, .int x1), (2, .int x2), (3, .int x3), (4, .int x4), (5, .long x5), (7, .int x7)] [] σ) (x1 : Int32) (x2 : Int32) (x3 : Int32) (x4 : Int32) (x5 : Int64) (x7 : Int32) (xs0 : Int32) (xs1 : Int32) (σ : St) (h : f_X8_together_41 kk6 x1 x2 x3 x4 x5 x7 xs0 xs1 σ = some R) : G p l e rm_X8_together s m args below meth c D ca ad 26 LM 8 (gEnd below args s D ca ad 26 LM (some (.long R.1)) R.2) 41 [(0, .ref 0), (1, .int x1), (2, .int x2), (3, .int x3), (4, .int x4), (5, .long x5), (7, .int x7)] [.int xs0, .int xs1, .ref 0] σ := by
  unfold f_X8_together_41 at h
  refine g_iload C 6 dX8_together_41 rfl ?_
  refine g_iload C 4 dX8_together_43 rfl ?_
  refine g_iadd C dX8_together_45 ?_
  obtain ⟨q1, hq1, h⟩ := bd h
  refine g_callVV C [.int xs1, .int xs0, .int (x7 + x4)] qv_X8_195 (m_X8_only hq1) rfl (by decide) rfl rfl rfl ⟨rfl, rfl⟩ ⟨by decide, by decide⟩ (Nat.le_of_ble_eq_true rfl) dX8_together_46 ?_
  refine g_lload C 5 dX8_together_49 rfl ?_
  refine g_aload_n C 0 dX8_together_51 rfl ?_
  obtain ⟨q2, hq2, h⟩ := bd h
  refine g_callVL C [] qv_X8_182 (m_X8_count hq2) rfl (by decide) rfl rfl rfl ⟨rfl, rfl⟩ ⟨by decide, by decide⟩ (Nat.le_of_ble_eq_true rfl) dX8_together_52 ?_
  refine g_ladd C dX8_together_55 ?_
  refine g_lstore C [(5, .long (x5 + q2.1)), (0, .ref 0), (1, .int x1), (2, .int x2), (3, .int x3), (4, .int x4), (7, .int x7)] dX8_together_56 (by decide) rfl ?_
  refine g_iinc C 6 [(7, .int (x7 + (1 : Int32))), (5, .long (x5 + q2.1)), (0, .ref 0), (1, .int x1), (2, .int x2), (3, .int x3), (4, .int x4)] dX8_together_58 rfl rfl (by decide) rfl ?_
  refine g_goto C 6 dX8_together_61 (by decide) ?_
  exact g_sub [2, 3, 4, 5, 6, 1, 0] rfl (HK6 x1 x2 x3 x4 (x5 + q2.1) (x7 + (1 : Int32)) q2.2 h)
def f_X8_together_6 : Nat → Int32 → Int32 → Int32 → Int32 → Int64 → Int32 → St → Option (Int64 × St)
  | 0, _, _, _, _, _, _, _ => none
  | n + 1, x1, x2, x3, x4, x5, x7, σ => (if (σ.1 0 0) ≤ x7 then some (x5, σ) else (f_X8_only x1 x7 x7 σ).bind (fun q2 => (if (x7 + x3) ≤ 0 then (f_X8_together_41 (f_X8_together_6 n)) x1 x2 x3 x4 x5 x7 (0 : Int32) x2 q2 else (f_X8_together_41 (f_X8_together_6 n)) x1 x2 x3 x4 x5 x7 (x7 + x3) x2 q2)))
set_option maxRecDepth 20000 in
theorem s_X8_together_6 {R : Int64 × St} (C : gC p s m args meth c D ca ad 26 LM RX8 cX8_together 8 (some .long)) : ∀ (n : Nat) (x1 : Int32) (x2 : Int32) (x3 : Int32) (x4 : Int32) (x5 : Int64) (x7 : Int32) (σ : St), f_X8_together_6 n x1 x2 x3 x4 x5 x7 σ = some R → G p l e rm_X8_together s m args below meth c D ca ad 26 LM 8 (gEnd below args s D ca ad 26 LM (some (.long R.1)) R.2) 6 [(0, .ref 0), (1, .int x1), (2, .int x2), (3, .int x3), (4, .int x4), (5, .long x5), (7, .int x7)] [] σ := by
  intro n
  induction n with
  | zero =>
    intro x1 x2 x3 x4 x5 x7 σ h
    have h : none = some R := h
    cases h
  | succ n ih =>
    intro x1 x2 x3 x4 x5 x7 σ h
    rw [f_X8_together_6] at h
    refine g_iload C 6 dX8_together_6 rfl ?_
    refine g_aload_n C 0 dX8_together_8 rfl ?_
    refine g_getI C 0 rfl q_X8_7 rfl dX8_together_9 ?_
    refine g_icmp_ge C 64 dX8_together_12 (by decide) (fun hc1 => ?_) (fun hc1 => ?_)
    · have h := ite_t hc1 h
      refine g_lload C 5 dX8_together_64 rfl ?_
      obtain rfl := Option.some.inj h
      exact g_lret C dX8_together_66
    · have h := ite_f hc1 h
      refine g_aload_n C 0 dX8_together_15 rfl ?_
      refine g_iload_n C 1 dX8_together_16 rfl ?_
      refine g_iload C 6 dX8_together_17 rfl ?_
      refine g_iload C 6 dX8_together_19 rfl ?_
      obtain ⟨q2, hq2, h⟩ := bd h
      refine g_callVV C [.int x1, .int x7, .int x7] qv_X8_195 (m_X8_only hq2) rfl (by decide) rfl rfl rfl ⟨rfl, rfl⟩ ⟨by decide, by decide⟩ (Nat.le_of_ble_eq_true rfl) dX8_together_21 ?_
      refine g_aload_n C 0 dX8_together_24 rfl ?_
      refine g_iload_n C 2 dX8_together_25 rfl ?_
      refine g_iload C 6 dX8_together_26 rfl ?_
      refine g_iload_n C 3 dX8_together_28 rfl ?_
      refine g_iadd C dX8_together_29 ?_
      refine g_if_le C 40 dX8_together_30 (by decide) (fun hc3 => ?_) (fun hc3 => ?_)
      · have h := ite_t hc3 h
        refine g_iconst C (0 : Int32) dX8_together_40 rfl ?_
        exact g_sub [0, 1, 2, 3, 4, 5, 6] rfl ((s_X8_together_41 C ih) x1 x2 x3 x4 x5 x7 (0 : Int32) x2 q2 h)
      · have h := ite_f hc3 h
        refine g_iload C 6 dX8_together_33 rfl ?_
        refine g_iload_n C 3 dX8_together_35 rfl ?_
        refine g_iadd C dX8_together_36 ?_
        refine g_goto C 41 dX8_together_37 (by decide) ?_
        exact g_sub [0, 1, 2, 3, 4, 5, 6] rfl ((s_X8_together_41 C ih) x1 x2 x3 x4 x5 x7 (x7 + x3) x2 q2 h)
def f_X8_together (x1 : Int32) (x2 : Int32) (x3 : Int32) (x4 : Int32) (σ : St) : Option (Int64 × St) := (f_X8_together_6 FU) x1 x2 x3 x4 (0 : Int64) (0 : Int32) σ
set_option maxRecDepth 20000 in
theorem m_X8_together {l : Launch} {D : va_G} {ca : Nat → ClassId} {ad : Nat → Nat} {x1 : Int32} {x2 : Int32} {x3 : Int32} {x4 : Int32} {σ : St} {R : Int64 × St} (h : f_X8_together x1 x2 x3 x4 σ = some R) : gM l D ca ad 26 LM yX8_together cX8_together 8 (some .long) rm_X8_together [.ref 0, .int x1, .int x2, .int x3, .int x4] σ (some (.long R.1)) R.2 := by
  refine gM_of (by decide) (Nat.le_of_ble_eq_true rfl) (fun p e s m args below meth c C => ?_)
  refine g_ent (ls' := [(0, .ref 0), (1, .int x1), (2, .int x2), (3, .int x3), (4, .int x4)]) rfl ?_
  unfold f_X8_together at h
  refine g_lconst C (0 : Int64) dX8_together_0 rfl ?_
  refine g_lstore C [(5, .long (0 : Int64)), (0, .ref 0), (1, .int x1), (2, .int x2), (3, .int x3), (4, .int x4)] dX8_together_1 (by decide) rfl ?_
  refine g_iconst C (0 : Int32) dX8_together_3 rfl ?_
  refine g_istore C [(7, .int (0 : Int32)), (5, .long (0 : Int64)), (0, .ref 0), (1, .int x1), (2, .int x2), (3, .int x3), (4, .int x4)] dX8_together_4 (by decide) rfl ?_
  exact g_sub [2, 3, 4, 5, 6, 1, 0] rfl ((s_X8_together_6 C FU) x1 x2 x3 x4 (0 : Int64) (0 : Int32) σ h)
def f_X8_order (x1 : Int32) (x2 : Int32) (σ : St) : Option (Int64 × St) := (f_X8_isFind x1 σ).bind (fun q1 => (if q1.1 = 0 then some ((-2 : Int64), q1.2) else (f_X8_isFind x2 q1.2).bind (fun q3 => (if q3.1 = 0 then some ((-2 : Int64), q3.2) else (f_X8_askTotal q3.2).bind (fun q5 => (if q5.1 = 0 then (if x1 = x2 then (f_X8_fraction (0 : Int64) (q5.2.2 0 33) q5.2).bind (fun q10 => some (q10.1, q10.2)) else (f_X8_together x1 x2 (1 : Int32) (40 : Int32) q5.2).bind (fun q8 => (f_X8_fraction q8.1 (q8.2.2 0 33) q8.2).bind (fun q9 => some (q9.1, q9.2)))) else some (q5.1.toInt64, q5.2)))))))
set_option maxRecDepth 20000 in
theorem m_X8_order {l : Launch} {D : va_G} {ca : Nat → ClassId} {ad : Nat → Nat} {x1 : Int32} {x2 : Int32} {σ : St} {R : Int64 × St} (h : f_X8_order x1 x2 σ = some R) : gM l D ca ad 26 LM yX8_order cX8_order 4 (some .long) rm_X8_order [.ref 0, .int x1, .int x2] σ (some (.long R.1)) R.2 := by
  refine gM_of (by decide) (Nat.le_of_ble_eq_true rfl) (fun p e s m args below meth c C => ?_)
  refine g_ent (ls' := [(0, .ref 0), (1, .int x1), (2, .int x2)]) rfl ?_
  unfold f_X8_order at h
  refine g_aload_n C 0 dX8_order_0 rfl ?_
  refine g_iload_n C 1 dX8_order_1 rfl ?_
  obtain ⟨q1, hq1, h⟩ := bd h
  refine g_callVI C [.int x1] qv_X8_117 (m_X8_isFind hq1) rfl (by decide) rfl rfl rfl ⟨rfl, rfl⟩ ⟨by decide, by decide⟩ (Nat.le_of_ble_eq_true rfl) dX8_order_2 ?_
  refine g_if_eq C 16 dX8_order_5 (by decide) (fun hc2 => ?_) (fun hc2 => ?_)
  · have h := ite_t hc2 h
    refine g_ldc2 C (-2 : Int64) qc_X8_199 dX8_order_16 ?_
    obtain rfl := Option.some.inj h
    exact g_lret C dX8_order_19
  · have h := ite_f hc2 h
    refine g_aload_n C 0 dX8_order_8 rfl ?_
    refine g_iload_n C 2 dX8_order_9 rfl ?_
    obtain ⟨q3, hq3, h⟩ := bd h
    refine g_callVI C [.int x2] qv_X8_117 (m_X8_isFind hq3) rfl (by decide) rfl rfl rfl ⟨rfl, rfl⟩ ⟨by decide, by decide⟩ (Nat.le_of_ble_eq_true rfl) dX8_order_10 ?_
    refine g_if_ne C 20 dX8_order_13 (by decide) (fun hc4 => ?_) (fun hc4 => ?_)
    · have h := ite_f hc4 h
      refine g_aload_n C 0 dX8_order_20 rfl ?_
      obtain ⟨q5, hq5, h⟩ := bd h
      refine g_callVI C [] qv_X8_201 (m_X8_askTotal hq5) rfl (by decide) rfl rfl rfl ⟨rfl, rfl⟩ ⟨by decide, by decide⟩ (Nat.le_of_ble_eq_true rfl) dX8_order_21 ?_
      refine g_istore_n C [(3, .int q5.1), (0, .ref 0), (1, .int x1), (2, .int x2)] dX8_order_24 (by decide) rfl ?_
      refine g_iload_n C 0 dX8_order_25 rfl ?_
      refine g_if_eq C 32 dX8_order_26 (by decide) (fun hc6 => ?_) (fun hc6 => ?_)
      · have h := ite_t hc6 h
        refine g_iload_n C 2 dX8_order_32 rfl ?_
        refine g_iload_n C 3 dX8_order_33 rfl ?_
        refine g_icmp_ne C 49 dX8_order_34 (by decide) (fun hc7 => ?_) (fun hc7 => ?_)
        · have h := ite_f hc7 h
          refine g_aload_n C 1 dX8_order_49 rfl ?_
          refine g_aload_n C 1 dX8_order_50 rfl ?_
          refine g_iload_n C 2 dX8_order_51 rfl ?_
          refine g_iload_n C 3 dX8_order_52 rfl ?_
          refine g_iconst C (1 : Int32) dX8_order_53 rfl ?_
          refine g_bipush C (40 : Int32) dX8_order_54 rfl ?_
          obtain ⟨q8, hq8, h⟩ := bd h
          refine g_callVL C [.int x1, .int x2, .int (1 : Int32), .int (40 : Int32)] qv_X8_211 (m_X8_together hq8) rfl (by decide) rfl rfl rfl ⟨rfl, rfl⟩ ⟨by decide, by decide⟩ (Nat.le_of_ble_eq_true rfl) dX8_order_56 ?_
          refine g_aload_n C 1 dX8_order_59 rfl ?_
          refine g_getL C 33 rfl q_X8_186 rfl dX8_order_60 ?_
          obtain ⟨q9, hq9, h⟩ := bd h
          refine g_callVL C [.long q8.1, .long (q8.2.2 0 33)] qv_X8_208 (m_X8_fraction hq9) rfl (by decide) rfl rfl rfl ⟨rfl, rfl⟩ ⟨by decide, by decide⟩ (Nat.le_of_ble_eq_true rfl) dX8_order_63 ?_
          obtain rfl := Option.some.inj h
          exact g_lret C dX8_order_66
        · have h := ite_t hc7 h
          refine g_aload_n C 1 dX8_order_37 rfl ?_
          refine g_lconst C (0 : Int64) dX8_order_38 rfl ?_
          refine g_aload_n C 1 dX8_order_39 rfl ?_
          refine g_getL C 33 rfl q_X8_186 rfl dX8_order_40 ?_
          obtain ⟨q10, hq10, h⟩ := bd h
          refine g_callVL C [.long (0 : Int64), .long (q5.2.2 0 33)] qv_X8_208 (m_X8_fraction hq10) rfl (by decide) rfl rfl rfl ⟨rfl, rfl⟩ ⟨by decide, by decide⟩ (Nat.le_of_ble_eq_true rfl) dX8_order_43 ?_
          refine g_goto C 66 dX8_order_46 (by decide) ?_
          obtain rfl := Option.some.inj h
          exact g_lret C dX8_order_66
      · have h := ite_f hc6 h
        refine g_iload_n C 0 dX8_order_29 rfl ?_
        refine g_i2l C dX8_order_30 ?_
        obtain rfl := Option.some.inj h
        exact g_lret C dX8_order_31
    · have h := ite_t hc4 h
      refine g_ldc2 C (-2 : Int64) qc_X8_199 dX8_order_16 ?_
      obtain rfl := Option.some.inj h
      exact g_lret C dX8_order_19
def f_X8_apart_64 (xs0 : Int64) (σ : St) : Option (Int64 × St) := (f_X8_fraction xs0 (σ.2 0 33) σ).bind (fun q1 => some (q1.1, q1.2))
set_option maxRecDepth 20000 in
theorem s_X8_apart_64 {R : Int64 × St} (C : gC p s m args meth c D ca ad 26 LM RX8 cX8_apart 8 (some .long)) (xs0 : Int64) (σ : St) (h : f_X8_apart_64 xs0 σ = some R) : G p l e rm_X8_apart s m args below meth c D ca ad 26 LM 8 (gEnd below args s D ca ad 26 LM (some (.long R.1)) R.2) 64 [(0, .ref 0)] [.long xs0, .ref 0] σ := by
  unfold f_X8_apart_64 at h
  refine g_aload_n C 0 dX8_apart_64 rfl ?_
  refine g_getL C 33 rfl q_X8_186 rfl dX8_apart_65 ?_
  obtain ⟨q1, hq1, h⟩ := bd h
  refine g_callVL C [.long xs0, .long (σ.2 0 33)] qv_X8_208 (m_X8_fraction hq1) rfl (by decide) rfl rfl rfl ⟨rfl, rfl⟩ ⟨by decide, by decide⟩ (Nat.le_of_ble_eq_true rfl) dX8_apart_68 ?_
  obtain rfl := Option.some.inj h
  exact g_lret C dX8_apart_71
def f_X8_apart_129 (kk78 : Int32 → Int32 → Int32 → Int64 → Int32 → St → Option (Int64 × St)) (x1 : Int32) (x2 : Int32) (x3 : Int32) (x5 : Int64) (x7 : Int32) (σ : St) : Option (Int64 × St) := kk78 x1 x2 x3 x5 (x7 + (1 : Int32)) σ
set_option maxRecDepth 20000 in
theorem s_X8_apart_129 {R : Int64 × St} (C : gC p s m args meth c D ca ad 26 LM RX8 cX8_apart 8 (some .long)) {kk78 : Int32 → Int32 → Int32 → Int64 → Int32 → St → Option (Int64 × St)} (HK78 : ∀ (x1 : Int32) (x2 : Int32) (x3 : Int32) (x5 : Int64) (x7 : Int32) (σ : St), kk78 x1 x2 x3 x5 x7 σ = some R → G p l e rm_X8_apart s m args below meth c D ca ad 26 LM 8 (gEnd below args s D ca ad 26 LM (some (.long R.1)) R.2) 78 [(0, .ref 0), (1, .int x1), (2, .int x2), (3, .int x3), (5, .long x5), (7, .int x7)] [] σ) (x1 : Int32) (x2 : Int32) (x3 : Int32) (x5 : Int64) (x7 : Int32) (σ : St) (h : f_X8_apart_129 kk78 x1 x2 x3 x5 x7 σ = some R) : G p l e rm_X8_apart s m args below meth c D ca ad 26 LM 8 (gEnd below args s D ca ad 26 LM (some (.long R.1)) R.2) 129 [(0, .ref 0), (1, .int x1), (2, .int x2), (3, .int x3), (5, .long x5), (7, .int x7)] [] σ := by
  unfold f_X8_apart_129 at h
  refine g_iinc C 5 [(7, .int (x7 + (1 : Int32))), (0, .ref 0), (1, .int x1), (2, .int x2), (3, .int x3), (5, .long x5)] dX8_apart_129 rfl rfl (by decide) rfl ?_
  refine g_goto C 78 dX8_apart_132 (by decide) ?_
  exact g_sub [1, 2, 3, 4, 5, 0] rfl (HK78 x1 x2 x3 x5 (x7 + (1 : Int32)) σ h)
def f_X8_apart_78 (kk135 : Int64 → St → Option (Int64 × St)) : Nat → Int32 → Int32 → Int32 → Int64 → Int32 → St → Option (Int64 × St)
  | 0, _, _, _, _, _, _ => none
  | n + 1, x1, x2, x3, x5, x7, σ => (if (σ.1 0 0) ≤ x7 then kk135 x5 σ else (f_X8_isYear (x7 + x3) σ).bind (fun q2 => (if q2.1 = 0 then (f_X8_apart_129 (f_X8_apart_78 kk135 n)) x1 x2 x3 x5 x7 q2.2 else (f_X8_only x1 x7 x7 q2.2).bind (fun q4 => (f_X8_only x2 (x7 + x3) (x7 + x3) q4).bind (fun q5 => (f_X8_count q5).bind (fun q6 => (f_X8_apart_129 (f_X8_apart_78 kk135 n)) x1 x2 x3 (x5 + q6.1) x7 q6.2))))))
set_option maxRecDepth 20000 in
theorem s_X8_apart_78 {R : Int64 × St} (C : gC p s m args meth c D ca ad 26 LM RX8 cX8_apart 8 (some .long)) {kk135 : Int64 → St → Option (Int64 × St)} (HK135 : ∀ (x5 : Int64) (σ : St), kk135 x5 σ = some R → G p l e rm_X8_apart s m args below meth c D ca ad 26 LM 8 (gEnd below args s D ca ad 26 LM (some (.long R.1)) R.2) 135 [(0, .ref 0), (5, .long x5)] [] σ) : ∀ (n : Nat) (x1 : Int32) (x2 : Int32) (x3 : Int32) (x5 : Int64) (x7 : Int32) (σ : St), f_X8_apart_78 kk135 n x1 x2 x3 x5 x7 σ = some R → G p l e rm_X8_apart s m args below meth c D ca ad 26 LM 8 (gEnd below args s D ca ad 26 LM (some (.long R.1)) R.2) 78 [(0, .ref 0), (1, .int x1), (2, .int x2), (3, .int x3), (5, .long x5), (7, .int x7)] [] σ := by
  intro n
  induction n with
  | zero =>
    intro x1 x2 x3 x5 x7 σ h
    have h : none = some R := h
    cases h
  | succ n ih =>
    intro x1 x2 x3 x5 x7 σ h
    rw [f_X8_apart_78] at h
    refine g_iload C 5 dX8_apart_78 rfl ?_
    refine g_aload_n C 0 dX8_apart_80 rfl ?_
    refine g_getI C 0 rfl q_X8_7 rfl dX8_apart_81 ?_
    refine g_icmp_ge C 135 dX8_apart_84 (by decide) (fun hc1 => ?_) (fun hc1 => ?_)
    · have h := ite_t hc1 h
      exact g_sub [0, 4] rfl (HK135 x5 σ h)
    · have h := ite_f hc1 h
      refine g_aload_n C 0 dX8_apart_87 rfl ?_
      refine g_iload C 5 dX8_apart_88 rfl ?_
      refine g_iload_n C 3 dX8_apart_90 rfl ?_
      refine g_iadd C dX8_apart_91 ?_
      obtain ⟨q2, hq2, h⟩ := bd h
      refine g_callVI C [.int (x7 + x3)] qv_X8_135 (m_X8_isYear hq2) rfl (by decide) rfl rfl rfl ⟨rfl, rfl⟩ ⟨by decide, by decide⟩ (Nat.le_of_ble_eq_true rfl) dX8_apart_92 ?_
      refine g_if_eq C 129 dX8_apart_95 (by decide) (fun hc3 => ?_) (fun hc3 => ?_)
      · have h := ite_t hc3 h
        exact g_sub [0, 1, 2, 3, 4, 5] rfl ((s_X8_apart_129 C ih) x1 x2 x3 x5 x7 q2.2 h)
      · have h := ite_f hc3 h
        refine g_aload_n C 0 dX8_apart_98 rfl ?_
        refine g_iload_n C 1 dX8_apart_99 rfl ?_
        refine g_iload C 5 dX8_apart_100 rfl ?_
        refine g_iload C 5 dX8_apart_102 rfl ?_
        obtain ⟨q4, hq4, h⟩ := bd h
        refine g_callVV C [.int x1, .int x7, .int x7] qv_X8_195 (m_X8_only hq4) rfl (by decide) rfl rfl rfl ⟨rfl, rfl⟩ ⟨by decide, by decide⟩ (Nat.le_of_ble_eq_true rfl) dX8_apart_104 ?_
        refine g_aload_n C 0 dX8_apart_107 rfl ?_
        refine g_iload_n C 2 dX8_apart_108 rfl ?_
        refine g_iload C 5 dX8_apart_109 rfl ?_
        refine g_iload_n C 3 dX8_apart_111 rfl ?_
        refine g_iadd C dX8_apart_112 ?_
        refine g_iload C 5 dX8_apart_113 rfl ?_
        refine g_iload_n C 3 dX8_apart_115 rfl ?_
        refine g_iadd C dX8_apart_116 ?_
        obtain ⟨q5, hq5, h⟩ := bd h
        refine g_callVV C [.int x2, .int (x7 + x3), .int (x7 + x3)] qv_X8_195 (m_X8_only hq5) rfl (by decide) rfl rfl rfl ⟨rfl, rfl⟩ ⟨by decide, by decide⟩ (Nat.le_of_ble_eq_true rfl) dX8_apart_117 ?_
        refine g_lload C 4 dX8_apart_120 rfl ?_
        refine g_aload_n C 0 dX8_apart_122 rfl ?_
        obtain ⟨q6, hq6, h⟩ := bd h
        refine g_callVL C [] qv_X8_182 (m_X8_count hq6) rfl (by decide) rfl rfl rfl ⟨rfl, rfl⟩ ⟨by decide, by decide⟩ (Nat.le_of_ble_eq_true rfl) dX8_apart_123 ?_
        refine g_ladd C dX8_apart_126 ?_
        refine g_lstore C [(5, .long (x5 + q6.1)), (0, .ref 0), (1, .int x1), (2, .int x2), (3, .int x3), (7, .int x7)] dX8_apart_127 (by decide) rfl ?_
        exact g_sub [1, 2, 3, 4, 0, 5] rfl ((s_X8_apart_129 C ih) x1 x2 x3 (x5 + q6.1) x7 q6.2 h)
def f_X8_apart_135 (x5 : Int64) (σ : St) : Option (Int64 × St) := (f_X8_fraction x5 (σ.2 0 33) σ).bind (fun q1 => some (q1.1, q1.2))
set_option maxRecDepth 20000 in
theorem s_X8_apart_135 {R : Int64 × St} (C : gC p s m args meth c D ca ad 26 LM RX8 cX8_apart 8 (some .long)) (x5 : Int64) (σ : St) (h : f_X8_apart_135 x5 σ = some R) : G p l e rm_X8_apart s m args below meth c D ca ad 26 LM 8 (gEnd below args s D ca ad 26 LM (some (.long R.1)) R.2) 135 [(0, .ref 0), (5, .long x5)] [] σ := by
  unfold f_X8_apart_135 at h
  refine g_aload_n C 0 dX8_apart_135 rfl ?_
  refine g_lload C 1 dX8_apart_136 rfl ?_
  refine g_aload_n C 0 dX8_apart_138 rfl ?_
  refine g_getL C 33 rfl q_X8_186 rfl dX8_apart_139 ?_
  obtain ⟨q1, hq1, h⟩ := bd h
  refine g_callVL C [.long x5, .long (σ.2 0 33)] qv_X8_208 (m_X8_fraction hq1) rfl (by decide) rfl rfl rfl ⟨rfl, rfl⟩ ⟨by decide, by decide⟩ (Nat.le_of_ble_eq_true rfl) dX8_apart_142 ?_
  obtain rfl := Option.some.inj h
  exact g_lret C dX8_apart_145
def f_X8_apart (x1 : Int32) (x2 : Int32) (x3 : Int32) (σ : St) : Option (Int64 × St) := (f_X8_isFind x1 σ).bind (fun q1 => (if q1.1 = 0 then some ((-2 : Int64), q1.2) else (f_X8_isFind x2 q1.2).bind (fun q3 => (if q3.1 = 0 then some ((-2 : Int64), q3.2) else (f_X8_isIn x3 (-39 : Int32) (39 : Int32) q3.2).bind (fun q5 => (if q5.1 = 0 then some ((-2 : Int64), q5.2) else (f_X8_askTotal q5.2).bind (fun q7 => (if q7.1 = 0 then (if x1 = x2 then (if x3 = 0 then (f_X8_apart_64) (q7.2.2 0 33) q7.2 else (f_X8_apart_64) (0 : Int64) q7.2) else (f_X8_apart_78 (f_X8_apart_135) FU) x1 x2 x3 (0 : Int64) (0 : Int32) q7.2) else some (q7.1.toInt64, q7.2)))))))))
set_option maxRecDepth 20000 in
theorem m_X8_apart {l : Launch} {D : va_G} {ca : Nat → ClassId} {ad : Nat → Nat} {x1 : Int32} {x2 : Int32} {x3 : Int32} {σ : St} {R : Int64 × St} (h : f_X8_apart x1 x2 x3 σ = some R) : gM l D ca ad 26 LM yX8_apart cX8_apart 8 (some .long) rm_X8_apart [.ref 0, .int x1, .int x2, .int x3] σ (some (.long R.1)) R.2 := by
  refine gM_of (by decide) (Nat.le_of_ble_eq_true rfl) (fun p e s m args below meth c C => ?_)
  refine g_ent (ls' := [(0, .ref 0), (1, .int x1), (2, .int x2), (3, .int x3)]) rfl ?_
  unfold f_X8_apart at h
  refine g_aload_n C 0 dX8_apart_0 rfl ?_
  refine g_iload_n C 1 dX8_apart_1 rfl ?_
  obtain ⟨q1, hq1, h⟩ := bd h
  refine g_callVI C [.int x1] qv_X8_117 (m_X8_isFind hq1) rfl (by decide) rfl rfl rfl ⟨rfl, rfl⟩ ⟨by decide, by decide⟩ (Nat.le_of_ble_eq_true rfl) dX8_apart_2 ?_
  refine g_if_eq C 27 dX8_apart_5 (by decide) (fun hc2 => ?_) (fun hc2 => ?_)
  · have h := ite_t hc2 h
    refine g_ldc2 C (-2 : Int64) qc_X8_199 dX8_apart_27 ?_
    obtain rfl := Option.some.inj h
    exact g_lret C dX8_apart_30
  · have h := ite_f hc2 h
    refine g_aload_n C 0 dX8_apart_8 rfl ?_
    refine g_iload_n C 2 dX8_apart_9 rfl ?_
    obtain ⟨q3, hq3, h⟩ := bd h
    refine g_callVI C [.int x2] qv_X8_117 (m_X8_isFind hq3) rfl (by decide) rfl rfl rfl ⟨rfl, rfl⟩ ⟨by decide, by decide⟩ (Nat.le_of_ble_eq_true rfl) dX8_apart_10 ?_
    refine g_if_eq C 27 dX8_apart_13 (by decide) (fun hc4 => ?_) (fun hc4 => ?_)
    · have h := ite_t hc4 h
      refine g_ldc2 C (-2 : Int64) qc_X8_199 dX8_apart_27 ?_
      obtain rfl := Option.some.inj h
      exact g_lret C dX8_apart_30
    · have h := ite_f hc4 h
      refine g_iload_n C 3 dX8_apart_16 rfl ?_
      refine g_bipush C (-39 : Int32) dX8_apart_17 rfl ?_
      refine g_bipush C (39 : Int32) dX8_apart_19 rfl ?_
      obtain ⟨q5, hq5, h⟩ := bd h
      refine g_callSI C [.int x3, .int (-39 : Int32), .int (39 : Int32)] qs_X8_100 (m_X8_isIn hq5) rfl rfl ⟨rfl, rfl⟩ ⟨by decide, by decide⟩ (Nat.le_of_ble_eq_true rfl) dX8_apart_21 ?_
      refine g_if_ne C 31 dX8_apart_24 (by decide) (fun hc6 => ?_) (fun hc6 => ?_)
      · have h := ite_f hc6 h
        refine g_aload_n C 0 dX8_apart_31 rfl ?_
        obtain ⟨q7, hq7, h⟩ := bd h
        refine g_callVI C [] qv_X8_201 (m_X8_askTotal hq7) rfl (by decide) rfl rfl rfl ⟨rfl, rfl⟩ ⟨by decide, by decide⟩ (Nat.le_of_ble_eq_true rfl) dX8_apart_32 ?_
        refine g_istore C [(4, .int q7.1), (0, .ref 0), (1, .int x1), (2, .int x2), (3, .int x3)] dX8_apart_35 (by decide) rfl ?_
        refine g_iload C 0 dX8_apart_37 rfl ?_
        refine g_if_eq C 46 dX8_apart_39 (by decide) (fun hc8 => ?_) (fun hc8 => ?_)
        · have h := ite_t hc8 h
          refine g_iload_n C 2 dX8_apart_46 rfl ?_
          refine g_iload_n C 3 dX8_apart_47 rfl ?_
          refine g_icmp_ne C 72 dX8_apart_48 (by decide) (fun hc9 => ?_) (fun hc9 => ?_)
          · have h := ite_f hc9 h
            refine g_lconst C (0 : Int64) dX8_apart_72 rfl ?_
            refine g_lstore C [(5, .long (0 : Int64)), (4, .int q7.1), (0, .ref 0), (1, .int x1), (2, .int x2), (3, .int x3)] dX8_apart_73 (by decide) rfl ?_
            refine g_iconst C (0 : Int32) dX8_apart_75 rfl ?_
            refine g_istore C [(7, .int (0 : Int32)), (5, .long (0 : Int64)), (4, .int q7.1), (0, .ref 0), (1, .int x1), (2, .int x2), (3, .int x3)] dX8_apart_76 (by decide) rfl ?_
            exact g_sub [3, 4, 5, 6, 1, 0] rfl ((s_X8_apart_78 C (s_X8_apart_135 C) FU) x1 x2 x3 (0 : Int64) (0 : Int32) q7.2 h)
          · have h := ite_t hc9 h
            refine g_aload_n C 1 dX8_apart_51 rfl ?_
            refine g_iload_n C 4 dX8_apart_52 rfl ?_
            refine g_if_ne C 63 dX8_apart_53 (by decide) (fun hc10 => ?_) (fun hc10 => ?_)
            · have h := ite_f hc10 h
              refine g_lconst C (0 : Int64) dX8_apart_63 rfl ?_
              exact g_sub [1] rfl ((s_X8_apart_64 C) (0 : Int64) q7.2 h)
            · have h := ite_t hc10 h
              refine g_aload_n C 1 dX8_apart_56 rfl ?_
              refine g_getL C 33 rfl q_X8_186 rfl dX8_apart_57 ?_
              refine g_goto C 64 dX8_apart_60 (by decide) ?_
              exact g_sub [1] rfl ((s_X8_apart_64 C) (q7.2.2 0 33) q7.2 h)
        · have h := ite_f hc8 h
          refine g_iload C 0 dX8_apart_42 rfl ?_
          refine g_i2l C dX8_apart_44 ?_
          obtain rfl := Option.some.inj h
          exact g_lret C dX8_apart_45
      · have h := ite_t hc6 h
        refine g_ldc2 C (-2 : Int64) qc_X8_199 dX8_apart_27 ?_
        obtain rfl := Option.some.inj h
        exact g_lret C dX8_apart_30
end
