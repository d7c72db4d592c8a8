section
variable {p : Program} {l : Launch} {e : Env} {s : State} {m : MethodId} {args : Array Value} {below : List Frame} {meth : Method} {c : Code} {D : va_G} {ca : Nat → ClassId} {ad : Nat → Nat}
def f_X7_apart_64 (x4 : Int64) (xs0 : Int64) (σ : St) : Option (Int64 × St) := (f_X7_fraction xs0 x4 σ).bind (fun q1 => some (q1.1, q1.2))
set_option maxRecDepth 20000 in
theorem s_X7_apart_64 {R : Int64 × St} (C : gC p s m args meth c D ca ad 91 LC RX7 cX7_apart 9 (some .long)) (x4 : Int64) (xs0 : Int64) (σ : St) (h : f_X7_apart_64 x4 xs0 σ = some R) : G p l e rm_X7_apart s m args below meth c D ca ad 91 LC 9 (gEnd below args s D ca ad 91 LC (some (.long R.1)) R.2) 64 [(4, .long x4)] [.long xs0, .ref 0] σ := by
  unfold f_X7_apart_64 at h
  refine g_lload C 0 dX7_apart_64 rfl ?_
  obtain ⟨q1, hq1, h⟩ := bd h
  refine g_callVL C [.long xs0, .long x4] qv_X7_232 (m_X7_fraction hq1) rfl (by decide) rfl rfl rfl ⟨rfl, rfl⟩ ⟨by decide, by decide⟩ (Nat.le_of_ble_eq_true rfl) dX7_apart_66 ?_
  obtain rfl := Option.some.inj h
  exact g_lret C dX7_apart_69
def f_X7_apart_81 (kk153 : Int64 → Int64 → St → Option (Int64 × St)) : Nat → Int32 → Int32 → Int32 → Int64 → Int64 → Int32 → St → Option (Int64 × St)
  | 0, _, _, _, _, _, _, _ => none
  | n + 1, x1, x2, x3, x4, x6, x8, σ => (if (σ.1 1 0) ≤ x8 then kk153 x4 x6 σ else (if (σ.1 1 0) ≤ (x8 + x3) then kk153 x4 x6 σ else (f_X6_limit x1 x8 x8 σ).bind (fun q3 => (f_X6_limit x2 (x8 + x3) (x8 + x3) q3).bind (fun q4 => (f_X0_countAll q4).bind (fun q5 => (f_X7_apart_81 kk153 n) x1 x2 x3 x4 (x6 + q5.1) (x8 + (1 : Int32)) q5.2)))))
set_option maxRecDepth 20000 in
theorem s_X7_apart_81 {R : Int64 × St} (C : gC p s m args meth c D ca ad 91 LC RX7 cX7_apart 9 (some .long)) {kk153 : Int64 → Int64 → St → Option (Int64 × St)} (HK153 : ∀ (x4 : Int64) (x6 : Int64) (σ : St), kk153 x4 x6 σ = some R → G p l e rm_X7_apart s m args below meth c D ca ad 91 LC 9 (gEnd below args s D ca ad 91 LC (some (.long R.1)) R.2) 153 [(0, .ref 0), (4, .long x4), (6, .long x6)] [] σ) : ∀ (n : Nat) (x1 : Int32) (x2 : Int32) (x3 : Int32) (x4 : Int64) (x6 : Int64) (x8 : Int32) (σ : St), f_X7_apart_81 kk153 n x1 x2 x3 x4 x6 x8 σ = some R → G p l e rm_X7_apart s m args below meth c D ca ad 91 LC 9 (gEnd below args s D ca ad 91 LC (some (.long R.1)) R.2) 81 [(0, .ref 0), (1, .int x1), (2, .int x2), (3, .int x3), (4, .long x4), (6, .long x6), (8, .int x8)] [] σ := by
  intro n
  induction n with
  | zero =>
    intro x1 x2 x3 x4 x6 x8 σ h
    have h : none = some R := h
    cases h
  | succ n ih =>
    intro x1 x2 x3 x4 x6 x8 σ h
    rw [f_X7_apart_81] at h
    refine g_iload C 6 dX7_apart_81 rfl ?_
    refine g_aload_n C 0 dX7_apart_83 rfl ?_
    refine g_getR C 0 1 rfl q_X7_10 rfl rfl dX7_apart_84 ?_
    refine g_getI C 0 rfl q_X7_74 rfl dX7_apart_87 ?_
    refine g_icmp_ge C 153 dX7_apart_90 (by decide) (fun hc1 => ?_) (fun hc1 => ?_)
    · have h := ite_t hc1 h
      exact g_sub [0, 4, 5] rfl (HK153 x4 x6 σ h)
    · have h := ite_f hc1 h
      refine g_iload C 6 dX7_apart_93 rfl ?_
      refine g_iload_n C 3 dX7_apart_95 rfl ?_
      refine g_iadd C dX7_apart_96 ?_
      refine g_aload_n C 0 dX7_apart_97 rfl ?_
      refine g_getR C 0 1 rfl q_X7_10 rfl rfl dX7_apart_98 ?_
      refine g_getI C 0 rfl q_X7_74 rfl dX7_apart_101 ?_
      refine g_icmp_ge C 153 dX7_apart_104 (by decide) (fun hc2 => ?_) (fun hc2 => ?_)
      · have h := ite_t hc2 h
        exact g_sub [0, 4, 5] rfl (HK153 x4 x6 σ h)
      · have h := ite_f hc2 h
        refine g_aload_n C 0 dX7_apart_107 rfl ?_
        refine g_getR C 5 63 rfl q_X7_39 rfl rfl dX7_apart_108 ?_
        refine g_iload_n C 1 dX7_apart_111 rfl ?_
        refine g_iload C 6 dX7_apart_112 rfl ?_
        refine g_iload C 6 dX7_apart_114 rfl ?_
        obtain ⟨q3, hq3, h⟩ := bd h
        refine g_callVV C [.int x1, .int x8, .int x8] qv_X7_240 (m_X6_limit hq3) rfl (by decide) rfl rfl rfl ⟨rfl, rfl⟩ ⟨by decide, by decide⟩ (Nat.le_of_ble_eq_true rfl) dX7_apart_116 ?_
        refine g_aload_n C 0 dX7_apart_119 rfl ?_
        refine g_getR C 5 63 rfl q_X7_39 rfl rfl dX7_apart_120 ?_
        refine g_iload_n C 2 dX7_apart_123 rfl ?_
        refine g_iload C 6 dX7_apart_124 rfl ?_
        refine g_iload_n C 3 dX7_apart_126 rfl ?_
        refine g_iadd C dX7_apart_127 ?_
        refine g_iload C 6 dX7_apart_128 rfl ?_
        refine g_iload_n C 3 dX7_apart_130 rfl ?_
        refine g_iadd C dX7_apart_131 ?_
        obtain ⟨q4, hq4, h⟩ := bd h
        refine g_callVV C [.int x2, .int (x8 + x3), .int (x8 + x3)] qv_X7_240 (m_X6_limit hq4) rfl (by decide) rfl rfl rfl ⟨rfl, rfl⟩ ⟨by decide, by decide⟩ (Nat.le_of_ble_eq_true rfl) dX7_apart_132 ?_
        refine g_lload C 5 dX7_apart_135 rfl ?_
        refine g_aload_n C 0 dX7_apart_137 rfl ?_
        refine g_getR C 6 70 rfl q_X7_48 rfl rfl dX7_apart_138 ?_
        obtain ⟨q5, hq5, h⟩ := bd h
        refine g_callVL C [] qv_X7_237 (m_X0_countAll hq5) rfl (by decide) rfl rfl rfl ⟨rfl, rfl⟩ ⟨by decide, by decide⟩ (Nat.le_of_ble_eq_true rfl) dX7_apart_141 ?_
        refine g_ladd C dX7_apart_144 ?_
        refine g_lstore C [(6, .long (x6 + q5.1)), (0, .ref 0), (1, .int x1), (2, .int x2), (3, .int x3), (4, .long x4), (8, .int x8)] dX7_apart_145 (by decide) rfl ?_
        refine g_iinc C 6 [(8, .int (x8 + (1 : Int32))), (6, .long (x6 + q5.1)), (0, .ref 0), (1, .int x1), (2, .int x2), (3, .int x3), (4, .long x4)] dX7_apart_147 rfl rfl (by decide) rfl ?_
        refine g_goto C 81 dX7_apart_150 (by decide) ?_
        exact g_sub [2, 3, 4, 5, 6, 1, 0] rfl (ih x1 x2 x3 x4 (x6 + q5.1) (x8 + (1 : Int32)) q5.2 h)
def f_X7_apart_153 (x4 : Int64) (x6 : Int64) (σ : St) : Option (Int64 × St) := (f_X7_fraction x6 x4 σ).bind (fun q1 => some (q1.1, q1.2))
set_option maxRecDepth 20000 in
theorem s_X7_apart_153 {R : Int64 × St} (C : gC p s m args meth c D ca ad 91 LC RX7 cX7_apart 9 (some .long)) (x4 : Int64) (x6 : Int64) (σ : St) (h : f_X7_apart_153 x4 x6 σ = some R) : G p l e rm_X7_apart s m args below meth c D ca ad 91 LC 9 (gEnd below args s D ca ad 91 LC (some (.long R.1)) R.2) 153 [(0, .ref 0), (4, .long x4), (6, .long x6)] [] σ := by
  unfold f_X7_apart_153 at h
  refine g_aload_n C 0 dX7_apart_153 rfl ?_
  refine g_lload C 2 dX7_apart_154 rfl ?_
  refine g_lload C 1 dX7_apart_156 rfl ?_
  obtain ⟨q1, hq1, h⟩ := bd h
  refine g_callVL C [.long x6, .long x4] qv_X7_232 (m_X7_fraction hq1) rfl (by decide) rfl rfl rfl ⟨rfl, rfl⟩ ⟨by decide, by decide⟩ (Nat.le_of_ble_eq_true rfl) dX7_apart_158 ?_
  obtain rfl := Option.some.inj h
  exact g_lret C dX7_apart_161
def f_X7_apart (x1 : Int32) (x2 : Int32) (x3 : Int32) (σ : St) : Option (Int64 × St) := (f_X7_isFind x1 σ).bind (fun q1 => (if q1.1 = 0 then some ((-2 : Int64), q1.2) else (f_X7_isFind x2 q1.2).bind (fun q3 => (if q3.1 = 0 then some ((-2 : Int64), q3.2) else (if x3 ≤ (-40 : Int32) then some ((-2 : Int64), q3.2) else (if x3 < (40 : Int32) then (f_X7_weighForShare q3.2).bind (fun q7 => (if (0 : Int64) ≤ q7.1 then (if x1 = x2 then (if x3 = 0 then (f_X7_apart_64) q7.1 q7.1 q7.2 else (f_X7_apart_64) q7.1 (0 : Int64) q7.2) else (f_X7_apart_81 (f_X7_apart_153) FU) x1 x2 x3 q7.1 (0 : Int64) (imax (0 : Int32) (-x3)) q7.2) else some (q7.1, q7.2))) else some ((-2 : Int64), q3.2)))))))
set_option maxRecDepth 20000 in
theorem m_X7_apart {l : Launch} {D : va_G} {ca : Nat → ClassId} {ad : Nat → Nat} {x1 : Int32} {x2 : Int32} {x3 : Int32} {σ : St} {R : Int64 × St} (h : f_X7_apart x1 x2 x3 σ = some R) : gM l D ca ad 91 LC yX7_apart cX7_apart 9 (some .long) rm_X7_apart [.ref 0, .int x1, .int x2, .int x3] σ (some (.long R.1)) R.2 := by
  refine gM_of (by decide) (Nat.le_of_ble_eq_true rfl) (fun p e s m args below meth c C => ?_)
  refine g_ent (ls' := [(0, .ref 0), (1, .int x1), (2, .int x2), (3, .int x3)]) rfl ?_
  unfold f_X7_apart at h
  refine g_aload_n C 0 dX7_apart_0 rfl ?_
  refine g_iload_n C 1 dX7_apart_1 rfl ?_
  obtain ⟨q1, hq1, h⟩ := bd h
  refine g_callVI C [.int x1] qv_X7_142 (m_X7_isFind hq1) rfl (by decide) rfl rfl rfl ⟨rfl, rfl⟩ ⟨by decide, by decide⟩ (Nat.le_of_ble_eq_true rfl) dX7_apart_2 ?_
  refine g_if_eq C 28 dX7_apart_5 (by decide) (fun hc2 => ?_) (fun hc2 => ?_)
  · have h := ite_t hc2 h
    refine g_ldc2 C (-2 : Int64) qc_X7_222 dX7_apart_28 ?_
    obtain rfl := Option.some.inj h
    exact g_lret C dX7_apart_31
  · have h := ite_f hc2 h
    refine g_aload_n C 0 dX7_apart_8 rfl ?_
    refine g_iload_n C 2 dX7_apart_9 rfl ?_
    obtain ⟨q3, hq3, h⟩ := bd h
    refine g_callVI C [.int x2] qv_X7_142 (m_X7_isFind hq3) rfl (by decide) rfl rfl rfl ⟨rfl, rfl⟩ ⟨by decide, by decide⟩ (Nat.le_of_ble_eq_true rfl) dX7_apart_10 ?_
    refine g_if_eq C 28 dX7_apart_13 (by decide) (fun hc4 => ?_) (fun hc4 => ?_)
    · have h := ite_t hc4 h
      refine g_ldc2 C (-2 : Int64) qc_X7_222 dX7_apart_28 ?_
      obtain rfl := Option.some.inj h
      exact g_lret C dX7_apart_31
    · have h := ite_f hc4 h
      refine g_iload_n C 3 dX7_apart_16 rfl ?_
      refine g_bipush C (-40 : Int32) dX7_apart_17 rfl ?_
      refine g_icmp_le C 28 dX7_apart_19 (by decide) (fun hc5 => ?_) (fun hc5 => ?_)
      · have h := ite_t hc5 h
        refine g_ldc2 C (-2 : Int64) qc_X7_222 dX7_apart_28 ?_
        obtain rfl := Option.some.inj h
        exact g_lret C dX7_apart_31
      · have h := ite_f hc5 h
        refine g_iload_n C 3 dX7_apart_22 rfl ?_
        refine g_bipush C (40 : Int32) dX7_apart_23 rfl ?_
        refine g_icmp_lt C 32 dX7_apart_25 (by decide) (fun hc6 => ?_) (fun hc6 => ?_)
        · have h := ite_t hc6 h
          refine g_aload_n C 0 dX7_apart_32 rfl ?_
          obtain ⟨q7, hq7, h⟩ := bd h
          refine g_callVL C [] qv_X7_224 (m_X7_weighForShare hq7) rfl (by decide) rfl rfl rfl ⟨rfl, rfl⟩ ⟨by decide, by decide⟩ (Nat.le_of_ble_eq_true rfl) dX7_apart_33 ?_
          refine g_lstore C [(4, .long q7.1), (0, .ref 0), (1, .int x1), (2, .int x2), (3, .int x3)] dX7_apart_36 (by decide) rfl ?_
          refine g_lload C 0 dX7_apart_38 rfl ?_
          refine g_lconst C (0 : Int64) dX7_apart_40 rfl ?_
          refine g_lcmp_ge C 48 dX7_apart_41 dX7_apart_42 (by decide) (fun hc8 => ?_) (fun hc8 => ?_)
          · have h := ite_t hc8 h
            refine g_iload_n C 2 dX7_apart_48 rfl ?_
            refine g_iload_n C 3 dX7_apart_49 rfl ?_
            refine g_icmp_ne C 70 dX7_apart_50 (by decide) (fun hc9 => ?_) (fun hc9 => ?_)
            · have h := ite_f hc9 h
              refine g_lconst C (0 : Int64) dX7_apart_70 rfl ?_
              refine g_lstore C [(6, .long (0 : Int64)), (4, .long q7.1), (0, .ref 0), (1, .int x1), (2, .int x2), (3, .int x3)] dX7_apart_71 (by decide) rfl ?_
              refine g_iconst C (0 : Int32) dX7_apart_73 rfl ?_
              refine g_iload_n C 5 dX7_apart_74 rfl ?_
              refine g_ineg C dX7_apart_75 ?_
              refine g_max C qx_X7_126 (by decide) (Nat.le_of_ble_eq_true rfl) (Nat.zero_le _) (Nat.zero_le _) dX7_apart_76 ?_
              refine g_istore C [(8, .int (imax (0 : Int32) (-x3))), (6, .long (0 : Int64)), (4, .long q7.1), (0, .ref 0), (1, .int x1), (2, .int x2), (3, .int x3)] dX7_apart_79 (by decide) rfl ?_
              exact g_sub [3, 4, 5, 6, 2, 1, 0] rfl ((s_X7_apart_81 C (s_X7_apart_153 C) FU) x1 x2 x3 q7.1 (0 : Int64) (imax (0 : Int32) (-x3)) q7.2 h)
            · have h := ite_t hc9 h
              refine g_aload_n C 1 dX7_apart_53 rfl ?_
              refine g_iload_n C 4 dX7_apart_54 rfl ?_
              refine g_if_ne C 63 dX7_apart_55 (by decide) (fun hc10 => ?_) (fun hc10 => ?_)
              · have h := ite_f hc10 h
                refine g_lconst C (0 : Int64) dX7_apart_63 rfl ?_
                exact g_sub [0] rfl ((s_X7_apart_64 C) q7.1 (0 : Int64) q7.2 h)
              · have h := ite_t hc10 h
                refine g_lload C 0 dX7_apart_58 rfl ?_
                refine g_goto C 64 dX7_apart_60 (by decide) ?_
                exact g_sub [0] rfl ((s_X7_apart_64 C) q7.1 q7.1 q7.2 h)
          · have h := ite_f hc8 h
            refine g_lload C 0 dX7_apart_45 rfl ?_
            obtain rfl := Option.some.inj h
            exact g_lret C dX7_apart_47
        · have h := ite_f hc6 h
          refine g_ldc2 C (-2 : Int64) qc_X7_222 dX7_apart_28 ?_
          obtain rfl := Option.some.inj h
          exact g_lret C dX7_apart_31
def f_X7_mean (x1 : Int32) (σ : St) : Option (Int64 × St) := (f_X7_isFind x1 σ).bind (fun q1 => (if q1.1 = 0 then some ((-2 : Int64), q1.2) else (f_X7_weighForShare q1.2).bind (fun q3 => (if (0 : Int64) ≤ q3.1 then (f_X6_multiplyByYears x1 q3.2).bind (fun q5 => (f_X0_countAll q5).bind (fun q6 => (f_X7_fraction q6.1 q3.1 q6.2).bind (fun q7 => some (q7.1, q7.2)))) else some (q3.1, q3.2)))))
set_option maxRecDepth 20000 in
theorem m_X7_mean {l : Launch} {D : va_G} {ca : Nat → ClassId} {ad : Nat → Nat} {x1 : Int32} {σ : St} {R : Int64 × St} (h : f_X7_mean x1 σ = some R) : gM l D ca ad 91 LC yX7_mean cX7_mean 4 (some .long) rm_X7_mean [.ref 0, .int x1] σ (some (.long R.1)) R.2 := by
  refine gM_of (by decide) (Nat.le_of_ble_eq_true rfl) (fun p e s m args below meth c C => ?_)
  refine g_ent (ls' := [(0, .ref 0), (1, .int x1)]) rfl ?_
  unfold f_X7_mean at h
  refine g_aload_n C 0 dX7_mean_0 rfl ?_
  refine g_iload_n C 1 dX7_mean_1 rfl ?_
  obtain ⟨q1, hq1, h⟩ := bd h
  refine g_callVI C [.int x1] qv_X7_142 (m_X7_isFind hq1) rfl (by decide) rfl rfl rfl ⟨rfl, rfl⟩ ⟨by decide, by decide⟩ (Nat.le_of_ble_eq_true rfl) dX7_mean_2 ?_
  refine g_if_ne C 12 dX7_mean_5 (by decide) (fun hc2 => ?_) (fun hc2 => ?_)
  · have h := ite_f hc2 h
    refine g_aload_n C 0 dX7_mean_12 rfl ?_
    obtain ⟨q3, hq3, h⟩ := bd h
    refine g_callVL C [] qv_X7_224 (m_X7_weighForShare hq3) rfl (by decide) rfl rfl rfl ⟨rfl, rfl⟩ ⟨by decide, by decide⟩ (Nat.le_of_ble_eq_true rfl) dX7_mean_13 ?_
    refine g_lstore_n C [(2, .long q3.1), (0, .ref 0), (1, .int x1)] dX7_mean_16 (by decide) rfl ?_
    refine g_lload_n C 0 dX7_mean_17 rfl ?_
    refine g_lconst C (0 : Int64) dX7_mean_18 rfl ?_
    refine g_lcmp_ge C 25 dX7_mean_19 dX7_mean_20 (by decide) (fun hc4 => ?_) (fun hc4 => ?_)
    · have h := ite_t hc4 h
      refine g_aload_n C 1 dX7_mean_25 rfl ?_
      refine g_getR C 5 63 rfl q_X7_39 rfl rfl dX7_mean_26 ?_
      refine g_iload_n C 2 dX7_mean_29 rfl ?_
      obtain ⟨q5, hq5, h⟩ := bd h
      refine g_callVV C [.int x1] qv_X7_243 (m_X6_multiplyByYears hq5) rfl (by decide) rfl rfl rfl ⟨rfl, rfl⟩ ⟨by decide, by decide⟩ (Nat.le_of_ble_eq_true rfl) dX7_mean_30 ?_
      refine g_aload_n C 1 dX7_mean_33 rfl ?_
      refine g_aload_n C 1 dX7_mean_34 rfl ?_
      refine g_getR C 6 70 rfl q_X7_48 rfl rfl dX7_mean_35 ?_
      obtain ⟨q6, hq6, h⟩ := bd h
      refine g_callVL C [] qv_X7_237 (m_X0_countAll hq6) rfl (by decide) rfl rfl rfl ⟨rfl, rfl⟩ ⟨by decide, by decide⟩ (Nat.le_of_ble_eq_true rfl) dX7_mean_38 ?_
      refine g_lload_n C 0 dX7_mean_41 rfl ?_
      obtain ⟨q7, hq7, h⟩ := bd h
      refine g_callVL C [.long q6.1, .long q3.1] qv_X7_232 (m_X7_fraction hq7) rfl (by decide) rfl rfl rfl ⟨rfl, rfl⟩ ⟨by decide, by decide⟩ (Nat.le_of_ble_eq_true rfl) dX7_mean_42 ?_
      obtain rfl := Option.some.inj h
      exact g_lret C dX7_mean_45
    · have h := ite_f hc4 h
      refine g_lload_n C 0 dX7_mean_23 rfl ?_
      obtain rfl := Option.some.inj h
      exact g_lret C dX7_mean_24
  · have h := ite_t hc2 h
    refine g_ldc2 C (-2 : Int64) qc_X7_222 dX7_mean_8 ?_
    obtain rfl := Option.some.inj h
    exact g_lret C dX7_mean_11
def f_X7_best_79 (kk39 : Int32 → Int32 → St → Option (Int32 × St)) (x4 : Int32) (x5 : Int32) (σ : St) : Option (Int32 × St) := kk39 x4 (x5 + (1 : Int32)) σ
set_option maxRecDepth 20000 in
theorem s_X7_best_79 {R : Int32 × St} (C : gC p s m args meth c D ca ad 91 LC RX7 cX7_best 6 (some .int)) {kk39 : Int32 → Int32 → St → Option (Int32 × St)} (HK39 : ∀ (x4 : Int32) (x5 : Int32) (σ : St), kk39 x4 x5 σ = some R → G p l e rm_X7_best s m args below meth c D ca ad 91 LC 6 (gEnd below args s D ca ad 91 LC (some (.int R.1)) R.2) 39 [(0, .ref 0), (4, .int x4), (5, .int x5)] [] σ) (x4 : Int32) (x5 : Int32) (σ : St) (h : f_X7_best_79 kk39 x4 x5 σ = some R) : G p l e rm_X7_best s m args below meth c D ca ad 91 LC 6 (gEnd below args s D ca ad 91 LC (some (.int R.1)) R.2) 79 [(0, .ref 0), (4, .int x4), (5, .int x5)] [] σ := by
  unfold f_X7_best_79 at h
  refine g_iinc C 2 [(5, .int (x5 + (1 : Int32))), (0, .ref 0), (4, .int x4)] dX7_best_79 rfl rfl (by decide) rfl ?_
  refine g_goto C 39 dX7_best_82 (by decide) ?_
  exact g_sub [1, 2, 0] rfl (HK39 x4 (x5 + (1 : Int32)) σ h)
def f_X7_best_39 : Nat → Int32 → Int32 → St → Option (Int32 × St)
  | 0, _, _, _ => none
  | n + 1, x4, x5, σ => (if (σ.1 1 0) ≤ x5 then some (x4, σ) else cI (ix x5 40) (cI (ix x4 40) ((if (σ.2 80 x5.toNatClampNeg) ≤ (σ.2 80 x4.toNatClampNeg) then (f_X7_best_79 (f_X7_best_39 n)) x4 x5 σ else (f_X7_best_79 (f_X7_best_39 n)) x5 x5 σ))))
set_option maxRecDepth 20000 in
theorem s_X7_best_39 {R : Int32 × St} (C : gC p s m args meth c D ca ad 91 LC RX7 cX7_best 6 (some .int)) : ∀ (n : Nat) (x4 : Int32) (x5 : Int32) (σ : St), f_X7_best_39 n x4 x5 σ = some R → G p l e rm_X7_best s m args below meth c D ca ad 91 LC 6 (gEnd below args s D ca ad 91 LC (some (.int R.1)) R.2) 39 [(0, .ref 0), (4, .int x4), (5, .int x5)] [] σ := by
  intro n
  induction n with
  | zero =>
    intro x4 x5 σ h
    have h : none = some R := h
    cases h
  | succ n ih =>
    intro x4 x5 σ h
    rw [f_X7_best_39] at h
    refine g_iload C 2 dX7_best_39 rfl ?_
    refine g_aload_n C 0 dX7_best_41 rfl ?_
    refine g_getR C 0 1 rfl q_X7_10 rfl rfl dX7_best_42 ?_
    refine g_getI C 0 rfl q_X7_74 rfl dX7_best_45 ?_
    refine g_icmp_ge C 85 dX7_best_48 (by decide) (fun hc1 => ?_) (fun hc1 => ?_)
    · have h := ite_t hc1 h
      refine g_iload C 1 dX7_best_85 rfl ?_
      obtain rfl := Option.some.inj h
      exact g_iret C dX7_best_87
    · have h := ite_f hc1 h
      refine g_aload_n C 0 dX7_best_51 rfl ?_
      refine g_getR C 6 70 rfl q_X7_48 rfl rfl dX7_best_52 ?_
      refine g_getR C 12 80 rfl q_X7_249 rfl rfl dX7_best_55 ?_
      refine g_iload C 2 dX7_best_58 rfl ?_
      obtain ⟨hi2, h⟩ := cI_some h
      refine g_lald C 40 rfl ho_17 hi2 dX7_best_60 ?_
      refine g_aload_n C 0 dX7_best_61 rfl ?_
      refine g_getR C 6 70 rfl q_X7_48 rfl rfl dX7_best_62 ?_
      refine g_getR C 12 80 rfl q_X7_249 rfl rfl dX7_best_65 ?_
      refine g_iload C 1 dX7_best_68 rfl ?_
      obtain ⟨hi3, h⟩ := cI_some h
      refine g_lald C 40 rfl ho_17 hi3 dX7_best_70 ?_
      refine g_lcmp_le C 79 dX7_best_71 dX7_best_72 (by decide) (fun hc4 => ?_) (fun hc4 => ?_)
      · have h := ite_t hc4 h
        exact g_sub [0, 1, 2] rfl ((s_X7_best_79 C ih) x4 x5 σ h)
      · have h := ite_f hc4 h
        refine g_iload C 2 dX7_best_75 rfl ?_
        refine g_istore C [(4, .int x5), (0, .ref 0), (5, .int x5)] dX7_best_77 (by decide) rfl ?_
        exact g_sub [1, 0, 2] rfl ((s_X7_best_79 C ih) x5 x5 σ h)
def f_X7_best (x1 : Int32) (σ : St) : Option (Int32 × St) := (f_X7_isFind x1 σ).bind (fun q1 => (if q1.1 = 0 then some ((-2 : Int32), q1.2) else (f_X7_weighForShare q1.2).bind (fun q3 => (if (0 : Int64) ≤ q3.1 then (f_X0_countEachYear x1 q3.2).bind (fun q5 => (f_X7_best_39 FU) (0 : Int32) (1 : Int32) q5) else some (q3.1.toInt32, q3.2)))))
set_option maxRecDepth 20000 in
theorem m_X7_best {l : Launch} {D : va_G} {ca : Nat → ClassId} {ad : Nat → Nat} {x1 : Int32} {σ : St} {R : Int32 × St} (h : f_X7_best x1 σ = some R) : gM l D ca ad 91 LC yX7_best cX7_best 6 (some .int) rm_X7_best [.ref 0, .int x1] σ (some (.int R.1)) R.2 := by
  refine gM_of (by decide) (Nat.le_of_ble_eq_true rfl) (fun p e s m args below meth c C => ?_)
  refine g_ent (ls' := [(0, .ref 0), (1, .int x1)]) rfl ?_
  unfold f_X7_best at h
  refine g_aload_n C 0 dX7_best_0 rfl ?_
  refine g_iload_n C 1 dX7_best_1 rfl ?_
  obtain ⟨q1, hq1, h⟩ := bd h
  refine g_callVI C [.int x1] qv_X7_142 (m_X7_isFind hq1) rfl (by decide) rfl rfl rfl ⟨rfl, rfl⟩ ⟨by decide, by decide⟩ (Nat.le_of_ble_eq_true rfl) dX7_best_2 ?_
  refine g_if_ne C 11 dX7_best_5 (by decide) (fun hc2 => ?_) (fun hc2 => ?_)
  · have h := ite_f hc2 h
    refine g_aload_n C 0 dX7_best_11 rfl ?_
    obtain ⟨q3, hq3, h⟩ := bd h
    refine g_callVL C [] qv_X7_224 (m_X7_weighForShare hq3) rfl (by decide) rfl rfl rfl ⟨rfl, rfl⟩ ⟨by decide, by decide⟩ (Nat.le_of_ble_eq_true rfl) dX7_best_12 ?_
    refine g_lstore_n C [(2, .long q3.1), (0, .ref 0), (1, .int x1)] dX7_best_15 (by decide) rfl ?_
    refine g_lload_n C 0 dX7_best_16 rfl ?_
    refine g_lconst C (0 : Int64) dX7_best_17 rfl ?_
    refine g_lcmp_ge C 25 dX7_best_18 dX7_best_19 (by decide) (fun hc4 => ?_) (fun hc4 => ?_)
    · have h := ite_t hc4 h
      refine g_aload_n C 1 dX7_best_25 rfl ?_
      refine g_getR C 6 70 rfl q_X7_48 rfl rfl dX7_best_26 ?_
      refine g_iload_n C 2 dX7_best_29 rfl ?_
      obtain ⟨q5, hq5, h⟩ := bd h
      refine g_callVV C [.int x1] qv_X7_246 (m_X0_countEachYear hq5) rfl (by decide) rfl rfl rfl ⟨rfl, rfl⟩ ⟨by decide, by decide⟩ (Nat.le_of_ble_eq_true rfl) dX7_best_30 ?_
      refine g_iconst C (0 : Int32) dX7_best_33 rfl ?_
      refine g_istore C [(4, .int (0 : Int32)), (2, .long q3.1), (0, .ref 0), (1, .int x1)] dX7_best_34 (by decide) rfl ?_
      refine g_iconst C (1 : Int32) dX7_best_36 rfl ?_
      refine g_istore C [(5, .int (1 : Int32)), (4, .int (0 : Int32)), (2, .long q3.1), (0, .ref 0), (1, .int x1)] dX7_best_37 (by decide) rfl ?_
      exact g_sub [3, 1, 0] rfl ((s_X7_best_39 C FU) (0 : Int32) (1 : Int32) q5 h)
    · have h := ite_f hc4 h
      refine g_lload_n C 0 dX7_best_22 rfl ?_
      refine g_l2i C dX7_best_23 ?_
      obtain rfl := Option.some.inj h
      exact g_iret C dX7_best_24
  · have h := ite_t hc2 h
    refine g_bipush C (-2 : Int32) dX7_best_8 rfl ?_
    obtain rfl := Option.some.inj h
    exact g_iret C dX7_best_10
def f_X7_shortestRow_101 (kk19 : Int64 → Int32 → Int64 → Int32 → St → Option (Int32 × St)) (x1 : Int64) (x3 : Int32) (x4 : Int64) (x6 : Int32) (σ : St) : Option (Int32 × St) := kk19 x1 x3 x4 (x6 + (1 : Int32)) σ
set_option maxRecDepth 20000 in
theorem s_X7_shortestRow_101 {R : Int32 × St} (C : gC p s m args meth c D ca ad 91 LC RX7 cX7_shortestRow 8 (some .int)) {kk19 : Int64 → Int32 → Int64 → Int32 → St → Option (Int32 × St)} (HK19 : ∀ (x1 : Int64) (x3 : Int32) (x4 : Int64) (x6 : Int32) (σ : St), kk19 x1 x3 x4 x6 σ = some R → G p l e rm_X7_shortestRow s m args below meth c D ca ad 91 LC 8 (gEnd below args s D ca ad 91 LC (some (.int R.1)) R.2) 19 [(0, .ref 0), (1, .long x1), (3, .int x3), (4, .long x4), (6, .int x6)] [] σ) (x1 : Int64) (x3 : Int32) (x4 : Int64) (x6 : Int32) (σ : St) (h : f_X7_shortestRow_101 kk19 x1 x3 x4 x6 σ = some R) : G p l e rm_X7_shortestRow s m args below meth c D ca ad 91 LC 8 (gEnd below args s D ca ad 91 LC (some (.int R.1)) R.2) 101 [(0, .ref 0), (1, .long x1), (3, .int x3), (4, .long x4), (6, .int x6)] [] σ := by
  unfold f_X7_shortestRow_101 at h
  refine g_iinc C 4 [(6, .int (x6 + (1 : Int32))), (0, .ref 0), (1, .long x1), (3, .int x3), (4, .long x4)] dX7_shortestRow_101 rfl rfl (by decide) rfl ?_
  refine g_goto C 19 dX7_shortestRow_104 (by decide) ?_
  exact g_sub [1, 2, 3, 4, 0] rfl (HK19 x1 x3 x4 (x6 + (1 : Int32)) σ h)
def f_X7_shortestRow_76 (kk19 : Int64 → Int32 → Int64 → Int32 → St → Option (Int32 × St)) (x1 : Int64) (x3 : Int32) (x4 : Int64) (x6 : Int32) (x7 : Int32) (σ : St) : Option (Int32 × St) := (if x7 < 0 then (f_X7_shortestRow_101 kk19) x1 x3 x4 x6 σ else (if (x4 * (1000 : Int64)) < x1 then (f_X7_shortestRow_101 kk19) x1 x3 x4 x6 σ else some ((((100 : Int32) * x7) + x6), σ)))
set_option maxRecDepth 20000 in
theorem s_X7_shortestRow_76 {R : Int32 × St} (C : gC p s m args meth c D ca ad 91 LC RX7 cX7_shortestRow 8 (some .int)) {kk19 : Int64 → Int32 → Int64 → Int32 → St → Option (Int32 × St)} (HK19 : ∀ (x1 : Int64) (x3 : Int32) (x4 : Int64) (x6 : Int32) (σ : St), kk19 x1 x3 x4 x6 σ = some R → G p l e rm_X7_shortestRow s m args below meth c D ca ad 91 LC 8 (gEnd below args s D ca ad 91 LC (some (.int R.1)) R.2) 19 [(0, .ref 0), (1, .long x1), (3, .int x3), (4, .long x4), (6, .int x6)] [] σ) (x1 : Int64) (x3 : Int32) (x4 : Int64) (x6 : Int32) (x7 : Int32) (σ : St) (h : f_X7_shortestRow_76 kk19 x1 x3 x4 x6 x7 σ = some R) : G p l e rm_X7_shortestRow s m args below meth c D ca ad 91 LC 8 (gEnd below args s D ca ad 91 LC (some (.int R.1)) R.2) 76 [(0, .ref 0), (1, .long x1), (3, .int x3), (4, .long x4), (6, .int x6), (7, .int x7)] [] σ := by
  unfold f_X7_shortestRow_76 at h
  refine g_iload C 5 dX7_shortestRow_76 rfl ?_
  refine g_if_lt C 101 dX7_shortestRow_78 (by decide) (fun hc1 => ?_) (fun hc1 => ?_)
  · have h := ite_t hc1 h
    exact g_sub [0, 1, 2, 3, 4] rfl ((s_X7_shortestRow_101 C HK19) x1 x3 x4 x6 σ h)
  · have h := ite_f hc1 h
    refine g_lload C 3 dX7_shortestRow_81 rfl ?_
    refine g_ldc2 C (1000 : Int64) qc_X7_289 dX7_shortestRow_83 ?_
    refine g_lmul C dX7_shortestRow_86 ?_
    refine g_lload_n C 1 dX7_shortestRow_87 rfl ?_
    refine g_lcmp_lt C 101 dX7_shortestRow_88 dX7_shortestRow_89 (by decide) (fun hc2 => ?_) (fun hc2 => ?_)
    · have h := ite_t hc2 h
      exact g_sub [0, 1, 2, 3, 4] rfl ((s_X7_shortestRow_101 C HK19) x1 x3 x4 x6 σ h)
    · have h := ite_f hc2 h
      refine g_bipush C (100 : Int32) dX7_shortestRow_92 rfl ?_
      refine g_iload C 5 dX7_shortestRow_94 rfl ?_
      refine g_imul C dX7_shortestRow_96 ?_
      refine g_iload C 4 dX7_shortestRow_97 rfl ?_
      refine g_iadd C dX7_shortestRow_99 ?_
      obtain rfl := Option.some.inj h
      exact g_iret C dX7_shortestRow_100
def f_X7_shortestRow_19 (kk107 : Int64 → Int32 → St → Option (Int32 × St)) : Nat → Int64 → Int32 → Int64 → Int32 → St → Option (Int32 × St)
  | 0, _, _, _, _, _ => none
  | n + 1, x1, x3, x4, x6, σ => (if (σ.1 1 0) ≤ x6 then kk107 x1 x3 σ else cI (ix x6 40) (ap (x4 + (σ.2 80 x6.toNatClampNeg)) fun z3 => ap ((x6 - x3) + (1 : Int32)) fun z4 => (if z4 ≤ 0 then (f_X7_shortestRow_76 (f_X7_shortestRow_19 kk107 n)) x1 x3 z3 x6 z4 σ else cI (ix (z4 - (1 : Int32)) 40) (ap (z3 - (σ.2 80 (z4 - (1 : Int32)).toNatClampNeg)) fun z7 => (f_X7_shortestRow_76 (f_X7_shortestRow_19 kk107 n)) x1 x3 z7 x6 z4 σ))))
set_option maxRecDepth 20000 in
theorem s_X7_shortestRow_19 {R : Int32 × St} (C : gC p s m args meth c D ca ad 91 LC RX7 cX7_shortestRow 8 (some .int)) {kk107 : Int64 → Int32 → St → Option (Int32 × St)} (HK107 : ∀ (x1 : Int64) (x3 : Int32) (σ : St), kk107 x1 x3 σ = some R → G p l e rm_X7_shortestRow s m args below meth c D ca ad 91 LC 8 (gEnd below args s D ca ad 91 LC (some (.int R.1)) R.2) 107 [(0, .ref 0), (1, .long x1), (3, .int x3)] [] σ) : ∀ (n : Nat) (x1 : Int64) (x3 : Int32) (x4 : Int64) (x6 : Int32) (σ : St), f_X7_shortestRow_19 kk107 n x1 x3 x4 x6 σ = some R → G p l e rm_X7_shortestRow s m args below meth c D ca ad 91 LC 8 (gEnd below args s D ca ad 91 LC (some (.int R.1)) R.2) 19 [(0, .ref 0), (1, .long x1), (3, .int x3), (4, .long x4), (6, .int x6)] [] σ := by
  intro n
  induction n with
  | zero =>
    intro x1 x3 x4 x6 σ h
    have h : none = some R := h
    cases h
  | succ n ih =>
    intro x1 x3 x4 x6 σ h
    rw [f_X7_shortestRow_19] at h
    refine g_iload C 4 dX7_shortestRow_19 rfl ?_
    refine g_aload_n C 0 dX7_shortestRow_21 rfl ?_
    refine g_getR C 0 1 rfl q_X7_10 rfl rfl dX7_shortestRow_22 ?_
    refine g_getI C 0 rfl q_X7_74 rfl dX7_shortestRow_25 ?_
    refine g_icmp_ge C 107 dX7_shortestRow_28 (by decide) (fun hc1 => ?_) (fun hc1 => ?_)
    · have h := ite_t hc1 h
      exact g_sub [0, 1, 2] rfl (HK107 x1 x3 σ h)
    · have h := ite_f hc1 h
      refine g_lload C 3 dX7_shortestRow_31 rfl ?_
      refine g_aload_n C 0 dX7_shortestRow_33 rfl ?_
      refine g_getR C 6 70 rfl q_X7_48 rfl rfl dX7_shortestRow_34 ?_
      refine g_getR C 12 80 rfl q_X7_249 rfl rfl dX7_shortestRow_37 ?_
      refine g_iload C 4 dX7_shortestRow_40 rfl ?_
      obtain ⟨hi2, h⟩ := cI_some h
      refine g_lald C 40 rfl ho_17 hi2 dX7_shortestRow_42 ?_
      refine g_ladd C dX7_shortestRow_43 ?_
      refine g_nmL (fun z3 ez3 => ?_)
      have h := ap_at ez3 h
      refine g_lstore C [(4, .long z3), (0, .ref 0), (1, .long x1), (3, .int x3), (6, .int x6)] dX7_shortestRow_44 (by decide) rfl ?_
      refine g_iload C 4 dX7_shortestRow_46 rfl ?_
      refine g_iload_n C 3 dX7_shortestRow_48 rfl ?_
      refine g_isub C dX7_shortestRow_49 ?_
      refine g_iconst C (1 : Int32) dX7_shortestRow_50 rfl ?_
      refine g_iadd C dX7_shortestRow_51 ?_
      refine g_nmI (fun z4 ez4 => ?_)
      have h := ap_at ez4 h
      refine g_istore C [(7, .int z4), (4, .long z3), (0, .ref 0), (1, .long x1), (3, .int x3), (6, .int x6)] dX7_shortestRow_52 (by decide) rfl ?_
      refine g_iload C 0 dX7_shortestRow_54 rfl ?_
      refine g_if_le C 76 dX7_shortestRow_56 (by decide) (fun hc5 => ?_) (fun hc5 => ?_)
      · have h := ite_t hc5 h
        exact g_sub [2, 3, 4, 1, 5, 0] rfl ((s_X7_shortestRow_76 C ih) x1 x3 z3 x6 z4 σ h)
      · have h := ite_f hc5 h
        refine g_lload C 1 dX7_shortestRow_59 rfl ?_
        refine g_aload_n C 2 dX7_shortestRow_61 rfl ?_
        refine g_getR C 6 70 rfl q_X7_48 rfl rfl dX7_shortestRow_62 ?_
        refine g_getR C 12 80 rfl q_X7_249 rfl rfl dX7_shortestRow_65 ?_
        refine g_iload C 0 dX7_shortestRow_68 rfl ?_
        refine g_iconst C (1 : Int32) dX7_shortestRow_70 rfl ?_
        refine g_isub C dX7_shortestRow_71 ?_
        obtain ⟨hi6, h⟩ := cI_some h
        refine g_lald C 40 rfl ho_17 hi6 dX7_shortestRow_72 ?_
        refine g_lsub C dX7_shortestRow_73 ?_
        refine g_nmL (fun z7 ez7 => ?_)
        have h := ap_at ez7 h
        refine g_lstore C [(4, .long z7), (7, .int z4), (0, .ref 0), (1, .long x1), (3, .int x3), (6, .int x6)] dX7_shortestRow_74 (by decide) rfl ?_
        exact g_sub [2, 3, 4, 0, 5, 1] rfl ((s_X7_shortestRow_76 C ih) x1 x3 z7 x6 z4 σ h)
def f_X7_shortestRow_107 (kk2 : Int64 → Int32 → St → Option (Int32 × St)) (x1 : Int64) (x3 : Int32) (σ : St) : Option (Int32 × St) := kk2 x1 (x3 + (1 : Int32)) σ
set_option maxRecDepth 20000 in
theorem s_X7_shortestRow_107 {R : Int32 × St} (C : gC p s m args meth c D ca ad 91 LC RX7 cX7_shortestRow 8 (some .int)) {kk2 : Int64 → Int32 → St → Option (Int32 × St)} (HK2 : ∀ (x1 : Int64) (x3 : Int32) (σ : St), kk2 x1 x3 σ = some R → G p l e rm_X7_shortestRow s m args below meth c D ca ad 91 LC 8 (gEnd below args s D ca ad 91 LC (some (.int R.1)) R.2) 2 [(0, .ref 0), (1, .long x1), (3, .int x3)] [] σ) (x1 : Int64) (x3 : Int32) (σ : St) (h : f_X7_shortestRow_107 kk2 x1 x3 σ = some R) : G p l e rm_X7_shortestRow s m args below meth c D ca ad 91 LC 8 (gEnd below args s D ca ad 91 LC (some (.int R.1)) R.2) 107 [(0, .ref 0), (1, .long x1), (3, .int x3)] [] σ := by
  unfold f_X7_shortestRow_107 at h
  refine g_iinc C 2 [(3, .int (x3 + (1 : Int32))), (0, .ref 0), (1, .long x1)] dX7_shortestRow_107 rfl rfl (by decide) rfl ?_
  refine g_goto C 2 dX7_shortestRow_110 (by decide) ?_
  exact g_sub [1, 2, 0] rfl (HK2 x1 (x3 + (1 : Int32)) σ h)
def f_X7_shortestRow_2 : Nat → Int64 → Int32 → St → Option (Int32 × St)
  | 0, _, _, _ => none
  | n + 1, x1, x3, σ => (if (σ.1 1 0) < x3 then some ((-4 : Int32), σ) else (f_X7_shortestRow_19 (f_X7_shortestRow_107 (f_X7_shortestRow_2 n)) FU) x1 x3 (0 : Int64) (0 : Int32) σ)
set_option maxRecDepth 20000 in
theorem s_X7_shortestRow_2 {R : Int32 × St} (C : gC p s m args meth c D ca ad 91 LC RX7 cX7_shortestRow 8 (some .int)) : ∀ (n : Nat) (x1 : Int64) (x3 : Int32) (σ : St), f_X7_shortestRow_2 n x1 x3 σ = some R → G p l e rm_X7_shortestRow s m args below meth c D ca ad 91 LC 8 (gEnd below args s D ca ad 91 LC (some (.int R.1)) R.2) 2 [(0, .ref 0), (1, .long x1), (3, .int x3)] [] σ := by
  intro n
  induction n with
  | zero =>
    intro x1 x3 σ h
    have h : none = some R := h
    cases h
  | succ n ih =>
    intro x1 x3 σ h
    rw [f_X7_shortestRow_2] at h
    refine g_iload_n C 2 dX7_shortestRow_2 rfl ?_
    refine g_aload_n C 0 dX7_shortestRow_3 rfl ?_
    refine g_getR C 0 1 rfl q_X7_10 rfl rfl dX7_shortestRow_4 ?_
    refine g_getI C 0 rfl q_X7_74 rfl dX7_shortestRow_7 ?_
    refine g_icmp_gt C 113 dX7_shortestRow_10 (by decide) (fun hc1 => ?_) (fun hc1 => ?_)
    · have h := ite_t hc1 h
      refine g_bipush C (-4 : Int32) dX7_shortestRow_113 rfl ?_
      obtain rfl := Option.some.inj h
      exact g_iret C dX7_shortestRow_115
    · have h := ite_f hc1 h
      refine g_lconst C (0 : Int64) dX7_shortestRow_13 rfl ?_
      refine g_lstore C [(4, .long (0 : Int64)), (0, .ref 0), (1, .long x1), (3, .int x3)] dX7_shortestRow_14 (by decide) rfl ?_
      refine g_iconst C (0 : Int32) dX7_shortestRow_16 rfl ?_
      refine g_istore C [(6, .int (0 : Int32)), (4, .long (0 : Int64)), (0, .ref 0), (1, .long x1), (3, .int x3)] dX7_shortestRow_17 (by decide) rfl ?_
      exact g_sub [2, 3, 4, 1, 0] rfl ((s_X7_shortestRow_19 C (s_X7_shortestRow_107 C ih) FU) x1 x3 (0 : Int64) (0 : Int32) σ h)
def f_X7_shortestRow (x1 : Int64) (σ : St) : Option (Int32 × St) := (f_X7_shortestRow_2 FU) x1 (1 : Int32) σ
set_option maxRecDepth 20000 in
theorem m_X7_shortestRow {l : Launch} {D : va_G} {ca : Nat → ClassId} {ad : Nat → Nat} {x1 : Int64} {σ : St} {R : Int32 × St} (h : f_X7_shortestRow x1 σ = some R) : gM l D ca ad 91 LC yX7_shortestRow cX7_shortestRow 8 (some .int) rm_X7_shortestRow [.ref 0, .long x1] σ (some (.int R.1)) R.2 := by
  refine gM_of (by decide) (Nat.le_of_ble_eq_true rfl) (fun p e s m args below meth c C => ?_)
  refine g_ent (ls' := [(0, .ref 0), (1, .long x1)]) rfl ?_
  unfold f_X7_shortestRow at h
  refine g_iconst C (1 : Int32) dX7_shortestRow_0 rfl ?_
  refine g_istore_n C [(3, .int (1 : Int32)), (0, .ref 0), (1, .long x1)] dX7_shortestRow_1 (by decide) rfl ?_
  exact g_sub [1, 2, 0] rfl ((s_X7_shortestRow_2 C FU) x1 (1 : Int32) σ h)
def f_X7_span (x1 : Int32) (x2 : Int32) (σ : St) : Option (Int32 × St) := (f_X7_isFind x1 σ).bind (fun q1 => (if q1.1 = 0 then some ((-2 : Int32), q1.2) else (if x2 < (1 : Int32) then some ((-2 : Int32), q1.2) else (if x2 ≤ (1000 : Int32) then (f_X7_weighForShare q1.2).bind (fun q5 => (if (0 : Int64) ≤ q5.1 then (f_X0_countEachYear x1 q5.2).bind (fun q7 => (f_X7_shortestRow (x2.toInt64 * q5.1) q7).bind (fun q8 => some (q8.1, q8.2))) else some (q5.1.toInt32, q5.2))) else some ((-2 : Int32), q1.2)))))
set_option maxRecDepth 20000 in
theorem m_X7_span {l : Launch} {D : va_G} {ca : Nat → ClassId} {ad : Nat → Nat} {x1 : Int32} {x2 : Int32} {σ : St} {R : Int32 × St} (h : f_X7_span x1 x2 σ = some R) : gM l D ca ad 91 LC yX7_span cX7_span 5 (some .int) rm_X7_span [.ref 0, .int x1, .int x2] σ (some (.int R.1)) R.2 := by
  refine gM_of (by decide) (Nat.le_of_ble_eq_true rfl) (fun p e s m args below meth c C => ?_)
  refine g_ent (ls' := [(0, .ref 0), (1, .int x1), (2, .int x2)]) rfl ?_
  unfold f_X7_span at h
  refine g_aload_n C 0 dX7_span_0 rfl ?_
  refine g_iload_n C 1 dX7_span_1 rfl ?_
  obtain ⟨q1, hq1, h⟩ := bd h
  refine g_callVI C [.int x1] qv_X7_142 (m_X7_isFind hq1) rfl (by decide) rfl rfl rfl ⟨rfl, rfl⟩ ⟨by decide, by decide⟩ (Nat.le_of_ble_eq_true rfl) dX7_span_2 ?_
  refine g_if_eq C 20 dX7_span_5 (by decide) (fun hc2 => ?_) (fun hc2 => ?_)
  · have h := ite_t hc2 h
    refine g_bipush C (-2 : Int32) dX7_span_20 rfl ?_
    obtain rfl := Option.some.inj h
    exact g_iret C dX7_span_22
  · have h := ite_f hc2 h
    refine g_iload_n C 2 dX7_span_8 rfl ?_
    refine g_iconst C (1 : Int32) dX7_span_9 rfl ?_
    refine g_icmp_lt C 20 dX7_span_10 (by decide) (fun hc3 => ?_) (fun hc3 => ?_)
    · have h := ite_t hc3 h
      refine g_bipush C (-2 : Int32) dX7_span_20 rfl ?_
      obtain rfl := Option.some.inj h
      exact g_iret C dX7_span_22
    · have h := ite_f hc3 h
      refine g_iload_n C 2 dX7_span_13 rfl ?_
      refine g_sipush C (1000 : Int32) dX7_span_14 rfl ?_
      refine g_icmp_le C 23 dX7_span_17 (by decide) (fun hc4 => ?_) (fun hc4 => ?_)
      · have h := ite_t hc4 h
        refine g_aload_n C 0 dX7_span_23 rfl ?_
        obtain ⟨q5, hq5, h⟩ := bd h
        refine g_callVL C [] qv_X7_224 (m_X7_weighForShare hq5) rfl (by decide) rfl rfl rfl ⟨rfl, rfl⟩ ⟨by decide, by decide⟩ (Nat.le_of_ble_eq_true rfl) dX7_span_24 ?_
        refine g_lstore_n C [(3, .long q5.1), (0, .ref 0), (1, .int x1), (2, .int x2)] dX7_span_27 (by decide) rfl ?_
        refine g_lload_n C 0 dX7_span_28 rfl ?_
        refine g_lconst C (0 : Int64) dX7_span_29 rfl ?_
        refine g_lcmp_ge C 37 dX7_span_30 dX7_span_31 (by decide) (fun hc6 => ?_) (fun hc6 => ?_)
        · have h := ite_t hc6 h
          refine g_aload_n C 1 dX7_span_37 rfl ?_
          refine g_getR C 6 70 rfl q_X7_48 rfl rfl dX7_span_38 ?_
          refine g_iload_n C 2 dX7_span_41 rfl ?_
          obtain ⟨q7, hq7, h⟩ := bd h
          refine g_callVV C [.int x1] qv_X7_246 (m_X0_countEachYear hq7) rfl (by decide) rfl rfl rfl ⟨rfl, rfl⟩ ⟨by decide, by decide⟩ (Nat.le_of_ble_eq_true rfl) dX7_span_42 ?_
          refine g_aload_n C 1 dX7_span_45 rfl ?_
          refine g_iload_n C 3 dX7_span_46 rfl ?_
          refine g_i2l C dX7_span_47 ?_
          refine g_lload_n C 0 dX7_span_48 rfl ?_
          refine g_lmul C dX7_span_49 ?_
          obtain ⟨q8, hq8, h⟩ := bd h
          refine g_callVI C [.long (x2.toInt64 * q5.1)] qv_X7_253 (m_X7_shortestRow hq8) rfl (by decide) rfl rfl rfl ⟨rfl, rfl⟩ ⟨by decide, by decide⟩ (Nat.le_of_ble_eq_true rfl) dX7_span_50 ?_
          obtain rfl := Option.some.inj h
          exact g_iret C dX7_span_53
        · have h := ite_f hc6 h
          refine g_lload_n C 0 dX7_span_34 rfl ?_
          refine g_l2i C dX7_span_35 ?_
          obtain rfl := Option.some.inj h
          exact g_iret C dX7_span_36
      · have h := ite_f hc4 h
        refine g_bipush C (-2 : Int32) dX7_span_20 rfl ?_
        obtain rfl := Option.some.inj h
        exact g_iret C dX7_span_22
def f_X7_strange (x1 : Int32) (σ : St) : Option (Int64 × St) := (f_X7_isFind x1 σ).bind (fun q1 => (if q1.1 = 0 then some ((-2 : Int64), q1.2) else (f_X7_weighForShare q1.2).bind (fun q3 => (if (0 : Int64) ≤ q3.1 then cI (ix x1 7) ((f_X5_meanPlain 1 (4 + 4 + 3 * x1.toNatClampNeg) q3.2).bind (fun q6 => (f_X6_level x1 ((q3.2.1 (4 + 4 + 3 * x1.toNatClampNeg) 1) * q6.1).toInt64 q6.2).bind (fun q7 => (f_X0_countAll q7).bind (fun q8 => (f_X7_fraction q8.1 q3.1 q8.2).bind (fun q9 => some (q9.1, q9.2)))))) else some (q3.1, q3.2)))))
set_option maxRecDepth 20000 in
theorem m_X7_strange {l : Launch} {D : va_G} {ca : Nat → ClassId} {ad : Nat → Nat} {x1 : Int32} {σ : St} {R : Int64 × St} (h : f_X7_strange x1 σ = some R) : gM l D ca ad 91 LC yX7_strange cX7_strange 5 (some .long) rm_X7_strange [.ref 0, .int x1] σ (some (.long R.1)) R.2 := by
  refine gM_of (by decide) (Nat.le_of_ble_eq_true rfl) (fun p e s m args below meth c C => ?_)
  refine g_ent (ls' := [(0, .ref 0), (1, .int x1)]) rfl ?_
  unfold f_X7_strange at h
  refine g_aload_n C 0 dX7_strange_0 rfl ?_
  refine g_iload_n C 1 dX7_strange_1 rfl ?_
  obtain ⟨q1, hq1, h⟩ := bd h
  refine g_callVI C [.int x1] qv_X7_142 (m_X7_isFind hq1) rfl (by decide) rfl rfl rfl ⟨rfl, rfl⟩ ⟨by decide, by decide⟩ (Nat.le_of_ble_eq_true rfl) dX7_strange_2 ?_
  refine g_if_ne C 12 dX7_strange_5 (by decide) (fun hc2 => ?_) (fun hc2 => ?_)
  · have h := ite_f hc2 h
    refine g_aload_n C 0 dX7_strange_12 rfl ?_
    obtain ⟨q3, hq3, h⟩ := bd h
    refine g_callVL C [] qv_X7_224 (m_X7_weighForShare hq3) rfl (by decide) rfl rfl rfl ⟨rfl, rfl⟩ ⟨by decide, by decide⟩ (Nat.le_of_ble_eq_true rfl) dX7_strange_13 ?_
    refine g_lstore_n C [(2, .long q3.1), (0, .ref 0), (1, .int x1)] dX7_strange_16 (by decide) rfl ?_
    refine g_lload_n C 0 dX7_strange_17 rfl ?_
    refine g_lconst C (0 : Int64) dX7_strange_18 rfl ?_
    refine g_lcmp_ge C 25 dX7_strange_19 dX7_strange_20 (by decide) (fun hc4 => ?_) (fun hc4 => ?_)
    · have h := ite_t hc4 h
      refine g_aload_n C 1 dX7_strange_25 rfl ?_
      refine g_getR C 0 1 rfl q_X7_10 rfl rfl dX7_strange_26 ?_
      refine g_getR C 4 4 rfl q_X7_135 rfl rfl dX7_strange_29 ?_
      refine g_iload_n C 2 dX7_strange_32 rfl ?_
      obtain ⟨hi5, h⟩ := cI_some h
      refine g_aald3 C rfl ho_22 hi5 dX7_strange_33 ?_
      refine g_astore C [(4, .ref (4 + 4 + 3 * x1.toNatClampNeg)), (2, .long q3.1), (0, .ref 0), (1, .int x1)] dX7_strange_34 (by decide) rfl ?_
      refine g_aload_n C 2 dX7_strange_36 rfl ?_
      refine g_getR C 5 63 rfl q_X7_39 rfl rfl dX7_strange_37 ?_
      refine g_iload_n C 3 dX7_strange_40 rfl ?_
      refine g_aload C 0 dX7_strange_41 rfl ?_
      refine g_getI C 1 (sc_f rfl (ix_lt hi5)) q_X7_154 rfl dX7_strange_43 ?_
      refine g_aload_n C 2 dX7_strange_46 rfl ?_
      refine g_getR C 0 1 rfl q_X7_10 rfl rfl dX7_strange_47 ?_
      refine g_aload C 0 dX7_strange_50 rfl ?_
      obtain ⟨q6, hq6, h⟩ := bd h
      refine g_callVI C [.ref (4 + 4 + 3 * x1.toNatClampNeg)] qv_X7_173 (m_X5_meanPlain rfl (sc_f rfl (ix_lt hi5)) hq6) rfl (by decide) rfl rfl rfl ⟨rfl, rfl⟩ ⟨by decide, by decide⟩ (Nat.le_of_ble_eq_true rfl) dX7_strange_52 ?_
      refine g_imul C dX7_strange_55 ?_
      refine g_i2l C dX7_strange_56 ?_
      obtain ⟨q7, hq7, h⟩ := bd h
      refine g_callVV C [.int x1, .long ((q3.2.1 (4 + 4 + 3 * x1.toNatClampNeg) 1) * q6.1).toInt64] qv_X7_257 (m_X6_level hq7) rfl (by decide) rfl rfl rfl ⟨rfl, rfl⟩ ⟨by decide, by decide⟩ (Nat.le_of_ble_eq_true rfl) dX7_strange_57 ?_
      refine g_aload_n C 2 dX7_strange_60 rfl ?_
      refine g_aload_n C 2 dX7_strange_61 rfl ?_
      refine g_getR C 6 70 rfl q_X7_48 rfl rfl dX7_strange_62 ?_
      obtain ⟨q8, hq8, h⟩ := bd h
      refine g_callVL C [] qv_X7_237 (m_X0_countAll hq8) rfl (by decide) rfl rfl rfl ⟨rfl, rfl⟩ ⟨by decide, by decide⟩ (Nat.le_of_ble_eq_true rfl) dX7_strange_65 ?_
      refine g_lload_n C 1 dX7_strange_68 rfl ?_
      obtain ⟨q9, hq9, h⟩ := bd h
      refine g_callVL C [.long q8.1, .long q3.1] qv_X7_232 (m_X7_fraction hq9) rfl (by decide) rfl rfl rfl ⟨rfl, rfl⟩ ⟨by decide, by decide⟩ (Nat.le_of_ble_eq_true rfl) dX7_strange_69 ?_
      obtain rfl := Option.some.inj h
      exact g_lret C dX7_strange_72
    · have h := ite_f hc4 h
      refine g_lload_n C 0 dX7_strange_23 rfl ?_
      obtain rfl := Option.some.inj h
      exact g_lret C dX7_strange_24
  · have h := ite_t hc2 h
    refine g_ldc2 C (-2 : Int64) qc_X7_222 dX7_strange_8 ?_
    obtain rfl := Option.some.inj h
    exact g_lret C dX7_strange_11
def f_X7_without (x1 : Int32) (σ : St) : Option (Int64 × St) := (f_X7_isFind x1 σ).bind (fun q1 => (if q1.1 = 0 then some ((-2 : Int64), q1.2) else (f_X7_weigh 1 q1.2).bind (fun q3 => (if (0 : Int64) ≤ q3.1 then (f_X6_leaveOut x1 q3.2).bind (fun q5 => (f_X6_isBig q5).bind (fun q6 => (if q6.1 = 0 then (f_X0_countAll q6.2).bind (fun q8 => (if q8.1 = (0 : Int64) then some ((-4 : Int64), q8.2) else (f_X7_fraction q3.1 q8.1 q8.2).bind (fun q10 => some (q10.1, q10.2)))) else some ((-5 : Int64), q6.2)))) else some ((-5 : Int64), q3.2)))))
set_option maxRecDepth 20000 in
theorem m_X7_without {l : Launch} {D : va_G} {ca : Nat → ClassId} {ad : Nat → Nat} {x1 : Int32} {σ : St} {R : Int64 × St} (h : f_X7_without x1 σ = some R) : gM l D ca ad 91 LC yX7_without cX7_without 6 (some .long) rm_X7_without [.ref 0, .int x1] σ (some (.long R.1)) R.2 := by
  refine gM_of (by decide) (Nat.le_of_ble_eq_true rfl) (fun p e s m args below meth c C => ?_)
  refine g_ent (ls' := [(0, .ref 0), (1, .int x1)]) rfl ?_
  unfold f_X7_without at h
  refine g_aload_n C 0 dX7_without_0 rfl ?_
  refine g_iload_n C 1 dX7_without_1 rfl ?_
  obtain ⟨q1, hq1, h⟩ := bd h
  refine g_callVI C [.int x1] qv_X7_142 (m_X7_isFind hq1) rfl (by decide) rfl rfl rfl ⟨rfl, rfl⟩ ⟨by decide, by decide⟩ (Nat.le_of_ble_eq_true rfl) dX7_without_2 ?_
  refine g_if_ne C 12 dX7_without_5 (by decide) (fun hc2 => ?_) (fun hc2 => ?_)
  · have h := ite_f hc2 h
    refine g_aload_n C 0 dX7_without_12 rfl ?_
    refine g_aload_n C 0 dX7_without_13 rfl ?_
    refine g_getR C 0 1 rfl q_X7_10 rfl rfl dX7_without_14 ?_
    obtain ⟨q3, hq3, h⟩ := bd h
    refine g_callVL C [.ref 1] qv_X7_218 (m_X7_weigh rfl hq3) rfl (by decide) rfl rfl rfl ⟨rfl, rfl⟩ ⟨by decide, by decide⟩ (Nat.le_of_ble_eq_true rfl) dX7_without_17 ?_
    refine g_lstore_n C [(2, .long q3.1), (0, .ref 0), (1, .int x1)] dX7_without_20 (by decide) rfl ?_
    refine g_lload_n C 0 dX7_without_21 rfl ?_
    refine g_lconst C (0 : Int64) dX7_without_22 rfl ?_
    refine g_lcmp_ge C 31 dX7_without_23 dX7_without_24 (by decide) (fun hc4 => ?_) (fun hc4 => ?_)
    · have h := ite_t hc4 h
      refine g_aload_n C 1 dX7_without_31 rfl ?_
      refine g_getR C 5 63 rfl q_X7_39 rfl rfl dX7_without_32 ?_
      refine g_iload_n C 2 dX7_without_35 rfl ?_
      obtain ⟨q5, hq5, h⟩ := bd h
      refine g_callVV C [.int x1] qv_X7_263 (m_X6_leaveOut hq5) rfl (by decide) rfl rfl rfl ⟨rfl, rfl⟩ ⟨by decide, by decide⟩ (Nat.le_of_ble_eq_true rfl) dX7_without_36 ?_
      refine g_aload_n C 1 dX7_without_39 rfl ?_
      refine g_getR C 5 63 rfl q_X7_39 rfl rfl dX7_without_40 ?_
      obtain ⟨q6, hq6, h⟩ := bd h
      refine g_callVI C [] qv_X7_266 (m_X6_isBig hq6) rfl (by decide) rfl rfl rfl ⟨rfl, rfl⟩ ⟨by decide, by decide⟩ (Nat.le_of_ble_eq_true rfl) dX7_without_43 ?_
      refine g_if_eq C 53 dX7_without_46 (by decide) (fun hc7 => ?_) (fun hc7 => ?_)
      · have h := ite_t hc7 h
        refine g_aload_n C 1 dX7_without_53 rfl ?_
        refine g_getR C 6 70 rfl q_X7_48 rfl rfl dX7_without_54 ?_
        obtain ⟨q8, hq8, h⟩ := bd h
        refine g_callVL C [] qv_X7_237 (m_X0_countAll hq8) rfl (by decide) rfl rfl rfl ⟨rfl, rfl⟩ ⟨by decide, by decide⟩ (Nat.le_of_ble_eq_true rfl) dX7_without_57 ?_
        refine g_lstore C [(4, .long q8.1), (2, .long q3.1), (0, .ref 0), (1, .int x1)] dX7_without_60 (by decide) rfl ?_
        refine g_lload C 0 dX7_without_62 rfl ?_
        refine g_lconst C (0 : Int64) dX7_without_64 rfl ?_
        refine g_lcmp_ne C 75 dX7_without_65 dX7_without_66 (by decide) (fun hc9 => ?_) (fun hc9 => ?_)
        · have h := ite_f hc9 h
          refine g_aload_n C 2 dX7_without_75 rfl ?_
          refine g_lload_n C 1 dX7_without_76 rfl ?_
          refine g_lload C 0 dX7_without_77 rfl ?_
          obtain ⟨q10, hq10, h⟩ := bd h
          refine g_callVL C [.long q3.1, .long q8.1] qv_X7_232 (m_X7_fraction hq10) rfl (by decide) rfl rfl rfl ⟨rfl, rfl⟩ ⟨by decide, by decide⟩ (Nat.le_of_ble_eq_true rfl) dX7_without_79 ?_
          obtain rfl := Option.some.inj h
          exact g_lret C dX7_without_82
        · have h := ite_t hc9 h
          refine g_ldc2 C (-4 : Int64) qc_X7_270 dX7_without_69 ?_
          refine g_goto C 82 dX7_without_72 (by decide) ?_
          obtain rfl := Option.some.inj h
          exact g_lret C dX7_without_82
      · have h := ite_f hc7 h
        refine g_ldc2 C (-5 : Int64) qc_X7_261 dX7_without_49 ?_
        obtain rfl := Option.some.inj h
        exact g_lret C dX7_without_52
    · have h := ite_f hc4 h
      refine g_ldc2 C (-5 : Int64) qc_X7_261 dX7_without_27 ?_
      obtain rfl := Option.some.inj h
      exact g_lret C dX7_without_30
  · have h := ite_t hc2 h
    refine g_ldc2 C (-2 : Int64) qc_X7_222 dX7_without_8 ?_
    obtain rfl := Option.some.inj h
    exact g_lret C dX7_without_11
def f_X7_settleYears_32 (kk80 : Int64 → Int32 → Int32 → St → Option (Int64 × St)) : Nat → Int64 → Int32 → Int32 → St → Option (Int64 × St)
  | 0, _, _, _, _ => none
  | n + 1, x3, x7, x8, σ => (if ((σ.1 1 0) - (1 : Int32)) ≤ x8 then kk80 x3 x7 x8 σ else cI (ix x8 40) ((if x3 < (σ.2 80 x8.toNatClampNeg) then kk80 x3 x7 x8 σ else cI (ix x8 40) (ap (x3 - (σ.2 80 x8.toNatClampNeg)) fun z5 => (f_X7_settleYears_32 kk80 n) z5 x7 (x8 + (1 : Int32)) σ))))
set_option maxRecDepth 20000 in
theorem s_X7_settleYears_32 {R : Int64 × St} (C : gC p s m args meth c D ca ad 91 LC RX7 cX7_settleYears 9 (some .long)) {kk80 : Int64 → Int32 → Int32 → St → Option (Int64 × St)} (HK80 : ∀ (x3 : Int64) (x7 : Int32) (x8 : Int32) (σ : St), kk80 x3 x7 x8 σ = some R → G p l e rm_X7_settleYears s m args below meth c D ca ad 91 LC 9 (gEnd below args s D ca ad 91 LC (some (.long R.1)) R.2) 80 [(0, .ref 0), (3, .long x3), (7, .int x7), (8, .int x8)] [] σ) : ∀ (n : Nat) (x3 : Int64) (x7 : Int32) (x8 : Int32) (σ : St), f_X7_settleYears_32 kk80 n x3 x7 x8 σ = some R → G p l e rm_X7_settleYears s m args below meth c D ca ad 91 LC 9 (gEnd below args s D ca ad 91 LC (some (.long R.1)) R.2) 32 [(0, .ref 0), (3, .long x3), (7, .int x7), (8, .int x8)] [] σ := by
  intro n
  induction n with
  | zero =>
    intro x3 x7 x8 σ h
    have h : none = some R := h
    cases h
  | succ n ih =>
    intro x3 x7 x8 σ h
    rw [f_X7_settleYears_32] at h
    refine g_iload C 3 dX7_settleYears_32 rfl ?_
    refine g_aload_n C 0 dX7_settleYears_34 rfl ?_
    refine g_getR C 0 1 rfl q_X7_10 rfl rfl dX7_settleYears_35 ?_
    refine g_getI C 0 rfl q_X7_74 rfl dX7_settleYears_38 ?_
    refine g_iconst C (1 : Int32) dX7_settleYears_41 rfl ?_
    refine g_isub C dX7_settleYears_42 ?_
    refine g_icmp_ge C 80 dX7_settleYears_43 (by decide) (fun hc1 => ?_) (fun hc1 => ?_)
    · have h := ite_t hc1 h
      exact g_sub [0, 1, 2, 3] rfl (HK80 x3 x7 x8 σ h)
    · have h := ite_f hc1 h
      refine g_lload_n C 1 dX7_settleYears_46 rfl ?_
      refine g_aload_n C 0 dX7_settleYears_47 rfl ?_
      refine g_getR C 6 70 rfl q_X7_48 rfl rfl dX7_settleYears_48 ?_
      refine g_getR C 12 80 rfl q_X7_249 rfl rfl dX7_settleYears_51 ?_
      refine g_iload C 3 dX7_settleYears_54 rfl ?_
      obtain ⟨hi2, h⟩ := cI_some h
      refine g_lald C 40 rfl ho_17 hi2 dX7_settleYears_56 ?_
      refine g_lcmp_lt C 80 dX7_settleYears_57 dX7_settleYears_58 (by decide) (fun hc3 => ?_) (fun hc3 => ?_)
      · have h := ite_t hc3 h
        exact g_sub [0, 1, 2, 3] rfl (HK80 x3 x7 x8 σ h)
      · have h := ite_f hc3 h
        refine g_lload_n C 1 dX7_settleYears_61 rfl ?_
        refine g_aload_n C 0 dX7_settleYears_62 rfl ?_
        refine g_getR C 6 70 rfl q_X7_48 rfl rfl dX7_settleYears_63 ?_
        refine g_getR C 12 80 rfl q_X7_249 rfl rfl dX7_settleYears_66 ?_
        refine g_iload C 3 dX7_settleYears_69 rfl ?_
        obtain ⟨hi4, h⟩ := cI_some h
        refine g_lald C 40 rfl ho_17 hi4 dX7_settleYears_71 ?_
        refine g_lsub C dX7_settleYears_72 ?_
        refine g_nmL (fun z5 ez5 => ?_)
        have h := ap_at ez5 h
        refine g_lstore_n C [(3, .long z5), (0, .ref 0), (7, .int x7), (8, .int x8)] dX7_settleYears_73 (by decide) rfl ?_
        refine g_iinc C 3 [(8, .int (x8 + (1 : Int32))), (3, .long z5), (0, .ref 0), (7, .int x7)] dX7_settleYears_74 rfl rfl (by decide) rfl ?_
        refine g_goto C 32 dX7_settleYears_77 (by decide) ?_
        exact g_sub [2, 1, 3, 0] rfl (ih z5 x7 (x8 + (1 : Int32)) σ h)
def f_X7_settleYears_80 (kk8 : Int64 → Int64 → Int32 → St → Option (Int64 × St)) (x3 : Int64) (x7 : Int32) (x8 : Int32) (σ : St) : Option (Int64 × St) := cI (ix x8 40) (ap (σ.2 80 x8.toNatClampNeg) fun z2 => cI (ix x7 7) (ap (up1 σ 82 x7.toNatClampNeg x8) fun σ4 => (f_X6_limit x7 x8 x8 σ4).bind (fun q5 => kk8 x3 z2 (x7 + (1 : Int32)) q5)))
set_option maxRecDepth 20000 in
theorem s_X7_settleYears_80 {R : Int64 × St} (C : gC p s m args meth c D ca ad 91 LC RX7 cX7_settleYears 9 (some .long)) {kk8 : Int64 → Int64 → Int32 → St → Option (Int64 × St)} (HK8 : ∀ (x3 : Int64) (x5 : Int64) (x7 : Int32) (σ : St), kk8 x3 x5 x7 σ = some R → G p l e rm_X7_settleYears s m args below meth c D ca ad 91 LC 9 (gEnd below args s D ca ad 91 LC (some (.long R.1)) R.2) 8 [(0, .ref 0), (3, .long x3), (5, .long x5), (7, .int x7)] [] σ) (x3 : Int64) (x7 : Int32) (x8 : Int32) (σ : St) (h : f_X7_settleYears_80 kk8 x3 x7 x8 σ = some R) : G p l e rm_X7_settleYears s m args below meth c D ca ad 91 LC 9 (gEnd below args s D ca ad 91 LC (some (.long R.1)) R.2) 80 [(0, .ref 0), (3, .long x3), (7, .int x7), (8, .int x8)] [] σ := by
  unfold f_X7_settleYears_80 at h
  refine g_aload_n C 0 dX7_settleYears_80 rfl ?_
  refine g_getR C 6 70 rfl q_X7_48 rfl rfl dX7_settleYears_81 ?_
  refine g_getR C 12 80 rfl q_X7_249 rfl rfl dX7_settleYears_84 ?_
  refine g_iload C 3 dX7_settleYears_87 rfl ?_
  obtain ⟨hi1, h⟩ := cI_some h
  refine g_lald C 40 rfl ho_17 hi1 dX7_settleYears_89 ?_
  refine g_nmL (fun z2 ez2 => ?_)
  have h := ap_at ez2 h
  refine g_lstore C [(5, .long z2), (0, .ref 0), (3, .long x3), (7, .int x7), (8, .int x8)] dX7_settleYears_90 (by decide) rfl ?_
  refine g_aload_n C 1 dX7_settleYears_92 rfl ?_
  refine g_getR C 9 82 rfl q_X7_60 rfl rfl dX7_settleYears_93 ?_
  refine g_iload C 3 dX7_settleYears_96 rfl ?_
  refine g_iload C 4 dX7_settleYears_98 rfl ?_
  obtain ⟨hi3, h⟩ := cI_some h
  refine g_iast C 7 rfl ho_11 hi3 dX7_settleYears_100 ?_
  refine g_nmS (fun σ4 eσ4 => ?_)
  have h := ap_at eσ4 h
  refine g_aload_n C 1 dX7_settleYears_101 rfl ?_
  refine g_getR C 5 63 rfl q_X7_39 rfl rfl dX7_settleYears_102 ?_
  refine g_iload C 3 dX7_settleYears_105 rfl ?_
  refine g_iload C 4 dX7_settleYears_107 rfl ?_
  refine g_iload C 4 dX7_settleYears_109 rfl ?_
  obtain ⟨q5, hq5, h⟩ := bd h
  refine g_callVV C [.int x7, .int x8, .int x8] qv_X7_240 (m_X6_limit hq5) rfl (by decide) rfl rfl rfl ⟨rfl, rfl⟩ ⟨by decide, by decide⟩ (Nat.le_of_ble_eq_true rfl) dX7_settleYears_111 ?_
  refine g_iinc C 3 [(7, .int (x7 + (1 : Int32))), (5, .long z2), (0, .ref 0), (3, .long x3), (8, .int x8)] dX7_settleYears_114 rfl rfl (by decide) rfl ?_
  refine g_goto C 8 dX7_settleYears_117 (by decide) ?_
  exact g_sub [2, 3, 1, 0] rfl (HK8 x3 z2 (x7 + (1 : Int32)) q5 h)
def f_X7_settleYears_8 : Nat → Int64 → Int64 → Int32 → St → Option (Int64 × St)
  | 0, _, _, _, _ => none
  | n + 1, x3, x5, x7, σ => (if (σ.1 1 3) ≤ x7 then some (x5, σ) else (f_X0_countEachYear x7 σ).bind (fun q2 => (f_X7_settleYears_32 (f_X7_settleYears_80 (f_X7_settleYears_8 n)) FU) x3 x7 (0 : Int32) q2))
set_option maxRecDepth 20000 in
theorem s_X7_settleYears_8 {R : Int64 × St} (C : gC p s m args meth c D ca ad 91 LC RX7 cX7_settleYears 9 (some .long)) : ∀ (n : Nat) (x3 : Int64) (x5 : Int64) (x7 : Int32) (σ : St), f_X7_settleYears_8 n x3 x5 x7 σ = some R → G p l e rm_X7_settleYears s m args below meth c D ca ad 91 LC 9 (gEnd below args s D ca ad 91 LC (some (.long R.1)) R.2) 8 [(0, .ref 0), (3, .long x3), (5, .long x5), (7, .int x7)] [] σ := by
  intro n
  induction n with
  | zero =>
    intro x3 x5 x7 σ h
    have h : none = some R := h
    cases h
  | succ n ih =>
    intro x3 x5 x7 σ h
    rw [f_X7_settleYears_8] at h
    refine g_iload C 3 dX7_settleYears_8 rfl ?_
    refine g_aload_n C 0 dX7_settleYears_10 rfl ?_
    refine g_getR C 0 1 rfl q_X7_10 rfl rfl dX7_settleYears_11 ?_
    refine g_getI C 3 rfl q_X7_132 rfl dX7_settleYears_14 ?_
    refine g_icmp_ge C 120 dX7_settleYears_17 (by decide) (fun hc1 => ?_) (fun hc1 => ?_)
    · have h := ite_t hc1 h
      refine g_lload C 2 dX7_settleYears_120 rfl ?_
      obtain rfl := Option.some.inj h
      exact g_lret C dX7_settleYears_122
    · have h := ite_f hc1 h
      refine g_aload_n C 0 dX7_settleYears_20 rfl ?_
      refine g_getR C 6 70 rfl q_X7_48 rfl rfl dX7_settleYears_21 ?_
      refine g_iload C 3 dX7_settleYears_24 rfl ?_
      obtain ⟨q2, hq2, h⟩ := bd h
      refine g_callVV C [.int x7] qv_X7_246 (m_X0_countEachYear hq2) rfl (by decide) rfl rfl rfl ⟨rfl, rfl⟩ ⟨by decide, by decide⟩ (Nat.le_of_ble_eq_true rfl) dX7_settleYears_26 ?_
      refine g_iconst C (0 : Int32) dX7_settleYears_29 rfl ?_
      refine g_istore C [(8, .int (0 : Int32)), (0, .ref 0), (3, .long x3), (5, .long x5), (7, .int x7)] dX7_settleYears_30 (by decide) rfl ?_
      exact g_sub [1, 2, 4, 0] rfl ((s_X7_settleYears_32 C (s_X7_settleYears_80 C ih) FU) x3 x7 (0 : Int32) q2 h)
def f_X7_settleYears (x1 : Int64) (σ : St) : Option (Int64 × St) := (f_X7_settleYears_8 FU) x1 (1 : Int64) (0 : Int32) σ
set_option maxRecDepth 20000 in
theorem m_X7_settleYears {l : Launch} {D : va_G} {ca : Nat → ClassId} {ad : Nat → Nat} {x1 : Int64} {σ : St} {R : Int64 × St} (h : f_X7_settleYears x1 σ = some R) : gM l D ca ad 91 LC yX7_settleYears cX7_settleYears 9 (some .long) rm_X7_settleYears [.ref 0, .long x1] σ (some (.long R.1)) R.2 := by
  refine gM_of (by decide) (Nat.le_of_ble_eq_true rfl) (fun p e s m args below meth c C => ?_)
  refine g_ent (ls' := [(0, .ref 0), (1, .long x1)]) rfl ?_
  unfold f_X7_settleYears at h
  refine g_lload_n C 1 dX7_settleYears_0 rfl ?_
  refine g_lstore_n C [(3, .long x1), (0, .ref 0), (1, .long x1)] dX7_settleYears_1 (by decide) rfl ?_
  refine g_lconst C (1 : Int64) dX7_settleYears_2 rfl ?_
  refine g_lstore C [(5, .long (1 : Int64)), (3, .long x1), (0, .ref 0), (1, .long x1)] dX7_settleYears_3 (by decide) rfl ?_
  refine g_iconst C (0 : Int32) dX7_settleYears_5 rfl ?_
  refine g_istore C [(7, .int (0 : Int32)), (5, .long (1 : Int64)), (3, .long x1), (0, .ref 0), (1, .long x1)] dX7_settleYears_6 (by decide) rfl ?_
  exact g_sub [3, 2, 1, 0] rfl ((s_X7_settleYears_8 C FU) x1 (1 : Int64) (0 : Int32) σ h)
end
