section
variable {p : Program} {l : Launch} {e : Env} {s : State} {m : MethodId} {args : Array Value} {below : List Frame} {meth : Method} {c : Code} {D : va_G} {ca : Nat → ClassId} {ad : Nat → Nat}
def f_X8_of_125 (kk98 : Int32 → Int32 → Int32 → St → Option (Int32 × St)) (x1 : Int32) (x4 : Int32) (xs0 : Int32) (xs1 : Int32) (σ : St) : Option (Int32 × St) := kk98 x1 (xs1 + xs0) (x4 + (1 : Int32)) σ
set_option maxRecDepth 20000 in
theorem s_X8_of_125 {R : Int32 × St} (C : gC p s m args meth c D ca ad 26 LM RX8 cX8_of 5 (some .int)) {kk98 : Int32 → Int32 → Int32 → St → Option (Int32 × St)} (HK98 : ∀ (x1 : Int32) (x3 : Int32) (x4 : Int32) (σ : St), kk98 x1 x3 x4 σ = some R → G p l e rm_X8_of s m args below meth c D ca ad 26 LM 5 (gEnd below args s D ca ad 26 LM (some (.int R.1)) R.2) 98 [(0, .ref 0), (1, .int x1), (3, .int x3), (4, .int x4)] [] σ) (x1 : Int32) (x4 : Int32) (xs0 : Int32) (xs1 : Int32) (σ : St) (h : f_X8_of_125 kk98 x1 x4 xs0 xs1 σ = some R) : G p l e rm_X8_of s m args below meth c D ca ad 26 LM 5 (gEnd below args s D ca ad 26 LM (some (.int R.1)) R.2) 125 [(0, .ref 0), (1, .int x1), (4, .int x4)] [.int xs0, .int xs1] σ := by
  unfold f_X8_of_125 at h
  refine g_iadd C dX8_of_125 ?_
  refine g_istore_n C [(3, .int (xs1 + xs0)), (0, .ref 0), (1, .int x1), (4, .int x4)] dX8_of_126 (by decide) rfl ?_
  refine g_iinc C 3 [(4, .int (x4 + (1 : Int32))), (3, .int (xs1 + xs0)), (0, .ref 0), (1, .int x1)] dX8_of_127 rfl rfl (by decide) rfl ?_
  refine g_goto C 98 dX8_of_130 (by decide) ?_
  exact g_sub [2, 3, 1, 0] rfl (HK98 x1 (xs1 + xs0) (x4 + (1 : Int32)) σ h)
def f_X8_of_98 : Nat → Int32 → Int32 → Int32 → St → Option (Int32 × St)
  | 0, _, _, _, _ => none
  | n + 1, x1, x3, x4, σ => (if (σ.1 0 0) ≤ x4 then some (x3, σ) else (f_X8_weightOf x1 x4 σ).bind (fun q2 => (if q2.1 ≤ (0 : Int64) then (f_X8_of_125 (f_X8_of_98 n)) x1 x4 (0 : Int32) x3 q2.2 else (f_X8_of_125 (f_X8_of_98 n)) x1 x4 (1 : Int32) x3 q2.2)))
set_option maxRecDepth 20000 in
theorem s_X8_of_98 {R : Int32 × St} (C : gC p s m args meth c D ca ad 26 LM RX8 cX8_of 5 (some .int)) : ∀ (n : Nat) (x1 : Int32) (x3 : Int32) (x4 : Int32) (σ : St), f_X8_of_98 n x1 x3 x4 σ = some R → G p l e rm_X8_of s m args below meth c D ca ad 26 LM 5 (gEnd below args s D ca ad 26 LM (some (.int R.1)) R.2) 98 [(0, .ref 0), (1, .int x1), (3, .int x3), (4, .int x4)] [] σ := by
  intro n
  induction n with
  | zero =>
    intro x1 x3 x4 σ h
    have h : none = some R := h
    cases h
  | succ n ih =>
    intro x1 x3 x4 σ h
    rw [f_X8_of_98] at h
    refine g_iload C 3 dX8_of_98 rfl ?_
    refine g_aload_n C 0 dX8_of_100 rfl ?_
    refine g_getI C 0 rfl q_X8_7 rfl dX8_of_101 ?_
    refine g_icmp_ge C 133 dX8_of_104 (by decide) (fun hc1 => ?_) (fun hc1 => ?_)
    · have h := ite_t hc1 h
      refine g_iload_n C 2 dX8_of_133 rfl ?_
      obtain rfl := Option.some.inj h
      exact g_iret C dX8_of_134
    · have h := ite_f hc1 h
      refine g_iload_n C 2 dX8_of_107 rfl ?_
      refine g_aload_n C 0 dX8_of_108 rfl ?_
      refine g_iload_n C 1 dX8_of_109 rfl ?_
      refine g_iload C 3 dX8_of_110 rfl ?_
      obtain ⟨q2, hq2, h⟩ := bd h
      refine g_callVL C [.int x1, .int x4] qv_X8_132 (m_X8_weightOf hq2) rfl (by decide) rfl rfl rfl ⟨rfl, rfl⟩ ⟨by decide, by decide⟩ (Nat.le_of_ble_eq_true rfl) dX8_of_112 ?_
      refine g_lconst C (0 : Int64) dX8_of_115 rfl ?_
      refine g_lcmp_le C 124 dX8_of_116 dX8_of_117 (by decide) (fun hc3 => ?_) (fun hc3 => ?_)
      · have h := ite_t hc3 h
        refine g_iconst C (0 : Int32) dX8_of_124 rfl ?_
        exact g_sub [0, 1, 3] rfl ((s_X8_of_125 C ih) x1 x4 (0 : Int32) x3 q2.2 h)
      · have h := ite_f hc3 h
        refine g_iconst C (1 : Int32) dX8_of_120 rfl ?_
        refine g_goto C 125 dX8_of_121 (by decide) ?_
        exact g_sub [0, 1, 3] rfl ((s_X8_of_125 C ih) x1 x4 (1 : Int32) x3 q2.2 h)
def f_X8_of (x1 : Int32) (x2 : Int32) (σ : St) : Option (Int32 × St) := (f_X8_isFind x1 σ).bind (fun q1 => (if q1.1 = 0 then some ((-2 : Int32), q1.2) else (f_X8_isIn x2 (0 : Int32) (5 : Int32) q1.2).bind (fun q3 => (if q3.1 = 0 then some ((-2 : Int32), q3.2) else (if x2 = (0 : Int32) then cI (ix x1 7) (some ((q3.2.1 3 x1.toNatClampNeg), q3.2)) else (if x2 = (1 : Int32) then cI (ix ((5 : Int32) * x1) 35) (some ((q3.2.1 6 ((5 : Int32) * x1).toNatClampNeg), q3.2)) else (if x2 = (2 : Int32) then cI (ix x1 7) (some ((q3.2.1 4 x1.toNatClampNeg), q3.2)) else (if x2 = (3 : Int32) then cI (ix x1 7) (some ((q3.2.1 5 x1.toNatClampNeg), q3.2)) else (if x2 = (4 : Int32) then (f_X8_meanOf x1 q3.2).bind (fun q14 => some (q14.1.toInt32, q14.2)) else (f_X8_of_98 FU) x1 (0 : Int32) (0 : Int32) q3.2)))))))))
set_option maxRecDepth 20000 in
theorem m_X8_of {l : Launch} {D : va_G} {ca : Nat → ClassId} {ad : Nat → Nat} {x1 : Int32} {x2 : Int32} {σ : St} {R : Int32 × St} (h : f_X8_of x1 x2 σ = some R) : gM l D ca ad 26 LM yX8_of cX8_of 5 (some .int) rm_X8_of [.ref 0, .int x1, .int x2] σ (some (.int R.1)) R.2 := by
  refine gM_of (by decide) (Nat.le_of_ble_eq_true rfl) (fun p e s m args below meth c C => ?_)
  refine g_ent (ls' := [(0, .ref 0), (1, .int x1), (2, .int x2)]) rfl ?_
  unfold f_X8_of at h
  refine g_aload_n C 0 dX8_of_0 rfl ?_
  refine g_iload_n C 1 dX8_of_1 rfl ?_
  obtain ⟨q1, hq1, h⟩ := bd h
  refine g_callVI C [.int x1] qv_X8_117 (m_X8_isFind hq1) rfl (by decide) rfl rfl rfl ⟨rfl, rfl⟩ ⟨by decide, by decide⟩ (Nat.le_of_ble_eq_true rfl) dX8_of_2 ?_
  refine g_if_eq C 17 dX8_of_5 (by decide) (fun hc2 => ?_) (fun hc2 => ?_)
  · have h := ite_t hc2 h
    refine g_bipush C (-2 : Int32) dX8_of_17 rfl ?_
    obtain rfl := Option.some.inj h
    exact g_iret C dX8_of_19
  · have h := ite_f hc2 h
    refine g_iload_n C 2 dX8_of_8 rfl ?_
    refine g_iconst C (0 : Int32) dX8_of_9 rfl ?_
    refine g_iconst C (5 : Int32) dX8_of_10 rfl ?_
    obtain ⟨q3, hq3, h⟩ := bd h
    refine g_callSI C [.int x2, .int (0 : Int32), .int (5 : Int32)] qs_X8_100 (m_X8_isIn hq3) rfl rfl ⟨rfl, rfl⟩ ⟨by decide, by decide⟩ (Nat.le_of_ble_eq_true rfl) dX8_of_11 ?_
    refine g_if_ne C 20 dX8_of_14 (by decide) (fun hc4 => ?_) (fun hc4 => ?_)
    · have h := ite_f hc4 h
      refine g_iload_n C 2 dX8_of_20 rfl ?_
      by_cases hc5 : x2 = (0 : Int32)
      · have h := ite_t hc5 h
        refine g_tableIn C 56 dX8_of_21 (by rw [hc5]; decide) (by rw [hc5]; decide) (by rw [hc5]; rfl) (by decide) ?_
        refine g_aload_n C 0 dX8_of_56 rfl ?_
        refine g_getR C 4 3 rfl q_X8_20 rfl rfl dX8_of_57 ?_
        refine g_iload_n C 1 dX8_of_60 rfl ?_
        obtain ⟨hi6, h⟩ := cI_some h
        refine g_iald C 7 rfl ho_11 hi6 dX8_of_61 ?_
        obtain rfl := Option.some.inj h
        exact g_iret C dX8_of_62
      · have h := ite_f hc5 h
        by_cases hc7 : x2 = (1 : Int32)
        · have h := ite_t hc7 h
          refine g_tableIn C 63 dX8_of_21 (by rw [hc7]; decide) (by rw [hc7]; decide) (by rw [hc7]; rfl) (by decide) ?_
          refine g_aload_n C 0 dX8_of_63 rfl ?_
          refine g_getR C 7 6 rfl q_X8_29 rfl rfl dX8_of_64 ?_
          refine g_iconst C (5 : Int32) dX8_of_67 rfl ?_
          refine g_iload_n C 1 dX8_of_68 rfl ?_
          refine g_imul C dX8_of_69 ?_
          obtain ⟨hi8, h⟩ := cI_some h
          refine g_iald C 35 rfl ho_24 hi8 dX8_of_70 ?_
          obtain rfl := Option.some.inj h
          exact g_iret C dX8_of_71
        · have h := ite_f hc7 h
          by_cases hc9 : x2 = (2 : Int32)
          · have h := ite_t hc9 h
            refine g_tableIn C 72 dX8_of_21 (by rw [hc9]; decide) (by rw [hc9]; decide) (by rw [hc9]; rfl) (by decide) ?_
            refine g_aload_n C 0 dX8_of_72 rfl ?_
            refine g_getR C 5 4 rfl q_X8_23 rfl rfl dX8_of_73 ?_
            refine g_iload_n C 1 dX8_of_76 rfl ?_
            obtain ⟨hi10, h⟩ := cI_some h
            refine g_iald C 7 rfl ho_11 hi10 dX8_of_77 ?_
            obtain rfl := Option.some.inj h
            exact g_iret C dX8_of_78
          · have h := ite_f hc9 h
            by_cases hc11 : x2 = (3 : Int32)
            · have h := ite_t hc11 h
              refine g_tableIn C 79 dX8_of_21 (by rw [hc11]; decide) (by rw [hc11]; decide) (by rw [hc11]; rfl) (by decide) ?_
              refine g_aload_n C 0 dX8_of_79 rfl ?_
              refine g_getR C 6 5 rfl q_X8_26 rfl rfl dX8_of_80 ?_
              refine g_iload_n C 1 dX8_of_83 rfl ?_
              obtain ⟨hi12, h⟩ := cI_some h
              refine g_iald C 7 rfl ho_11 hi12 dX8_of_84 ?_
              obtain rfl := Option.some.inj h
              exact g_iret C dX8_of_85
            · have h := ite_f hc11 h
              by_cases hc13 : x2 = (4 : Int32)
              · have h := ite_t hc13 h
                refine g_tableIn C 86 dX8_of_21 (by rw [hc13]; decide) (by rw [hc13]; decide) (by rw [hc13]; rfl) (by decide) ?_
                refine g_aload_n C 0 dX8_of_86 rfl ?_
                refine g_iload_n C 1 dX8_of_87 rfl ?_
                obtain ⟨q14, hq14, h⟩ := bd h
                refine g_callVL C [.int x1] qv_X8_128 (m_X8_meanOf hq14) rfl (by decide) rfl rfl rfl ⟨rfl, rfl⟩ ⟨by decide, by decide⟩ (Nat.le_of_ble_eq_true rfl) dX8_of_88 ?_
                refine g_l2i C dX8_of_91 ?_
                obtain rfl := Option.some.inj h
                exact g_iret C dX8_of_92
              · have h := ite_f hc13 h
                refine g_tableOut C 93 dX8_of_21 (sw_out 4 (by decide) (fun j hj => by rcases (show j = 0 ∨ j = 1 ∨ j = 2 ∨ j = 3 ∨ j = 4 by omega) with rfl | rfl | rfl | rfl | rfl; exact hc5; exact hc7; exact hc9; exact hc11; exact hc13)) (by decide) ?_
                refine g_iconst C (0 : Int32) dX8_of_93 rfl ?_
                refine g_istore_n C [(3, .int (0 : Int32)), (0, .ref 0), (1, .int x1), (2, .int x2)] dX8_of_94 (by decide) rfl ?_
                refine g_iconst C (0 : Int32) dX8_of_95 rfl ?_
                refine g_istore C [(4, .int (0 : Int32)), (3, .int (0 : Int32)), (0, .ref 0), (1, .int x1), (2, .int x2)] dX8_of_96 (by decide) rfl ?_
                exact g_sub [2, 3, 1, 0] rfl ((s_X8_of_98 C FU) x1 (0 : Int32) (0 : Int32) q3.2 h)
    · have h := ite_t hc4 h
      refine g_bipush C (-2 : Int32) dX8_of_17 rfl ?_
      obtain rfl := Option.some.inj h
      exact g_iret C dX8_of_19
def f_X8_weight (x1 : Int32) (x2 : Int32) (σ : St) : Option (Int32 × St) := (f_X8_isFind x1 σ).bind (fun q1 => (if q1.1 = 0 then some ((-2 : Int32), q1.2) else (f_X8_isYear x2 q1.2).bind (fun q3 => (if q3.1 = 0 then some ((-2 : Int32), q3.2) else (f_X8_weightOf x1 x2 q3.2).bind (fun q5 => some (q5.1.toInt32, q5.2))))))
set_option maxRecDepth 20000 in
theorem m_X8_weight {l : Launch} {D : va_G} {ca : Nat → ClassId} {ad : Nat → Nat} {x1 : Int32} {x2 : Int32} {σ : St} {R : Int32 × St} (h : f_X8_weight x1 x2 σ = some R) : gM l D ca ad 26 LM yX8_weight cX8_weight 3 (some .int) rm_X8_weight [.ref 0, .int x1, .int x2] σ (some (.int R.1)) R.2 := by
  refine gM_of (by decide) (Nat.le_of_ble_eq_true rfl) (fun p e s m args below meth c C => ?_)
  refine g_ent (ls' := [(0, .ref 0), (1, .int x1), (2, .int x2)]) rfl ?_
  unfold f_X8_weight at h
  refine g_aload_n C 0 dX8_weight_0 rfl ?_
  refine g_iload_n C 1 dX8_weight_1 rfl ?_
  obtain ⟨q1, hq1, h⟩ := bd h
  refine g_callVI C [.int x1] qv_X8_117 (m_X8_isFind hq1) rfl (by decide) rfl rfl rfl ⟨rfl, rfl⟩ ⟨by decide, by decide⟩ (Nat.le_of_ble_eq_true rfl) dX8_weight_2 ?_
  refine g_if_eq C 26 dX8_weight_5 (by decide) (fun hc2 => ?_) (fun hc2 => ?_)
  · have h := ite_t hc2 h
    refine g_bipush C (-2 : Int32) dX8_weight_26 rfl ?_
    obtain rfl := Option.some.inj h
    exact g_iret C dX8_weight_28
  · have h := ite_f hc2 h
    refine g_aload_n C 0 dX8_weight_8 rfl ?_
    refine g_iload_n C 2 dX8_weight_9 rfl ?_
    obtain ⟨q3, hq3, h⟩ := bd h
    refine g_callVI C [.int x2] qv_X8_135 (m_X8_isYear hq3) rfl (by decide) rfl rfl rfl ⟨rfl, rfl⟩ ⟨by decide, by decide⟩ (Nat.le_of_ble_eq_true rfl) dX8_weight_10 ?_
    refine g_if_eq C 26 dX8_weight_13 (by decide) (fun hc4 => ?_) (fun hc4 => ?_)
    · have h := ite_t hc4 h
      refine g_bipush C (-2 : Int32) dX8_weight_26 rfl ?_
      obtain rfl := Option.some.inj h
      exact g_iret C dX8_weight_28
    · have h := ite_f hc4 h
      refine g_aload_n C 0 dX8_weight_16 rfl ?_
      refine g_iload_n C 1 dX8_weight_17 rfl ?_
      refine g_iload_n C 2 dX8_weight_18 rfl ?_
      obtain ⟨q5, hq5, h⟩ := bd h
      refine g_callVL C [.int x1, .int x2] qv_X8_132 (m_X8_weightOf hq5) rfl (by decide) rfl rfl rfl ⟨rfl, rfl⟩ ⟨by decide, by decide⟩ (Nat.le_of_ble_eq_true rfl) dX8_weight_19 ?_
      refine g_l2i C dX8_weight_22 ?_
      refine g_goto C 28 dX8_weight_23 (by decide) ?_
      obtain rfl := Option.some.inj h
      exact g_iret C dX8_weight_28
def f_X8_drop (σ : St) : Option (Int32 × St) := (if (σ.1 0 3) = 0 then (f_X8_meet (-10 : Int32) σ).bind (fun q4 => some (q4.1, q4.2)) else ap (up1 σ 0 3 ((σ.1 0 3) - (1 : Int32))) fun σ2 => ap (up1 σ2 0 10 (0 : Int32)) fun σ3 => some ((σ3.1 0 3), σ3))
set_option maxRecDepth 20000 in
theorem m_X8_drop {l : Launch} {D : va_G} {ca : Nat → ClassId} {ad : Nat → Nat} {σ : St} {R : Int32 × St} (h : f_X8_drop σ = some R) : gM l D ca ad 26 LM yX8_drop cX8_drop 1 (some .int) rm_X8_drop [.ref 0] σ (some (.int R.1)) R.2 := by
  refine gM_of (by decide) (Nat.le_of_ble_eq_true rfl) (fun p e s m args below meth c C => ?_)
  refine g_ent (ls' := [(0, .ref 0)]) rfl ?_
  unfold f_X8_drop at h
  refine g_aload_n C 0 dX8_drop_0 rfl ?_
  refine g_getI C 3 rfl q_X8_97 rfl dX8_drop_1 ?_
  refine g_if_ne C 14 dX8_drop_4 (by decide) (fun hc1 => ?_) (fun hc1 => ?_)
  · have h := ite_f hc1 h
    refine g_aload_n C 0 dX8_drop_14 rfl ?_
    refine g_dup C rfl dX8_drop_15 ?_
    refine g_getI C 3 rfl q_X8_97 rfl dX8_drop_16 ?_
    refine g_iconst C (1 : Int32) dX8_drop_19 rfl ?_
    refine g_isub C dX8_drop_20 ?_
    refine g_putI C 3 rfl qp_X8_97 rfl dX8_drop_21 ?_
    refine g_nmS (fun σ2 eσ2 => ?_)
    have h := ap_at eσ2 h
    refine g_aload_n C 0 dX8_drop_24 rfl ?_
    refine g_iconst C (0 : Int32) dX8_drop_25 rfl ?_
    refine g_putZ C 10 rfl qp_X8_113 rfl rfl rfl dX8_drop_26 ?_
    refine g_nmS (fun σ3 eσ3 => ?_)
    have h := ap_at eσ3 h
    refine g_aload_n C 0 dX8_drop_29 rfl ?_
    refine g_getI C 3 rfl q_X8_97 rfl dX8_drop_30 ?_
    obtain rfl := Option.some.inj h
    exact g_iret C dX8_drop_33
  · have h := ite_t hc1 h
    refine g_aload_n C 0 dX8_drop_7 rfl ?_
    refine g_bipush C (-10 : Int32) dX8_drop_8 rfl ?_
    obtain ⟨q4, hq4, h⟩ := bd h
    refine g_callVI C [.int (-10 : Int32)] qv_X8_108 (m_X8_meet hq4) rfl (by decide) rfl rfl rfl ⟨rfl, rfl⟩ ⟨by decide, by decide⟩ (Nat.le_of_ble_eq_true rfl) dX8_drop_10 ?_
    obtain rfl := Option.some.inj h
    exact g_iret C dX8_drop_13
def f_X8_feed_28 : Nat → Int64 → Int32 → Int32 → St → Option (Int32 × St)
  | 0, _, _, _, _ => none
  | n + 1, x1, x3, x4, σ => (if x3 ≤ x4 then some ((σ.1 0 19), σ) else cI (ix (σ.1 0 19) 200) (ap (up1 σ 14 (σ.1 0 19).toNatClampNeg ((x1 >>> (((8 : Int32) * x4).toInt64 &&& 63)).toInt32 &&& (255 : Int32))) fun σ3 => ap (up1 σ3 0 19 ((σ3.1 0 19) + (1 : Int32))) fun σ4 => (f_X8_feed_28 n) x1 x3 (x4 + (1 : Int32)) σ4))
set_option maxRecDepth 20000 in
theorem s_X8_feed_28 {R : Int32 × St} (C : gC p s m args meth c D ca ad 26 LM RX8 cX8_feed 5 (some .int)) : ∀ (n : Nat) (x1 : Int64) (x3 : Int32) (x4 : Int32) (σ : St), f_X8_feed_28 n x1 x3 x4 σ = some R → G p l e rm_X8_feed s m args below meth c D ca ad 26 LM 5 (gEnd below args s D ca ad 26 LM (some (.int R.1)) R.2) 28 [(0, .ref 0), (1, .long x1), (3, .int x3), (4, .int x4)] [] σ := by
  intro n
  induction n with
  | zero =>
    intro x1 x3 x4 σ h
    have h : none = some R := h
    cases h
  | succ n ih =>
    intro x1 x3 x4 σ h
    rw [f_X8_feed_28] at h
    refine g_iload C 3 dX8_feed_28 rfl ?_
    refine g_iload_n C 2 dX8_feed_30 rfl ?_
    refine g_icmp_ge C 71 dX8_feed_31 (by decide) (fun hc1 => ?_) (fun hc1 => ?_)
    · have h := ite_t hc1 h
      refine g_aload_n C 0 dX8_feed_71 rfl ?_
      refine g_getI C 19 rfl q_X8_138 rfl dX8_feed_72 ?_
      obtain rfl := Option.some.inj h
      exact g_iret C dX8_feed_75
    · have h := ite_f hc1 h
      refine g_aload_n C 0 dX8_feed_34 rfl ?_
      refine g_getR C 18 14 rfl q_X8_57 rfl rfl dX8_feed_35 ?_
      refine g_aload_n C 0 dX8_feed_38 rfl ?_
      refine g_getI C 19 rfl q_X8_138 rfl dX8_feed_39 ?_
      refine g_lload_n C 1 dX8_feed_42 rfl ?_
      refine g_bipush C (8 : Int32) dX8_feed_43 rfl ?_
      refine g_iload C 3 dX8_feed_45 rfl ?_
      refine g_imul C dX8_feed_47 ?_
      refine g_lshr C dX8_feed_48 ?_
      refine g_l2i C dX8_feed_49 ?_
      refine g_sipush C (255 : Int32) dX8_feed_50 rfl ?_
      refine g_iand C dX8_feed_53 ?_
      obtain ⟨hi2, h⟩ := cI_some h
      refine g_iast C 200 rfl ho_29 hi2 dX8_feed_54 ?_
      refine g_nmS (fun σ3 eσ3 => ?_)
      have h := ap_at eσ3 h
      refine g_aload_n C 0 dX8_feed_55 rfl ?_
      refine g_dup C rfl dX8_feed_56 ?_
      refine g_getI C 19 rfl q_X8_138 rfl dX8_feed_57 ?_
      refine g_iconst C (1 : Int32) dX8_feed_60 rfl ?_
      refine g_iadd C dX8_feed_61 ?_
      refine g_putI C 19 rfl qp_X8_138 rfl dX8_feed_62 ?_
      refine g_nmS (fun σ4 eσ4 => ?_)
      have h := ap_at eσ4 h
      refine g_iinc C 3 [(4, .int (x4 + (1 : Int32))), (0, .ref 0), (1, .long x1), (3, .int x3)] dX8_feed_65 rfl rfl (by decide) rfl ?_
      refine g_goto C 28 dX8_feed_68 (by decide) ?_
      exact g_sub [1, 2, 3, 0] rfl (ih x1 x3 (x4 + (1 : Int32)) σ4 h)
def f_X8_feed (x1 : Int64) (x3 : Int32) (σ : St) : Option (Int32 × St) := (f_X8_isIn x3 (1 : Int32) (8 : Int32) σ).bind (fun q1 => (if q1.1 = 0 then some ((-2 : Int32), q1.2) else (if ((q1.2.1 0 19) + x3) ≤ (200 : Int32) then (f_X8_feed_28 FU) x1 x3 (0 : Int32) q1.2 else some ((-2 : Int32), q1.2))))
set_option maxRecDepth 20000 in
theorem m_X8_feed {l : Launch} {D : va_G} {ca : Nat → ClassId} {ad : Nat → Nat} {x1 : Int64} {x3 : Int32} {σ : St} {R : Int32 × St} (h : f_X8_feed x1 x3 σ = some R) : gM l D ca ad 26 LM yX8_feed cX8_feed 5 (some .int) rm_X8_feed [.ref 0, .long x1, .int x3] σ (some (.int R.1)) R.2 := by
  refine gM_of (by decide) (Nat.le_of_ble_eq_true rfl) (fun p e s m args below meth c C => ?_)
  refine g_ent (ls' := [(0, .ref 0), (1, .long x1), (3, .int x3)]) rfl ?_
  unfold f_X8_feed at h
  refine g_iload_n C 2 dX8_feed_0 rfl ?_
  refine g_iconst C (1 : Int32) dX8_feed_1 rfl ?_
  refine g_bipush C (8 : Int32) dX8_feed_2 rfl ?_
  obtain ⟨q1, hq1, h⟩ := bd h
  refine g_callSI C [.int x3, .int (1 : Int32), .int (8 : Int32)] qs_X8_100 (m_X8_isIn hq1) rfl rfl ⟨rfl, rfl⟩ ⟨by decide, by decide⟩ (Nat.le_of_ble_eq_true rfl) dX8_feed_4 ?_
  refine g_if_eq C 22 dX8_feed_7 (by decide) (fun hc2 => ?_) (fun hc2 => ?_)
  · have h := ite_t hc2 h
    refine g_bipush C (-2 : Int32) dX8_feed_22 rfl ?_
    obtain rfl := Option.some.inj h
    exact g_iret C dX8_feed_24
  · have h := ite_f hc2 h
    refine g_aload_n C 0 dX8_feed_10 rfl ?_
    refine g_getI C 19 rfl q_X8_138 rfl dX8_feed_11 ?_
    refine g_iload_n C 2 dX8_feed_14 rfl ?_
    refine g_iadd C dX8_feed_15 ?_
    refine g_sipush C (200 : Int32) dX8_feed_16 rfl ?_
    refine g_icmp_le C 25 dX8_feed_19 (by decide) (fun hc3 => ?_) (fun hc3 => ?_)
    · have h := ite_t hc3 h
      refine g_iconst C (0 : Int32) dX8_feed_25 rfl ?_
      refine g_istore C [(4, .int (0 : Int32)), (0, .ref 0), (1, .long x1), (3, .int x3)] dX8_feed_26 (by decide) rfl ?_
      exact g_sub [1, 2, 3, 0] rfl ((s_X8_feed_28 C FU) x1 x3 (0 : Int32) q1.2 h)
    · have h := ite_f hc3 h
      refine g_bipush C (-2 : Int32) dX8_feed_22 rfl ?_
      obtain rfl := Option.some.inj h
      exact g_iret C dX8_feed_24
def f_X8_here (σ : St) : Option (Int32 × St) := (if (σ.1 0 19) ≤ (σ.1 0 23) then some ((-1 : Int32), σ) else cI (ix (σ.1 0 23) 200) (some ((σ.1 14 (σ.1 0 23).toNatClampNeg), σ)))
set_option maxRecDepth 20000 in
theorem m_X8_here {l : Launch} {D : va_G} {ca : Nat → ClassId} {ad : Nat → Nat} {σ : St} {R : Int32 × St} (h : f_X8_here σ = some R) : gM l D ca ad 26 LM yX8_here cX8_here 1 (some .int) rm_X8_here [.ref 0] σ (some (.int R.1)) R.2 := by
  refine gM_of (by decide) (Nat.le_of_ble_eq_true rfl) (fun p e s m args below meth c C => ?_)
  refine g_ent (ls' := [(0, .ref 0)]) rfl ?_
  unfold f_X8_here at h
  refine g_aload_n C 0 dX8_here_0 rfl ?_
  refine g_getI C 23 rfl q_X8_141 rfl dX8_here_1 ?_
  refine g_aload_n C 0 dX8_here_4 rfl ?_
  refine g_getI C 19 rfl q_X8_138 rfl dX8_here_5 ?_
  refine g_icmp_ge C 23 dX8_here_8 (by decide) (fun hc1 => ?_) (fun hc1 => ?_)
  · have h := ite_t hc1 h
    refine g_iconst C (-1 : Int32) dX8_here_23 rfl ?_
    obtain rfl := Option.some.inj h
    exact g_iret C dX8_here_24
  · have h := ite_f hc1 h
    refine g_aload_n C 0 dX8_here_11 rfl ?_
    refine g_getR C 18 14 rfl q_X8_57 rfl rfl dX8_here_12 ?_
    refine g_aload_n C 0 dX8_here_15 rfl ?_
    refine g_getI C 23 rfl q_X8_141 rfl dX8_here_16 ?_
    obtain ⟨hi2, h⟩ := cI_some h
    refine g_iald C 200 rfl ho_29 hi2 dX8_here_19 ?_
    refine g_goto C 24 dX8_here_20 (by decide) ?_
    obtain rfl := Option.some.inj h
    exact g_iret C dX8_here_24
def f_X8_name (σ : St) : Option (Int32 × St) := (f_X8_here σ).bind (fun q1 => (f_X8_isFind (q1.1 - (97 : Int32)) q1.2).bind (fun q2 => (if q2.1 = 0 then ap (up1 q2.2 0 24 (1 : Int32)) fun σ5 => some ((0 : Int32), σ5) else ap (up1 q2.2 0 23 ((q2.2.1 0 23) + (1 : Int32))) fun σ4 => some (((1 : Int32) <<< ((q1.1 - (97 : Int32)) &&& 31)), σ4))))
set_option maxRecDepth 20000 in
theorem m_X8_name {l : Launch} {D : va_G} {ca : Nat → ClassId} {ad : Nat → Nat} {σ : St} {R : Int32 × St} (h : f_X8_name σ = some R) : gM l D ca ad 26 LM yX8_name cX8_name 2 (some .int) rm_X8_name [.ref 0] σ (some (.int R.1)) R.2 := by
  refine gM_of (by decide) (Nat.le_of_ble_eq_true rfl) (fun p e s m args below meth c C => ?_)
  refine g_ent (ls' := [(0, .ref 0)]) rfl ?_
  unfold f_X8_name at h
  refine g_aload_n C 0 dX8_name_0 rfl ?_
  obtain ⟨q1, hq1, h⟩ := bd h
  refine g_callVI C [] qv_X8_144 (m_X8_here hq1) rfl (by decide) rfl rfl rfl ⟨rfl, rfl⟩ ⟨by decide, by decide⟩ (Nat.le_of_ble_eq_true rfl) dX8_name_1 ?_
  refine g_bipush C (97 : Int32) dX8_name_4 rfl ?_
  refine g_isub C dX8_name_6 ?_
  refine g_istore_n C [(1, .int (q1.1 - (97 : Int32))), (0, .ref 0)] dX8_name_7 (by decide) rfl ?_
  refine g_aload_n C 1 dX8_name_8 rfl ?_
  refine g_iload_n C 0 dX8_name_9 rfl ?_
  obtain ⟨q2, hq2, h⟩ := bd h
  refine g_callVI C [.int (q1.1 - (97 : Int32))] qv_X8_117 (m_X8_isFind hq2) rfl (by decide) rfl rfl rfl ⟨rfl, rfl⟩ ⟨by decide, by decide⟩ (Nat.le_of_ble_eq_true rfl) dX8_name_10 ?_
  refine g_if_ne C 23 dX8_name_13 (by decide) (fun hc3 => ?_) (fun hc3 => ?_)
  · have h := ite_f hc3 h
    refine g_aload_n C 1 dX8_name_23 rfl ?_
    refine g_dup C rfl dX8_name_24 ?_
    refine g_getI C 23 rfl q_X8_141 rfl dX8_name_25 ?_
    refine g_iconst C (1 : Int32) dX8_name_28 rfl ?_
    refine g_iadd C dX8_name_29 ?_
    refine g_putI C 23 rfl qp_X8_141 rfl dX8_name_30 ?_
    refine g_nmS (fun σ4 eσ4 => ?_)
    have h := ap_at eσ4 h
    refine g_iconst C (1 : Int32) dX8_name_33 rfl ?_
    refine g_iload_n C 0 dX8_name_34 rfl ?_
    refine g_ishl C dX8_name_35 ?_
    obtain rfl := Option.some.inj h
    exact g_iret C dX8_name_36
  · have h := ite_t hc3 h
    refine g_aload_n C 1 dX8_name_16 rfl ?_
    refine g_iconst C (1 : Int32) dX8_name_17 rfl ?_
    refine g_putZ C 24 rfl qp_X8_148 rfl rfl rfl dX8_name_18 ?_
    refine g_nmS (fun σ5 eσ5 => ?_)
    have h := ap_at eσ5 h
    refine g_iconst C (0 : Int32) dX8_name_21 rfl ?_
    obtain rfl := Option.some.inj h
    exact g_iret C dX8_name_22
def f_X8_group_29 (kk65 : Int32 → St → Option (Int32 × St)) : Nat → Int32 → St → Option (Int32 × St)
  | 0, _, _ => none
  | n + 1, x1, σ => (if (σ.1 0 24) = 0 then (f_X8_here σ).bind (fun q2 => (if q2.1 = (44 : Int32) then ap (up1 q2.2 0 23 ((q2.2.1 0 23) + (1 : Int32))) fun σ4 => (f_X8_name σ4).bind (fun q5 => (f_X8_group_29 kk65 n) (x1 ||| q5.1) q5.2) else kk65 x1 q2.2)) else kk65 x1 σ)
set_option maxRecDepth 20000 in
theorem s_X8_group_29 {R : Int32 × St} (C : gC p s m args meth c D ca ad 26 LM RX8 cX8_group 2 (some .int)) {kk65 : Int32 → St → Option (Int32 × St)} (HK65 : ∀ (x1 : Int32) (σ : St), kk65 x1 σ = some R → G p l e rm_X8_group s m args below meth c D ca ad 26 LM 2 (gEnd below args s D ca ad 26 LM (some (.int R.1)) R.2) 65 [(0, .ref 0), (1, .int x1)] [] σ) : ∀ (n : Nat) (x1 : Int32) (σ : St), f_X8_group_29 kk65 n x1 σ = some R → G p l e rm_X8_group s m args below meth c D ca ad 26 LM 2 (gEnd below args s D ca ad 26 LM (some (.int R.1)) R.2) 29 [(0, .ref 0), (1, .int x1)] [] σ := by
  intro n
  induction n with
  | zero =>
    intro x1 σ h
    have h : none = some R := h
    cases h
  | succ n ih =>
    intro x1 σ h
    rw [f_X8_group_29] at h
    refine g_aload_n C 0 dX8_group_29 rfl ?_
    refine g_getI C 24 rfl q_X8_148 rfl dX8_group_30 ?_
    refine g_if_ne C 65 dX8_group_33 (by decide) (fun hc1 => ?_) (fun hc1 => ?_)
    · have h := ite_f hc1 h
      exact g_sub [0, 1] rfl (HK65 x1 σ h)
    · have h := ite_t hc1 h
      refine g_aload_n C 0 dX8_group_36 rfl ?_
      obtain ⟨q2, hq2, h⟩ := bd h
      refine g_callVI C [] qv_X8_144 (m_X8_here hq2) rfl (by decide) rfl rfl rfl ⟨rfl, rfl⟩ ⟨by decide, by decide⟩ (Nat.le_of_ble_eq_true rfl) dX8_group_37 ?_
      refine g_bipush C (44 : Int32) dX8_group_40 rfl ?_
      refine g_icmp_ne C 65 dX8_group_42 (by decide) (fun hc3 => ?_) (fun hc3 => ?_)
      · have h := ite_f hc3 h
        exact g_sub [0, 1] rfl (HK65 x1 q2.2 h)
      · have h := ite_t hc3 h
        refine g_aload_n C 0 dX8_group_45 rfl ?_
        refine g_dup C rfl dX8_group_46 ?_
        refine g_getI C 23 rfl q_X8_141 rfl dX8_group_47 ?_
        refine g_iconst C (1 : Int32) dX8_group_50 rfl ?_
        refine g_iadd C dX8_group_51 ?_
        refine g_putI C 23 rfl qp_X8_141 rfl dX8_group_52 ?_
        refine g_nmS (fun σ4 eσ4 => ?_)
        have h := ap_at eσ4 h
        refine g_iload_n C 1 dX8_group_55 rfl ?_
        refine g_aload_n C 0 dX8_group_56 rfl ?_
        obtain ⟨q5, hq5, h⟩ := bd h
        refine g_callVI C [] qv_X8_151 (m_X8_name hq5) rfl (by decide) rfl rfl rfl ⟨rfl, rfl⟩ ⟨by decide, by decide⟩ (Nat.le_of_ble_eq_true rfl) dX8_group_57 ?_
        refine g_ior C dX8_group_60 ?_
        refine g_istore_n C [(1, .int (x1 ||| q5.1)), (0, .ref 0)] dX8_group_61 (by decide) rfl ?_
        refine g_goto C 29 dX8_group_62 (by decide) ?_
        exact g_sub [1, 0] rfl (ih (x1 ||| q5.1) q5.2 h)
def f_X8_group_103 (x1 : Int32) (xs0 : Int32) (xs1 : Int32) (σ : St) : Option (Int32 × St) := ap (up1 σ 0 23 (xs1 + xs0)) fun σ1 => some (x1, σ1)
set_option maxRecDepth 20000 in
theorem s_X8_group_103 {R : Int32 × St} (C : gC p s m args meth c D ca ad 26 LM RX8 cX8_group 2 (some .int)) (x1 : Int32) (xs0 : Int32) (xs1 : Int32) (σ : St) (h : f_X8_group_103 x1 xs0 xs1 σ = some R) : G p l e rm_X8_group s m args below meth c D ca ad 26 LM 2 (gEnd below args s D ca ad 26 LM (some (.int R.1)) R.2) 103 [(1, .int x1)] [.int xs0, .int xs1, .ref 0] σ := by
  unfold f_X8_group_103 at h
  refine g_iadd C dX8_group_103 ?_
  refine g_putI C 23 rfl qp_X8_141 rfl dX8_group_104 ?_
  refine g_nmS (fun σ1 eσ1 => ?_)
  have h := ap_at eσ1 h
  refine g_iload_n C 0 dX8_group_107 rfl ?_
  obtain rfl := Option.some.inj h
  exact g_iret C dX8_group_108
def f_X8_group_86 (x1 : Int32) (σ : St) : Option (Int32 × St) := (if (σ.1 0 24) = 0 then (f_X8_group_103) x1 (1 : Int32) (σ.1 0 23) σ else (f_X8_group_103) x1 (0 : Int32) (σ.1 0 23) σ)
set_option maxRecDepth 20000 in
theorem s_X8_group_86 {R : Int32 × St} (C : gC p s m args meth c D ca ad 26 LM RX8 cX8_group 2 (some .int)) (x1 : Int32) (σ : St) (h : f_X8_group_86 x1 σ = some R) : G p l e rm_X8_group s m args below meth c D ca ad 26 LM 2 (gEnd below args s D ca ad 26 LM (some (.int R.1)) R.2) 86 [(0, .ref 0), (1, .int x1)] [] σ := by
  unfold f_X8_group_86 at h
  refine g_aload_n C 0 dX8_group_86 rfl ?_
  refine g_dup C rfl dX8_group_87 ?_
  refine g_getI C 23 rfl q_X8_141 rfl dX8_group_88 ?_
  refine g_aload_n C 0 dX8_group_91 rfl ?_
  refine g_getI C 24 rfl q_X8_148 rfl dX8_group_92 ?_
  refine g_if_eq C 102 dX8_group_95 (by decide) (fun hc1 => ?_) (fun hc1 => ?_)
  · have h := ite_t hc1 h
    refine g_iconst C (1 : Int32) dX8_group_102 rfl ?_
    exact g_sub [1] rfl ((s_X8_group_103 C) x1 (1 : Int32) (σ.1 0 23) σ h)
  · have h := ite_f hc1 h
    refine g_iconst C (0 : Int32) dX8_group_98 rfl ?_
    refine g_goto C 103 dX8_group_99 (by decide) ?_
    exact g_sub [1] rfl ((s_X8_group_103 C) x1 (0 : Int32) (σ.1 0 23) σ h)
def f_X8_group_65 (x1 : Int32) (σ : St) : Option (Int32 × St) := (if (σ.1 0 24) = 0 then (f_X8_here σ).bind (fun q2 => (if q2.1 = (41 : Int32) then (f_X8_group_86) x1 q2.2 else ap (up1 q2.2 0 24 (1 : Int32)) fun σ4 => (f_X8_group_86) x1 σ4)) else (f_X8_group_86) x1 σ)
set_option maxRecDepth 20000 in
theorem s_X8_group_65 {R : Int32 × St} (C : gC p s m args meth c D ca ad 26 LM RX8 cX8_group 2 (some .int)) (x1 : Int32) (σ : St) (h : f_X8_group_65 x1 σ = some R) : G p l e rm_X8_group s m args below meth c D ca ad 26 LM 2 (gEnd below args s D ca ad 26 LM (some (.int R.1)) R.2) 65 [(0, .ref 0), (1, .int x1)] [] σ := by
  unfold f_X8_group_65 at h
  refine g_aload_n C 0 dX8_group_65 rfl ?_
  refine g_getI C 24 rfl q_X8_148 rfl dX8_group_66 ?_
  refine g_if_ne C 86 dX8_group_69 (by decide) (fun hc1 => ?_) (fun hc1 => ?_)
  · have h := ite_f hc1 h
    exact g_sub [0, 1] rfl ((s_X8_group_86 C) x1 σ h)
  · have h := ite_t hc1 h
    refine g_aload_n C 0 dX8_group_72 rfl ?_
    obtain ⟨q2, hq2, h⟩ := bd h
    refine g_callVI C [] qv_X8_144 (m_X8_here hq2) rfl (by decide) rfl rfl rfl ⟨rfl, rfl⟩ ⟨by decide, by decide⟩ (Nat.le_of_ble_eq_true rfl) dX8_group_73 ?_
    refine g_bipush C (41 : Int32) dX8_group_76 rfl ?_
    refine g_icmp_eq C 86 dX8_group_78 (by decide) (fun hc3 => ?_) (fun hc3 => ?_)
    · have h := ite_t hc3 h
      exact g_sub [0, 1] rfl ((s_X8_group_86 C) x1 q2.2 h)
    · have h := ite_f hc3 h
      refine g_aload_n C 0 dX8_group_81 rfl ?_
      refine g_iconst C (1 : Int32) dX8_group_82 rfl ?_
      refine g_putZ C 24 rfl qp_X8_148 rfl rfl rfl dX8_group_83 ?_
      refine g_nmS (fun σ4 eσ4 => ?_)
      have h := ap_at eσ4 h
      exact g_sub [0, 1] rfl ((s_X8_group_86 C) x1 σ4 h)
def f_X8_group (σ : St) : Option (Int32 × St) := (f_X8_here σ).bind (fun q1 => (if q1.1 = (40 : Int32) then ap (up1 q1.2 0 23 ((q1.2.1 0 23) + (1 : Int32))) fun σ3 => (f_X8_name σ3).bind (fun q4 => (f_X8_group_29 (f_X8_group_65) FU) q4.1 q4.2) else (f_X8_name q1.2).bind (fun q5 => some (q5.1, q5.2))))
set_option maxRecDepth 20000 in
theorem m_X8_group {l : Launch} {D : va_G} {ca : Nat → ClassId} {ad : Nat → Nat} {σ : St} {R : Int32 × St} (h : f_X8_group σ = some R) : gM l D ca ad 26 LM yX8_group cX8_group 2 (some .int) rm_X8_group [.ref 0] σ (some (.int R.1)) R.2 := by
  refine gM_of (by decide) (Nat.le_of_ble_eq_true rfl) (fun p e s m args below meth c C => ?_)
  refine g_ent (ls' := [(0, .ref 0)]) rfl ?_
  unfold f_X8_group at h
  refine g_aload_n C 0 dX8_group_0 rfl ?_
  obtain ⟨q1, hq1, h⟩ := bd h
  refine g_callVI C [] qv_X8_144 (m_X8_here hq1) rfl (by decide) rfl rfl rfl ⟨rfl, rfl⟩ ⟨by decide, by decide⟩ (Nat.le_of_ble_eq_true rfl) dX8_group_1 ?_
  refine g_bipush C (40 : Int32) dX8_group_4 rfl ?_
  refine g_icmp_eq C 14 dX8_group_6 (by decide) (fun hc2 => ?_) (fun hc2 => ?_)
  · have h := ite_t hc2 h
    refine g_aload_n C 0 dX8_group_14 rfl ?_
    refine g_dup C rfl dX8_group_15 ?_
    refine g_getI C 23 rfl q_X8_141 rfl dX8_group_16 ?_
    refine g_iconst C (1 : Int32) dX8_group_19 rfl ?_
    refine g_iadd C dX8_group_20 ?_
    refine g_putI C 23 rfl qp_X8_141 rfl dX8_group_21 ?_
    refine g_nmS (fun σ3 eσ3 => ?_)
    have h := ap_at eσ3 h
    refine g_aload_n C 0 dX8_group_24 rfl ?_
    obtain ⟨q4, hq4, h⟩ := bd h
    refine g_callVI C [] qv_X8_151 (m_X8_name hq4) rfl (by decide) rfl rfl rfl ⟨rfl, rfl⟩ ⟨by decide, by decide⟩ (Nat.le_of_ble_eq_true rfl) dX8_group_25 ?_
    refine g_istore_n C [(1, .int q4.1), (0, .ref 0)] dX8_group_28 (by decide) rfl ?_
    exact g_sub [1, 0] rfl ((s_X8_group_29 C (s_X8_group_65 C) FU) q4.1 q4.2 h)
  · have h := ite_f hc2 h
    refine g_aload_n C 0 dX8_group_9 rfl ?_
    obtain ⟨q5, hq5, h⟩ := bd h
    refine g_callVI C [] qv_X8_151 (m_X8_name hq5) rfl (by decide) rfl rfl rfl ⟨rfl, rfl⟩ ⟨by decide, by decide⟩ (Nat.le_of_ble_eq_true rfl) dX8_group_10 ?_
    obtain rfl := Option.some.inj h
    exact g_iret C dX8_group_13
def f_X8_chain_138 (kk90 : Int32 → Int32 → Int32 → Int32 → Int32 → St → Option (St)) (x1 : Int32) (x2 : Int32) (x3 : Int32) (x4 : Int32) (x5 : Int32) (σ : St) : Option (St) := kk90 x1 x2 x3 x4 (x5 + (1 : Int32)) σ
set_option maxRecDepth 20000 in
theorem s_X8_chain_138 {R : St} (C : gC p s m args meth c D ca ad 26 LM RX8 cX8_chain 6 none) {kk90 : Int32 → Int32 → Int32 → Int32 → Int32 → St → Option (St)} (HK90 : ∀ (x1 : Int32) (x2 : Int32) (x3 : Int32) (x4 : Int32) (x5 : Int32) (σ : St), kk90 x1 x2 x3 x4 x5 σ = some R → G p l e rm_X8_chain s m args below meth c D ca ad 26 LM 6 (gEnd below args s D ca ad 26 LM none R) 90 [(0, .ref 0), (1, .int x1), (2, .int x2), (3, .int x3), (4, .int x4), (5, .int x5)] [] σ) (x1 : Int32) (x2 : Int32) (x3 : Int32) (x4 : Int32) (x5 : Int32) (σ : St) (h : f_X8_chain_138 kk90 x1 x2 x3 x4 x5 σ = some R) : G p l e rm_X8_chain s m args below meth c D ca ad 26 LM 6 (gEnd below args s D ca ad 26 LM none R) 138 [(0, .ref 0), (1, .int x1), (2, .int x2), (3, .int x3), (4, .int x4), (5, .int x5)] [] σ := by
  unfold f_X8_chain_138 at h
  refine g_iinc C 5 [(5, .int (x5 + (1 : Int32))), (0, .ref 0), (1, .int x1), (2, .int x2), (3, .int x3), (4, .int x4)] dX8_chain_138 rfl rfl (by decide) rfl ?_
  refine g_goto C 90 dX8_chain_141 (by decide) ?_
  exact g_sub [1, 2, 3, 4, 5, 0] rfl (HK90 x1 x2 x3 x4 (x5 + (1 : Int32)) σ h)
def f_X8_chain_90 (kk144 : Int32 → Int32 → Int32 → Int32 → St → Option (St)) : Nat → Int32 → Int32 → Int32 → Int32 → Int32 → St → Option (St)
  | 0, _, _, _, _, _, _ => none
  | n + 1, x1, x2, x3, x4, x5, σ => (if (7 : Int32) ≤ x5 then kk144 x1 x2 x3 x4 σ else (if x4 = x5 then (f_X8_chain_138 (f_X8_chain_90 kk144 n)) x1 x2 x3 x4 x5 σ else (if ((x1 >>> (x4 &&& 31)) &&& (1 : Int32)) = (1 : Int32) then (if ((x3 >>> (x5 &&& 31)) &&& (1 : Int32)) = (1 : Int32) then cI (ix (((7 : Int32) * x4) + x5) 49) (ap (up1 σ 16 (((7 : Int32) * x4) + x5).toNatClampNeg x2) fun σ6 => (f_X8_chain_138 (f_X8_chain_90 kk144 n)) x1 x2 x3 x4 x5 σ6) else (f_X8_chain_138 (f_X8_chain_90 kk144 n)) x1 x2 x3 x4 x5 σ) else (f_X8_chain_138 (f_X8_chain_90 kk144 n)) x1 x2 x3 x4 x5 σ)))
set_option maxRecDepth 20000 in
theorem s_X8_chain_90 {R : St} (C : gC p s m args meth c D ca ad 26 LM RX8 cX8_chain 6 none) {kk144 : Int32 → Int32 → Int32 → Int32 → St → Option (St)} (HK144 : ∀ (x1 : Int32) (x2 : Int32) (x3 : Int32) (x4 : Int32) (σ : St), kk144 x1 x2 x3 x4 σ = some R → G p l e rm_X8_chain s m args below meth c D ca ad 26 LM 6 (gEnd below args s D ca ad 26 LM none R) 144 [(0, .ref 0), (1, .int x1), (2, .int x2), (3, .int x3), (4, .int x4)] [] σ) : ∀ (n : Nat) (x1 : Int32) (x2 : Int32) (x3 : Int32) (x4 : Int32) (x5 : Int32) (σ : St), f_X8_chain_90 kk144 n x1 x2 x3 x4 x5 σ = some R → G p l e rm_X8_chain s m args below meth c D ca ad 26 LM 6 (gEnd below args s D ca ad 26 LM none R) 90 [(0, .ref 0), (1, .int x1), (2, .int x2), (3, .int x3), (4, .int x4), (5, .int x5)] [] σ := by
  intro n
  induction n with
  | zero =>
    intro x1 x2 x3 x4 x5 σ h
    have h : none = some R := h
    cases h
  | succ n ih =>
    intro x1 x2 x3 x4 x5 σ h
    rw [f_X8_chain_90] at h
    refine g_iload C 5 dX8_chain_90 rfl ?_
    refine g_bipush C (7 : Int32) dX8_chain_92 rfl ?_
    refine g_icmp_ge C 144 dX8_chain_94 (by decide) (fun hc1 => ?_) (fun hc1 => ?_)
    · have h := ite_t hc1 h
      exact g_sub [0, 1, 2, 3, 4] rfl (HK144 x1 x2 x3 x4 σ h)
    · have h := ite_f hc1 h
      refine g_iload C 4 dX8_chain_97 rfl ?_
      refine g_iload C 5 dX8_chain_99 rfl ?_
      refine g_icmp_eq C 138 dX8_chain_101 (by decide) (fun hc2 => ?_) (fun hc2 => ?_)
      · have h := ite_t hc2 h
        exact g_sub [0, 1, 2, 3, 4, 5] rfl ((s_X8_chain_138 C ih) x1 x2 x3 x4 x5 σ h)
      · have h := ite_f hc2 h
        refine g_iload_n C 1 dX8_chain_104 rfl ?_
        refine g_iload C 4 dX8_chain_105 rfl ?_
        refine g_ishr C dX8_chain_107 ?_
        refine g_iconst C (1 : Int32) dX8_chain_108 rfl ?_
        refine g_iand C dX8_chain_109 ?_
        refine g_iconst C (1 : Int32) dX8_chain_110 rfl ?_
        refine g_icmp_ne C 138 dX8_chain_111 (by decide) (fun hc3 => ?_) (fun hc3 => ?_)
        · have h := ite_f hc3 h
          exact g_sub [0, 1, 2, 3, 4, 5] rfl ((s_X8_chain_138 C ih) x1 x2 x3 x4 x5 σ h)
        · have h := ite_t hc3 h
          refine g_iload_n C 3 dX8_chain_114 rfl ?_
          refine g_iload C 5 dX8_chain_115 rfl ?_
          refine g_ishr C dX8_chain_117 ?_
          refine g_iconst C (1 : Int32) dX8_chain_118 rfl ?_
          refine g_iand C dX8_chain_119 ?_
          refine g_iconst C (1 : Int32) dX8_chain_120 rfl ?_
          refine g_icmp_ne C 138 dX8_chain_121 (by decide) (fun hc4 => ?_) (fun hc4 => ?_)
          · have h := ite_f hc4 h
            exact g_sub [0, 1, 2, 3, 4, 5] rfl ((s_X8_chain_138 C ih) x1 x2 x3 x4 x5 σ h)
          · have h := ite_t hc4 h
            refine g_aload_n C 0 dX8_chain_124 rfl ?_
            refine g_getR C 25 16 rfl q_X8_63 rfl rfl dX8_chain_125 ?_
            refine g_bipush C (7 : Int32) dX8_chain_128 rfl ?_
            refine g_iload C 4 dX8_chain_130 rfl ?_
            refine g_imul C dX8_chain_132 ?_
            refine g_iload C 5 dX8_chain_133 rfl ?_
            refine g_iadd C dX8_chain_135 ?_
            refine g_iload_n C 2 dX8_chain_136 rfl ?_
            obtain ⟨hi5, h⟩ := cI_some h
            refine g_iast C 49 rfl ho_25 hi5 dX8_chain_137 ?_
            refine g_nmS (fun σ6 eσ6 => ?_)
            have h := ap_at eσ6 h
            exact g_sub [0, 1, 2, 3, 4, 5] rfl ((s_X8_chain_138 C ih) x1 x2 x3 x4 x5 σ6 h)
def f_X8_chain_144 (kk73 : Int32 → Int32 → Int32 → Int32 → St → Option (St)) (x1 : Int32) (x2 : Int32) (x3 : Int32) (x4 : Int32) (σ : St) : Option (St) := kk73 x1 x2 x3 (x4 + (1 : Int32)) σ
set_option maxRecDepth 20000 in
theorem s_X8_chain_144 {R : St} (C : gC p s m args meth c D ca ad 26 LM RX8 cX8_chain 6 none) {kk73 : Int32 → Int32 → Int32 → Int32 → St → Option (St)} (HK73 : ∀ (x1 : Int32) (x2 : Int32) (x3 : Int32) (x4 : Int32) (σ : St), kk73 x1 x2 x3 x4 σ = some R → G p l e rm_X8_chain s m args below meth c D ca ad 26 LM 6 (gEnd below args s D ca ad 26 LM none R) 73 [(0, .ref 0), (1, .int x1), (2, .int x2), (3, .int x3), (4, .int x4)] [] σ) (x1 : Int32) (x2 : Int32) (x3 : Int32) (x4 : Int32) (σ : St) (h : f_X8_chain_144 kk73 x1 x2 x3 x4 σ = some R) : G p l e rm_X8_chain s m args below meth c D ca ad 26 LM 6 (gEnd below args s D ca ad 26 LM none R) 144 [(0, .ref 0), (1, .int x1), (2, .int x2), (3, .int x3), (4, .int x4)] [] σ := by
  unfold f_X8_chain_144 at h
  refine g_iinc C 4 [(4, .int (x4 + (1 : Int32))), (0, .ref 0), (1, .int x1), (2, .int x2), (3, .int x3)] dX8_chain_144 rfl rfl (by decide) rfl ?_
  refine g_goto C 73 dX8_chain_147 (by decide) ?_
  exact g_sub [1, 2, 3, 4, 0] rfl (HK73 x1 x2 x3 (x4 + (1 : Int32)) σ h)
def f_X8_chain_73 (kk150 : Int32 → St → Option (St)) : Nat → Int32 → Int32 → Int32 → Int32 → St → Option (St)
  | 0, _, _, _, _, _ => none
  | n + 1, x1, x2, x3, x4, σ => (if (7 : Int32) ≤ x4 then kk150 x3 σ else (if (σ.1 0 24) = 0 then (f_X8_chain_90 (f_X8_chain_144 (f_X8_chain_73 kk150 n)) FU) x1 x2 x3 x4 (0 : Int32) σ else kk150 x3 σ))
set_option maxRecDepth 20000 in
theorem s_X8_chain_73 {R : St} (C : gC p s m args meth c D ca ad 26 LM RX8 cX8_chain 6 none) {kk150 : Int32 → St → Option (St)} (HK150 : ∀ (x3 : Int32) (σ : St), kk150 x3 σ = some R → G p l e rm_X8_chain s m args below meth c D ca ad 26 LM 6 (gEnd below args s D ca ad 26 LM none R) 150 [(0, .ref 0), (3, .int x3)] [] σ) : ∀ (n : Nat) (x1 : Int32) (x2 : Int32) (x3 : Int32) (x4 : Int32) (σ : St), f_X8_chain_73 kk150 n x1 x2 x3 x4 σ = some R → G p l e rm_X8_chain s m args below meth c D ca ad 26 LM 6 (gEnd below args s D ca ad 26 LM none R) 73 [(0, .ref 0), (1, .int x1), (2, .int x2), (3, .int x3), (4, .int x4)] [] σ := by
  intro n
  induction n with
  | zero =>
    intro x1 x2 x3 x4 σ h
    have h : none = some R := h
    cases h
  | succ n ih =>
    intro x1 x2 x3 x4 σ h
    rw [f_X8_chain_73] at h
    refine g_iload C 4 dX8_chain_73 rfl ?_
    refine g_bipush C (7 : Int32) dX8_chain_75 rfl ?_
    refine g_icmp_ge C 150 dX8_chain_77 (by decide) (fun hc1 => ?_) (fun hc1 => ?_)
    · have h := ite_t hc1 h
      exact g_sub [0, 3] rfl (HK150 x3 σ h)
    · have h := ite_f hc1 h
      refine g_aload_n C 0 dX8_chain_80 rfl ?_
      refine g_getI C 24 rfl q_X8_148 rfl dX8_chain_81 ?_
      refine g_if_ne C 150 dX8_chain_84 (by decide) (fun hc2 => ?_) (fun hc2 => ?_)
      · have h := ite_f hc2 h
        exact g_sub [0, 3] rfl (HK150 x3 σ h)
      · have h := ite_t hc2 h
        refine g_iconst C (0 : Int32) dX8_chain_87 rfl ?_
        refine g_istore C [(5, .int (0 : Int32)), (0, .ref 0), (1, .int x1), (2, .int x2), (3, .int x3), (4, .int x4)] dX8_chain_88 (by decide) rfl ?_
        exact g_sub [1, 2, 3, 4, 5, 0] rfl ((s_X8_chain_90 C (s_X8_chain_144 C ih) FU) x1 x2 x3 x4 (0 : Int32) σ h)
def f_X8_chain_150 (kk5 : Int32 → St → Option (St)) (x3 : Int32) (σ : St) : Option (St) := kk5 x3 σ
set_option maxRecDepth 20000 in
theorem s_X8_chain_150 {R : St} (C : gC p s m args meth c D ca ad 26 LM RX8 cX8_chain 6 none) {kk5 : Int32 → St → Option (St)} (HK5 : ∀ (x1 : Int32) (σ : St), kk5 x1 σ = some R → G p l e rm_X8_chain s m args below meth c D ca ad 26 LM 6 (gEnd below args s D ca ad 26 LM none R) 5 [(0, .ref 0), (1, .int x1)] [] σ) (x3 : Int32) (σ : St) (h : f_X8_chain_150 kk5 x3 σ = some R) : G p l e rm_X8_chain s m args below meth c D ca ad 26 LM 6 (gEnd below args s D ca ad 26 LM none R) 150 [(0, .ref 0), (3, .int x3)] [] σ := by
  unfold f_X8_chain_150 at h
  refine g_iload_n C 1 dX8_chain_150 rfl ?_
  refine g_istore_n C [(1, .int x3), (0, .ref 0), (3, .int x3)] dX8_chain_151 (by decide) rfl ?_
  refine g_goto C 5 dX8_chain_152 (by decide) ?_
  exact g_sub [1, 0] rfl (HK5 x3 σ h)
def f_X8_chain_61 (kk5 : Int32 → St → Option (St)) (x1 : Int32) (x2 : Int32) (xs0 : Int32) (xs1 : Int32) (σ : St) : Option (St) := ap (up1 σ 0 23 (xs1 + xs0)) fun σ1 => (f_X8_group σ1).bind (fun q2 => (f_X8_chain_73 (f_X8_chain_150 kk5) FU) x1 x2 q2.1 (0 : Int32) q2.2)
set_option maxRecDepth 20000 in
theorem s_X8_chain_61 {R : St} (C : gC p s m args meth c D ca ad 26 LM RX8 cX8_chain 6 none) {kk5 : Int32 → St → Option (St)} (HK5 : ∀ (x1 : Int32) (σ : St), kk5 x1 σ = some R → G p l e rm_X8_chain s m args below meth c D ca ad 26 LM 6 (gEnd below args s D ca ad 26 LM none R) 5 [(0, .ref 0), (1, .int x1)] [] σ) (x1 : Int32) (x2 : Int32) (xs0 : Int32) (xs1 : Int32) (σ : St) (h : f_X8_chain_61 kk5 x1 x2 xs0 xs1 σ = some R) : G p l e rm_X8_chain s m args below meth c D ca ad 26 LM 6 (gEnd below args s D ca ad 26 LM none R) 61 [(0, .ref 0), (1, .int x1), (2, .int x2)] [.int xs0, .int xs1, .ref 0] σ := by
  unfold f_X8_chain_61 at h
  refine g_iadd C dX8_chain_61 ?_
  refine g_putI C 23 rfl qp_X8_141 rfl dX8_chain_62 ?_
  refine g_nmS (fun σ1 eσ1 => ?_)
  have h := ap_at eσ1 h
  refine g_aload_n C 0 dX8_chain_65 rfl ?_
  obtain ⟨q2, hq2, h⟩ := bd h
  refine g_callVI C [] qv_X8_154 (m_X8_group hq2) rfl (by decide) rfl rfl rfl ⟨rfl, rfl⟩ ⟨by decide, by decide⟩ (Nat.le_of_ble_eq_true rfl) dX8_chain_66 ?_
  refine g_istore_n C [(3, .int q2.1), (0, .ref 0), (1, .int x1), (2, .int x2)] dX8_chain_69 (by decide) rfl ?_
  refine g_iconst C (0 : Int32) dX8_chain_70 rfl ?_
  refine g_istore C [(4, .int (0 : Int32)), (3, .int q2.1), (0, .ref 0), (1, .int x1), (2, .int x2)] dX8_chain_71 (by decide) rfl ?_
  exact g_sub [2, 3, 4, 1, 0] rfl ((s_X8_chain_73 C (s_X8_chain_150 C HK5) FU) x1 x2 q2.1 (0 : Int32) q2.2 h)
def f_X8_chain_45 (kk5 : Int32 → St → Option (St)) (x1 : Int32) (xs0 : Int32) (σ : St) : Option (St) := (if xs0 = (2 : Int32) then (f_X8_chain_61 kk5) x1 xs0 (1 : Int32) (σ.1 0 23) σ else (f_X8_chain_61 kk5) x1 xs0 (0 : Int32) (σ.1 0 23) σ)
set_option maxRecDepth 20000 in
theorem s_X8_chain_45 {R : St} (C : gC p s m args meth c D ca ad 26 LM RX8 cX8_chain 6 none) {kk5 : Int32 → St → Option (St)} (HK5 : ∀ (x1 : Int32) (σ : St), kk5 x1 σ = some R → G p l e rm_X8_chain s m args below meth c D ca ad 26 LM 6 (gEnd below args s D ca ad 26 LM none R) 5 [(0, .ref 0), (1, .int x1)] [] σ) (x1 : Int32) (xs0 : Int32) (σ : St) (h : f_X8_chain_45 kk5 x1 xs0 σ = some R) : G p l e rm_X8_chain s m args below meth c D ca ad 26 LM 6 (gEnd below args s D ca ad 26 LM none R) 45 [(0, .ref 0), (1, .int x1)] [.int xs0] σ := by
  unfold f_X8_chain_45 at h
  refine g_istore_n C [(2, .int xs0), (0, .ref 0), (1, .int x1)] dX8_chain_45 (by decide) rfl ?_
  refine g_aload_n C 1 dX8_chain_46 rfl ?_
  refine g_dup C rfl dX8_chain_47 ?_
  refine g_getI C 23 rfl q_X8_141 rfl dX8_chain_48 ?_
  refine g_iload_n C 0 dX8_chain_51 rfl ?_
  refine g_iconst C (2 : Int32) dX8_chain_52 rfl ?_
  refine g_icmp_ne C 60 dX8_chain_53 (by decide) (fun hc1 => ?_) (fun hc1 => ?_)
  · have h := ite_f hc1 h
    refine g_iconst C (0 : Int32) dX8_chain_60 rfl ?_
    exact g_sub [1, 2, 0] rfl ((s_X8_chain_61 C HK5) x1 xs0 (0 : Int32) (σ.1 0 23) σ h)
  · have h := ite_t hc1 h
    refine g_iconst C (1 : Int32) dX8_chain_56 rfl ?_
    refine g_goto C 61 dX8_chain_57 (by decide) ?_
    exact g_sub [1, 2, 0] rfl ((s_X8_chain_61 C HK5) x1 xs0 (1 : Int32) (σ.1 0 23) σ h)
def f_X8_chain_5 : Nat → Int32 → St → Option (St)
  | 0, _, _ => none
  | n + 1, x1, σ => (if (σ.1 0 24) = 0 then (f_X8_here σ).bind (fun q2 => (if q2.1 = (60 : Int32) then ap (up1 q2.2 0 23 ((q2.2.1 0 23) + (1 : Int32))) fun σ4 => (f_X8_here σ4).bind (fun q5 => (if q5.1 = (61 : Int32) then (f_X8_chain_45 (f_X8_chain_5 n)) x1 (2 : Int32) q5.2 else (f_X8_chain_45 (f_X8_chain_5 n)) x1 (1 : Int32) q5.2)) else some q2.2)) else some σ)
set_option maxRecDepth 20000 in
theorem s_X8_chain_5 {R : St} (C : gC p s m args meth c D ca ad 26 LM RX8 cX8_chain 6 none) : ∀ (n : Nat) (x1 : Int32) (σ : St), f_X8_chain_5 n x1 σ = some R → G p l e rm_X8_chain s m args below meth c D ca ad 26 LM 6 (gEnd below args s D ca ad 26 LM none R) 5 [(0, .ref 0), (1, .int x1)] [] σ := by
  intro n
  induction n with
  | zero =>
    intro x1 σ h
    have h : none = some R := h
    cases h
  | succ n ih =>
    intro x1 σ h
    rw [f_X8_chain_5] at h
    refine g_aload_n C 0 dX8_chain_5 rfl ?_
    refine g_getI C 24 rfl q_X8_148 rfl dX8_chain_6 ?_
    refine g_if_ne C 155 dX8_chain_9 (by decide) (fun hc1 => ?_) (fun hc1 => ?_)
    · have h := ite_f hc1 h
      obtain rfl := Option.some.inj h
      exact g_vret C dX8_chain_155
    · have h := ite_t hc1 h
      refine g_aload_n C 0 dX8_chain_12 rfl ?_
      obtain ⟨q2, hq2, h⟩ := bd h
      refine g_callVI C [] qv_X8_144 (m_X8_here hq2) rfl (by decide) rfl rfl rfl ⟨rfl, rfl⟩ ⟨by decide, by decide⟩ (Nat.le_of_ble_eq_true rfl) dX8_chain_13 ?_
      refine g_bipush C (60 : Int32) dX8_chain_16 rfl ?_
      refine g_icmp_ne C 155 dX8_chain_18 (by decide) (fun hc3 => ?_) (fun hc3 => ?_)
      · have h := ite_f hc3 h
        obtain rfl := Option.some.inj h
        exact g_vret C dX8_chain_155
      · have h := ite_t hc3 h
        refine g_aload_n C 0 dX8_chain_21 rfl ?_
        refine g_dup C rfl dX8_chain_22 ?_
        refine g_getI C 23 rfl q_X8_141 rfl dX8_chain_23 ?_
        refine g_iconst C (1 : Int32) dX8_chain_26 rfl ?_
        refine g_iadd C dX8_chain_27 ?_
        refine g_putI C 23 rfl qp_X8_141 rfl dX8_chain_28 ?_
        refine g_nmS (fun σ4 eσ4 => ?_)
        have h := ap_at eσ4 h
        refine g_aload_n C 0 dX8_chain_31 rfl ?_
        obtain ⟨q5, hq5, h⟩ := bd h
        refine g_callVI C [] qv_X8_144 (m_X8_here hq5) rfl (by decide) rfl rfl rfl ⟨rfl, rfl⟩ ⟨by decide, by decide⟩ (Nat.le_of_ble_eq_true rfl) dX8_chain_32 ?_
        refine g_bipush C (61 : Int32) dX8_chain_35 rfl ?_
        refine g_icmp_ne C 44 dX8_chain_37 (by decide) (fun hc6 => ?_) (fun hc6 => ?_)
        · have h := ite_f hc6 h
          refine g_iconst C (1 : Int32) dX8_chain_44 rfl ?_
          exact g_sub [0, 1] rfl ((s_X8_chain_45 C ih) x1 (1 : Int32) q5.2 h)
        · have h := ite_t hc6 h
          refine g_iconst C (2 : Int32) dX8_chain_40 rfl ?_
          refine g_goto C 45 dX8_chain_41 (by decide) ?_
          exact g_sub [0, 1] rfl ((s_X8_chain_45 C ih) x1 (2 : Int32) q5.2 h)
def f_X8_chain (σ : St) : Option (St) := (f_X8_group σ).bind (fun q1 => (f_X8_chain_5 FU) q1.1 q1.2)
set_option maxRecDepth 20000 in
theorem m_X8_chain {l : Launch} {D : va_G} {ca : Nat → ClassId} {ad : Nat → Nat} {σ : St} {R : St} (h : f_X8_chain σ = some R) : gM l D ca ad 26 LM yX8_chain cX8_chain 6 none rm_X8_chain [.ref 0] σ none R := by
  refine gM_of (by decide) (Nat.le_of_ble_eq_true rfl) (fun p e s m args below meth c C => ?_)
  refine g_ent (ls' := [(0, .ref 0)]) rfl ?_
  unfold f_X8_chain at h
  refine g_aload_n C 0 dX8_chain_0 rfl ?_
  obtain ⟨q1, hq1, h⟩ := bd h
  refine g_callVI C [] qv_X8_154 (m_X8_group hq1) rfl (by decide) rfl rfl rfl ⟨rfl, rfl⟩ ⟨by decide, by decide⟩ (Nat.le_of_ble_eq_true rfl) dX8_chain_1 ?_
  refine g_istore_n C [(1, .int q1.1), (0, .ref 0)] dX8_chain_4 (by decide) rfl ?_
  exact g_sub [1, 0] rfl ((s_X8_chain_5 C FU) q1.1 q1.2 h)
def f_X8_pairMany_42 (kk14 : Int32 → Int32 → Int32 → St → Option (Int32 × St)) (x2 : Int32) (x3 : Int32) (xs0 : Int32) (xs1 : Int32) (σ : St) : Option (Int32 × St) := kk14 (xs1 + xs0) x2 (x3 + (1 : Int32)) σ
set_option maxRecDepth 20000 in
theorem s_X8_pairMany_42 {R : Int32 × St} (C : gC p s m args meth c D ca ad 26 LM RX8 cX8_pairMany 4 (some .int)) {kk14 : Int32 → Int32 → Int32 → St → Option (Int32 × St)} (HK14 : ∀ (x1 : Int32) (x2 : Int32) (x3 : Int32) (σ : St), kk14 x1 x2 x3 σ = some R → G p l e rm_X8_pairMany s m args below meth c D ca ad 26 LM 4 (gEnd below args s D ca ad 26 LM (some (.int R.1)) R.2) 14 [(0, .ref 0), (1, .int x1), (2, .int x2), (3, .int x3)] [] σ) (x2 : Int32) (x3 : Int32) (xs0 : Int32) (xs1 : Int32) (σ : St) (h : f_X8_pairMany_42 kk14 x2 x3 xs0 xs1 σ = some R) : G p l e rm_X8_pairMany s m args below meth c D ca ad 26 LM 4 (gEnd below args s D ca ad 26 LM (some (.int R.1)) R.2) 42 [(0, .ref 0), (2, .int x2), (3, .int x3)] [.int xs0, .int xs1] σ := by
  unfold f_X8_pairMany_42 at h
  refine g_iadd C dX8_pairMany_42 ?_
  refine g_istore_n C [(1, .int (xs1 + xs0)), (0, .ref 0), (2, .int x2), (3, .int x3)] dX8_pairMany_43 (by decide) rfl ?_
  refine g_iinc C 3 [(3, .int (x3 + (1 : Int32))), (1, .int (xs1 + xs0)), (0, .ref 0), (2, .int x2)] dX8_pairMany_44 rfl rfl (by decide) rfl ?_
  refine g_goto C 14 dX8_pairMany_47 (by decide) ?_
  exact g_sub [2, 1, 3, 0] rfl (HK14 (xs1 + xs0) x2 (x3 + (1 : Int32)) σ h)
def f_X8_pairMany_14 (kk50 : Int32 → Int32 → St → Option (Int32 × St)) : Nat → Int32 → Int32 → Int32 → St → Option (Int32 × St)
  | 0, _, _, _, _ => none
  | n + 1, x1, x2, x3, σ => (if (σ.1 0 3) ≤ x3 then kk50 x1 x2 σ else cI (ix (((7 : Int32) * x2) + x3) 49) ((if (σ.1 8 (((7 : Int32) * x2) + x3).toNatClampNeg) ≤ 0 then (f_X8_pairMany_42 (f_X8_pairMany_14 kk50 n)) x2 x3 (0 : Int32) x1 σ else (f_X8_pairMany_42 (f_X8_pairMany_14 kk50 n)) x2 x3 (1 : Int32) x1 σ)))
set_option maxRecDepth 20000 in
theorem s_X8_pairMany_14 {R : Int32 × St} (C : gC p s m args meth c D ca ad 26 LM RX8 cX8_pairMany 4 (some .int)) {kk50 : Int32 → Int32 → St → Option (Int32 × St)} (HK50 : ∀ (x1 : Int32) (x2 : Int32) (σ : St), kk50 x1 x2 σ = some R → G p l e rm_X8_pairMany s m args below meth c D ca ad 26 LM 4 (gEnd below args s D ca ad 26 LM (some (.int R.1)) R.2) 50 [(0, .ref 0), (1, .int x1), (2, .int x2)] [] σ) : ∀ (n : Nat) (x1 : Int32) (x2 : Int32) (x3 : Int32) (σ : St), f_X8_pairMany_14 kk50 n x1 x2 x3 σ = some R → G p l e rm_X8_pairMany s m args below meth c D ca ad 26 LM 4 (gEnd below args s D ca ad 26 LM (some (.int R.1)) R.2) 14 [(0, .ref 0), (1, .int x1), (2, .int x2), (3, .int x3)] [] σ := by
  intro n
  induction n with
  | zero =>
    intro x1 x2 x3 σ h
    have h : none = some R := h
    cases h
  | succ n ih =>
    intro x1 x2 x3 σ h
    rw [f_X8_pairMany_14] at h
    refine g_iload_n C 3 dX8_pairMany_14 rfl ?_
    refine g_aload_n C 0 dX8_pairMany_15 rfl ?_
    refine g_getI C 3 rfl q_X8_97 rfl dX8_pairMany_16 ?_
    refine g_icmp_ge C 50 dX8_pairMany_19 (by decide) (fun hc1 => ?_) (fun hc1 => ?_)
    · have h := ite_t hc1 h
      exact g_sub [0, 1, 2] rfl (HK50 x1 x2 σ h)
    · have h := ite_f hc1 h
      refine g_iload_n C 1 dX8_pairMany_22 rfl ?_
      refine g_aload_n C 0 dX8_pairMany_23 rfl ?_
      refine g_getR C 9 8 rfl q_X8_35 rfl rfl dX8_pairMany_24 ?_
      refine g_bipush C (7 : Int32) dX8_pairMany_27 rfl ?_
      refine g_iload_n C 2 dX8_pairMany_29 rfl ?_
      refine g_imul C dX8_pairMany_30 ?_
      refine g_iload_n C 3 dX8_pairMany_31 rfl ?_
      refine g_iadd C dX8_pairMany_32 ?_
      obtain ⟨hi2, h⟩ := cI_some h
      refine g_iald C 49 rfl ho_25 hi2 dX8_pairMany_33 ?_
      refine g_if_le C 41 dX8_pairMany_34 (by decide) (fun hc3 => ?_) (fun hc3 => ?_)
      · have h := ite_t hc3 h
        refine g_iconst C (0 : Int32) dX8_pairMany_41 rfl ?_
        exact g_sub [0, 2, 3] rfl ((s_X8_pairMany_42 C ih) x2 x3 (0 : Int32) x1 σ h)
      · have h := ite_f hc3 h
        refine g_iconst C (1 : Int32) dX8_pairMany_37 rfl ?_
        refine g_goto C 42 dX8_pairMany_38 (by decide) ?_
        exact g_sub [0, 2, 3] rfl ((s_X8_pairMany_42 C ih) x2 x3 (1 : Int32) x1 σ h)
def f_X8_pairMany_50 (kk4 : Int32 → Int32 → St → Option (Int32 × St)) (x1 : Int32) (x2 : Int32) (σ : St) : Option (Int32 × St) := kk4 x1 (x2 + (1 : Int32)) σ
set_option maxRecDepth 20000 in
theorem s_X8_pairMany_50 {R : Int32 × St} (C : gC p s m args meth c D ca ad 26 LM RX8 cX8_pairMany 4 (some .int)) {kk4 : Int32 → Int32 → St → Option (Int32 × St)} (HK4 : ∀ (x1 : Int32) (x2 : Int32) (σ : St), kk4 x1 x2 σ = some R → G p l e rm_X8_pairMany s m args below meth c D ca ad 26 LM 4 (gEnd below args s D ca ad 26 LM (some (.int R.1)) R.2) 4 [(0, .ref 0), (1, .int x1), (2, .int x2)] [] σ) (x1 : Int32) (x2 : Int32) (σ : St) (h : f_X8_pairMany_50 kk4 x1 x2 σ = some R) : G p l e rm_X8_pairMany s m args below meth c D ca ad 26 LM 4 (gEnd below args s D ca ad 26 LM (some (.int R.1)) R.2) 50 [(0, .ref 0), (1, .int x1), (2, .int x2)] [] σ := by
  unfold f_X8_pairMany_50 at h
  refine g_iinc C 2 [(2, .int (x2 + (1 : Int32))), (0, .ref 0), (1, .int x1)] dX8_pairMany_50 rfl rfl (by decide) rfl ?_
  refine g_goto C 4 dX8_pairMany_53 (by decide) ?_
  exact g_sub [1, 2, 0] rfl (HK4 x1 (x2 + (1 : Int32)) σ h)
def f_X8_pairMany_4 : Nat → Int32 → Int32 → St → Option (Int32 × St)
  | 0, _, _, _ => none
  | n + 1, x1, x2, σ => (if (σ.1 0 3) ≤ x2 then some (x1, σ) else (f_X8_pairMany_14 (f_X8_pairMany_50 (f_X8_pairMany_4 n)) FU) x1 x2 (0 : Int32) σ)
set_option maxRecDepth 20000 in
theorem s_X8_pairMany_4 {R : Int32 × St} (C : gC p s m args meth c D ca ad 26 LM RX8 cX8_pairMany 4 (some .int)) : ∀ (n : Nat) (x1 : Int32) (x2 : Int32) (σ : St), f_X8_pairMany_4 n x1 x2 σ = some R → G p l e rm_X8_pairMany s m args below meth c D ca ad 26 LM 4 (gEnd below args s D ca ad 26 LM (some (.int R.1)) R.2) 4 [(0, .ref 0), (1, .int x1), (2, .int x2)] [] σ := by
  intro n
  induction n with
  | zero =>
    intro x1 x2 σ h
    have h : none = some R := h
    cases h
  | succ n ih =>
    intro x1 x2 σ h
    rw [f_X8_pairMany_4] at h
    refine g_iload_n C 2 dX8_pairMany_4 rfl ?_
    refine g_aload_n C 0 dX8_pairMany_5 rfl ?_
    refine g_getI C 3 rfl q_X8_97 rfl dX8_pairMany_6 ?_
    refine g_icmp_ge C 56 dX8_pairMany_9 (by decide) (fun hc1 => ?_) (fun hc1 => ?_)
    · have h := ite_t hc1 h
      refine g_iload_n C 1 dX8_pairMany_56 rfl ?_
      obtain rfl := Option.some.inj h
      exact g_iret C dX8_pairMany_57
    · have h := ite_f hc1 h
      refine g_iconst C (0 : Int32) dX8_pairMany_12 rfl ?_
      refine g_istore_n C [(3, .int (0 : Int32)), (0, .ref 0), (1, .int x1), (2, .int x2)] dX8_pairMany_13 (by decide) rfl ?_
      exact g_sub [1, 2, 3, 0] rfl ((s_X8_pairMany_14 C (s_X8_pairMany_50 C ih) FU) x1 x2 (0 : Int32) σ h)
def f_X8_pairMany (σ : St) : Option (Int32 × St) := (f_X8_pairMany_4 FU) (0 : Int32) (0 : Int32) σ
set_option maxRecDepth 20000 in
theorem m_X8_pairMany {l : Launch} {D : va_G} {ca : Nat → ClassId} {ad : Nat → Nat} {σ : St} {R : Int32 × St} (h : f_X8_pairMany σ = some R) : gM l D ca ad 26 LM yX8_pairMany cX8_pairMany 4 (some .int) rm_X8_pairMany [.ref 0] σ (some (.int R.1)) R.2 := by
  refine gM_of (by decide) (Nat.le_of_ble_eq_true rfl) (fun p e s m args below meth c C => ?_)
  refine g_ent (ls' := [(0, .ref 0)]) rfl ?_
  unfold f_X8_pairMany at h
  refine g_iconst C (0 : Int32) dX8_pairMany_0 rfl ?_
  refine g_istore_n C [(1, .int (0 : Int32)), (0, .ref 0)] dX8_pairMany_1 (by decide) rfl ?_
  refine g_iconst C (0 : Int32) dX8_pairMany_2 rfl ?_
  refine g_istore_n C [(2, .int (0 : Int32)), (1, .int (0 : Int32)), (0, .ref 0)] dX8_pairMany_3 (by decide) rfl ?_
  exact g_sub [2, 1, 0] rfl ((s_X8_pairMany_4 C FU) (0 : Int32) (0 : Int32) σ h)
end
