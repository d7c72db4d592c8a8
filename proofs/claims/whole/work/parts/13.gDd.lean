section
variable {p : Program} {l : Launch} {e : Env} {s : State} {m : MethodId} {args : Array Value} {below : List Frame} {meth : Method} {c : Code} {D : va_G} {ca : Nat → ClassId} {ad : Nat → Nat}
def f_X7_draw (x1 : Int64) (σ : St) : Option (Int64 × St) := (if (0 : Int64) ≤ x1 then (f_X7_weigh 1 σ).bind (fun q2 => (if (0 : Int64) ≤ q2.1 then (if x1 < q2.1 then ap (up1 q2.2 0 10 (1 : Int32)) fun σ5 => (f_X7_settleYears x1 σ5).bind (fun q6 => some (q6.1, q6.2)) else some ((-4 : Int64), q2.2)) else some ((-5 : Int64), q2.2))) else some ((-2 : Int64), σ))
set_option maxRecDepth 20000 in
theorem m_X7_draw {l : Launch} {D : va_G} {ca : Nat → ClassId} {ad : Nat → Nat} {x1 : Int64} {σ : St} {R : Int64 × St} (h : f_X7_draw x1 σ = some R) : gM l D ca ad 91 LC yX7_draw cX7_draw 5 (some .long) rm_X7_draw [.ref 0, .long x1] σ (some (.long R.1)) R.2 := by
  refine gM_of (by decide) (Nat.le_of_ble_eq_true rfl) (fun p e s m args below meth c C => ?_)
  refine g_ent (ls' := [(0, .ref 0), (1, .long x1)]) rfl ?_
  unfold f_X7_draw at h
  refine g_lload_n C 1 dX7_draw_0 rfl ?_
  refine g_lconst C (0 : Int64) dX7_draw_1 rfl ?_
  refine g_lcmp_ge C 10 dX7_draw_2 dX7_draw_3 (by decide) (fun hc1 => ?_) (fun hc1 => ?_)
  · have h := ite_t hc1 h
    refine g_aload_n C 0 dX7_draw_10 rfl ?_
    refine g_aload_n C 0 dX7_draw_11 rfl ?_
    refine g_getR C 0 1 rfl q_X7_10 rfl rfl dX7_draw_12 ?_
    obtain ⟨q2, hq2, h⟩ := bd h
    refine g_callVL C [.ref 1] qv_X7_218 (m_X7_weigh rfl hq2) rfl (by decide) rfl rfl rfl ⟨rfl, rfl⟩ ⟨by decide, by decide⟩ (Nat.le_of_ble_eq_true rfl) dX7_draw_15 ?_
    refine g_lstore_n C [(3, .long q2.1), (0, .ref 0), (1, .long x1)] dX7_draw_18 (by decide) rfl ?_
    refine g_lload_n C 0 dX7_draw_19 rfl ?_
    refine g_lconst C (0 : Int64) dX7_draw_20 rfl ?_
    refine g_lcmp_ge C 29 dX7_draw_21 dX7_draw_22 (by decide) (fun hc3 => ?_) (fun hc3 => ?_)
    · have h := ite_t hc3 h
      refine g_lload_n C 2 dX7_draw_29 rfl ?_
      refine g_lload_n C 0 dX7_draw_30 rfl ?_
      refine g_lcmp_lt C 39 dX7_draw_31 dX7_draw_32 (by decide) (fun hc4 => ?_) (fun hc4 => ?_)
      · have h := ite_t hc4 h
        refine g_aload_n C 1 dX7_draw_39 rfl ?_
        refine g_iconst C (1 : Int32) dX7_draw_40 rfl ?_
        refine g_putZ C 10 rfl qp_X7_63 rfl rfl rfl dX7_draw_41 ?_
        refine g_nmS (fun σ5 eσ5 => ?_)
        have h := ap_at eσ5 h
        refine g_aload_n C 1 dX7_draw_44 rfl ?_
        refine g_lload_n C 2 dX7_draw_45 rfl ?_
        obtain ⟨q6, hq6, h⟩ := bd h
        refine g_callVL C [.long x1] qv_X7_272 (m_X7_settleYears hq6) rfl (by decide) rfl rfl rfl ⟨rfl, rfl⟩ ⟨by decide, by decide⟩ (Nat.le_of_ble_eq_true rfl) dX7_draw_46 ?_
        obtain rfl := Option.some.inj h
        exact g_lret C dX7_draw_49
      · have h := ite_f hc4 h
        refine g_ldc2 C (-4 : Int64) qc_X7_270 dX7_draw_35 ?_
        obtain rfl := Option.some.inj h
        exact g_lret C dX7_draw_38
    · have h := ite_f hc3 h
      refine g_ldc2 C (-5 : Int64) qc_X7_261 dX7_draw_25 ?_
      obtain rfl := Option.some.inj h
      exact g_lret C dX7_draw_28
  · have h := ite_f hc1 h
    refine g_ldc2 C (-2 : Int64) qc_X7_222 dX7_draw_6 ?_
    obtain rfl := Option.some.inj h
    exact g_lret C dX7_draw_9
def f_X7_drawn (x1 : Int32) (σ : St) : Option (Int32 × St) := (if (σ.1 0 10) = 0 then (f_X7_hostFinding (-10 : Int32) σ).bind (fun q5 => some (q5.1, q5.2)) else (f_X7_isFind x1 σ).bind (fun q2 => (if q2.1 = 0 then some ((-2 : Int32), q2.2) else cI (ix x1 7) (some ((q2.2.1 82 x1.toNatClampNeg), q2.2)))))
set_option maxRecDepth 20000 in
theorem m_X7_drawn {l : Launch} {D : va_G} {ca : Nat → ClassId} {ad : Nat → Nat} {x1 : Int32} {σ : St} {R : Int32 × St} (h : f_X7_drawn x1 σ = some R) : gM l D ca ad 91 LC yX7_drawn cX7_drawn 2 (some .int) rm_X7_drawn [.ref 0, .int x1] σ (some (.int R.1)) R.2 := by
  refine gM_of (by decide) (Nat.le_of_ble_eq_true rfl) (fun p e s m args below meth c C => ?_)
  refine g_ent (ls' := [(0, .ref 0), (1, .int x1)]) rfl ?_
  unfold f_X7_drawn at h
  refine g_aload_n C 0 dX7_drawn_0 rfl ?_
  refine g_getI C 10 rfl q_X7_63 rfl dX7_drawn_1 ?_
  refine g_if_ne C 14 dX7_drawn_4 (by decide) (fun hc1 => ?_) (fun hc1 => ?_)
  · have h := ite_f hc1 h
    refine g_aload_n C 0 dX7_drawn_14 rfl ?_
    refine g_iload_n C 1 dX7_drawn_15 rfl ?_
    obtain ⟨q2, hq2, h⟩ := bd h
    refine g_callVI C [.int x1] qv_X7_142 (m_X7_isFind hq2) rfl (by decide) rfl rfl rfl ⟨rfl, rfl⟩ ⟨by decide, by decide⟩ (Nat.le_of_ble_eq_true rfl) dX7_drawn_16 ?_
    refine g_if_eq C 31 dX7_drawn_19 (by decide) (fun hc3 => ?_) (fun hc3 => ?_)
    · have h := ite_t hc3 h
      refine g_bipush C (-2 : Int32) dX7_drawn_31 rfl ?_
      obtain rfl := Option.some.inj h
      exact g_iret C dX7_drawn_33
    · have h := ite_f hc3 h
      refine g_aload_n C 0 dX7_drawn_22 rfl ?_
      refine g_getR C 9 82 rfl q_X7_60 rfl rfl dX7_drawn_23 ?_
      refine g_iload_n C 1 dX7_drawn_26 rfl ?_
      obtain ⟨hi4, h⟩ := cI_some h
      refine g_iald C 7 rfl ho_11 hi4 dX7_drawn_27 ?_
      refine g_goto C 33 dX7_drawn_28 (by decide) ?_
      obtain rfl := Option.some.inj h
      exact g_iret C dX7_drawn_33
  · have h := ite_t hc1 h
    refine g_aload_n C 0 dX7_drawn_7 rfl ?_
    refine g_bipush C (-10 : Int32) dX7_drawn_8 rfl ?_
    obtain ⟨q5, hq5, h⟩ := bd h
    refine g_callVI C [.int (-10 : Int32)] qv_X7_96 (m_X7_hostFinding hq5) rfl (by decide) rfl rfl rfl ⟨rfl, rfl⟩ ⟨by decide, by decide⟩ (Nat.le_of_ble_eq_true rfl) dX7_drawn_10 ?_
    obtain rfl := Option.some.inj h
    exact g_iret C dX7_drawn_13
def f_X7_tell (x1 : Int32) (σ : St) : Option (Int32 × St) := (if (σ.1 0 8) < (20 : Int32) then cI (ix (σ.1 0 8) 20) (ap (up1 σ 81 (σ.1 0 8).toNatClampNeg x1) fun σ3 => ap (up1 σ3 0 8 ((σ3.1 0 8) + (1 : Int32))) fun σ4 => some ((σ4.1 0 8), σ4)) else some ((-2 : Int32), σ))
set_option maxRecDepth 20000 in
theorem m_X7_tell {l : Launch} {D : va_G} {ca : Nat → ClassId} {ad : Nat → Nat} {x1 : Int32} {σ : St} {R : Int32 × St} (h : f_X7_tell x1 σ = some R) : gM l D ca ad 91 LC yX7_tell cX7_tell 2 (some .int) rm_X7_tell [.ref 0, .int x1] σ (some (.int R.1)) R.2 := by
  refine gM_of (by decide) (Nat.le_of_ble_eq_true rfl) (fun p e s m args below meth c C => ?_)
  refine g_ent (ls' := [(0, .ref 0), (1, .int x1)]) rfl ?_
  unfold f_X7_tell at h
  refine g_aload_n C 0 dX7_tell_0 rfl ?_
  refine g_getI C 8 rfl q_X7_56 rfl dX7_tell_1 ?_
  refine g_bipush C (20 : Int32) dX7_tell_4 rfl ?_
  refine g_icmp_lt C 12 dX7_tell_6 (by decide) (fun hc1 => ?_) (fun hc1 => ?_)
  · have h := ite_t hc1 h
    refine g_aload_n C 0 dX7_tell_12 rfl ?_
    refine g_getR C 7 81 rfl q_X7_52 rfl rfl dX7_tell_13 ?_
    refine g_aload_n C 0 dX7_tell_16 rfl ?_
    refine g_getI C 8 rfl q_X7_56 rfl dX7_tell_17 ?_
    refine g_iload_n C 1 dX7_tell_20 rfl ?_
    obtain ⟨hi2, h⟩ := cI_some h
    refine g_iast C 20 rfl ho_12 hi2 dX7_tell_21 ?_
    refine g_nmS (fun σ3 eσ3 => ?_)
    have h := ap_at eσ3 h
    refine g_aload_n C 0 dX7_tell_22 rfl ?_
    refine g_dup C rfl dX7_tell_23 ?_
    refine g_getI C 8 rfl q_X7_56 rfl dX7_tell_24 ?_
    refine g_iconst C (1 : Int32) dX7_tell_27 rfl ?_
    refine g_iadd C dX7_tell_28 ?_
    refine g_putI C 8 rfl qp_X7_56 rfl dX7_tell_29 ?_
    refine g_nmS (fun σ4 eσ4 => ?_)
    have h := ap_at eσ4 h
    refine g_aload_n C 0 dX7_tell_32 rfl ?_
    refine g_getI C 8 rfl q_X7_56 rfl dX7_tell_33 ?_
    obtain rfl := Option.some.inj h
    exact g_iret C dX7_tell_36
  · have h := ite_f hc1 h
    refine g_bipush C (-2 : Int32) dX7_tell_9 rfl ?_
    obtain rfl := Option.some.inj h
    exact g_iret C dX7_tell_11
def f_X7_countAheadOfWaiting_5 (kk69 : Int64 → St → Option (Int64 × St)) : Nat → Int32 → Int64 → Int32 → St → Option (Int64 × St)
  | 0, _, _, _, _ => none
  | n + 1, x1, x2, x4, σ => (if x1 ≤ x4 then kk69 x2 σ else cI (ix x4 20) ((f_X6_limit x4 (0 : Int32) ((σ.1 81 x4.toNatClampNeg) - (1 : Int32)) σ).bind (fun q3 => (f_X0_countAll q3).bind (fun q4 => cI (ix x4 20) (cI (ix x4 20) ((f_X6_limit x4 (q4.2.1 81 x4.toNatClampNeg) (q4.2.1 81 x4.toNatClampNeg) q4.2).bind (fun q7 => (f_X7_countAheadOfWaiting_5 kk69 n) x1 (x2 + q4.1) (x4 + (1 : Int32)) q7)))))))
set_option maxRecDepth 20000 in
theorem s_X7_countAheadOfWaiting_5 {R : Int64 × St} (C : gC p s m args meth c D ca ad 91 LC RX7 cX7_countAheadOfWaiting 5 (some .long)) {kk69 : Int64 → St → Option (Int64 × St)} (HK69 : ∀ (x2 : Int64) (σ : St), kk69 x2 σ = some R → G p l e rm_X7_countAheadOfWaiting s m args below meth c D ca ad 91 LC 5 (gEnd below args s D ca ad 91 LC (some (.long R.1)) R.2) 69 [(0, .ref 0), (2, .long x2)] [] σ) : ∀ (n : Nat) (x1 : Int32) (x2 : Int64) (x4 : Int32) (σ : St), f_X7_countAheadOfWaiting_5 kk69 n x1 x2 x4 σ = some R → G p l e rm_X7_countAheadOfWaiting s m args below meth c D ca ad 91 LC 5 (gEnd below args s D ca ad 91 LC (some (.long R.1)) R.2) 5 [(0, .ref 0), (1, .int x1), (2, .long x2), (4, .int x4)] [] σ := by
  intro n
  induction n with
  | zero =>
    intro x1 x2 x4 σ h
    have h : none = some R := h
    cases h
  | succ n ih =>
    intro x1 x2 x4 σ h
    rw [f_X7_countAheadOfWaiting_5] at h
    refine g_iload C 3 dX7_countAheadOfWaiting_5 rfl ?_
    refine g_iload_n C 1 dX7_countAheadOfWaiting_7 rfl ?_
    refine g_icmp_ge C 69 dX7_countAheadOfWaiting_8 (by decide) (fun hc1 => ?_) (fun hc1 => ?_)
    · have h := ite_t hc1 h
      exact g_sub [0, 2] rfl (HK69 x2 σ h)
    · have h := ite_f hc1 h
      refine g_aload_n C 0 dX7_countAheadOfWaiting_11 rfl ?_
      refine g_getR C 5 63 rfl q_X7_39 rfl rfl dX7_countAheadOfWaiting_12 ?_
      refine g_iload C 3 dX7_countAheadOfWaiting_15 rfl ?_
      refine g_iconst C (0 : Int32) dX7_countAheadOfWaiting_17 rfl ?_
      refine g_aload_n C 0 dX7_countAheadOfWaiting_18 rfl ?_
      refine g_getR C 7 81 rfl q_X7_52 rfl rfl dX7_countAheadOfWaiting_19 ?_
      refine g_iload C 3 dX7_countAheadOfWaiting_22 rfl ?_
      obtain ⟨hi2, h⟩ := cI_some h
      refine g_iald C 20 rfl ho_12 hi2 dX7_countAheadOfWaiting_24 ?_
      refine g_iconst C (1 : Int32) dX7_countAheadOfWaiting_25 rfl ?_
      refine g_isub C dX7_countAheadOfWaiting_26 ?_
      obtain ⟨q3, hq3, h⟩ := bd h
      refine g_callVV C [.int x4, .int (0 : Int32), .int ((σ.1 81 x4.toNatClampNeg) - (1 : Int32))] qv_X7_240 (m_X6_limit hq3) rfl (by decide) rfl rfl rfl ⟨rfl, rfl⟩ ⟨by decide, by decide⟩ (Nat.le_of_ble_eq_true rfl) dX7_countAheadOfWaiting_27 ?_
      refine g_lload_n C 2 dX7_countAheadOfWaiting_30 rfl ?_
      refine g_aload_n C 0 dX7_countAheadOfWaiting_31 rfl ?_
      refine g_getR C 6 70 rfl q_X7_48 rfl rfl dX7_countAheadOfWaiting_32 ?_
      obtain ⟨q4, hq4, h⟩ := bd h
      refine g_callVL C [] qv_X7_237 (m_X0_countAll hq4) rfl (by decide) rfl rfl rfl ⟨rfl, rfl⟩ ⟨by decide, by decide⟩ (Nat.le_of_ble_eq_true rfl) dX7_countAheadOfWaiting_35 ?_
      refine g_ladd C dX7_countAheadOfWaiting_38 ?_
      refine g_lstore_n C [(2, .long (x2 + q4.1)), (0, .ref 0), (1, .int x1), (4, .int x4)] dX7_countAheadOfWaiting_39 (by decide) rfl ?_
      refine g_aload_n C 1 dX7_countAheadOfWaiting_40 rfl ?_
      refine g_getR C 5 63 rfl q_X7_39 rfl rfl dX7_countAheadOfWaiting_41 ?_
      refine g_iload C 3 dX7_countAheadOfWaiting_44 rfl ?_
      refine g_aload_n C 1 dX7_countAheadOfWaiting_46 rfl ?_
      refine g_getR C 7 81 rfl q_X7_52 rfl rfl dX7_countAheadOfWaiting_47 ?_
      refine g_iload C 3 dX7_countAheadOfWaiting_50 rfl ?_
      obtain ⟨hi5, h⟩ := cI_some h
      refine g_iald C 20 rfl ho_12 hi5 dX7_countAheadOfWaiting_52 ?_
      refine g_aload_n C 1 dX7_countAheadOfWaiting_53 rfl ?_
      refine g_getR C 7 81 rfl q_X7_52 rfl rfl dX7_countAheadOfWaiting_54 ?_
      refine g_iload C 3 dX7_countAheadOfWaiting_57 rfl ?_
      obtain ⟨hi6, h⟩ := cI_some h
      refine g_iald C 20 rfl ho_12 hi6 dX7_countAheadOfWaiting_59 ?_
      obtain ⟨q7, hq7, h⟩ := bd h
      refine g_callVV C [.int x4, .int (q4.2.1 81 x4.toNatClampNeg), .int (q4.2.1 81 x4.toNatClampNeg)] qv_X7_240 (m_X6_limit hq7) rfl (by decide) rfl rfl rfl ⟨rfl, rfl⟩ ⟨by decide, by decide⟩ (Nat.le_of_ble_eq_true rfl) dX7_countAheadOfWaiting_60 ?_
      refine g_iinc C 3 [(4, .int (x4 + (1 : Int32))), (2, .long (x2 + q4.1)), (0, .ref 0), (1, .int x1)] dX7_countAheadOfWaiting_63 rfl rfl (by decide) rfl ?_
      refine g_goto C 5 dX7_countAheadOfWaiting_66 (by decide) ?_
      exact g_sub [2, 3, 1, 0] rfl (ih x1 (x2 + q4.1) (x4 + (1 : Int32)) q7 h)
def f_X7_countAheadOfWaiting_69 (x2 : Int64) (σ : St) : Option (Int64 × St) := (f_X0_countAll σ).bind (fun q1 => (if q1.1 = (0 : Int64) then some ((-4 : Int64), q1.2) else some (x2, q1.2)))
set_option maxRecDepth 20000 in
theorem s_X7_countAheadOfWaiting_69 {R : Int64 × St} (C : gC p s m args meth c D ca ad 91 LC RX7 cX7_countAheadOfWaiting 5 (some .long)) (x2 : Int64) (σ : St) (h : f_X7_countAheadOfWaiting_69 x2 σ = some R) : G p l e rm_X7_countAheadOfWaiting s m args below meth c D ca ad 91 LC 5 (gEnd below args s D ca ad 91 LC (some (.long R.1)) R.2) 69 [(0, .ref 0), (2, .long x2)] [] σ := by
  unfold f_X7_countAheadOfWaiting_69 at h
  refine g_aload_n C 0 dX7_countAheadOfWaiting_69 rfl ?_
  refine g_getR C 6 70 rfl q_X7_48 rfl rfl dX7_countAheadOfWaiting_70 ?_
  obtain ⟨q1, hq1, h⟩ := bd h
  refine g_callVL C [] qv_X7_237 (m_X0_countAll hq1) rfl (by decide) rfl rfl rfl ⟨rfl, rfl⟩ ⟨by decide, by decide⟩ (Nat.le_of_ble_eq_true rfl) dX7_countAheadOfWaiting_73 ?_
  refine g_lconst C (0 : Int64) dX7_countAheadOfWaiting_76 rfl ?_
  refine g_lcmp_ne C 87 dX7_countAheadOfWaiting_77 dX7_countAheadOfWaiting_78 (by decide) (fun hc2 => ?_) (fun hc2 => ?_)
  · have h := ite_f hc2 h
    refine g_lload_n C 1 dX7_countAheadOfWaiting_87 rfl ?_
    obtain rfl := Option.some.inj h
    exact g_lret C dX7_countAheadOfWaiting_88
  · have h := ite_t hc2 h
    refine g_ldc2 C (-4 : Int64) qc_X7_270 dX7_countAheadOfWaiting_81 ?_
    refine g_goto C 88 dX7_countAheadOfWaiting_84 (by decide) ?_
    obtain rfl := Option.some.inj h
    exact g_lret C dX7_countAheadOfWaiting_88
def f_X7_countAheadOfWaiting (x1 : Int32) (σ : St) : Option (Int64 × St) := (f_X7_countAheadOfWaiting_5 (f_X7_countAheadOfWaiting_69) FU) x1 (0 : Int64) (0 : Int32) σ
set_option maxRecDepth 20000 in
theorem m_X7_countAheadOfWaiting {l : Launch} {D : va_G} {ca : Nat → ClassId} {ad : Nat → Nat} {x1 : Int32} {σ : St} {R : Int64 × St} (h : f_X7_countAheadOfWaiting x1 σ = some R) : gM l D ca ad 91 LC yX7_countAheadOfWaiting cX7_countAheadOfWaiting 5 (some .long) rm_X7_countAheadOfWaiting [.ref 0, .int x1] σ (some (.long R.1)) R.2 := by
  refine gM_of (by decide) (Nat.le_of_ble_eq_true rfl) (fun p e s m args below meth c C => ?_)
  refine g_ent (ls' := [(0, .ref 0), (1, .int x1)]) rfl ?_
  unfold f_X7_countAheadOfWaiting at h
  refine g_lconst C (0 : Int64) dX7_countAheadOfWaiting_0 rfl ?_
  refine g_lstore_n C [(2, .long (0 : Int64)), (0, .ref 0), (1, .int x1)] dX7_countAheadOfWaiting_1 (by decide) rfl ?_
  refine g_iconst C (0 : Int32) dX7_countAheadOfWaiting_2 rfl ?_
  refine g_istore C [(4, .int (0 : Int32)), (2, .long (0 : Int64)), (0, .ref 0), (1, .int x1)] dX7_countAheadOfWaiting_3 (by decide) rfl ?_
  exact g_sub [2, 3, 1, 0] rfl ((s_X7_countAheadOfWaiting_5 C (s_X7_countAheadOfWaiting_69 C) FU) x1 (0 : Int64) (0 : Int32) σ h)
def f_X7_number_27 (kk55 : Int32 → St → Option (Int64 × St)) : Nat → Int32 → Int32 → St → Option (Int64 × St)
  | 0, _, _, _ => none
  | n + 1, x1, x2, σ => (if x1 ≤ x2 then kk55 x1 σ else cI (ix x2 20) ((f_X7_isYear (σ.1 81 x2.toNatClampNeg) σ).bind (fun q3 => (if q3.1 = 0 then some ((-2 : Int64), q3.2) else (f_X7_number_27 kk55 n) x1 (x2 + (1 : Int32)) q3.2))))
set_option maxRecDepth 20000 in
theorem s_X7_number_27 {R : Int64 × St} (C : gC p s m args meth c D ca ad 91 LC RX7 cX7_number 3 (some .long)) {kk55 : Int32 → St → Option (Int64 × St)} (HK55 : ∀ (x1 : Int32) (σ : St), kk55 x1 σ = some R → G p l e rm_X7_number s m args below meth c D ca ad 91 LC 3 (gEnd below args s D ca ad 91 LC (some (.long R.1)) R.2) 55 [(0, .ref 0), (1, .int x1)] [] σ) : ∀ (n : Nat) (x1 : Int32) (x2 : Int32) (σ : St), f_X7_number_27 kk55 n x1 x2 σ = some R → G p l e rm_X7_number s m args below meth c D ca ad 91 LC 3 (gEnd below args s D ca ad 91 LC (some (.long R.1)) R.2) 27 [(0, .ref 0), (1, .int x1), (2, .int x2)] [] σ := by
  intro n
  induction n with
  | zero =>
    intro x1 x2 σ h
    have h : none = some R := h
    cases h
  | succ n ih =>
    intro x1 x2 σ h
    rw [f_X7_number_27] at h
    refine g_iload_n C 2 dX7_number_27 rfl ?_
    refine g_iload_n C 1 dX7_number_28 rfl ?_
    refine g_icmp_ge C 55 dX7_number_29 (by decide) (fun hc1 => ?_) (fun hc1 => ?_)
    · have h := ite_t hc1 h
      exact g_sub [0, 1] rfl (HK55 x1 σ h)
    · have h := ite_f hc1 h
      refine g_aload_n C 0 dX7_number_32 rfl ?_
      refine g_aload_n C 0 dX7_number_33 rfl ?_
      refine g_getR C 7 81 rfl q_X7_52 rfl rfl dX7_number_34 ?_
      refine g_iload_n C 2 dX7_number_37 rfl ?_
      obtain ⟨hi2, h⟩ := cI_some h
      refine g_iald C 20 rfl ho_12 hi2 dX7_number_38 ?_
      obtain ⟨q3, hq3, h⟩ := bd h
      refine g_callVI C [.int (σ.1 81 x2.toNatClampNeg)] qv_X7_180 (m_X7_isYear hq3) rfl (by decide) rfl rfl rfl ⟨rfl, rfl⟩ ⟨by decide, by decide⟩ (Nat.le_of_ble_eq_true rfl) dX7_number_39 ?_
      refine g_if_ne C 49 dX7_number_42 (by decide) (fun hc4 => ?_) (fun hc4 => ?_)
      · have h := ite_f hc4 h
        refine g_iinc C 2 [(2, .int (x2 + (1 : Int32))), (0, .ref 0), (1, .int x1)] dX7_number_49 rfl rfl (by decide) rfl ?_
        refine g_goto C 27 dX7_number_52 (by decide) ?_
        exact g_sub [1, 2, 0] rfl (ih x1 (x2 + (1 : Int32)) q3.2 h)
      · have h := ite_t hc4 h
        refine g_ldc2 C (-2 : Int64) qc_X7_222 dX7_number_45 ?_
        obtain rfl := Option.some.inj h
        exact g_lret C dX7_number_48
def f_X7_number_55 (x1 : Int32) (σ : St) : Option (Int64 × St) := (f_X7_weigh 1 σ).bind (fun q1 => (if (0 : Int64) ≤ q1.1 then (f_X7_countAheadOfWaiting x1 q1.2).bind (fun q3 => some (q3.1, q3.2)) else some ((-5 : Int64), q1.2)))
set_option maxRecDepth 20000 in
theorem s_X7_number_55 {R : Int64 × St} (C : gC p s m args meth c D ca ad 91 LC RX7 cX7_number 3 (some .long)) (x1 : Int32) (σ : St) (h : f_X7_number_55 x1 σ = some R) : G p l e rm_X7_number s m args below meth c D ca ad 91 LC 3 (gEnd below args s D ca ad 91 LC (some (.long R.1)) R.2) 55 [(0, .ref 0), (1, .int x1)] [] σ := by
  unfold f_X7_number_55 at h
  refine g_aload_n C 0 dX7_number_55 rfl ?_
  refine g_aload_n C 0 dX7_number_56 rfl ?_
  refine g_getR C 0 1 rfl q_X7_10 rfl rfl dX7_number_57 ?_
  obtain ⟨q1, hq1, h⟩ := bd h
  refine g_callVL C [.ref 1] qv_X7_218 (m_X7_weigh rfl hq1) rfl (by decide) rfl rfl rfl ⟨rfl, rfl⟩ ⟨by decide, by decide⟩ (Nat.le_of_ble_eq_true rfl) dX7_number_60 ?_
  refine g_lconst C (0 : Int64) dX7_number_63 rfl ?_
  refine g_lcmp_ge C 72 dX7_number_64 dX7_number_65 (by decide) (fun hc2 => ?_) (fun hc2 => ?_)
  · have h := ite_t hc2 h
    refine g_aload_n C 0 dX7_number_72 rfl ?_
    refine g_iload_n C 1 dX7_number_73 rfl ?_
    obtain ⟨q3, hq3, h⟩ := bd h
    refine g_callVL C [.int x1] qv_X7_276 (m_X7_countAheadOfWaiting hq3) rfl (by decide) rfl rfl rfl ⟨rfl, rfl⟩ ⟨by decide, by decide⟩ (Nat.le_of_ble_eq_true rfl) dX7_number_74 ?_
    obtain rfl := Option.some.inj h
    exact g_lret C dX7_number_77
  · have h := ite_f hc2 h
    refine g_ldc2 C (-5 : Int64) qc_X7_261 dX7_number_68 ?_
    obtain rfl := Option.some.inj h
    exact g_lret C dX7_number_71
def f_X7_number (σ : St) : Option (Int64 × St) := ap (up1 σ 0 8 (0 : Int32)) fun σ1 => (if (σ.1 0 8) = (σ1.1 1 3) then (f_X7_number_27 (f_X7_number_55) FU) (σ.1 0 8) (0 : Int32) σ1 else some ((-2 : Int64), σ1))
set_option maxRecDepth 20000 in
theorem m_X7_number {l : Launch} {D : va_G} {ca : Nat → ClassId} {ad : Nat → Nat} {σ : St} {R : Int64 × St} (h : f_X7_number σ = some R) : gM l D ca ad 91 LC yX7_number cX7_number 3 (some .long) rm_X7_number [.ref 0] σ (some (.long R.1)) R.2 := by
  refine gM_of (by decide) (Nat.le_of_ble_eq_true rfl) (fun p e s m args below meth c C => ?_)
  refine g_ent (ls' := [(0, .ref 0)]) rfl ?_
  unfold f_X7_number at h
  refine g_aload_n C 0 dX7_number_0 rfl ?_
  refine g_getI C 8 rfl q_X7_56 rfl dX7_number_1 ?_
  refine g_istore_n C [(1, .int (σ.1 0 8)), (0, .ref 0)] dX7_number_4 (by decide) rfl ?_
  refine g_aload_n C 1 dX7_number_5 rfl ?_
  refine g_iconst C (0 : Int32) dX7_number_6 rfl ?_
  refine g_putI C 8 rfl qp_X7_56 rfl dX7_number_7 ?_
  refine g_nmS (fun σ1 eσ1 => ?_)
  have h := ap_at eσ1 h
  refine g_iload_n C 0 dX7_number_10 rfl ?_
  refine g_aload_n C 1 dX7_number_11 rfl ?_
  refine g_getR C 0 1 rfl q_X7_10 rfl rfl dX7_number_12 ?_
  refine g_getI C 3 rfl q_X7_132 rfl dX7_number_15 ?_
  refine g_icmp_eq C 25 dX7_number_18 (by decide) (fun hc2 => ?_) (fun hc2 => ?_)
  · have h := ite_t hc2 h
    refine g_iconst C (0 : Int32) dX7_number_25 rfl ?_
    refine g_istore_n C [(2, .int (0 : Int32)), (1, .int (σ.1 0 8)), (0, .ref 0)] dX7_number_26 (by decide) rfl ?_
    exact g_sub [2, 1, 0] rfl ((s_X7_number_27 C (s_X7_number_55 C) FU) (σ.1 0 8) (0 : Int32) σ1 h)
  · have h := ite_f hc2 h
    refine g_ldc2 C (-2 : Int64) qc_X7_222 dX7_number_21 ?_
    obtain rfl := Option.some.inj h
    exact g_lret C dX7_number_24
def f_X7_keep (σ : St) : Option (Int32 × St) := (f_X5_copyFrom 29 1 σ).bind (fun q1 => ap (up1 q1 0 2 (1 : Int32)) fun σ2 => some ((σ2.1 1 3), σ2))
set_option maxRecDepth 20000 in
theorem m_X7_keep {l : Launch} {D : va_G} {ca : Nat → ClassId} {ad : Nat → Nat} {σ : St} {R : Int32 × St} (h : f_X7_keep σ = some R) : gM l D ca ad 91 LC yX7_keep cX7_keep 1 (some .int) rm_X7_keep [.ref 0] σ (some (.int R.1)) R.2 := by
  refine gM_of (by decide) (Nat.le_of_ble_eq_true rfl) (fun p e s m args below meth c C => ?_)
  refine g_ent (ls' := [(0, .ref 0)]) rfl ?_
  unfold f_X7_keep at h
  refine g_aload_n C 0 dX7_keep_0 rfl ?_
  refine g_getR C 1 29 rfl q_X7_16 rfl rfl dX7_keep_1 ?_
  refine g_aload_n C 0 dX7_keep_4 rfl ?_
  refine g_getR C 0 1 rfl q_X7_10 rfl rfl dX7_keep_5 ?_
  obtain ⟨q1, hq1, h⟩ := bd h
  refine g_callVV C [.ref 1] qv_X7_280 (m_X5_copyFrom rfl rfl hq1) rfl (by decide) rfl rfl rfl ⟨rfl, rfl⟩ ⟨by decide, by decide⟩ (Nat.le_of_ble_eq_true rfl) dX7_keep_8 ?_
  refine g_aload_n C 0 dX7_keep_11 rfl ?_
  refine g_iconst C (1 : Int32) dX7_keep_12 rfl ?_
  refine g_putZ C 2 rfl qp_X7_19 rfl rfl rfl dX7_keep_13 ?_
  refine g_nmS (fun σ2 eσ2 => ?_)
  have h := ap_at eσ2 h
  refine g_aload_n C 0 dX7_keep_16 rfl ?_
  refine g_getR C 0 1 rfl q_X7_10 rfl rfl dX7_keep_17 ?_
  refine g_getI C 3 rfl q_X7_132 rfl dX7_keep_20 ?_
  obtain rfl := Option.some.inj h
  exact g_iret C dX7_keep_23
def f_X7_back (σ : St) : Option (Int32 × St) := (if (σ.1 0 2) = 0 then (f_X7_hostFinding (-10 : Int32) σ).bind (fun q4 => some (q4.1, q4.2)) else (f_X5_copyFrom 1 29 σ).bind (fun q2 => ap (up1 q2 0 10 (0 : Int32)) fun σ3 => some ((σ3.1 1 3), σ3)))
set_option maxRecDepth 20000 in
theorem m_X7_back {l : Launch} {D : va_G} {ca : Nat → ClassId} {ad : Nat → Nat} {σ : St} {R : Int32 × St} (h : f_X7_back σ = some R) : gM l D ca ad 91 LC yX7_back cX7_back 1 (some .int) rm_X7_back [.ref 0] σ (some (.int R.1)) R.2 := by
  refine gM_of (by decide) (Nat.le_of_ble_eq_true rfl) (fun p e s m args below meth c C => ?_)
  refine g_ent (ls' := [(0, .ref 0)]) rfl ?_
  unfold f_X7_back at h
  refine g_aload_n C 0 dX7_back_0 rfl ?_
  refine g_getI C 2 rfl q_X7_19 rfl dX7_back_1 ?_
  refine g_if_ne C 14 dX7_back_4 (by decide) (fun hc1 => ?_) (fun hc1 => ?_)
  · have h := ite_f hc1 h
    refine g_aload_n C 0 dX7_back_14 rfl ?_
    refine g_getR C 0 1 rfl q_X7_10 rfl rfl dX7_back_15 ?_
    refine g_aload_n C 0 dX7_back_18 rfl ?_
    refine g_getR C 1 29 rfl q_X7_16 rfl rfl dX7_back_19 ?_
    obtain ⟨q2, hq2, h⟩ := bd h
    refine g_callVV C [.ref 29] qv_X7_280 (m_X5_copyFrom rfl rfl hq2) rfl (by decide) rfl rfl rfl ⟨rfl, rfl⟩ ⟨by decide, by decide⟩ (Nat.le_of_ble_eq_true rfl) dX7_back_22 ?_
    refine g_aload_n C 0 dX7_back_25 rfl ?_
    refine g_iconst C (0 : Int32) dX7_back_26 rfl ?_
    refine g_putZ C 10 rfl qp_X7_63 rfl rfl rfl dX7_back_27 ?_
    refine g_nmS (fun σ3 eσ3 => ?_)
    have h := ap_at eσ3 h
    refine g_aload_n C 0 dX7_back_30 rfl ?_
    refine g_getR C 0 1 rfl q_X7_10 rfl rfl dX7_back_31 ?_
    refine g_getI C 3 rfl q_X7_132 rfl dX7_back_34 ?_
    obtain rfl := Option.some.inj h
    exact g_iret C dX7_back_37
  · have h := ite_t hc1 h
    refine g_aload_n C 0 dX7_back_7 rfl ?_
    refine g_bipush C (-10 : Int32) dX7_back_8 rfl ?_
    obtain ⟨q4, hq4, h⟩ := bd h
    refine g_callVI C [.int (-10 : Int32)] qv_X7_96 (m_X7_hostFinding hq4) rfl (by decide) rfl rfl rfl ⟨rfl, rfl⟩ ⟨by decide, by decide⟩ (Nat.le_of_ble_eq_true rfl) dX7_back_10 ?_
    obtain rfl := Option.some.inj h
    exact g_iret C dX7_back_13
def f_X7_bears (σ : St) : Option (Int64 × St) := (if (σ.1 0 2) = 0 then (f_X7_hostFinding (-10 : Int32) σ).bind (fun q8 => some (q8.1.toInt64, q8.2)) else (f_X7_weigh 29 σ).bind (fun q2 => (f_X7_weigh 1 q2.2).bind (fun q3 => (if q2.1 < (0 : Int64) then some ((-5 : Int64), q3.2) else (if (0 : Int64) ≤ q3.1 then (if q2.1 = (0 : Int64) then some ((-4 : Int64), q3.2) else (f_X7_fraction q3.1 q2.1 q3.2).bind (fun q7 => some (q7.1, q7.2))) else some ((-5 : Int64), q3.2))))))
set_option maxRecDepth 20000 in
theorem m_X7_bears {l : Launch} {D : va_G} {ca : Nat → ClassId} {ad : Nat → Nat} {σ : St} {R : Int64 × St} (h : f_X7_bears σ = some R) : gM l D ca ad 91 LC yX7_bears cX7_bears 5 (some .long) rm_X7_bears [.ref 0] σ (some (.long R.1)) R.2 := by
  refine gM_of (by decide) (Nat.le_of_ble_eq_true rfl) (fun p e s m args below meth c C => ?_)
  refine g_ent (ls' := [(0, .ref 0)]) rfl ?_
  unfold f_X7_bears at h
  refine g_aload_n C 0 dX7_bears_0 rfl ?_
  refine g_getI C 2 rfl q_X7_19 rfl dX7_bears_1 ?_
  refine g_if_ne C 15 dX7_bears_4 (by decide) (fun hc1 => ?_) (fun hc1 => ?_)
  · have h := ite_f hc1 h
    refine g_aload_n C 0 dX7_bears_15 rfl ?_
    refine g_aload_n C 0 dX7_bears_16 rfl ?_
    refine g_getR C 1 29 rfl q_X7_16 rfl rfl dX7_bears_17 ?_
    obtain ⟨q2, hq2, h⟩ := bd h
    refine g_callVL C [.ref 29] qv_X7_218 (m_X7_weigh rfl hq2) rfl (by decide) rfl rfl rfl ⟨rfl, rfl⟩ ⟨by decide, by decide⟩ (Nat.le_of_ble_eq_true rfl) dX7_bears_20 ?_
    refine g_lstore_n C [(1, .long q2.1), (0, .ref 0)] dX7_bears_23 (by decide) rfl ?_
    refine g_aload_n C 1 dX7_bears_24 rfl ?_
    refine g_aload_n C 1 dX7_bears_25 rfl ?_
    refine g_getR C 0 1 rfl q_X7_10 rfl rfl dX7_bears_26 ?_
    obtain ⟨q3, hq3, h⟩ := bd h
    refine g_callVL C [.ref 1] qv_X7_218 (m_X7_weigh rfl hq3) rfl (by decide) rfl rfl rfl ⟨rfl, rfl⟩ ⟨by decide, by decide⟩ (Nat.le_of_ble_eq_true rfl) dX7_bears_29 ?_
    refine g_lstore_n C [(3, .long q3.1), (1, .long q2.1), (0, .ref 0)] dX7_bears_32 (by decide) rfl ?_
    refine g_lload_n C 1 dX7_bears_33 rfl ?_
    refine g_lconst C (0 : Int64) dX7_bears_34 rfl ?_
    refine g_lcmp_lt C 45 dX7_bears_35 dX7_bears_36 (by decide) (fun hc4 => ?_) (fun hc4 => ?_)
    · have h := ite_t hc4 h
      refine g_ldc2 C (-5 : Int64) qc_X7_261 dX7_bears_45 ?_
      obtain rfl := Option.some.inj h
      exact g_lret C dX7_bears_48
    · have h := ite_f hc4 h
      refine g_lload_n C 0 dX7_bears_39 rfl ?_
      refine g_lconst C (0 : Int64) dX7_bears_40 rfl ?_
      refine g_lcmp_ge C 49 dX7_bears_41 dX7_bears_42 (by decide) (fun hc5 => ?_) (fun hc5 => ?_)
      · have h := ite_t hc5 h
        refine g_lload_n C 1 dX7_bears_49 rfl ?_
        refine g_lconst C (0 : Int64) dX7_bears_50 rfl ?_
        refine g_lcmp_ne C 61 dX7_bears_51 dX7_bears_52 (by decide) (fun hc6 => ?_) (fun hc6 => ?_)
        · have h := ite_f hc6 h
          refine g_aload_n C 2 dX7_bears_61 rfl ?_
          refine g_lload_n C 0 dX7_bears_62 rfl ?_
          refine g_lload_n C 1 dX7_bears_63 rfl ?_
          obtain ⟨q7, hq7, h⟩ := bd h
          refine g_callVL C [.long q3.1, .long q2.1] qv_X7_232 (m_X7_fraction hq7) rfl (by decide) rfl rfl rfl ⟨rfl, rfl⟩ ⟨by decide, by decide⟩ (Nat.le_of_ble_eq_true rfl) dX7_bears_64 ?_
          obtain rfl := Option.some.inj h
          exact g_lret C dX7_bears_67
        · have h := ite_t hc6 h
          refine g_ldc2 C (-4 : Int64) qc_X7_270 dX7_bears_55 ?_
          refine g_goto C 67 dX7_bears_58 (by decide) ?_
          obtain rfl := Option.some.inj h
          exact g_lret C dX7_bears_67
      · have h := ite_f hc5 h
        refine g_ldc2 C (-5 : Int64) qc_X7_261 dX7_bears_45 ?_
        obtain rfl := Option.some.inj h
        exact g_lret C dX7_bears_48
  · have h := ite_t hc1 h
    refine g_aload_n C 0 dX7_bears_7 rfl ?_
    refine g_bipush C (-10 : Int32) dX7_bears_8 rfl ?_
    obtain ⟨q8, hq8, h⟩ := bd h
    refine g_callVI C [.int (-10 : Int32)] qv_X7_96 (m_X7_hostFinding hq8) rfl (by decide) rfl rfl rfl ⟨rfl, rfl⟩ ⟨by decide, by decide⟩ (Nat.le_of_ble_eq_true rfl) dX7_bears_10 ?_
    refine g_i2l C dX7_bears_13 ?_
    obtain rfl := Option.some.inj h
    exact g_lret C dX7_bears_14
def f_X7_count (x1 : Int32) (σ : St) : Option (Int32 × St) := (if x1 = (0 : Int32) then some ((σ.1 1 3), σ) else (if x1 = (1 : Int32) then some ((σ.1 1 0), σ) else (if x1 = (2 : Int32) then (f_X2_howMany 5 σ).bind (fun q4 => some (q4.1, q4.2)) else (if x1 = (3 : Int32) then some ((σ.1 0 8), σ) else (if x1 = (4 : Int32) then some ((σ.1 0 12), σ) else some ((-2 : Int32), σ))))))
set_option maxRecDepth 20000 in
theorem m_X7_count {l : Launch} {D : va_G} {ca : Nat → ClassId} {ad : Nat → Nat} {x1 : Int32} {σ : St} {R : Int32 × St} (h : f_X7_count x1 σ = some R) : gM l D ca ad 91 LC yX7_count cX7_count 2 (some .int) rm_X7_count [.ref 0, .int x1] σ (some (.int R.1)) R.2 := by
  refine gM_of (by decide) (Nat.le_of_ble_eq_true rfl) (fun p e s m args below meth c C => ?_)
  refine g_ent (ls' := [(0, .ref 0), (1, .int x1)]) rfl ?_
  unfold f_X7_count at h
  refine g_iload_n C 1 dX7_count_0 rfl ?_
  by_cases hc1 : x1 = (0 : Int32)
  · have h := ite_t hc1 h
    refine g_tableIn C 36 dX7_count_1 (by rw [hc1]; decide) (by rw [hc1]; decide) (by rw [hc1]; rfl) (by decide) ?_
    refine g_aload_n C 0 dX7_count_36 rfl ?_
    refine g_getR C 0 1 rfl q_X7_10 rfl rfl dX7_count_37 ?_
    refine g_getI C 3 rfl q_X7_132 rfl dX7_count_40 ?_
    obtain rfl := Option.some.inj h
    exact g_iret C dX7_count_43
  · have h := ite_f hc1 h
    by_cases hc2 : x1 = (1 : Int32)
    · have h := ite_t hc2 h
      refine g_tableIn C 44 dX7_count_1 (by rw [hc2]; decide) (by rw [hc2]; decide) (by rw [hc2]; rfl) (by decide) ?_
      refine g_aload_n C 0 dX7_count_44 rfl ?_
      refine g_getR C 0 1 rfl q_X7_10 rfl rfl dX7_count_45 ?_
      refine g_getI C 0 rfl q_X7_74 rfl dX7_count_48 ?_
      obtain rfl := Option.some.inj h
      exact g_iret C dX7_count_51
    · have h := ite_f hc2 h
      by_cases hc3 : x1 = (2 : Int32)
      · have h := ite_t hc3 h
        refine g_tableIn C 52 dX7_count_1 (by rw [hc3]; decide) (by rw [hc3]; decide) (by rw [hc3]; rfl) (by decide) ?_
        refine g_aload_n C 0 dX7_count_52 rfl ?_
        refine g_getR C 0 1 rfl q_X7_10 rfl rfl dX7_count_53 ?_
        refine g_getR C 5 5 rfl q_X7_157 rfl rfl dX7_count_56 ?_
        obtain ⟨q4, hq4, h⟩ := bd h
        refine g_callVI C [] qv_X7_214 (m_X2_howMany rfl hq4) rfl (by decide) rfl rfl rfl ⟨rfl, rfl⟩ ⟨by decide, by decide⟩ (Nat.le_of_ble_eq_true rfl) dX7_count_59 ?_
        obtain rfl := Option.some.inj h
        exact g_iret C dX7_count_62
      · have h := ite_f hc3 h
        by_cases hc5 : x1 = (3 : Int32)
        · have h := ite_t hc5 h
          refine g_tableIn C 63 dX7_count_1 (by rw [hc5]; decide) (by rw [hc5]; decide) (by rw [hc5]; rfl) (by decide) ?_
          refine g_aload_n C 0 dX7_count_63 rfl ?_
          refine g_getI C 8 rfl q_X7_56 rfl dX7_count_64 ?_
          obtain rfl := Option.some.inj h
          exact g_iret C dX7_count_67
        · have h := ite_f hc5 h
          by_cases hc6 : x1 = (4 : Int32)
          · have h := ite_t hc6 h
            refine g_tableIn C 68 dX7_count_1 (by rw [hc6]; decide) (by rw [hc6]; decide) (by rw [hc6]; rfl) (by decide) ?_
            refine g_aload_n C 0 dX7_count_68 rfl ?_
            refine g_getI C 12 rfl q_X7_70 rfl dX7_count_69 ?_
            obtain rfl := Option.some.inj h
            exact g_iret C dX7_count_72
          · have h := ite_f hc6 h
            refine g_tableOut C 73 dX7_count_1 (sw_out 4 (by decide) (fun j hj => by rcases (show j = 0 ∨ j = 1 ∨ j = 2 ∨ j = 3 ∨ j = 4 by omega) with rfl | rfl | rfl | rfl | rfl; exact hc1; exact hc2; exact hc3; exact hc5; exact hc6)) (by decide) ?_
            refine g_bipush C (-2 : Int32) dX7_count_73 rfl ?_
            obtain rfl := Option.some.inj h
            exact g_iret C dX7_count_75
end
