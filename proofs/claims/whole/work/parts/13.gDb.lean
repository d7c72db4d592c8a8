section
variable {p : Program} {l : Launch} {e : Env} {s : State} {m : MethodId} {args : Array Value} {below : List Frame} {meth : Method} {c : Code} {D : va_G} {ca : Nat → ClassId} {ad : Nat → Nat}
def f_X7_pair (x1 : Int32) (x2 : Int32) (x3 : Int32) (σ : St) : Option (Int32 × St) := (f_X7_isFind x1 σ).bind (fun q1 => (if q1.1 = 0 then some ((-2 : Int32), q1.2) else (f_X7_isFind x2 q1.2).bind (fun q3 => (if q3.1 = 0 then some ((-2 : Int32), q3.2) else (if x1 = x2 then some ((-2 : Int32), q3.2) else (if x3 < 0 then some ((-2 : Int32), q3.2) else (if x3 ≤ (2 : Int32) then (f_X2_howOf 5 x1 x2 q3.2).bind (fun q8 => (f_X2_put 5 x1 x2 x3 q8.2).bind (fun q9 => some (q8.1, q9))) else some ((-2 : Int32), q3.2))))))))
set_option maxRecDepth 20000 in
theorem m_X7_pair {l : Launch} {D : va_G} {ca : Nat → ClassId} {ad : Nat → Nat} {x1 : Int32} {x2 : Int32} {x3 : Int32} {σ : St} {R : Int32 × St} (h : f_X7_pair x1 x2 x3 σ = some R) : gM l D ca ad 91 LC yX7_pair cX7_pair 5 (some .int) rm_X7_pair [.ref 0, .int x1, .int x2, .int x3] σ (some (.int R.1)) R.2 := by
  refine gM_of (by decide) (Nat.le_of_ble_eq_true rfl) (fun p e s m args below meth c C => ?_)
  refine g_ent (ls' := [(0, .ref 0), (1, .int x1), (2, .int x2), (3, .int x3)]) rfl ?_
  unfold f_X7_pair at h
  refine g_aload_n C 0 dX7_pair_0 rfl ?_
  refine g_iload_n C 1 dX7_pair_1 rfl ?_
  obtain ⟨q1, hq1, h⟩ := bd h
  refine g_callVI C [.int x1] qv_X7_142 (m_X7_isFind hq1) rfl (by decide) rfl rfl rfl ⟨rfl, rfl⟩ ⟨by decide, by decide⟩ (Nat.le_of_ble_eq_true rfl) dX7_pair_2 ?_
  refine g_if_eq C 30 dX7_pair_5 (by decide) (fun hc2 => ?_) (fun hc2 => ?_)
  · have h := ite_t hc2 h
    refine g_bipush C (-2 : Int32) dX7_pair_30 rfl ?_
    obtain rfl := Option.some.inj h
    exact g_iret C dX7_pair_32
  · have h := ite_f hc2 h
    refine g_aload_n C 0 dX7_pair_8 rfl ?_
    refine g_iload_n C 2 dX7_pair_9 rfl ?_
    obtain ⟨q3, hq3, h⟩ := bd h
    refine g_callVI C [.int x2] qv_X7_142 (m_X7_isFind hq3) rfl (by decide) rfl rfl rfl ⟨rfl, rfl⟩ ⟨by decide, by decide⟩ (Nat.le_of_ble_eq_true rfl) dX7_pair_10 ?_
    refine g_if_eq C 30 dX7_pair_13 (by decide) (fun hc4 => ?_) (fun hc4 => ?_)
    · have h := ite_t hc4 h
      refine g_bipush C (-2 : Int32) dX7_pair_30 rfl ?_
      obtain rfl := Option.some.inj h
      exact g_iret C dX7_pair_32
    · have h := ite_f hc4 h
      refine g_iload_n C 1 dX7_pair_16 rfl ?_
      refine g_iload_n C 2 dX7_pair_17 rfl ?_
      refine g_icmp_eq C 30 dX7_pair_18 (by decide) (fun hc5 => ?_) (fun hc5 => ?_)
      · have h := ite_t hc5 h
        refine g_bipush C (-2 : Int32) dX7_pair_30 rfl ?_
        obtain rfl := Option.some.inj h
        exact g_iret C dX7_pair_32
      · have h := ite_f hc5 h
        refine g_iload_n C 3 dX7_pair_21 rfl ?_
        refine g_if_lt C 30 dX7_pair_22 (by decide) (fun hc6 => ?_) (fun hc6 => ?_)
        · have h := ite_t hc6 h
          refine g_bipush C (-2 : Int32) dX7_pair_30 rfl ?_
          obtain rfl := Option.some.inj h
          exact g_iret C dX7_pair_32
        · have h := ite_f hc6 h
          refine g_iload_n C 3 dX7_pair_25 rfl ?_
          refine g_iconst C (2 : Int32) dX7_pair_26 rfl ?_
          refine g_icmp_le C 33 dX7_pair_27 (by decide) (fun hc7 => ?_) (fun hc7 => ?_)
          · have h := ite_t hc7 h
            refine g_aload_n C 0 dX7_pair_33 rfl ?_
            refine g_getR C 0 1 rfl q_X7_10 rfl rfl dX7_pair_34 ?_
            refine g_getR C 5 5 rfl q_X7_157 rfl rfl dX7_pair_37 ?_
            refine g_iload_n C 1 dX7_pair_40 rfl ?_
            refine g_iload_n C 2 dX7_pair_41 rfl ?_
            obtain ⟨q8, hq8, h⟩ := bd h
            refine g_callVI C [.int x1, .int x2] qv_X7_161 (m_X2_howOf rfl hq8) rfl (by decide) rfl rfl rfl ⟨rfl, rfl⟩ ⟨by decide, by decide⟩ (Nat.le_of_ble_eq_true rfl) dX7_pair_42 ?_
            refine g_istore C [(4, .int q8.1), (0, .ref 0), (1, .int x1), (2, .int x2), (3, .int x3)] dX7_pair_45 (by decide) rfl ?_
            refine g_aload_n C 1 dX7_pair_47 rfl ?_
            refine g_getR C 0 1 rfl q_X7_10 rfl rfl dX7_pair_48 ?_
            refine g_getR C 5 5 rfl q_X7_157 rfl rfl dX7_pair_51 ?_
            refine g_iload_n C 2 dX7_pair_54 rfl ?_
            refine g_iload_n C 3 dX7_pair_55 rfl ?_
            refine g_iload_n C 4 dX7_pair_56 rfl ?_
            obtain ⟨q9, hq9, h⟩ := bd h
            refine g_callVV C [.int x1, .int x2, .int x3] qv_X7_166 (m_X2_put rfl hq9) rfl (by decide) rfl rfl rfl ⟨rfl, rfl⟩ ⟨by decide, by decide⟩ (Nat.le_of_ble_eq_true rfl) dX7_pair_57 ?_
            refine g_iload C 0 dX7_pair_60 rfl ?_
            obtain rfl := Option.some.inj h
            exact g_iret C dX7_pair_62
          · have h := ite_f hc7 h
            refine g_bipush C (-2 : Int32) dX7_pair_30 rfl ?_
            obtain rfl := Option.some.inj h
            exact g_iret C dX7_pair_32
def f_X7_of (x1 : Int32) (x2 : Int32) (σ : St) : Option (Int32 × St) := (f_X7_isFind x1 σ).bind (fun q1 => (if q1.1 = 0 then some ((-2 : Int32), q1.2) else cI (ix x1 7) ((if x2 = (0 : Int32) then some ((q1.2.1 (4 + 4 + 3 * x1.toNatClampNeg) 0), q1.2) else (if x2 = (1 : Int32) then cI (ix (0 : Int32) 5) (some ((q1.2.1 ((4 + 4 + 3 * x1.toNatClampNeg) + 1) (0 : Int32).toNatClampNeg), q1.2)) else (if x2 = (2 : Int32) then some ((q1.2.1 (4 + 4 + 3 * x1.toNatClampNeg) 1), q1.2) else (if x2 = (3 : Int32) then some ((q1.2.1 (4 + 4 + 3 * x1.toNatClampNeg) 2), q1.2) else (if x2 = (4 : Int32) then (f_X5_meanPlain 1 (4 + 4 + 3 * x1.toNatClampNeg) q1.2).bind (fun q10 => some (q10.1, q10.2)) else (if x2 = (5 : Int32) then (f_X5_yearsThatWeigh 1 (4 + 4 + 3 * x1.toNatClampNeg) q1.2).bind (fun q12 => some (q12.1, q12.2)) else some ((-2 : Int32), q1.2))))))))))
set_option maxRecDepth 20000 in
theorem m_X7_of {l : Launch} {D : va_G} {ca : Nat → ClassId} {ad : Nat → Nat} {x1 : Int32} {x2 : Int32} {σ : St} {R : Int32 × St} (h : f_X7_of x1 x2 σ = some R) : gM l D ca ad 91 LC yX7_of cX7_of 4 (some .int) rm_X7_of [.ref 0, .int x1, .int x2] σ (some (.int R.1)) R.2 := by
  refine gM_of (by decide) (Nat.le_of_ble_eq_true rfl) (fun p e s m args below meth c C => ?_)
  refine g_ent (ls' := [(0, .ref 0), (1, .int x1), (2, .int x2)]) rfl ?_
  unfold f_X7_of at h
  refine g_aload_n C 0 dX7_of_0 rfl ?_
  refine g_iload_n C 1 dX7_of_1 rfl ?_
  obtain ⟨q1, hq1, h⟩ := bd h
  refine g_callVI C [.int x1] qv_X7_142 (m_X7_isFind hq1) rfl (by decide) rfl rfl rfl ⟨rfl, rfl⟩ ⟨by decide, by decide⟩ (Nat.le_of_ble_eq_true rfl) dX7_of_2 ?_
  refine g_if_ne C 11 dX7_of_5 (by decide) (fun hc2 => ?_) (fun hc2 => ?_)
  · have h := ite_f hc2 h
    refine g_aload_n C 0 dX7_of_11 rfl ?_
    refine g_getR C 0 1 rfl q_X7_10 rfl rfl dX7_of_12 ?_
    refine g_getR C 4 4 rfl q_X7_135 rfl rfl dX7_of_15 ?_
    refine g_iload_n C 1 dX7_of_18 rfl ?_
    obtain ⟨hi3, h⟩ := cI_some h
    refine g_aald3 C rfl ho_22 hi3 dX7_of_19 ?_
    refine g_astore_n C [(3, .ref (4 + 4 + 3 * x1.toNatClampNeg)), (0, .ref 0), (1, .int x1), (2, .int x2)] dX7_of_20 (by decide) rfl ?_
    refine g_iload_n C 3 dX7_of_21 rfl ?_
    by_cases hc4 : x2 = (0 : Int32)
    · have h := ite_t hc4 h
      refine g_tableIn C 60 dX7_of_22 (by rw [hc4]; decide) (by rw [hc4]; decide) (by rw [hc4]; rfl) (by decide) ?_
      refine g_aload_n C 0 dX7_of_60 rfl ?_
      refine g_getI C 0 (sc_f rfl (ix_lt hi3)) q_X7_145 rfl dX7_of_61 ?_
      obtain rfl := Option.some.inj h
      exact g_iret C dX7_of_64
    · have h := ite_f hc4 h
      by_cases hc5 : x2 = (1 : Int32)
      · have h := ite_t hc5 h
        refine g_tableIn C 65 dX7_of_22 (by rw [hc5]; decide) (by rw [hc5]; decide) (by rw [hc5]; rfl) (by decide) ?_
        refine g_aload_n C 0 dX7_of_65 rfl ?_
        refine g_getR C 3 ((4 + 4 + 3 * x1.toNatClampNeg) + 1) (sc_f rfl (ix_lt hi3)) q_X7_170 rfl rfl dX7_of_66 ?_
        refine g_iconst C (0 : Int32) dX7_of_69 rfl ?_
        obtain ⟨hi6, h⟩ := cI_some h
        refine g_iald C 5 (sc_1_3 (sc_f rfl (ix_lt hi3))) ho_10 hi6 dX7_of_70 ?_
        obtain rfl := Option.some.inj h
        exact g_iret C dX7_of_71
      · have h := ite_f hc5 h
        by_cases hc7 : x2 = (2 : Int32)
        · have h := ite_t hc7 h
          refine g_tableIn C 72 dX7_of_22 (by rw [hc7]; decide) (by rw [hc7]; decide) (by rw [hc7]; rfl) (by decide) ?_
          refine g_aload_n C 0 dX7_of_72 rfl ?_
          refine g_getI C 1 (sc_f rfl (ix_lt hi3)) q_X7_154 rfl dX7_of_73 ?_
          obtain rfl := Option.some.inj h
          exact g_iret C dX7_of_76
        · have h := ite_f hc7 h
          by_cases hc8 : x2 = (3 : Int32)
          · have h := ite_t hc8 h
            refine g_tableIn C 77 dX7_of_22 (by rw [hc8]; decide) (by rw [hc8]; decide) (by rw [hc8]; rfl) (by decide) ?_
            refine g_aload_n C 0 dX7_of_77 rfl ?_
            refine g_getI C 2 (sc_f rfl (ix_lt hi3)) q_X7_148 rfl dX7_of_78 ?_
            obtain rfl := Option.some.inj h
            exact g_iret C dX7_of_81
          · have h := ite_f hc8 h
            by_cases hc9 : x2 = (4 : Int32)
            · have h := ite_t hc9 h
              refine g_tableIn C 82 dX7_of_22 (by rw [hc9]; decide) (by rw [hc9]; decide) (by rw [hc9]; rfl) (by decide) ?_
              refine g_aload_n C 1 dX7_of_82 rfl ?_
              refine g_getR C 0 1 rfl q_X7_10 rfl rfl dX7_of_83 ?_
              refine g_aload_n C 0 dX7_of_86 rfl ?_
              obtain ⟨q10, hq10, h⟩ := bd h
              refine g_callVI C [.ref (4 + 4 + 3 * x1.toNatClampNeg)] qv_X7_173 (m_X5_meanPlain rfl (sc_f rfl (ix_lt hi3)) hq10) rfl (by decide) rfl rfl rfl ⟨rfl, rfl⟩ ⟨by decide, by decide⟩ (Nat.le_of_ble_eq_true rfl) dX7_of_87 ?_
              obtain rfl := Option.some.inj h
              exact g_iret C dX7_of_90
            · have h := ite_f hc9 h
              by_cases hc11 : x2 = (5 : Int32)
              · have h := ite_t hc11 h
                refine g_tableIn C 91 dX7_of_22 (by rw [hc11]; decide) (by rw [hc11]; decide) (by rw [hc11]; rfl) (by decide) ?_
                refine g_aload_n C 1 dX7_of_91 rfl ?_
                refine g_getR C 0 1 rfl q_X7_10 rfl rfl dX7_of_92 ?_
                refine g_aload_n C 0 dX7_of_95 rfl ?_
                obtain ⟨q12, hq12, h⟩ := bd h
                refine g_callVI C [.ref (4 + 4 + 3 * x1.toNatClampNeg)] qv_X7_177 (m_X5_yearsThatWeigh rfl (sc_f rfl (ix_lt hi3)) hq12) rfl (by decide) rfl rfl rfl ⟨rfl, rfl⟩ ⟨by decide, by decide⟩ (Nat.le_of_ble_eq_true rfl) dX7_of_96 ?_
                obtain rfl := Option.some.inj h
                exact g_iret C dX7_of_99
              · have h := ite_f hc11 h
                refine g_tableOut C 100 dX7_of_22 (sw_out 5 (by decide) (fun j hj => by rcases (show j = 0 ∨ j = 1 ∨ j = 2 ∨ j = 3 ∨ j = 4 ∨ j = 5 by omega) with rfl | rfl | rfl | rfl | rfl | rfl; exact hc4; exact hc5; exact hc7; exact hc8; exact hc9; exact hc11)) (by decide) ?_
                refine g_bipush C (-2 : Int32) dX7_of_100 rfl ?_
                obtain rfl := Option.some.inj h
                exact g_iret C dX7_of_102
  · have h := ite_t hc2 h
    refine g_bipush C (-2 : Int32) dX7_of_8 rfl ?_
    obtain rfl := Option.some.inj h
    exact g_iret C dX7_of_10
def f_X7_isYear (x1 : Int32) (σ : St) : Option (Int32 × St) := (if x1 < 0 then some ((0 : Int32), σ) else (if (σ.1 1 0) ≤ x1 then some ((0 : Int32), σ) else some ((1 : Int32), σ)))
set_option maxRecDepth 20000 in
theorem m_X7_isYear {l : Launch} {D : va_G} {ca : Nat → ClassId} {ad : Nat → Nat} {x1 : Int32} {σ : St} {R : Int32 × St} (h : f_X7_isYear x1 σ = some R) : gM l D ca ad 91 LC yX7_isYear cX7_isYear 2 (some .boolean) rm_X7_isYear [.ref 0, .int x1] σ (some (.int R.1)) R.2 := by
  refine gM_of (by decide) (Nat.le_of_ble_eq_true rfl) (fun p e s m args below meth c C => ?_)
  refine g_ent (ls' := [(0, .ref 0), (1, .int x1)]) rfl ?_
  unfold f_X7_isYear at h
  refine g_iload_n C 1 dX7_isYear_0 rfl ?_
  refine g_if_lt C 19 dX7_isYear_1 (by decide) (fun hc1 => ?_) (fun hc1 => ?_)
  · have h := ite_t hc1 h
    refine g_iconst C (0 : Int32) dX7_isYear_19 rfl ?_
    obtain rfl := Option.some.inj h
    exact g_zret C nz0 dX7_isYear_20
  · have h := ite_f hc1 h
    refine g_iload_n C 1 dX7_isYear_4 rfl ?_
    refine g_aload_n C 0 dX7_isYear_5 rfl ?_
    refine g_getR C 0 1 rfl q_X7_10 rfl rfl dX7_isYear_6 ?_
    refine g_getI C 0 rfl q_X7_74 rfl dX7_isYear_9 ?_
    refine g_icmp_ge C 19 dX7_isYear_12 (by decide) (fun hc2 => ?_) (fun hc2 => ?_)
    · have h := ite_t hc2 h
      refine g_iconst C (0 : Int32) dX7_isYear_19 rfl ?_
      obtain rfl := Option.some.inj h
      exact g_zret C nz0 dX7_isYear_20
    · have h := ite_f hc2 h
      refine g_iconst C (1 : Int32) dX7_isYear_15 rfl ?_
      refine g_goto C 20 dX7_isYear_16 (by decide) ?_
      obtain rfl := Option.some.inj h
      exact g_zret C nz1 dX7_isYear_20
def f_X7_weight (x1 : Int32) (x2 : Int32) (σ : St) : Option (Int32 × St) := (f_X7_isFind x1 σ).bind (fun q1 => (if q1.1 = 0 then some ((-2 : Int32), q1.2) else (f_X7_isYear x2 q1.2).bind (fun q3 => (if q3.1 = 0 then some ((-2 : Int32), q3.2) else cI (ix x1 7) ((f_X5_plainAt 1 (4 + 4 + 3 * x1.toNatClampNeg) x2 q3.2).bind (fun q6 => (f_X5_meanPlain 1 (4 + 4 + 3 * x1.toNatClampNeg) q6.2).bind (fun q7 => (f_X1_weightFrom (4 + 4 + 3 * x1.toNatClampNeg) q6.1 q7.1 q7.2).bind (fun q8 => some (q8.1, q8.2)))))))))
set_option maxRecDepth 20000 in
theorem m_X7_weight {l : Launch} {D : va_G} {ca : Nat → ClassId} {ad : Nat → Nat} {x1 : Int32} {x2 : Int32} {σ : St} {R : Int32 × St} (h : f_X7_weight x1 x2 σ = some R) : gM l D ca ad 91 LC yX7_weight cX7_weight 4 (some .int) rm_X7_weight [.ref 0, .int x1, .int x2] σ (some (.int R.1)) R.2 := by
  refine gM_of (by decide) (Nat.le_of_ble_eq_true rfl) (fun p e s m args below meth c C => ?_)
  refine g_ent (ls' := [(0, .ref 0), (1, .int x1), (2, .int x2)]) rfl ?_
  unfold f_X7_weight at h
  refine g_aload_n C 0 dX7_weight_0 rfl ?_
  refine g_iload_n C 1 dX7_weight_1 rfl ?_
  obtain ⟨q1, hq1, h⟩ := bd h
  refine g_callVI C [.int x1] qv_X7_142 (m_X7_isFind hq1) rfl (by decide) rfl rfl rfl ⟨rfl, rfl⟩ ⟨by decide, by decide⟩ (Nat.le_of_ble_eq_true rfl) dX7_weight_2 ?_
  refine g_if_eq C 16 dX7_weight_5 (by decide) (fun hc2 => ?_) (fun hc2 => ?_)
  · have h := ite_t hc2 h
    refine g_bipush C (-2 : Int32) dX7_weight_16 rfl ?_
    obtain rfl := Option.some.inj h
    exact g_iret C dX7_weight_18
  · have h := ite_f hc2 h
    refine g_aload_n C 0 dX7_weight_8 rfl ?_
    refine g_iload_n C 2 dX7_weight_9 rfl ?_
    obtain ⟨q3, hq3, h⟩ := bd h
    refine g_callVI C [.int x2] qv_X7_180 (m_X7_isYear hq3) rfl (by decide) rfl rfl rfl ⟨rfl, rfl⟩ ⟨by decide, by decide⟩ (Nat.le_of_ble_eq_true rfl) dX7_weight_10 ?_
    refine g_if_ne C 19 dX7_weight_13 (by decide) (fun hc4 => ?_) (fun hc4 => ?_)
    · have h := ite_f hc4 h
      refine g_aload_n C 0 dX7_weight_19 rfl ?_
      refine g_getR C 0 1 rfl q_X7_10 rfl rfl dX7_weight_20 ?_
      refine g_getR C 4 4 rfl q_X7_135 rfl rfl dX7_weight_23 ?_
      refine g_iload_n C 1 dX7_weight_26 rfl ?_
      obtain ⟨hi5, h⟩ := cI_some h
      refine g_aald3 C rfl ho_22 hi5 dX7_weight_27 ?_
      refine g_astore_n C [(3, .ref (4 + 4 + 3 * x1.toNatClampNeg)), (0, .ref 0), (1, .int x1), (2, .int x2)] dX7_weight_28 (by decide) rfl ?_
      refine g_aload_n C 0 dX7_weight_29 rfl ?_
      refine g_aload_n C 1 dX7_weight_30 rfl ?_
      refine g_getR C 0 1 rfl q_X7_10 rfl rfl dX7_weight_31 ?_
      refine g_aload_n C 0 dX7_weight_34 rfl ?_
      refine g_iload_n C 3 dX7_weight_35 rfl ?_
      obtain ⟨q6, hq6, h⟩ := bd h
      refine g_callVI C [.ref (4 + 4 + 3 * x1.toNatClampNeg), .int x2] qv_X7_183 (m_X5_plainAt rfl (sc_f rfl (ix_lt hi5)) hq6) rfl (by decide) rfl rfl rfl ⟨rfl, rfl⟩ ⟨by decide, by decide⟩ (Nat.le_of_ble_eq_true rfl) dX7_weight_36 ?_
      refine g_aload_n C 1 dX7_weight_39 rfl ?_
      refine g_getR C 0 1 rfl q_X7_10 rfl rfl dX7_weight_40 ?_
      refine g_aload_n C 0 dX7_weight_43 rfl ?_
      obtain ⟨q7, hq7, h⟩ := bd h
      refine g_callVI C [.ref (4 + 4 + 3 * x1.toNatClampNeg)] qv_X7_173 (m_X5_meanPlain rfl (sc_f rfl (ix_lt hi5)) hq7) rfl (by decide) rfl rfl rfl ⟨rfl, rfl⟩ ⟨by decide, by decide⟩ (Nat.le_of_ble_eq_true rfl) dX7_weight_44 ?_
      obtain ⟨q8, hq8, h⟩ := bd h
      refine g_callVI C [.int q6.1, .int q7.1] qv_X7_187 (m_X1_weightFrom (sc_f rfl (ix_lt hi5)) hq8) (sc_f rfl (ix_lt hi5)) (by decide) rfl rfl rfl ⟨rfl, rfl⟩ ⟨by decide, by decide⟩ (Nat.le_of_ble_eq_true rfl) dX7_weight_47 ?_
      obtain rfl := Option.some.inj h
      exact g_iret C dX7_weight_50
    · have h := ite_t hc4 h
      refine g_bipush C (-2 : Int32) dX7_weight_16 rfl ?_
      obtain rfl := Option.some.inj h
      exact g_iret C dX7_weight_18
def f_X7_drop (σ : St) : Option (Int32 × St) := (if (σ.1 1 3) = 0 then (f_X7_hostFinding (-10 : Int32) σ).bind (fun q5 => some (q5.1, q5.2)) else ap (up1 σ 1 3 ((σ.1 1 3) - (1 : Int32))) fun σ2 => (f_X2_forget 5 (σ2.1 1 3) σ2).bind (fun q3 => ap (up1 q3 0 10 (0 : Int32)) fun σ4 => some ((σ4.1 1 3), σ4)))
set_option maxRecDepth 20000 in
theorem m_X7_drop {l : Launch} {D : va_G} {ca : Nat → ClassId} {ad : Nat → Nat} {σ : St} {R : Int32 × St} (h : f_X7_drop σ = some R) : gM l D ca ad 91 LC yX7_drop cX7_drop 1 (some .int) rm_X7_drop [.ref 0] σ (some (.int R.1)) R.2 := by
  refine gM_of (by decide) (Nat.le_of_ble_eq_true rfl) (fun p e s m args below meth c C => ?_)
  refine g_ent (ls' := [(0, .ref 0)]) rfl ?_
  unfold f_X7_drop at h
  refine g_aload_n C 0 dX7_drop_0 rfl ?_
  refine g_getR C 0 1 rfl q_X7_10 rfl rfl dX7_drop_1 ?_
  refine g_getI C 3 rfl q_X7_132 rfl dX7_drop_4 ?_
  refine g_if_ne C 17 dX7_drop_7 (by decide) (fun hc1 => ?_) (fun hc1 => ?_)
  · have h := ite_f hc1 h
    refine g_aload_n C 0 dX7_drop_17 rfl ?_
    refine g_getR C 0 1 rfl q_X7_10 rfl rfl dX7_drop_18 ?_
    refine g_dup C rfl dX7_drop_21 ?_
    refine g_getI C 3 rfl q_X7_132 rfl dX7_drop_22 ?_
    refine g_iconst C (1 : Int32) dX7_drop_25 rfl ?_
    refine g_isub C dX7_drop_26 ?_
    refine g_putI C 3 rfl qp_X7_132 rfl dX7_drop_27 ?_
    refine g_nmS (fun σ2 eσ2 => ?_)
    have h := ap_at eσ2 h
    refine g_aload_n C 0 dX7_drop_30 rfl ?_
    refine g_getR C 0 1 rfl q_X7_10 rfl rfl dX7_drop_31 ?_
    refine g_getR C 5 5 rfl q_X7_157 rfl rfl dX7_drop_34 ?_
    refine g_aload_n C 0 dX7_drop_37 rfl ?_
    refine g_getR C 0 1 rfl q_X7_10 rfl rfl dX7_drop_38 ?_
    refine g_getI C 3 rfl q_X7_132 rfl dX7_drop_41 ?_
    obtain ⟨q3, hq3, h⟩ := bd h
    refine g_callVV C [.int (σ2.1 1 3)] qv_X7_190 (m_X2_forget rfl hq3) rfl (by decide) rfl rfl rfl ⟨rfl, rfl⟩ ⟨by decide, by decide⟩ (Nat.le_of_ble_eq_true rfl) dX7_drop_44 ?_
    refine g_aload_n C 0 dX7_drop_47 rfl ?_
    refine g_iconst C (0 : Int32) dX7_drop_48 rfl ?_
    refine g_putZ C 10 rfl qp_X7_63 rfl rfl rfl dX7_drop_49 ?_
    refine g_nmS (fun σ4 eσ4 => ?_)
    have h := ap_at eσ4 h
    refine g_aload_n C 0 dX7_drop_52 rfl ?_
    refine g_getR C 0 1 rfl q_X7_10 rfl rfl dX7_drop_53 ?_
    refine g_getI C 3 rfl q_X7_132 rfl dX7_drop_56 ?_
    obtain rfl := Option.some.inj h
    exact g_iret C dX7_drop_59
  · have h := ite_t hc1 h
    refine g_aload_n C 0 dX7_drop_10 rfl ?_
    refine g_bipush C (-10 : Int32) dX7_drop_11 rfl ?_
    obtain ⟨q5, hq5, h⟩ := bd h
    refine g_callVI C [.int (-10 : Int32)] qv_X7_96 (m_X7_hostFinding hq5) rfl (by decide) rfl rfl rfl ⟨rfl, rfl⟩ ⟨by decide, by decide⟩ (Nat.le_of_ble_eq_true rfl) dX7_drop_13 ?_
    obtain rfl := Option.some.inj h
    exact g_iret C dX7_drop_16
def f_X7_feed (x1 : Int64) (x3 : Int32) (σ : St) : Option (Int32 × St) := (if x3 < (1 : Int32) then some ((-2 : Int32), σ) else (if (8 : Int32) < x3 then some ((-2 : Int32), σ) else (if x3 ≤ ((200 : Int32) - (σ.1 58 1)) then (f_X4_append x1 x3 σ).bind (fun q4 => some ((q4.1 58 1), q4)) else some ((-2 : Int32), σ))))
set_option maxRecDepth 20000 in
theorem m_X7_feed {l : Launch} {D : va_G} {ca : Nat → ClassId} {ad : Nat → Nat} {x1 : Int64} {x3 : Int32} {σ : St} {R : Int32 × St} (h : f_X7_feed x1 x3 σ = some R) : gM l D ca ad 91 LC yX7_feed cX7_feed 4 (some .int) rm_X7_feed [.ref 0, .long x1, .int x3] σ (some (.int R.1)) R.2 := by
  refine gM_of (by decide) (Nat.le_of_ble_eq_true rfl) (fun p e s m args below meth c C => ?_)
  refine g_ent (ls' := [(0, .ref 0), (1, .long x1), (3, .int x3)]) rfl ?_
  unfold f_X7_feed at h
  refine g_iload_n C 2 dX7_feed_0 rfl ?_
  refine g_iconst C (1 : Int32) dX7_feed_1 rfl ?_
  refine g_icmp_lt C 26 dX7_feed_2 (by decide) (fun hc1 => ?_) (fun hc1 => ?_)
  · have h := ite_t hc1 h
    refine g_bipush C (-2 : Int32) dX7_feed_26 rfl ?_
    obtain rfl := Option.some.inj h
    exact g_iret C dX7_feed_28
  · have h := ite_f hc1 h
    refine g_iload_n C 2 dX7_feed_5 rfl ?_
    refine g_bipush C (8 : Int32) dX7_feed_6 rfl ?_
    refine g_icmp_gt C 26 dX7_feed_8 (by decide) (fun hc2 => ?_) (fun hc2 => ?_)
    · have h := ite_t hc2 h
      refine g_bipush C (-2 : Int32) dX7_feed_26 rfl ?_
      obtain rfl := Option.some.inj h
      exact g_iret C dX7_feed_28
    · have h := ite_f hc2 h
      refine g_iload_n C 2 dX7_feed_11 rfl ?_
      refine g_sipush C (200 : Int32) dX7_feed_12 rfl ?_
      refine g_aload_n C 0 dX7_feed_15 rfl ?_
      refine g_getR C 4 58 rfl q_X7_32 rfl rfl dX7_feed_16 ?_
      refine g_getI C 1 rfl q_X7_194 rfl dX7_feed_19 ?_
      refine g_isub C dX7_feed_22 ?_
      refine g_icmp_le C 29 dX7_feed_23 (by decide) (fun hc3 => ?_) (fun hc3 => ?_)
      · have h := ite_t hc3 h
        refine g_aload_n C 0 dX7_feed_29 rfl ?_
        refine g_getR C 4 58 rfl q_X7_32 rfl rfl dX7_feed_30 ?_
        refine g_lload_n C 1 dX7_feed_33 rfl ?_
        refine g_iload_n C 2 dX7_feed_34 rfl ?_
        obtain ⟨q4, hq4, h⟩ := bd h
        refine g_callVV C [.long x1, .int x3] qv_X7_197 (m_X4_append hq4) rfl (by decide) rfl rfl rfl ⟨rfl, rfl⟩ ⟨by decide, by decide⟩ (Nat.le_of_ble_eq_true rfl) dX7_feed_35 ?_
        refine g_aload_n C 0 dX7_feed_38 rfl ?_
        refine g_getR C 4 58 rfl q_X7_32 rfl rfl dX7_feed_39 ?_
        refine g_getI C 1 rfl q_X7_194 rfl dX7_feed_42 ?_
        obtain rfl := Option.some.inj h
        exact g_iret C dX7_feed_45
      · have h := ite_f hc3 h
        refine g_bipush C (-2 : Int32) dX7_feed_26 rfl ?_
        obtain rfl := Option.some.inj h
        exact g_iret C dX7_feed_28
def f_X7_text (σ : St) : Option (Int32 × St) := (f_X4_readAll (σ.1 1 3) σ).bind (fun q1 => ap (up1 q1.2 58 1 (0 : Int32)) fun σ2 => (if q1.1 = 0 then some (((-3 : Int32) - (σ2.1 58 2)), σ2) else (f_X2_copyFrom 5 60 σ2).bind (fun q4 => (f_X2_howMany 5 q4).bind (fun q5 => some (q5.1, q5.2)))))
set_option maxRecDepth 20000 in
theorem m_X7_text {l : Launch} {D : va_G} {ca : Nat → ClassId} {ad : Nat → Nat} {σ : St} {R : Int32 × St} (h : f_X7_text σ = some R) : gM l D ca ad 91 LC yX7_text cX7_text 2 (some .int) rm_X7_text [.ref 0] σ (some (.int R.1)) R.2 := by
  refine gM_of (by decide) (Nat.le_of_ble_eq_true rfl) (fun p e s m args below meth c C => ?_)
  refine g_ent (ls' := [(0, .ref 0)]) rfl ?_
  unfold f_X7_text at h
  refine g_aload_n C 0 dX7_text_0 rfl ?_
  refine g_getR C 4 58 rfl q_X7_32 rfl rfl dX7_text_1 ?_
  refine g_aload_n C 0 dX7_text_4 rfl ?_
  refine g_getR C 0 1 rfl q_X7_10 rfl rfl dX7_text_5 ?_
  refine g_getI C 3 rfl q_X7_132 rfl dX7_text_8 ?_
  obtain ⟨q1, hq1, h⟩ := bd h
  refine g_callVI C [.int (σ.1 1 3)] qv_X7_201 (m_X4_readAll hq1) rfl (by decide) rfl rfl rfl ⟨rfl, rfl⟩ ⟨by decide, by decide⟩ (Nat.le_of_ble_eq_true rfl) dX7_text_11 ?_
  refine g_istore_n C [(1, .int q1.1), (0, .ref 0)] dX7_text_14 (by decide) rfl ?_
  refine g_aload_n C 1 dX7_text_15 rfl ?_
  refine g_getR C 4 58 rfl q_X7_32 rfl rfl dX7_text_16 ?_
  refine g_iconst C (0 : Int32) dX7_text_19 rfl ?_
  refine g_putI C 1 rfl qp_X7_194 rfl dX7_text_20 ?_
  refine g_nmS (fun σ2 eσ2 => ?_)
  have h := ap_at eσ2 h
  refine g_iload_n C 0 dX7_text_23 rfl ?_
  refine g_if_ne C 38 dX7_text_24 (by decide) (fun hc3 => ?_) (fun hc3 => ?_)
  · have h := ite_f hc3 h
    refine g_aload_n C 1 dX7_text_38 rfl ?_
    refine g_getR C 0 1 rfl q_X7_10 rfl rfl dX7_text_39 ?_
    refine g_getR C 5 5 rfl q_X7_157 rfl rfl dX7_text_42 ?_
    refine g_aload_n C 1 dX7_text_45 rfl ?_
    refine g_getR C 4 58 rfl q_X7_32 rfl rfl dX7_text_46 ?_
    refine g_getR C 5 60 rfl q_X7_207 rfl rfl dX7_text_49 ?_
    obtain ⟨q4, hq4, h⟩ := bd h
    refine g_callVV C [.ref 60] qv_X7_210 (m_X2_copyFrom rfl rfl hq4) rfl (by decide) rfl rfl rfl ⟨rfl, rfl⟩ ⟨by decide, by decide⟩ (Nat.le_of_ble_eq_true rfl) dX7_text_52 ?_
    refine g_aload_n C 1 dX7_text_55 rfl ?_
    refine g_getR C 0 1 rfl q_X7_10 rfl rfl dX7_text_56 ?_
    refine g_getR C 5 5 rfl q_X7_157 rfl rfl dX7_text_59 ?_
    obtain ⟨q5, hq5, h⟩ := bd h
    refine g_callVI C [] qv_X7_214 (m_X2_howMany rfl hq5) rfl (by decide) rfl rfl rfl ⟨rfl, rfl⟩ ⟨by decide, by decide⟩ (Nat.le_of_ble_eq_true rfl) dX7_text_62 ?_
    obtain rfl := Option.some.inj h
    exact g_iret C dX7_text_65
  · have h := ite_t hc3 h
    refine g_bipush C (-3 : Int32) dX7_text_27 rfl ?_
    refine g_aload_n C 1 dX7_text_29 rfl ?_
    refine g_getR C 4 58 rfl q_X7_32 rfl rfl dX7_text_30 ?_
    refine g_getI C 2 rfl q_X7_204 rfl dX7_text_33 ?_
    refine g_isub C dX7_text_36 ?_
    obtain rfl := Option.some.inj h
    exact g_iret C dX7_text_37
def f_X7_weigh (k1 : Nat) (σ : St) : Option (Int64 × St) := (f_X6_load k1 σ).bind (fun q1 => (f_X6_isBig q1).bind (fun q2 => (if q2.1 = 0 then (f_X0_countAll q2.2).bind (fun q4 => some (q4.1, q4.2)) else some ((-5 : Int64), q2.2))))
set_option maxRecDepth 20000 in
theorem m_X7_weigh {l : Launch} {D : va_G} {ca : Nat → ClassId} {ad : Nat → Nat} {k1 : Nat} {σ : St} {R : Int64 × St} (hk1 : LC k1 = 5) (h : f_X7_weigh k1 σ = some R) : gM l D ca ad 91 LC yX7_weigh cX7_weigh 2 (some .long) rm_X7_weigh [.ref 0, .ref k1] σ (some (.long R.1)) R.2 := by
  refine gM_of (by decide) (Nat.le_of_ble_eq_true rfl) (fun p e s m args below meth c C => ?_)
  refine g_ent (ls' := [(0, .ref 0), (1, .ref k1)]) rfl ?_
  unfold f_X7_weigh at h
  refine g_aload_n C 0 dX7_weigh_0 rfl ?_
  refine g_getR C 5 63 rfl q_X7_39 rfl rfl dX7_weigh_1 ?_
  refine g_aload_n C 1 dX7_weigh_4 rfl ?_
  obtain ⟨q1, hq1, h⟩ := bd h
  refine g_callVV C [.ref k1] qv_X7_283 (m_X6_load hk1 hq1) rfl (by decide) rfl rfl rfl ⟨rfl, rfl⟩ ⟨by decide, by decide⟩ (Nat.le_of_ble_eq_true rfl) dX7_weigh_5 ?_
  refine g_aload_n C 0 dX7_weigh_8 rfl ?_
  refine g_getR C 5 63 rfl q_X7_39 rfl rfl dX7_weigh_9 ?_
  obtain ⟨q2, hq2, h⟩ := bd h
  refine g_callVI C [] qv_X7_266 (m_X6_isBig hq2) rfl (by decide) rfl rfl rfl ⟨rfl, rfl⟩ ⟨by decide, by decide⟩ (Nat.le_of_ble_eq_true rfl) dX7_weigh_12 ?_
  refine g_if_eq C 24 dX7_weigh_15 (by decide) (fun hc3 => ?_) (fun hc3 => ?_)
  · have h := ite_t hc3 h
    refine g_aload_n C 0 dX7_weigh_24 rfl ?_
    refine g_getR C 6 70 rfl q_X7_48 rfl rfl dX7_weigh_25 ?_
    obtain ⟨q4, hq4, h⟩ := bd h
    refine g_callVL C [] qv_X7_237 (m_X0_countAll hq4) rfl (by decide) rfl rfl rfl ⟨rfl, rfl⟩ ⟨by decide, by decide⟩ (Nat.le_of_ble_eq_true rfl) dX7_weigh_28 ?_
    obtain rfl := Option.some.inj h
    exact g_lret C dX7_weigh_31
  · have h := ite_f hc3 h
    refine g_ldc2 C (-5 : Int64) qc_X7_261 dX7_weigh_18 ?_
    refine g_goto C 31 dX7_weigh_21 (by decide) ?_
    obtain rfl := Option.some.inj h
    exact g_lret C dX7_weigh_31
def f_X7_total (σ : St) : Option (Int64 × St) := (f_X7_weigh 1 σ).bind (fun q1 => some (q1.1, q1.2))
set_option maxRecDepth 20000 in
theorem m_X7_total {l : Launch} {D : va_G} {ca : Nat → ClassId} {ad : Nat → Nat} {σ : St} {R : Int64 × St} (h : f_X7_total σ = some R) : gM l D ca ad 91 LC yX7_total cX7_total 1 (some .long) rm_X7_total [.ref 0] σ (some (.long R.1)) R.2 := by
  refine gM_of (by decide) (Nat.le_of_ble_eq_true rfl) (fun p e s m args below meth c C => ?_)
  refine g_ent (ls' := [(0, .ref 0)]) rfl ?_
  unfold f_X7_total at h
  refine g_aload_n C 0 dX7_total_0 rfl ?_
  refine g_aload_n C 0 dX7_total_1 rfl ?_
  refine g_getR C 0 1 rfl q_X7_10 rfl rfl dX7_total_2 ?_
  obtain ⟨q1, hq1, h⟩ := bd h
  refine g_callVL C [.ref 1] qv_X7_218 (m_X7_weigh rfl hq1) rfl (by decide) rfl rfl rfl ⟨rfl, rfl⟩ ⟨by decide, by decide⟩ (Nat.le_of_ble_eq_true rfl) dX7_total_5 ?_
  obtain rfl := Option.some.inj h
  exact g_lret C dX7_total_8
def f_X7_greatestDivisor_9 : Nat → Int64 → Int64 → Int32 → St → Option (Int64 × St)
  | 0, _, _, _, _ => none
  | n + 1, x4, x6, x8, σ => (if (200 : Int32) ≤ x8 then some (x4, σ) else (if x6 = (0 : Int64) then some (x4, σ) else cI (!decide (x6 = 0)) ((f_X7_greatestDivisor_9 n) x6 (x4 - x4 / x6 * x6) (x8 + (1 : Int32)) σ)))
set_option maxRecDepth 20000 in
theorem s_X7_greatestDivisor_9 {R : Int64 × St} (C : gC p s m args meth c D ca ad 91 LC RX7 cX7_greatestDivisor 11 (some .long)) : ∀ (n : Nat) (x4 : Int64) (x6 : Int64) (x8 : Int32) (σ : St), f_X7_greatestDivisor_9 n x4 x6 x8 σ = some R → G p l e rm_X7_greatestDivisor s m args below meth c D ca ad 91 LC 11 (gEnd below args s D ca ad 91 LC (some (.long R.1)) R.2) 9 [(4, .long x4), (6, .long x6), (8, .int x8)] [] σ := by
  intro n
  induction n with
  | zero =>
    intro x4 x6 x8 σ h
    have h : none = some R := h
    cases h
  | succ n ih =>
    intro x4 x6 x8 σ h
    rw [f_X7_greatestDivisor_9] at h
    refine g_iload C 2 dX7_greatestDivisor_9 rfl ?_
    refine g_sipush C (200 : Int32) dX7_greatestDivisor_11 rfl ?_
    refine g_icmp_ge C 45 dX7_greatestDivisor_14 (by decide) (fun hc1 => ?_) (fun hc1 => ?_)
    · have h := ite_t hc1 h
      refine g_lload C 0 dX7_greatestDivisor_45 rfl ?_
      obtain rfl := Option.some.inj h
      exact g_lret C dX7_greatestDivisor_47
    · have h := ite_f hc1 h
      refine g_lload C 1 dX7_greatestDivisor_17 rfl ?_
      refine g_lconst C (0 : Int64) dX7_greatestDivisor_19 rfl ?_
      refine g_lcmp_eq C 45 dX7_greatestDivisor_20 dX7_greatestDivisor_21 (by decide) (fun hc2 => ?_) (fun hc2 => ?_)
      · have h := ite_t hc2 h
        refine g_lload C 0 dX7_greatestDivisor_45 rfl ?_
        obtain rfl := Option.some.inj h
        exact g_lret C dX7_greatestDivisor_47
      · have h := ite_f hc2 h
        refine g_lload C 0 dX7_greatestDivisor_24 rfl ?_
        refine g_lload C 1 dX7_greatestDivisor_26 rfl ?_
        obtain ⟨hz3, h⟩ := cI_some h
        refine g_lrem C dX7_greatestDivisor_28 (by simpa using hz3) ?_
        refine g_lstore C [(9, .long (x4 - x4 / x6 * x6)), (4, .long x4), (6, .long x6), (8, .int x8)] dX7_greatestDivisor_29 (by decide) rfl ?_
        refine g_lload C 2 dX7_greatestDivisor_31 rfl ?_
        refine g_lstore C [(4, .long x6), (9, .long (x4 - x4 / x6 * x6)), (6, .long x6), (8, .int x8)] dX7_greatestDivisor_33 (by decide) rfl ?_
        refine g_lload C 1 dX7_greatestDivisor_35 rfl ?_
        refine g_lstore C [(6, .long (x4 - x4 / x6 * x6)), (4, .long x6), (9, .long (x4 - x4 / x6 * x6)), (8, .int x8)] dX7_greatestDivisor_37 (by decide) rfl ?_
        refine g_iinc C 3 [(8, .int (x8 + (1 : Int32))), (6, .long (x4 - x4 / x6 * x6)), (4, .long x6), (9, .long (x4 - x4 / x6 * x6))] dX7_greatestDivisor_39 rfl rfl (by decide) rfl ?_
        refine g_goto C 9 dX7_greatestDivisor_42 (by decide) ?_
        exact g_sub [2, 1, 0] rfl (ih x6 (x4 - x4 / x6 * x6) (x8 + (1 : Int32)) σ h)
def f_X7_greatestDivisor (x0 : Int64) (x2 : Int64) (σ : St) : Option (Int64 × St) := (f_X7_greatestDivisor_9 FU) x0 x2 (0 : Int32) σ
set_option maxRecDepth 20000 in
theorem m_X7_greatestDivisor {l : Launch} {D : va_G} {ca : Nat → ClassId} {ad : Nat → Nat} {x0 : Int64} {x2 : Int64} {σ : St} {R : Int64 × St} (h : f_X7_greatestDivisor x0 x2 σ = some R) : gM l D ca ad 91 LC yX7_greatestDivisor cX7_greatestDivisor 11 (some .long) rm_X7_greatestDivisor [.long x0, .long x2] σ (some (.long R.1)) R.2 := by
  refine gM_of (by decide) (Nat.le_of_ble_eq_true rfl) (fun p e s m args below meth c C => ?_)
  refine g_ent (ls' := [(0, .long x0), (2, .long x2)]) rfl ?_
  unfold f_X7_greatestDivisor at h
  refine g_lload_n C 0 dX7_greatestDivisor_0 rfl ?_
  refine g_lstore C [(4, .long x0), (0, .long x0), (2, .long x2)] dX7_greatestDivisor_1 (by decide) rfl ?_
  refine g_lload_n C 2 dX7_greatestDivisor_3 rfl ?_
  refine g_lstore C [(6, .long x2), (4, .long x0), (0, .long x0), (2, .long x2)] dX7_greatestDivisor_4 (by decide) rfl ?_
  refine g_iconst C (0 : Int32) dX7_greatestDivisor_6 rfl ?_
  refine g_istore C [(8, .int (0 : Int32)), (6, .long x2), (4, .long x0), (0, .long x0), (2, .long x2)] dX7_greatestDivisor_7 (by decide) rfl ?_
  exact g_sub [2, 1, 0] rfl ((s_X7_greatestDivisor_9 C FU) x0 x2 (0 : Int32) σ h)
def f_X7_fraction (x1 : Int64) (x3 : Int64) (σ : St) : Option (Int64 × St) := (f_X7_greatestDivisor x1 x3 σ).bind (fun q1 => (if (0 : Int64) < q1.1 then cI (!decide (q1.1 = 0)) (ap (up2 q1.2 0 11 (x3 / q1.1)) fun σ4 => cI (!decide (q1.1 = 0)) (some ((x1 / q1.1), σ4))) else some ((0 : Int64), q1.2)))
set_option maxRecDepth 20000 in
theorem m_X7_fraction {l : Launch} {D : va_G} {ca : Nat → ClassId} {ad : Nat → Nat} {x1 : Int64} {x3 : Int64} {σ : St} {R : Int64 × St} (h : f_X7_fraction x1 x3 σ = some R) : gM l D ca ad 91 LC yX7_fraction cX7_fraction 7 (some .long) rm_X7_fraction [.ref 0, .long x1, .long x3] σ (some (.long R.1)) R.2 := by
  refine gM_of (by decide) (Nat.le_of_ble_eq_true rfl) (fun p e s m args below meth c C => ?_)
  refine g_ent (ls' := [(0, .ref 0), (1, .long x1), (3, .long x3)]) rfl ?_
  unfold f_X7_fraction at h
  refine g_lload_n C 1 dX7_fraction_0 rfl ?_
  refine g_lload_n C 2 dX7_fraction_1 rfl ?_
  obtain ⟨q1, hq1, h⟩ := bd h
  refine g_callSL C [.long x1, .long x3] qs_X7_286 (m_X7_greatestDivisor hq1) rfl rfl ⟨rfl, rfl⟩ ⟨by decide, by decide⟩ (Nat.le_of_ble_eq_true rfl) dX7_fraction_2 ?_
  refine g_lstore C [(5, .long q1.1), (0, .ref 0), (1, .long x1), (3, .long x3)] dX7_fraction_5 (by decide) rfl ?_
  refine g_lload C 0 dX7_fraction_7 rfl ?_
  refine g_lconst C (0 : Int64) dX7_fraction_9 rfl ?_
  refine g_lcmp_gt C 16 dX7_fraction_10 dX7_fraction_11 (by decide) (fun hc2 => ?_) (fun hc2 => ?_)
  · have h := ite_t hc2 h
    refine g_aload_n C 1 dX7_fraction_16 rfl ?_
    refine g_lload_n C 3 dX7_fraction_17 rfl ?_
    refine g_lload C 0 dX7_fraction_18 rfl ?_
    obtain ⟨hz3, h⟩ := cI_some h
    refine g_ldiv C dX7_fraction_20 (by simpa using hz3) ?_
    refine g_putL C 11 rfl qp_X7_66 rfl dX7_fraction_21 ?_
    refine g_nmS (fun σ4 eσ4 => ?_)
    have h := ap_at eσ4 h
    refine g_lload_n C 2 dX7_fraction_24 rfl ?_
    refine g_lload C 0 dX7_fraction_25 rfl ?_
    obtain ⟨hz5, h⟩ := cI_some h
    refine g_ldiv C dX7_fraction_27 (by simpa using hz5) ?_
    obtain rfl := Option.some.inj h
    exact g_lret C dX7_fraction_28
  · have h := ite_f hc2 h
    refine g_lconst C (0 : Int64) dX7_fraction_14 rfl ?_
    obtain rfl := Option.some.inj h
    exact g_lret C dX7_fraction_15
def f_X7_shareWithin (x1 : Int32) (x2 : Int32) (x3 : Int32) (x4 : Int64) (σ : St) : Option (Int64 × St) := (f_X6_limit x1 x2 x3 σ).bind (fun q1 => (f_X0_countAll q1).bind (fun q2 => (f_X7_fraction q2.1 x4 q2.2).bind (fun q3 => some (q3.1, q3.2))))
set_option maxRecDepth 20000 in
theorem m_X7_shareWithin {l : Launch} {D : va_G} {ca : Nat → ClassId} {ad : Nat → Nat} {x1 : Int32} {x2 : Int32} {x3 : Int32} {x4 : Int64} {σ : St} {R : Int64 × St} (h : f_X7_shareWithin x1 x2 x3 x4 σ = some R) : gM l D ca ad 91 LC yX7_shareWithin cX7_shareWithin 6 (some .long) rm_X7_shareWithin [.ref 0, .int x1, .int x2, .int x3, .long x4] σ (some (.long R.1)) R.2 := by
  refine gM_of (by decide) (Nat.le_of_ble_eq_true rfl) (fun p e s m args below meth c C => ?_)
  refine g_ent (ls' := [(0, .ref 0), (1, .int x1), (2, .int x2), (3, .int x3), (4, .long x4)]) rfl ?_
  unfold f_X7_shareWithin at h
  refine g_aload_n C 0 dX7_shareWithin_0 rfl ?_
  refine g_getR C 5 63 rfl q_X7_39 rfl rfl dX7_shareWithin_1 ?_
  refine g_iload_n C 1 dX7_shareWithin_4 rfl ?_
  refine g_iload_n C 2 dX7_shareWithin_5 rfl ?_
  refine g_iload_n C 3 dX7_shareWithin_6 rfl ?_
  obtain ⟨q1, hq1, h⟩ := bd h
  refine g_callVV C [.int x1, .int x2, .int x3] qv_X7_240 (m_X6_limit hq1) rfl (by decide) rfl rfl rfl ⟨rfl, rfl⟩ ⟨by decide, by decide⟩ (Nat.le_of_ble_eq_true rfl) dX7_shareWithin_7 ?_
  refine g_aload_n C 0 dX7_shareWithin_10 rfl ?_
  refine g_aload_n C 0 dX7_shareWithin_11 rfl ?_
  refine g_getR C 6 70 rfl q_X7_48 rfl rfl dX7_shareWithin_12 ?_
  obtain ⟨q2, hq2, h⟩ := bd h
  refine g_callVL C [] qv_X7_237 (m_X0_countAll hq2) rfl (by decide) rfl rfl rfl ⟨rfl, rfl⟩ ⟨by decide, by decide⟩ (Nat.le_of_ble_eq_true rfl) dX7_shareWithin_15 ?_
  refine g_lload C 4 dX7_shareWithin_18 rfl ?_
  obtain ⟨q3, hq3, h⟩ := bd h
  refine g_callVL C [.long q2.1, .long x4] qv_X7_232 (m_X7_fraction hq3) rfl (by decide) rfl rfl rfl ⟨rfl, rfl⟩ ⟨by decide, by decide⟩ (Nat.le_of_ble_eq_true rfl) dX7_shareWithin_20 ?_
  obtain rfl := Option.some.inj h
  exact g_lret C dX7_shareWithin_23
def f_X7_weighForShare (σ : St) : Option (Int64 × St) := (f_X7_weigh 1 σ).bind (fun q1 => (if q1.1 = (0 : Int64) then some ((-4 : Int64), q1.2) else some (q1.1, q1.2)))
set_option maxRecDepth 20000 in
theorem m_X7_weighForShare {l : Launch} {D : va_G} {ca : Nat → ClassId} {ad : Nat → Nat} {σ : St} {R : Int64 × St} (h : f_X7_weighForShare σ = some R) : gM l D ca ad 91 LC yX7_weighForShare cX7_weighForShare 3 (some .long) rm_X7_weighForShare [.ref 0] σ (some (.long R.1)) R.2 := by
  refine gM_of (by decide) (Nat.le_of_ble_eq_true rfl) (fun p e s m args below meth c C => ?_)
  refine g_ent (ls' := [(0, .ref 0)]) rfl ?_
  unfold f_X7_weighForShare at h
  refine g_aload_n C 0 dX7_weighForShare_0 rfl ?_
  refine g_aload_n C 0 dX7_weighForShare_1 rfl ?_
  refine g_getR C 0 1 rfl q_X7_10 rfl rfl dX7_weighForShare_2 ?_
  obtain ⟨q1, hq1, h⟩ := bd h
  refine g_callVL C [.ref 1] qv_X7_218 (m_X7_weigh rfl hq1) rfl (by decide) rfl rfl rfl ⟨rfl, rfl⟩ ⟨by decide, by decide⟩ (Nat.le_of_ble_eq_true rfl) dX7_weighForShare_5 ?_
  refine g_lstore_n C [(1, .long q1.1), (0, .ref 0)] dX7_weighForShare_8 (by decide) rfl ?_
  refine g_lload_n C 0 dX7_weighForShare_9 rfl ?_
  refine g_lconst C (0 : Int64) dX7_weighForShare_10 rfl ?_
  refine g_lcmp_ne C 21 dX7_weighForShare_11 dX7_weighForShare_12 (by decide) (fun hc2 => ?_) (fun hc2 => ?_)
  · have h := ite_f hc2 h
    refine g_lload_n C 0 dX7_weighForShare_21 rfl ?_
    obtain rfl := Option.some.inj h
    exact g_lret C dX7_weighForShare_22
  · have h := ite_t hc2 h
    refine g_ldc2 C (-4 : Int64) qc_X7_270 dX7_weighForShare_15 ?_
    refine g_goto C 22 dX7_weighForShare_18 (by decide) ?_
    obtain rfl := Option.some.inj h
    exact g_lret C dX7_weighForShare_22
def f_X7_share (x1 : Int32) (x2 : Int32) (σ : St) : Option (Int64 × St) := (f_X7_isFind x1 σ).bind (fun q1 => (if q1.1 = 0 then some ((-2 : Int64), q1.2) else (f_X7_isYear x2 q1.2).bind (fun q3 => (if q3.1 = 0 then some ((-2 : Int64), q3.2) else (f_X7_weighForShare q3.2).bind (fun q5 => (if (0 : Int64) ≤ q5.1 then (f_X7_shareWithin x1 x2 x2 q5.1 q5.2).bind (fun q7 => some (q7.1, q7.2)) else some (q5.1, q5.2)))))))
set_option maxRecDepth 20000 in
theorem m_X7_share {l : Launch} {D : va_G} {ca : Nat → ClassId} {ad : Nat → Nat} {x1 : Int32} {x2 : Int32} {σ : St} {R : Int64 × St} (h : f_X7_share x1 x2 σ = some R) : gM l D ca ad 91 LC yX7_share cX7_share 5 (some .long) rm_X7_share [.ref 0, .int x1, .int x2] σ (some (.long R.1)) R.2 := by
  refine gM_of (by decide) (Nat.le_of_ble_eq_true rfl) (fun p e s m args below meth c C => ?_)
  refine g_ent (ls' := [(0, .ref 0), (1, .int x1), (2, .int x2)]) rfl ?_
  unfold f_X7_share at h
  refine g_aload_n C 0 dX7_share_0 rfl ?_
  refine g_iload_n C 1 dX7_share_1 rfl ?_
  obtain ⟨q1, hq1, h⟩ := bd h
  refine g_callVI C [.int x1] qv_X7_142 (m_X7_isFind hq1) rfl (by decide) rfl rfl rfl ⟨rfl, rfl⟩ ⟨by decide, by decide⟩ (Nat.le_of_ble_eq_true rfl) dX7_share_2 ?_
  refine g_if_eq C 16 dX7_share_5 (by decide) (fun hc2 => ?_) (fun hc2 => ?_)
  · have h := ite_t hc2 h
    refine g_ldc2 C (-2 : Int64) qc_X7_222 dX7_share_16 ?_
    obtain rfl := Option.some.inj h
    exact g_lret C dX7_share_19
  · have h := ite_f hc2 h
    refine g_aload_n C 0 dX7_share_8 rfl ?_
    refine g_iload_n C 2 dX7_share_9 rfl ?_
    obtain ⟨q3, hq3, h⟩ := bd h
    refine g_callVI C [.int x2] qv_X7_180 (m_X7_isYear hq3) rfl (by decide) rfl rfl rfl ⟨rfl, rfl⟩ ⟨by decide, by decide⟩ (Nat.le_of_ble_eq_true rfl) dX7_share_10 ?_
    refine g_if_ne C 20 dX7_share_13 (by decide) (fun hc4 => ?_) (fun hc4 => ?_)
    · have h := ite_f hc4 h
      refine g_aload_n C 0 dX7_share_20 rfl ?_
      obtain ⟨q5, hq5, h⟩ := bd h
      refine g_callVL C [] qv_X7_224 (m_X7_weighForShare hq5) rfl (by decide) rfl rfl rfl ⟨rfl, rfl⟩ ⟨by decide, by decide⟩ (Nat.le_of_ble_eq_true rfl) dX7_share_21 ?_
      refine g_lstore_n C [(3, .long q5.1), (0, .ref 0), (1, .int x1), (2, .int x2)] dX7_share_24 (by decide) rfl ?_
      refine g_lload_n C 0 dX7_share_25 rfl ?_
      refine g_lconst C (0 : Int64) dX7_share_26 rfl ?_
      refine g_lcmp_ge C 35 dX7_share_27 dX7_share_28 (by decide) (fun hc6 => ?_) (fun hc6 => ?_)
      · have h := ite_t hc6 h
        refine g_aload_n C 1 dX7_share_35 rfl ?_
        refine g_iload_n C 2 dX7_share_36 rfl ?_
        refine g_iload_n C 3 dX7_share_37 rfl ?_
        refine g_iload_n C 3 dX7_share_38 rfl ?_
        refine g_lload_n C 0 dX7_share_39 rfl ?_
        obtain ⟨q7, hq7, h⟩ := bd h
        refine g_callVL C [.int x1, .int x2, .int x2, .long q5.1] qv_X7_228 (m_X7_shareWithin hq7) rfl (by decide) rfl rfl rfl ⟨rfl, rfl⟩ ⟨by decide, by decide⟩ (Nat.le_of_ble_eq_true rfl) dX7_share_40 ?_
        obtain rfl := Option.some.inj h
        exact g_lret C dX7_share_43
      · have h := ite_f hc6 h
        refine g_lload_n C 0 dX7_share_31 rfl ?_
        refine g_goto C 43 dX7_share_32 (by decide) ?_
        obtain rfl := Option.some.inj h
        exact g_lret C dX7_share_43
    · have h := ite_t hc4 h
      refine g_ldc2 C (-2 : Int64) qc_X7_222 dX7_share_16 ?_
      obtain rfl := Option.some.inj h
      exact g_lret C dX7_share_19
def f_X7_below (σ : St) : Option (Int64 × St) := some ((σ.2 0 11), σ)
set_option maxRecDepth 20000 in
theorem m_X7_below {l : Launch} {D : va_G} {ca : Nat → ClassId} {ad : Nat → Nat} {σ : St} {R : Int64 × St} (h : f_X7_below σ = some R) : gM l D ca ad 91 LC yX7_below cX7_below 1 (some .long) rm_X7_below [.ref 0] σ (some (.long R.1)) R.2 := by
  refine gM_of (by decide) (Nat.le_of_ble_eq_true rfl) (fun p e s m args below meth c C => ?_)
  refine g_ent (ls' := [(0, .ref 0)]) rfl ?_
  unfold f_X7_below at h
  refine g_aload_n C 0 dX7_below_0 rfl ?_
  refine g_getL C 11 rfl q_X7_66 rfl dX7_below_1 ?_
  obtain rfl := Option.some.inj h
  exact g_lret C dX7_below_4
def f_X7_until (x1 : Int32) (x2 : Int32) (σ : St) : Option (Int64 × St) := (f_X7_isFind x1 σ).bind (fun q1 => (if q1.1 = 0 then some ((-2 : Int64), q1.2) else (f_X7_isYear x2 q1.2).bind (fun q3 => (if q3.1 = 0 then some ((-2 : Int64), q3.2) else (f_X7_weighForShare q3.2).bind (fun q5 => (if (0 : Int64) ≤ q5.1 then (f_X7_shareWithin x1 (0 : Int32) x2 q5.1 q5.2).bind (fun q7 => some (q7.1, q7.2)) else some (q5.1, q5.2)))))))
set_option maxRecDepth 20000 in
theorem m_X7_until {l : Launch} {D : va_G} {ca : Nat → ClassId} {ad : Nat → Nat} {x1 : Int32} {x2 : Int32} {σ : St} {R : Int64 × St} (h : f_X7_until x1 x2 σ = some R) : gM l D ca ad 91 LC yX7_until cX7_until 5 (some .long) rm_X7_until [.ref 0, .int x1, .int x2] σ (some (.long R.1)) R.2 := by
  refine gM_of (by decide) (Nat.le_of_ble_eq_true rfl) (fun p e s m args below meth c C => ?_)
  refine g_ent (ls' := [(0, .ref 0), (1, .int x1), (2, .int x2)]) rfl ?_
  unfold f_X7_until at h
  refine g_aload_n C 0 dX7_until_0 rfl ?_
  refine g_iload_n C 1 dX7_until_1 rfl ?_
  obtain ⟨q1, hq1, h⟩ := bd h
  refine g_callVI C [.int x1] qv_X7_142 (m_X7_isFind hq1) rfl (by decide) rfl rfl rfl ⟨rfl, rfl⟩ ⟨by decide, by decide⟩ (Nat.le_of_ble_eq_true rfl) dX7_until_2 ?_
  refine g_if_eq C 16 dX7_until_5 (by decide) (fun hc2 => ?_) (fun hc2 => ?_)
  · have h := ite_t hc2 h
    refine g_ldc2 C (-2 : Int64) qc_X7_222 dX7_until_16 ?_
    obtain rfl := Option.some.inj h
    exact g_lret C dX7_until_19
  · have h := ite_f hc2 h
    refine g_aload_n C 0 dX7_until_8 rfl ?_
    refine g_iload_n C 2 dX7_until_9 rfl ?_
    obtain ⟨q3, hq3, h⟩ := bd h
    refine g_callVI C [.int x2] qv_X7_180 (m_X7_isYear hq3) rfl (by decide) rfl rfl rfl ⟨rfl, rfl⟩ ⟨by decide, by decide⟩ (Nat.le_of_ble_eq_true rfl) dX7_until_10 ?_
    refine g_if_ne C 20 dX7_until_13 (by decide) (fun hc4 => ?_) (fun hc4 => ?_)
    · have h := ite_f hc4 h
      refine g_aload_n C 0 dX7_until_20 rfl ?_
      obtain ⟨q5, hq5, h⟩ := bd h
      refine g_callVL C [] qv_X7_224 (m_X7_weighForShare hq5) rfl (by decide) rfl rfl rfl ⟨rfl, rfl⟩ ⟨by decide, by decide⟩ (Nat.le_of_ble_eq_true rfl) dX7_until_21 ?_
      refine g_lstore_n C [(3, .long q5.1), (0, .ref 0), (1, .int x1), (2, .int x2)] dX7_until_24 (by decide) rfl ?_
      refine g_lload_n C 0 dX7_until_25 rfl ?_
      refine g_lconst C (0 : Int64) dX7_until_26 rfl ?_
      refine g_lcmp_ge C 35 dX7_until_27 dX7_until_28 (by decide) (fun hc6 => ?_) (fun hc6 => ?_)
      · have h := ite_t hc6 h
        refine g_aload_n C 1 dX7_until_35 rfl ?_
        refine g_iload_n C 2 dX7_until_36 rfl ?_
        refine g_iconst C (0 : Int32) dX7_until_37 rfl ?_
        refine g_iload_n C 3 dX7_until_38 rfl ?_
        refine g_lload_n C 0 dX7_until_39 rfl ?_
        obtain ⟨q7, hq7, h⟩ := bd h
        refine g_callVL C [.int x1, .int (0 : Int32), .int x2, .long q5.1] qv_X7_228 (m_X7_shareWithin hq7) rfl (by decide) rfl rfl rfl ⟨rfl, rfl⟩ ⟨by decide, by decide⟩ (Nat.le_of_ble_eq_true rfl) dX7_until_40 ?_
        obtain rfl := Option.some.inj h
        exact g_lret C dX7_until_43
      · have h := ite_f hc6 h
        refine g_lload_n C 0 dX7_until_31 rfl ?_
        refine g_goto C 43 dX7_until_32 (by decide) ?_
        obtain rfl := Option.some.inj h
        exact g_lret C dX7_until_43
    · have h := ite_t hc4 h
      refine g_ldc2 C (-2 : Int64) qc_X7_222 dX7_until_16 ?_
      obtain rfl := Option.some.inj h
      exact g_lret C dX7_until_19
def f_X7_order (x1 : Int32) (x2 : Int32) (σ : St) : Option (Int64 × St) := (f_X7_isFind x1 σ).bind (fun q1 => (if q1.1 = 0 then some ((-2 : Int64), q1.2) else (f_X7_isFind x2 q1.2).bind (fun q3 => (if q3.1 = 0 then some ((-2 : Int64), q3.2) else (f_X7_weighForShare q3.2).bind (fun q5 => (if (0 : Int64) ≤ q5.1 then (if x1 = x2 then (f_X7_fraction (0 : Int64) q5.1 q5.2).bind (fun q11 => some (q11.1, q11.2)) else (f_X2_put 67 x1 x2 (1 : Int32) q5.2).bind (fun q8 => (f_X0_countAll q8).bind (fun q9 => (f_X7_fraction q9.1 q5.1 q9.2).bind (fun q10 => some (q10.1, q10.2))))) else some (q5.1, q5.2)))))))
set_option maxRecDepth 20000 in
theorem m_X7_order {l : Launch} {D : va_G} {ca : Nat → ClassId} {ad : Nat → Nat} {x1 : Int32} {x2 : Int32} {σ : St} {R : Int64 × St} (h : f_X7_order x1 x2 σ = some R) : gM l D ca ad 91 LC yX7_order cX7_order 5 (some .long) rm_X7_order [.ref 0, .int x1, .int x2] σ (some (.long R.1)) R.2 := by
  refine gM_of (by decide) (Nat.le_of_ble_eq_true rfl) (fun p e s m args below meth c C => ?_)
  refine g_ent (ls' := [(0, .ref 0), (1, .int x1), (2, .int x2)]) rfl ?_
  unfold f_X7_order at h
  refine g_aload_n C 0 dX7_order_0 rfl ?_
  refine g_iload_n C 1 dX7_order_1 rfl ?_
  obtain ⟨q1, hq1, h⟩ := bd h
  refine g_callVI C [.int x1] qv_X7_142 (m_X7_isFind hq1) rfl (by decide) rfl rfl rfl ⟨rfl, rfl⟩ ⟨by decide, by decide⟩ (Nat.le_of_ble_eq_true rfl) dX7_order_2 ?_
  refine g_if_eq C 16 dX7_order_5 (by decide) (fun hc2 => ?_) (fun hc2 => ?_)
  · have h := ite_t hc2 h
    refine g_ldc2 C (-2 : Int64) qc_X7_222 dX7_order_16 ?_
    obtain rfl := Option.some.inj h
    exact g_lret C dX7_order_19
  · have h := ite_f hc2 h
    refine g_aload_n C 0 dX7_order_8 rfl ?_
    refine g_iload_n C 2 dX7_order_9 rfl ?_
    obtain ⟨q3, hq3, h⟩ := bd h
    refine g_callVI C [.int x2] qv_X7_142 (m_X7_isFind hq3) rfl (by decide) rfl rfl rfl ⟨rfl, rfl⟩ ⟨by decide, by decide⟩ (Nat.le_of_ble_eq_true rfl) dX7_order_10 ?_
    refine g_if_ne C 20 dX7_order_13 (by decide) (fun hc4 => ?_) (fun hc4 => ?_)
    · have h := ite_f hc4 h
      refine g_aload_n C 0 dX7_order_20 rfl ?_
      obtain ⟨q5, hq5, h⟩ := bd h
      refine g_callVL C [] qv_X7_224 (m_X7_weighForShare hq5) rfl (by decide) rfl rfl rfl ⟨rfl, rfl⟩ ⟨by decide, by decide⟩ (Nat.le_of_ble_eq_true rfl) dX7_order_21 ?_
      refine g_lstore_n C [(3, .long q5.1), (0, .ref 0), (1, .int x1), (2, .int x2)] dX7_order_24 (by decide) rfl ?_
      refine g_lload_n C 0 dX7_order_25 rfl ?_
      refine g_lconst C (0 : Int64) dX7_order_26 rfl ?_
      refine g_lcmp_ge C 33 dX7_order_27 dX7_order_28 (by decide) (fun hc6 => ?_) (fun hc6 => ?_)
      · have h := ite_t hc6 h
        refine g_iload_n C 2 dX7_order_33 rfl ?_
        refine g_iload_n C 3 dX7_order_34 rfl ?_
        refine g_icmp_ne C 45 dX7_order_35 (by decide) (fun hc7 => ?_) (fun hc7 => ?_)
        · have h := ite_f hc7 h
          refine g_aload_n C 1 dX7_order_45 rfl ?_
          refine g_getR C 5 63 rfl q_X7_39 rfl rfl dX7_order_46 ?_
          refine g_getR C 6 67 rfl q_X7_236 rfl rfl dX7_order_49 ?_
          refine g_iload_n C 2 dX7_order_52 rfl ?_
          refine g_iload_n C 3 dX7_order_53 rfl ?_
          refine g_iconst C (1 : Int32) dX7_order_54 rfl ?_
          obtain ⟨q8, hq8, h⟩ := bd h
          refine g_callVV C [.int x1, .int x2, .int (1 : Int32)] qv_X7_166 (m_X2_put rfl hq8) rfl (by decide) rfl rfl rfl ⟨rfl, rfl⟩ ⟨by decide, by decide⟩ (Nat.le_of_ble_eq_true rfl) dX7_order_55 ?_
          refine g_aload_n C 1 dX7_order_58 rfl ?_
          refine g_aload_n C 1 dX7_order_59 rfl ?_
          refine g_getR C 6 70 rfl q_X7_48 rfl rfl dX7_order_60 ?_
          obtain ⟨q9, hq9, h⟩ := bd h
          refine g_callVL C [] qv_X7_237 (m_X0_countAll hq9) rfl (by decide) rfl rfl rfl ⟨rfl, rfl⟩ ⟨by decide, by decide⟩ (Nat.le_of_ble_eq_true rfl) dX7_order_63 ?_
          refine g_lload_n C 0 dX7_order_66 rfl ?_
          obtain ⟨q10, hq10, h⟩ := bd h
          refine g_callVL C [.long q9.1, .long q5.1] qv_X7_232 (m_X7_fraction hq10) rfl (by decide) rfl rfl rfl ⟨rfl, rfl⟩ ⟨by decide, by decide⟩ (Nat.le_of_ble_eq_true rfl) dX7_order_67 ?_
          obtain rfl := Option.some.inj h
          exact g_lret C dX7_order_70
        · have h := ite_t hc7 h
          refine g_aload_n C 1 dX7_order_38 rfl ?_
          refine g_lconst C (0 : Int64) dX7_order_39 rfl ?_
          refine g_lload_n C 0 dX7_order_40 rfl ?_
          obtain ⟨q11, hq11, h⟩ := bd h
          refine g_callVL C [.long (0 : Int64), .long q5.1] qv_X7_232 (m_X7_fraction hq11) rfl (by decide) rfl rfl rfl ⟨rfl, rfl⟩ ⟨by decide, by decide⟩ (Nat.le_of_ble_eq_true rfl) dX7_order_41 ?_
          obtain rfl := Option.some.inj h
          exact g_lret C dX7_order_44
      · have h := ite_f hc6 h
        refine g_lload_n C 0 dX7_order_31 rfl ?_
        obtain rfl := Option.some.inj h
        exact g_lret C dX7_order_32
    · have h := ite_t hc4 h
      refine g_ldc2 C (-2 : Int64) qc_X7_222 dX7_order_16 ?_
      obtain rfl := Option.some.inj h
      exact g_lret C dX7_order_19
end
