section
variable {p : Program} {l : Launch} {e : Env} {s : State} {m : MethodId} {args : Array Value} {below : List Frame} {meth : Method} {c : Code} {D : va_G} {ca : Nat → ClassId} {ad : Nat → Nat}
def f_X0_clearOpenSets_2 : Nat → Nat → Nat → Int32 → St → Option (St)
  | 0, _, _, _, _ => none
  | n + 1, k1, n1, x2, σ => (if (σ.1 70 8) ≤ x2 then some σ else cI (ix x2 128) (cI (ix (σ.1 76 x2.toNatClampNeg) n1) (ap (up2 σ k1 (σ.1 76 x2.toNatClampNeg).toNatClampNeg (0 : Int64)) fun σ4 => (f_X0_clearOpenSets_2 n) k1 n1 (x2 + (1 : Int32)) σ4)))
set_option maxRecDepth 20000 in
theorem s_X0_clearOpenSets_2 {R : St} {cd1 : Nat} (C : gC p s m args meth c D ca ad 91 LC RX0 cX0_clearOpenSets 3 none) : ∀ (n : Nat) (k1 : Nat) (n1 : Nat) (hk1 : LC k1 = cd1) (ho1 : gok cd1 1 n1) (x2 : Int32) (σ : St), f_X0_clearOpenSets_2 n k1 n1 x2 σ = some R → G p l e rm_X0_clearOpenSets s m args below meth c D ca ad 91 LC 3 (gEnd below args s D ca ad 91 LC none R) 2 [(0, .ref 70), (1, .ref k1), (2, .int x2)] [] σ := by
  intro n
  induction n with
  | zero =>
    intro k1 n1 hk1 ho1 x2 σ h
    have h : none = some R := h
    cases h
  | succ n ih =>
    intro k1 n1 hk1 ho1 x2 σ h
    rw [f_X0_clearOpenSets_2] at h
    refine g_iload_n C 2 dX0_clearOpenSets_2 rfl ?_
    refine g_aload_n C 0 dX0_clearOpenSets_3 rfl ?_
    refine g_getI C 8 rfl q_X0_34 rfl dX0_clearOpenSets_4 ?_
    refine g_icmp_ge C 25 dX0_clearOpenSets_7 (by decide) (fun hc1 => ?_) (fun hc1 => ?_)
    · have h := ite_t hc1 h
      obtain rfl := Option.some.inj h
      exact g_vret C dX0_clearOpenSets_25
    · have h := ite_f hc1 h
      refine g_aload_n C 1 dX0_clearOpenSets_10 rfl ?_
      refine g_aload_n C 0 dX0_clearOpenSets_11 rfl ?_
      refine g_getR C 7 76 rfl q_X0_31 rfl rfl dX0_clearOpenSets_12 ?_
      refine g_iload_n C 2 dX0_clearOpenSets_15 rfl ?_
      obtain ⟨hi2, h⟩ := cI_some h
      refine g_iald C 128 rfl ho_16 hi2 dX0_clearOpenSets_16 ?_
      refine g_lconst C (0 : Int64) dX0_clearOpenSets_17 rfl ?_
      obtain ⟨hi3, h⟩ := cI_some h
      refine g_last C n1 hk1 ho1 hi3 dX0_clearOpenSets_18 ?_
      refine g_nmS (fun σ4 eσ4 => ?_)
      have h := ap_at eσ4 h
      refine g_iinc C 2 [(2, .int (x2 + (1 : Int32))), (0, .ref 70), (1, .ref k1)] dX0_clearOpenSets_19 rfl rfl (by decide) rfl ?_
      refine g_goto C 2 dX0_clearOpenSets_22 (by decide) ?_
      exact g_sub [1, 2, 0] rfl (ih k1 n1 hk1 ho1 (x2 + (1 : Int32)) σ4 h)
def f_X0_clearOpenSets (k1 : Nat) (n1 : Nat) (σ : St) : Option (St) := (f_X0_clearOpenSets_2 FU) k1 n1 (0 : Int32) σ
set_option maxRecDepth 20000 in
theorem m_X0_clearOpenSets {l : Launch} {D : va_G} {ca : Nat → ClassId} {ad : Nat → Nat} {cd1 : Nat} {k1 : Nat} {n1 : Nat} {σ : St} {R : St} (hk1 : LC k1 = cd1) (ho1 : gok cd1 1 n1) (h : f_X0_clearOpenSets k1 n1 σ = some R) : gM l D ca ad 91 LC yX0_clearOpenSets cX0_clearOpenSets 3 none rm_X0_clearOpenSets [.ref 70, .ref k1] σ none R := by
  refine gM_of (by decide) (Nat.le_of_ble_eq_true rfl) (fun p e s m args below meth c C => ?_)
  refine g_ent (ls' := [(0, .ref 70), (1, .ref k1)]) rfl ?_
  unfold f_X0_clearOpenSets at h
  refine g_iconst C (0 : Int32) dX0_clearOpenSets_0 rfl ?_
  refine g_istore_n C [(2, .int (0 : Int32)), (0, .ref 70), (1, .ref k1)] dX0_clearOpenSets_1 (by decide) rfl ?_
  exact g_sub [1, 2, 0] rfl ((s_X0_clearOpenSets_2 C FU) k1 n1 hk1 ho1 (0 : Int32) σ h)
def f_X0_leastBefore (x1 : Int32) (x2 : Int32) (σ : St) : Option (Int32 × St) := cI (ix x2 40) (cI (ix x1 7) (some (((σ.1 75 x2.toNatClampNeg) ||| (σ.1 68 x1.toNatClampNeg)), σ)))
set_option maxRecDepth 20000 in
theorem m_X0_leastBefore {l : Launch} {D : va_G} {ca : Nat → ClassId} {ad : Nat → Nat} {x1 : Int32} {x2 : Int32} {σ : St} {R : Int32 × St} (h : f_X0_leastBefore x1 x2 σ = some R) : gM l D ca ad 91 LC yX0_leastBefore cX0_leastBefore 3 (some .int) rm_X0_leastBefore [.ref 70, .int x1, .int x2] σ (some (.int R.1)) R.2 := by
  refine gM_of (by decide) (Nat.le_of_ble_eq_true rfl) (fun p e s m args below meth c C => ?_)
  refine g_ent (ls' := [(0, .ref 70), (1, .int x1), (2, .int x2)]) rfl ?_
  unfold f_X0_leastBefore at h
  refine g_aload_n C 0 dX0_leastBefore_0 rfl ?_
  refine g_getR C 6 75 rfl q_X0_28 rfl rfl dX0_leastBefore_1 ?_
  refine g_iload_n C 2 dX0_leastBefore_4 rfl ?_
  obtain ⟨hi1, h⟩ := cI_some h
  refine g_iald C 40 rfl ho_14 hi1 dX0_leastBefore_5 ?_
  refine g_aload_n C 0 dX0_leastBefore_6 rfl ?_
  refine g_getA C 0 63 rfl q_X0_50 rfl rfl dX0_leastBefore_7 ?_
  refine g_getR C 6 67 rfl q_X0_105 rfl rfl dX0_leastBefore_10 ?_
  refine g_getR C 0 68 rfl q_X0_109 rfl rfl dX0_leastBefore_13 ?_
  refine g_iload_n C 1 dX0_leastBefore_16 rfl ?_
  obtain ⟨hi2, h⟩ := cI_some h
  refine g_iald C 7 rfl ho_11 hi2 dX0_leastBefore_17 ?_
  refine g_ior C dX0_leastBefore_18 ?_
  obtain rfl := Option.some.inj h
  exact g_iret C dX0_leastBefore_19
def f_X0_nextSubset (x0 : Int32) (x1 : Int32) (σ : St) : Option (Int32 × St) := some (((x0 - x1) &&& x1), σ)
set_option maxRecDepth 20000 in
theorem m_X0_nextSubset {l : Launch} {D : va_G} {ca : Nat → ClassId} {ad : Nat → Nat} {x0 : Int32} {x1 : Int32} {σ : St} {R : Int32 × St} (h : f_X0_nextSubset x0 x1 σ = some R) : gM l D ca ad 91 LC yX0_nextSubset cX0_nextSubset 2 (some .int) rm_X0_nextSubset [.int x0, .int x1] σ (some (.int R.1)) R.2 := by
  refine gM_of (by decide) (Nat.le_of_ble_eq_true rfl) (fun p e s m args below meth c C => ?_)
  refine g_ent (ls' := [(0, .int x0), (1, .int x1)]) rfl ?_
  unfold f_X0_nextSubset at h
  refine g_iload_n C 0 dX0_nextSubset_0 rfl ?_
  refine g_iload_n C 1 dX0_nextSubset_1 rfl ?_
  refine g_isub C dX0_nextSubset_2 ?_
  refine g_iload_n C 1 dX0_nextSubset_3 rfl ?_
  refine g_iand C dX0_nextSubset_4 ?_
  obtain rfl := Option.some.inj h
  exact g_iret C dX0_nextSubset_5
def f_X0_place_42 : Nat → Int32 → Int32 → Int32 → Int64 → Int32 → Int32 → St → Option (St)
  | 0, _, _, _, _, _, _, _ => none
  | n + 1, x1, x3, x4, x5, x7, x8, σ => (if (128 : Int32) ≤ x8 then some σ else cI (ix ((x3 ||| x7) ||| ((1 : Int32) <<< (x1 &&& 31))) 128) (cI (ix (x3 ||| x7) 128) (cI (ix ((x3 ||| x7) ||| ((1 : Int32) <<< (x1 &&& 31))) 128) (ap (up2 σ 77 ((x3 ||| x7) ||| ((1 : Int32) <<< (x1 &&& 31))).toNatClampNeg ((σ.2 77 ((x3 ||| x7) ||| ((1 : Int32) <<< (x1 &&& 31))).toNatClampNeg) + ((σ.2 77 (x3 ||| x7).toNatClampNeg) * x5))) fun σ5 => (f_X0_nextSubset x7 x4 σ5).bind (fun q6 => (if q6.1 = 0 then some q6.2 else (f_X0_place_42 n) x1 x3 x4 x5 q6.1 (x8 + (1 : Int32)) q6.2))))))
set_option maxRecDepth 20000 in
theorem s_X0_place_42 {R : St} (C : gC p s m args meth c D ca ad 91 LC RX0 cX0_place 10 none) : ∀ (n : Nat) (x1 : Int32) (x3 : Int32) (x4 : Int32) (x5 : Int64) (x7 : Int32) (x8 : Int32) (σ : St), f_X0_place_42 n x1 x3 x4 x5 x7 x8 σ = some R → G p l e rm_X0_place s m args below meth c D ca ad 91 LC 10 (gEnd below args s D ca ad 91 LC none R) 42 [(0, .ref 70), (1, .int x1), (3, .int x3), (4, .int x4), (5, .long x5), (7, .int x7), (8, .int x8)] [] σ := by
  intro n
  induction n with
  | zero =>
    intro x1 x3 x4 x5 x7 x8 σ h
    have h : none = some R := h
    cases h
  | succ n ih =>
    intro x1 x3 x4 x5 x7 x8 σ h
    rw [f_X0_place_42] at h
    refine g_iload C 6 dX0_place_42 rfl ?_
    refine g_sipush C (128 : Int32) dX0_place_44 rfl ?_
    refine g_icmp_ge C 103 dX0_place_47 (by decide) (fun hc1 => ?_) (fun hc1 => ?_)
    · have h := ite_t hc1 h
      obtain rfl := Option.some.inj h
      exact g_vret C dX0_place_103
    · have h := ite_f hc1 h
      refine g_iload_n C 2 dX0_place_50 rfl ?_
      refine g_iload C 5 dX0_place_51 rfl ?_
      refine g_ior C dX0_place_53 ?_
      refine g_istore C [(9, .int (x3 ||| x7)), (0, .ref 70), (1, .int x1), (3, .int x3), (4, .int x4), (5, .long x5), (7, .int x7), (8, .int x8)] dX0_place_54 (by decide) rfl ?_
      refine g_aload_n C 1 dX0_place_56 rfl ?_
      refine g_getR C 9 77 rfl q_X0_37 rfl rfl dX0_place_57 ?_
      refine g_iload C 0 dX0_place_60 rfl ?_
      refine g_iconst C (1 : Int32) dX0_place_62 rfl ?_
      refine g_iload_n C 2 dX0_place_63 rfl ?_
      refine g_ishl C dX0_place_64 ?_
      refine g_ior C dX0_place_65 ?_
      refine g_dup2 C rfl rfl dX0_place_66 ?_
      obtain ⟨hi2, h⟩ := cI_some h
      refine g_lald C 128 rfl ho_18 hi2 dX0_place_67 ?_
      refine g_aload_n C 1 dX0_place_68 rfl ?_
      refine g_getR C 9 77 rfl q_X0_37 rfl rfl dX0_place_69 ?_
      refine g_iload C 0 dX0_place_72 rfl ?_
      obtain ⟨hi3, h⟩ := cI_some h
      refine g_lald C 128 rfl ho_18 hi3 dX0_place_74 ?_
      refine g_lload C 5 dX0_place_75 rfl ?_
      refine g_lmul C dX0_place_77 ?_
      refine g_ladd C dX0_place_78 ?_
      obtain ⟨hi4, h⟩ := cI_some h
      refine g_last C 128 rfl ho_18 hi4 dX0_place_79 ?_
      refine g_nmS (fun σ5 eσ5 => ?_)
      have h := ap_at eσ5 h
      refine g_iload C 6 dX0_place_80 rfl ?_
      refine g_iload C 4 dX0_place_82 rfl ?_
      obtain ⟨q6, hq6, h⟩ := bd h
      refine g_callSI C [.int x7, .int x4] qs_X0_139 (m_X0_nextSubset hq6) rfl rfl ⟨rfl, rfl⟩ ⟨by decide, by decide⟩ (Nat.le_of_ble_eq_true rfl) dX0_place_84 ?_
      refine g_istore C [(7, .int q6.1), (9, .int (x3 ||| x7)), (0, .ref 70), (1, .int x1), (3, .int x3), (4, .int x4), (5, .long x5), (8, .int x8)] dX0_place_87 (by decide) rfl ?_
      refine g_iload C 0 dX0_place_89 rfl ?_
      refine g_if_ne C 97 dX0_place_91 (by decide) (fun hc7 => ?_) (fun hc7 => ?_)
      · have h := ite_f hc7 h
        refine g_iinc C 7 [(8, .int (x8 + (1 : Int32))), (7, .int q6.1), (9, .int (x3 ||| x7)), (0, .ref 70), (1, .int x1), (3, .int x3), (4, .int x4), (5, .long x5)] dX0_place_97 rfl rfl (by decide) rfl ?_
        refine g_goto C 42 dX0_place_100 (by decide) ?_
        exact g_sub [3, 4, 5, 6, 7, 1, 0] rfl (ih x1 x3 x4 x5 q6.1 (x8 + (1 : Int32)) q6.2 h)
      · have h := ite_t hc7 h
        refine g_goto C 103 dX0_place_94 (by decide) ?_
        obtain rfl := Option.some.inj h
        exact g_vret C dX0_place_103
def f_X0_place (x1 : Int32) (x2 : Int32) (σ : St) : Option (St) := (f_X0_leastBefore x1 x2 σ).bind (fun q1 => cI (ix x2 40) (ap (((q1.2.1 74 x2.toNatClampNeg) &&& (q1.1 ^^^ (-1 : Int32))) &&& (((1 : Int32) <<< (x1 &&& 31)) ^^^ (-1 : Int32))) fun z3 => (f_X6_weightAt x1 x2 q1.2).bind (fun q4 => (f_X0_place_42 FU) x1 q1.1 z3 q4.1 (0 : Int32) (0 : Int32) q4.2)))
set_option maxRecDepth 20000 in
theorem m_X0_place {l : Launch} {D : va_G} {ca : Nat → ClassId} {ad : Nat → Nat} {x1 : Int32} {x2 : Int32} {σ : St} {R : St} (h : f_X0_place x1 x2 σ = some R) : gM l D ca ad 91 LC yX0_place cX0_place 10 none rm_X0_place [.ref 70, .int x1, .int x2] σ none R := by
  refine gM_of (by decide) (Nat.le_of_ble_eq_true rfl) (fun p e s m args below meth c C => ?_)
  refine g_ent (ls' := [(0, .ref 70), (1, .int x1), (2, .int x2)]) rfl ?_
  unfold f_X0_place at h
  refine g_aload_n C 0 dX0_place_0 rfl ?_
  refine g_iload_n C 1 dX0_place_1 rfl ?_
  refine g_iload_n C 2 dX0_place_2 rfl ?_
  obtain ⟨q1, hq1, h⟩ := bd h
  refine g_callVI C [.int x1, .int x2] qv_X0_136 (m_X0_leastBefore hq1) rfl (by decide) rfl rfl rfl ⟨rfl, rfl⟩ ⟨by decide, by decide⟩ (Nat.le_of_ble_eq_true rfl) dX0_place_3 ?_
  refine g_istore_n C [(3, .int q1.1), (0, .ref 70), (1, .int x1), (2, .int x2)] dX0_place_6 (by decide) rfl ?_
  refine g_aload_n C 1 dX0_place_7 rfl ?_
  refine g_getR C 5 74 rfl q_X0_25 rfl rfl dX0_place_8 ?_
  refine g_iload_n C 3 dX0_place_11 rfl ?_
  obtain ⟨hi2, h⟩ := cI_some h
  refine g_iald C 40 rfl ho_14 hi2 dX0_place_12 ?_
  refine g_iload_n C 0 dX0_place_13 rfl ?_
  refine g_iconst C (-1 : Int32) dX0_place_14 rfl ?_
  refine g_ixor C dX0_place_15 ?_
  refine g_iand C dX0_place_16 ?_
  refine g_iconst C (1 : Int32) dX0_place_17 rfl ?_
  refine g_iload_n C 2 dX0_place_18 rfl ?_
  refine g_ishl C dX0_place_19 ?_
  refine g_iconst C (-1 : Int32) dX0_place_20 rfl ?_
  refine g_ixor C dX0_place_21 ?_
  refine g_iand C dX0_place_22 ?_
  refine g_nmI (fun z3 ez3 => ?_)
  have h := ap_at ez3 h
  refine g_istore C [(4, .int z3), (3, .int q1.1), (0, .ref 70), (1, .int x1), (2, .int x2)] dX0_place_23 (by decide) rfl ?_
  refine g_aload_n C 2 dX0_place_25 rfl ?_
  refine g_getA C 0 63 rfl q_X0_50 rfl rfl dX0_place_26 ?_
  refine g_iload_n C 3 dX0_place_29 rfl ?_
  refine g_iload_n C 4 dX0_place_30 rfl ?_
  obtain ⟨q4, hq4, h⟩ := bd h
  refine g_callVL C [.int x1, .int x2] qv_X0_91 (m_X6_weightAt hq4) rfl (by decide) rfl rfl rfl ⟨rfl, rfl⟩ ⟨by decide, by decide⟩ (Nat.le_of_ble_eq_true rfl) dX0_place_31 ?_
  refine g_lstore C [(5, .long q4.1), (4, .int z3), (3, .int q1.1), (0, .ref 70), (1, .int x1), (2, .int x2)] dX0_place_34 (by decide) rfl ?_
  refine g_iconst C (0 : Int32) dX0_place_36 rfl ?_
  refine g_istore C [(7, .int (0 : Int32)), (5, .long q4.1), (4, .int z3), (3, .int q1.1), (0, .ref 70), (1, .int x1), (2, .int x2)] dX0_place_37 (by decide) rfl ?_
  refine g_iconst C (0 : Int32) dX0_place_39 rfl ?_
  refine g_istore C [(8, .int (0 : Int32)), (7, .int (0 : Int32)), (5, .long q4.1), (4, .int z3), (3, .int q1.1), (0, .ref 70), (1, .int x1), (2, .int x2)] dX0_place_40 (by decide) rfl ?_
  exact g_sub [5, 6, 4, 3, 2, 1, 0] rfl ((s_X0_place_42 C FU) x1 q1.1 z3 q4.1 (0 : Int32) (0 : Int32) q4.2 h)
def f_X0_goForward_70 (kk7 : Int32 → Int32 → Int32 → St → Option (St)) (x1 : Int32) (x2 : Int32) (x3 : Int32) (σ : St) : Option (St) := kk7 x1 x2 (x3 + (-1 : Int32)) σ
set_option maxRecDepth 20000 in
theorem s_X0_goForward_70 {R : St} (C : gC p s m args meth c D ca ad 91 LC RX0 cX0_goForward 5 none) {kk7 : Int32 → Int32 → Int32 → St → Option (St)} (HK7 : ∀ (x1 : Int32) (x2 : Int32) (x3 : Int32) (σ : St), kk7 x1 x2 x3 σ = some R → G p l e rm_X0_goForward s m args below meth c D ca ad 91 LC 5 (gEnd below args s D ca ad 91 LC none R) 7 [(0, .ref 70), (1, .int x1), (2, .int x2), (3, .int x3)] [] σ) (x1 : Int32) (x2 : Int32) (x3 : Int32) (σ : St) (h : f_X0_goForward_70 kk7 x1 x2 x3 σ = some R) : G p l e rm_X0_goForward s m args below meth c D ca ad 91 LC 5 (gEnd below args s D ca ad 91 LC none R) 70 [(0, .ref 70), (1, .int x1), (2, .int x2), (3, .int x3)] [] σ := by
  unfold f_X0_goForward_70 at h
  refine g_iinc C 3 [(3, .int (x3 + (-1 : Int32))), (0, .ref 70), (1, .int x1), (2, .int x2)] dX0_goForward_70 rfl rfl (by decide) rfl ?_
  refine g_goto C 7 dX0_goForward_73 (by decide) ?_
  exact g_sub [1, 2, 3, 0] rfl (HK7 x1 x2 (x3 + (-1 : Int32)) σ h)
def f_X0_goForward_63 (kk7 : Int32 → Int32 → Int32 → St → Option (St)) (x1 : Int32) (x2 : Int32) (x3 : Int32) (x4 : Int32) (σ : St) : Option (St) := (f_X0_place x4 x1 σ).bind (fun q1 => (f_X0_goForward_70 kk7) x1 x2 x3 q1)
set_option maxRecDepth 20000 in
theorem s_X0_goForward_63 {R : St} (C : gC p s m args meth c D ca ad 91 LC RX0 cX0_goForward 5 none) {kk7 : Int32 → Int32 → Int32 → St → Option (St)} (HK7 : ∀ (x1 : Int32) (x2 : Int32) (x3 : Int32) (σ : St), kk7 x1 x2 x3 σ = some R → G p l e rm_X0_goForward s m args below meth c D ca ad 91 LC 5 (gEnd below args s D ca ad 91 LC none R) 7 [(0, .ref 70), (1, .int x1), (2, .int x2), (3, .int x3)] [] σ) (x1 : Int32) (x2 : Int32) (x3 : Int32) (x4 : Int32) (σ : St) (h : f_X0_goForward_63 kk7 x1 x2 x3 x4 σ = some R) : G p l e rm_X0_goForward s m args below meth c D ca ad 91 LC 5 (gEnd below args s D ca ad 91 LC none R) 63 [(0, .ref 70), (1, .int x1), (2, .int x2), (3, .int x3), (4, .int x4)] [] σ := by
  unfold f_X0_goForward_63 at h
  refine g_aload_n C 0 dX0_goForward_63 rfl ?_
  refine g_iload C 4 dX0_goForward_64 rfl ?_
  refine g_iload_n C 1 dX0_goForward_66 rfl ?_
  obtain ⟨q1, hq1, h⟩ := bd h
  refine g_callVV C [.int x4, .int x1] qv_X0_123 (m_X0_place hq1) rfl (by decide) rfl rfl rfl ⟨rfl, rfl⟩ ⟨by decide, by decide⟩ (Nat.le_of_ble_eq_true rfl) dX0_goForward_67 ?_
  exact g_sub [0, 1, 2, 3] rfl ((s_X0_goForward_70 C HK7) x1 x2 x3 q1 h)
def f_X0_goForward_7 (kk76 : St → Option (St)) : Nat → Int32 → Int32 → Int32 → St → Option (St)
  | 0, _, _, _, _ => none
  | n + 1, x1, x2, x3, σ => (if x3 < 0 then kk76 σ else cI (ix x3 7) (ap (σ.1 71 x3.toNatClampNeg) fun z3 => (f_X6_weightAt z3 x1 σ).bind (fun q4 => (if q4.1 = (0 : Int64) then (f_X0_goForward_70 (f_X0_goForward_7 kk76 n)) x1 x2 x3 q4.2 else (if z3 = x2 then cI (cpk (0 : Int32) (x1 * (128 : Int32)) (128 : Int32) 128 5120) (ap (rw2 q4.2 79 (va_cpy (q4.2.2 77) (q4.2.2 79) (0 : Int32).toNatClampNeg (x1 * (128 : Int32)).toNatClampNeg (128 : Int32).toNatClampNeg)) fun σ8 => (f_X0_goForward_63 (f_X0_goForward_7 kk76 n)) x1 x2 x3 z3 σ8) else (f_X0_goForward_63 (f_X0_goForward_7 kk76 n)) x1 x2 x3 z3 q4.2)))))
set_option maxRecDepth 20000 in
theorem s_X0_goForward_7 {R : St} (C : gC p s m args meth c D ca ad 91 LC RX0 cX0_goForward 5 none) {kk76 : St → Option (St)} (HK76 : ∀ (σ : St), kk76 σ = some R → G p l e rm_X0_goForward s m args below meth c D ca ad 91 LC 5 (gEnd below args s D ca ad 91 LC none R) 76 [(0, .ref 70)] [] σ) : ∀ (n : Nat) (x1 : Int32) (x2 : Int32) (x3 : Int32) (σ : St), f_X0_goForward_7 kk76 n x1 x2 x3 σ = some R → G p l e rm_X0_goForward s m args below meth c D ca ad 91 LC 5 (gEnd below args s D ca ad 91 LC none R) 7 [(0, .ref 70), (1, .int x1), (2, .int x2), (3, .int x3)] [] σ := by
  intro n
  induction n with
  | zero =>
    intro x1 x2 x3 σ h
    have h : none = some R := h
    cases h
  | succ n ih =>
    intro x1 x2 x3 σ h
    rw [f_X0_goForward_7] at h
    refine g_iload_n C 3 dX0_goForward_7 rfl ?_
    refine g_if_lt C 76 dX0_goForward_8 (by decide) (fun hc1 => ?_) (fun hc1 => ?_)
    · have h := ite_t hc1 h
      exact g_sub [0] rfl (HK76 σ h)
    · have h := ite_f hc1 h
      refine g_aload_n C 0 dX0_goForward_11 rfl ?_
      refine g_getR C 1 71 rfl q_X0_9 rfl rfl dX0_goForward_12 ?_
      refine g_iload_n C 3 dX0_goForward_15 rfl ?_
      obtain ⟨hi2, h⟩ := cI_some h
      refine g_iald C 7 rfl ho_11 hi2 dX0_goForward_16 ?_
      refine g_nmI (fun z3 ez3 => ?_)
      have h := ap_at ez3 h
      refine g_istore C [(4, .int z3), (0, .ref 70), (1, .int x1), (2, .int x2), (3, .int x3)] dX0_goForward_17 (by decide) rfl ?_
      refine g_aload_n C 1 dX0_goForward_19 rfl ?_
      refine g_getA C 0 63 rfl q_X0_50 rfl rfl dX0_goForward_20 ?_
      refine g_iload C 0 dX0_goForward_23 rfl ?_
      refine g_iload_n C 2 dX0_goForward_25 rfl ?_
      obtain ⟨q4, hq4, h⟩ := bd h
      refine g_callVL C [.int z3, .int x1] qv_X0_91 (m_X6_weightAt hq4) rfl (by decide) rfl rfl rfl ⟨rfl, rfl⟩ ⟨by decide, by decide⟩ (Nat.le_of_ble_eq_true rfl) dX0_goForward_26 ?_
      refine g_lconst C (0 : Int64) dX0_goForward_29 rfl ?_
      refine g_lcmp_ne C 37 dX0_goForward_30 dX0_goForward_31 (by decide) (fun hc5 => ?_) (fun hc5 => ?_)
      · have h := ite_f hc5 h
        refine g_iload C 0 dX0_goForward_37 rfl ?_
        refine g_iload_n C 3 dX0_goForward_39 rfl ?_
        refine g_icmp_ne C 63 dX0_goForward_40 (by decide) (fun hc6 => ?_) (fun hc6 => ?_)
        · have h := ite_f hc6 h
          exact g_sub [1, 2, 3, 4, 0] rfl ((s_X0_goForward_63 C ih) x1 x2 x3 z3 q4.2 h)
        · have h := ite_t hc6 h
          refine g_aload_n C 1 dX0_goForward_43 rfl ?_
          refine g_getR C 9 77 rfl q_X0_37 rfl rfl dX0_goForward_44 ?_
          refine g_iconst C (0 : Int32) dX0_goForward_47 rfl ?_
          refine g_aload_n C 1 dX0_goForward_48 rfl ?_
          refine g_getR C 11 79 rfl q_X0_44 rfl rfl dX0_goForward_49 ?_
          refine g_iload_n C 2 dX0_goForward_52 rfl ?_
          refine g_sipush C (128 : Int32) dX0_goForward_53 rfl ?_
          refine g_imul C dX0_goForward_56 ?_
          refine g_sipush C (128 : Int32) dX0_goForward_57 rfl ?_
          obtain ⟨hz7, h⟩ := cI_some h
          refine g_copyL C 128 5120 qa_X0_117 rfl ho_18 rfl ho_20 hz7 (by decide) (Nat.le_of_ble_eq_true rfl) dX0_goForward_60 ?_
          refine g_nmS (fun σ8 eσ8 => ?_)
          have h := ap_at eσ8 h
          exact g_sub [1, 2, 3, 4, 0] rfl ((s_X0_goForward_63 C ih) x1 x2 x3 z3 σ8 h)
      · have h := ite_t hc5 h
        refine g_goto C 70 dX0_goForward_34 (by decide) ?_
        exact g_sub [1, 2, 3, 4] rfl ((s_X0_goForward_70 C ih) x1 x2 x3 q4.2 h)
def f_X0_goForward_76 (σ : St) : Option (St) := (f_X0_clearOpenSets 77 128 σ).bind (fun q1 => some q1)
set_option maxRecDepth 20000 in
theorem s_X0_goForward_76 {R : St} (C : gC p s m args meth c D ca ad 91 LC RX0 cX0_goForward 5 none) (σ : St) (h : f_X0_goForward_76 σ = some R) : G p l e rm_X0_goForward s m args below meth c D ca ad 91 LC 5 (gEnd below args s D ca ad 91 LC none R) 76 [(0, .ref 70)] [] σ := by
  unfold f_X0_goForward_76 at h
  refine g_aload_n C 0 dX0_goForward_76 rfl ?_
  refine g_aload_n C 0 dX0_goForward_77 rfl ?_
  refine g_getR C 9 77 rfl q_X0_37 rfl rfl dX0_goForward_78 ?_
  obtain ⟨q1, hq1, h⟩ := bd h
  refine g_callVV C [.ref 77] qv_X0_126 (m_X0_clearOpenSets rfl ho_18 hq1) rfl (by decide) rfl rfl rfl ⟨rfl, rfl⟩ ⟨by decide, by decide⟩ (Nat.le_of_ble_eq_true rfl) dX0_goForward_81 ?_
  obtain rfl := Option.some.inj h
  exact g_vret C dX0_goForward_84
def f_X0_goForward (x1 : Int32) (x2 : Int32) (σ : St) : Option (St) := ap ((σ.1 70 2) - (1 : Int32)) fun z1 => (f_X0_goForward_7 (f_X0_goForward_76) FU) x1 x2 z1 σ
set_option maxRecDepth 20000 in
theorem m_X0_goForward {l : Launch} {D : va_G} {ca : Nat → ClassId} {ad : Nat → Nat} {x1 : Int32} {x2 : Int32} {σ : St} {R : St} (h : f_X0_goForward x1 x2 σ = some R) : gM l D ca ad 91 LC yX0_goForward cX0_goForward 5 none rm_X0_goForward [.ref 70, .int x1, .int x2] σ none R := by
  refine gM_of (by decide) (Nat.le_of_ble_eq_true rfl) (fun p e s m args below meth c C => ?_)
  refine g_ent (ls' := [(0, .ref 70), (1, .int x1), (2, .int x2)]) rfl ?_
  unfold f_X0_goForward at h
  refine g_aload_n C 0 dX0_goForward_0 rfl ?_
  refine g_getI C 2 rfl q_X0_15 rfl dX0_goForward_1 ?_
  refine g_iconst C (1 : Int32) dX0_goForward_4 rfl ?_
  refine g_isub C dX0_goForward_5 ?_
  refine g_nmI (fun z1 ez1 => ?_)
  have h := ap_at ez1 h
  refine g_istore_n C [(3, .int z1), (0, .ref 70), (1, .int x1), (2, .int x2)] dX0_goForward_6 (by decide) rfl ?_
  exact g_sub [1, 2, 3, 0] rfl ((s_X0_goForward_7 C (s_X0_goForward_76 C) FU) x1 x2 z1 σ h)
def f_X0_findYearsThatWeigh_78 (kk30 : Int32 → Int32 → St → Option (Int32 × St)) (x1 : Int32) (x2 : Int32) (σ : St) : Option (Int32 × St) := kk30 x1 (x2 + (1 : Int32)) σ
set_option maxRecDepth 20000 in
theorem s_X0_findYearsThatWeigh_78 {R : Int32 × St} (C : gC p s m args meth c D ca ad 91 LC RX0 cX0_findYearsThatWeigh 3 (some .boolean)) {kk30 : Int32 → Int32 → St → Option (Int32 × St)} (HK30 : ∀ (x1 : Int32) (x2 : Int32) (σ : St), kk30 x1 x2 σ = some R → G p l e rm_X0_findYearsThatWeigh s m args below meth c D ca ad 91 LC 3 (gEnd below args s D ca ad 91 LC (some (.int R.1)) R.2) 30 [(0, .ref 70), (1, .int x1), (2, .int x2)] [] σ) (x1 : Int32) (x2 : Int32) (σ : St) (h : f_X0_findYearsThatWeigh_78 kk30 x1 x2 σ = some R) : G p l e rm_X0_findYearsThatWeigh s m args below meth c D ca ad 91 LC 3 (gEnd below args s D ca ad 91 LC (some (.int R.1)) R.2) 78 [(0, .ref 70), (1, .int x1), (2, .int x2)] [] σ := by
  unfold f_X0_findYearsThatWeigh_78 at h
  refine g_iinc C 2 [(2, .int (x2 + (1 : Int32))), (0, .ref 70), (1, .int x1)] dX0_findYearsThatWeigh_78 rfl rfl (by decide) rfl ?_
  refine g_goto C 30 dX0_findYearsThatWeigh_81 (by decide) ?_
  exact g_sub [1, 2, 0] rfl (HK30 x1 (x2 + (1 : Int32)) σ h)
def f_X0_findYearsThatWeigh_30 (kk84 : Int32 → St → Option (Int32 × St)) : Nat → Int32 → Int32 → St → Option (Int32 × St)
  | 0, _, _, _ => none
  | n + 1, x1, x2, σ => (if (σ.1 63 0) ≤ x2 then kk84 x1 σ else (f_X6_weightAt x1 x2 σ).bind (fun q2 => (if q2.1 = (0 : Int64) then (f_X0_findYearsThatWeigh_78 (f_X0_findYearsThatWeigh_30 kk84 n)) x1 x2 q2.2 else cI (ix x1 7) (cI (ix x1 7) (ap (up1 q2.2 72 x1.toNatClampNeg (imin (q2.2.1 72 x1.toNatClampNeg) x2)) fun σ6 => cI (ix x1 7) (ap (up1 σ6 73 x1.toNatClampNeg x2) fun σ8 => (f_X0_findYearsThatWeigh_78 (f_X0_findYearsThatWeigh_30 kk84 n)) x1 x2 σ8))))))
set_option maxRecDepth 20000 in
theorem s_X0_findYearsThatWeigh_30 {R : Int32 × St} (C : gC p s m args meth c D ca ad 91 LC RX0 cX0_findYearsThatWeigh 3 (some .boolean)) {kk84 : Int32 → St → Option (Int32 × St)} (HK84 : ∀ (x1 : Int32) (σ : St), kk84 x1 σ = some R → G p l e rm_X0_findYearsThatWeigh s m args below meth c D ca ad 91 LC 3 (gEnd below args s D ca ad 91 LC (some (.int R.1)) R.2) 84 [(0, .ref 70), (1, .int x1)] [] σ) : ∀ (n : Nat) (x1 : Int32) (x2 : Int32) (σ : St), f_X0_findYearsThatWeigh_30 kk84 n x1 x2 σ = some R → G p l e rm_X0_findYearsThatWeigh s m args below meth c D ca ad 91 LC 3 (gEnd below args s D ca ad 91 LC (some (.int R.1)) R.2) 30 [(0, .ref 70), (1, .int x1), (2, .int x2)] [] σ := by
  intro n
  induction n with
  | zero =>
    intro x1 x2 σ h
    have h : none = some R := h
    cases h
  | succ n ih =>
    intro x1 x2 σ h
    rw [f_X0_findYearsThatWeigh_30] at h
    refine g_iload_n C 2 dX0_findYearsThatWeigh_30 rfl ?_
    refine g_aload_n C 0 dX0_findYearsThatWeigh_31 rfl ?_
    refine g_getA C 0 63 rfl q_X0_50 rfl rfl dX0_findYearsThatWeigh_32 ?_
    refine g_getI C 0 rfl q_X0_64 rfl dX0_findYearsThatWeigh_35 ?_
    refine g_icmp_ge C 84 dX0_findYearsThatWeigh_38 (by decide) (fun hc1 => ?_) (fun hc1 => ?_)
    · have h := ite_t hc1 h
      exact g_sub [0, 1] rfl (HK84 x1 σ h)
    · have h := ite_f hc1 h
      refine g_aload_n C 0 dX0_findYearsThatWeigh_41 rfl ?_
      refine g_getA C 0 63 rfl q_X0_50 rfl rfl dX0_findYearsThatWeigh_42 ?_
      refine g_iload_n C 1 dX0_findYearsThatWeigh_45 rfl ?_
      refine g_iload_n C 2 dX0_findYearsThatWeigh_46 rfl ?_
      obtain ⟨q2, hq2, h⟩ := bd h
      refine g_callVL C [.int x1, .int x2] qv_X0_91 (m_X6_weightAt hq2) rfl (by decide) rfl rfl rfl ⟨rfl, rfl⟩ ⟨by decide, by decide⟩ (Nat.le_of_ble_eq_true rfl) dX0_findYearsThatWeigh_47 ?_
      refine g_lconst C (0 : Int64) dX0_findYearsThatWeigh_50 rfl ?_
      refine g_lcmp_eq C 78 dX0_findYearsThatWeigh_51 dX0_findYearsThatWeigh_52 (by decide) (fun hc3 => ?_) (fun hc3 => ?_)
      · have h := ite_t hc3 h
        exact g_sub [0, 1, 2] rfl ((s_X0_findYearsThatWeigh_78 C ih) x1 x2 q2.2 h)
      · have h := ite_f hc3 h
        refine g_aload_n C 0 dX0_findYearsThatWeigh_55 rfl ?_
        refine g_getR C 3 72 rfl q_X0_19 rfl rfl dX0_findYearsThatWeigh_56 ?_
        refine g_iload_n C 1 dX0_findYearsThatWeigh_59 rfl ?_
        refine g_aload_n C 0 dX0_findYearsThatWeigh_60 rfl ?_
        refine g_getR C 3 72 rfl q_X0_19 rfl rfl dX0_findYearsThatWeigh_61 ?_
        refine g_iload_n C 1 dX0_findYearsThatWeigh_64 rfl ?_
        obtain ⟨hi4, h⟩ := cI_some h
        refine g_iald C 7 rfl ho_11 hi4 dX0_findYearsThatWeigh_65 ?_
        refine g_iload_n C 2 dX0_findYearsThatWeigh_66 rfl ?_
        refine g_min C qx_X0_95 (by decide) (Nat.le_of_ble_eq_true rfl) (Nat.zero_le _) (Nat.zero_le _) dX0_findYearsThatWeigh_67 ?_
        obtain ⟨hi5, h⟩ := cI_some h
        refine g_iast C 7 rfl ho_11 hi5 dX0_findYearsThatWeigh_70 ?_
        refine g_nmS (fun σ6 eσ6 => ?_)
        have h := ap_at eσ6 h
        refine g_aload_n C 0 dX0_findYearsThatWeigh_71 rfl ?_
        refine g_getR C 4 73 rfl q_X0_22 rfl rfl dX0_findYearsThatWeigh_72 ?_
        refine g_iload_n C 1 dX0_findYearsThatWeigh_75 rfl ?_
        refine g_iload_n C 2 dX0_findYearsThatWeigh_76 rfl ?_
        obtain ⟨hi7, h⟩ := cI_some h
        refine g_iast C 7 rfl ho_11 hi7 dX0_findYearsThatWeigh_77 ?_
        refine g_nmS (fun σ8 eσ8 => ?_)
        have h := ap_at eσ8 h
        exact g_sub [0, 1, 2] rfl ((s_X0_findYearsThatWeigh_78 C ih) x1 x2 σ8 h)
def f_X0_findYearsThatWeigh_106 (kk2 : Int32 → St → Option (Int32 × St)) (x1 : Int32) (σ : St) : Option (Int32 × St) := kk2 (x1 + (1 : Int32)) σ
set_option maxRecDepth 20000 in
theorem s_X0_findYearsThatWeigh_106 {R : Int32 × St} (C : gC p s m args meth c D ca ad 91 LC RX0 cX0_findYearsThatWeigh 3 (some .boolean)) {kk2 : Int32 → St → Option (Int32 × St)} (HK2 : ∀ (x1 : Int32) (σ : St), kk2 x1 σ = some R → G p l e rm_X0_findYearsThatWeigh s m args below meth c D ca ad 91 LC 3 (gEnd below args s D ca ad 91 LC (some (.int R.1)) R.2) 2 [(0, .ref 70), (1, .int x1)] [] σ) (x1 : Int32) (σ : St) (h : f_X0_findYearsThatWeigh_106 kk2 x1 σ = some R) : G p l e rm_X0_findYearsThatWeigh s m args below meth c D ca ad 91 LC 3 (gEnd below args s D ca ad 91 LC (some (.int R.1)) R.2) 106 [(0, .ref 70), (1, .int x1)] [] σ := by
  unfold f_X0_findYearsThatWeigh_106 at h
  refine g_iinc C 1 [(1, .int (x1 + (1 : Int32))), (0, .ref 70)] dX0_findYearsThatWeigh_106 rfl rfl (by decide) rfl ?_
  refine g_goto C 2 dX0_findYearsThatWeigh_109 (by decide) ?_
  exact g_sub [1, 0] rfl (HK2 (x1 + (1 : Int32)) σ h)
def f_X0_findYearsThatWeigh_84 (kk2 : Int32 → St → Option (Int32 × St)) (x1 : Int32) (σ : St) : Option (Int32 × St) := (f_X6_isMember x1 σ).bind (fun q1 => (if q1.1 = 0 then (f_X0_findYearsThatWeigh_106 kk2) x1 q1.2 else cI (ix x1 7) ((if 0 ≤ (q1.2.1 73 x1.toNatClampNeg) then (f_X0_findYearsThatWeigh_106 kk2) x1 q1.2 else some ((0 : Int32), q1.2)))))
set_option maxRecDepth 20000 in
theorem s_X0_findYearsThatWeigh_84 {R : Int32 × St} (C : gC p s m args meth c D ca ad 91 LC RX0 cX0_findYearsThatWeigh 3 (some .boolean)) {kk2 : Int32 → St → Option (Int32 × St)} (HK2 : ∀ (x1 : Int32) (σ : St), kk2 x1 σ = some R → G p l e rm_X0_findYearsThatWeigh s m args below meth c D ca ad 91 LC 3 (gEnd below args s D ca ad 91 LC (some (.int R.1)) R.2) 2 [(0, .ref 70), (1, .int x1)] [] σ) (x1 : Int32) (σ : St) (h : f_X0_findYearsThatWeigh_84 kk2 x1 σ = some R) : G p l e rm_X0_findYearsThatWeigh s m args below meth c D ca ad 91 LC 3 (gEnd below args s D ca ad 91 LC (some (.int R.1)) R.2) 84 [(0, .ref 70), (1, .int x1)] [] σ := by
  unfold f_X0_findYearsThatWeigh_84 at h
  refine g_aload_n C 0 dX0_findYearsThatWeigh_84 rfl ?_
  refine g_getA C 0 63 rfl q_X0_50 rfl rfl dX0_findYearsThatWeigh_85 ?_
  refine g_iload_n C 1 dX0_findYearsThatWeigh_88 rfl ?_
  obtain ⟨q1, hq1, h⟩ := bd h
  refine g_callVI C [.int x1] qv_X0_101 (m_X6_isMember hq1) rfl (by decide) rfl rfl rfl ⟨rfl, rfl⟩ ⟨by decide, by decide⟩ (Nat.le_of_ble_eq_true rfl) dX0_findYearsThatWeigh_89 ?_
  refine g_if_eq C 106 dX0_findYearsThatWeigh_92 (by decide) (fun hc2 => ?_) (fun hc2 => ?_)
  · have h := ite_t hc2 h
    exact g_sub [0, 1] rfl ((s_X0_findYearsThatWeigh_106 C HK2) x1 q1.2 h)
  · have h := ite_f hc2 h
    refine g_aload_n C 0 dX0_findYearsThatWeigh_95 rfl ?_
    refine g_getR C 4 73 rfl q_X0_22 rfl rfl dX0_findYearsThatWeigh_96 ?_
    refine g_iload_n C 1 dX0_findYearsThatWeigh_99 rfl ?_
    obtain ⟨hi3, h⟩ := cI_some h
    refine g_iald C 7 rfl ho_11 hi3 dX0_findYearsThatWeigh_100 ?_
    refine g_if_ge C 106 dX0_findYearsThatWeigh_101 (by decide) (fun hc4 => ?_) (fun hc4 => ?_)
    · have h := ite_t hc4 h
      exact g_sub [0, 1] rfl ((s_X0_findYearsThatWeigh_106 C HK2) x1 q1.2 h)
    · have h := ite_f hc4 h
      refine g_iconst C (0 : Int32) dX0_findYearsThatWeigh_104 rfl ?_
      obtain rfl := Option.some.inj h
      exact g_zret C nz0 dX0_findYearsThatWeigh_105
def f_X0_findYearsThatWeigh_2 : Nat → Int32 → St → Option (Int32 × St)
  | 0, _, _ => none
  | n + 1, x1, σ => (if (σ.1 63 1) ≤ x1 then some ((1 : Int32), σ) else cI (ix x1 7) (ap (up1 σ 72 x1.toNatClampNeg (40 : Int32)) fun σ3 => cI (ix x1 7) (ap (up1 σ3 73 x1.toNatClampNeg (-1 : Int32)) fun σ5 => (f_X0_findYearsThatWeigh_30 (f_X0_findYearsThatWeigh_84 (f_X0_findYearsThatWeigh_2 n)) FU) x1 (0 : Int32) σ5)))
set_option maxRecDepth 20000 in
theorem s_X0_findYearsThatWeigh_2 {R : Int32 × St} (C : gC p s m args meth c D ca ad 91 LC RX0 cX0_findYearsThatWeigh 3 (some .boolean)) : ∀ (n : Nat) (x1 : Int32) (σ : St), f_X0_findYearsThatWeigh_2 n x1 σ = some R → G p l e rm_X0_findYearsThatWeigh s m args below meth c D ca ad 91 LC 3 (gEnd below args s D ca ad 91 LC (some (.int R.1)) R.2) 2 [(0, .ref 70), (1, .int x1)] [] σ := by
  intro n
  induction n with
  | zero =>
    intro x1 σ h
    have h : none = some R := h
    cases h
  | succ n ih =>
    intro x1 σ h
    rw [f_X0_findYearsThatWeigh_2] at h
    refine g_iload_n C 1 dX0_findYearsThatWeigh_2 rfl ?_
    refine g_aload_n C 0 dX0_findYearsThatWeigh_3 rfl ?_
    refine g_getA C 0 63 rfl q_X0_50 rfl rfl dX0_findYearsThatWeigh_4 ?_
    refine g_getI C 1 rfl q_X0_88 rfl dX0_findYearsThatWeigh_7 ?_
    refine g_icmp_ge C 112 dX0_findYearsThatWeigh_10 (by decide) (fun hc1 => ?_) (fun hc1 => ?_)
    · have h := ite_t hc1 h
      refine g_iconst C (1 : Int32) dX0_findYearsThatWeigh_112 rfl ?_
      obtain rfl := Option.some.inj h
      exact g_zret C nz1 dX0_findYearsThatWeigh_113
    · have h := ite_f hc1 h
      refine g_aload_n C 0 dX0_findYearsThatWeigh_13 rfl ?_
      refine g_getR C 3 72 rfl q_X0_19 rfl rfl dX0_findYearsThatWeigh_14 ?_
      refine g_iload_n C 1 dX0_findYearsThatWeigh_17 rfl ?_
      refine g_bipush C (40 : Int32) dX0_findYearsThatWeigh_18 rfl ?_
      obtain ⟨hi2, h⟩ := cI_some h
      refine g_iast C 7 rfl ho_11 hi2 dX0_findYearsThatWeigh_20 ?_
      refine g_nmS (fun σ3 eσ3 => ?_)
      have h := ap_at eσ3 h
      refine g_aload_n C 0 dX0_findYearsThatWeigh_21 rfl ?_
      refine g_getR C 4 73 rfl q_X0_22 rfl rfl dX0_findYearsThatWeigh_22 ?_
      refine g_iload_n C 1 dX0_findYearsThatWeigh_25 rfl ?_
      refine g_iconst C (-1 : Int32) dX0_findYearsThatWeigh_26 rfl ?_
      obtain ⟨hi4, h⟩ := cI_some h
      refine g_iast C 7 rfl ho_11 hi4 dX0_findYearsThatWeigh_27 ?_
      refine g_nmS (fun σ5 eσ5 => ?_)
      have h := ap_at eσ5 h
      refine g_iconst C (0 : Int32) dX0_findYearsThatWeigh_28 rfl ?_
      refine g_istore_n C [(2, .int (0 : Int32)), (0, .ref 70), (1, .int x1)] dX0_findYearsThatWeigh_29 (by decide) rfl ?_
      exact g_sub [1, 2, 0] rfl ((s_X0_findYearsThatWeigh_30 C (s_X0_findYearsThatWeigh_84 C ih) FU) x1 (0 : Int32) σ5 h)
def f_X0_findYearsThatWeigh (σ : St) : Option (Int32 × St) := (f_X0_findYearsThatWeigh_2 FU) (0 : Int32) σ
set_option maxRecDepth 20000 in
theorem m_X0_findYearsThatWeigh {l : Launch} {D : va_G} {ca : Nat → ClassId} {ad : Nat → Nat} {σ : St} {R : Int32 × St} (h : f_X0_findYearsThatWeigh σ = some R) : gM l D ca ad 91 LC yX0_findYearsThatWeigh cX0_findYearsThatWeigh 3 (some .boolean) rm_X0_findYearsThatWeigh [.ref 70] σ (some (.int R.1)) R.2 := by
  refine gM_of (by decide) (Nat.le_of_ble_eq_true rfl) (fun p e s m args below meth c C => ?_)
  refine g_ent (ls' := [(0, .ref 70)]) rfl ?_
  unfold f_X0_findYearsThatWeigh at h
  refine g_iconst C (0 : Int32) dX0_findYearsThatWeigh_0 rfl ?_
  refine g_istore_n C [(1, .int (0 : Int32)), (0, .ref 70)] dX0_findYearsThatWeigh_1 (by decide) rfl ?_
  exact g_sub [1, 0] rfl ((s_X0_findYearsThatWeigh_2 C FU) (0 : Int32) σ h)
def f_X0_listOpenSets_65 (kk22 : Int32 → Int32 → Int32 → St → Option (St)) (x1 : Int32) (x3 : Int32) (xs0 : Int32) (xs1 : Int32) (σ : St) : Option (St) := kk22 x1 (xs1 ||| xs0) (x3 + (1 : Int32)) σ
set_option maxRecDepth 20000 in
theorem s_X0_listOpenSets_65 {R : St} (C : gC p s m args meth c D ca ad 91 LC RX0 cX0_listOpenSets 5 none) {kk22 : Int32 → Int32 → Int32 → St → Option (St)} (HK22 : ∀ (x1 : Int32) (x2 : Int32) (x3 : Int32) (σ : St), kk22 x1 x2 x3 σ = some R → G p l e rm_X0_listOpenSets s m args below meth c D ca ad 91 LC 5 (gEnd below args s D ca ad 91 LC none R) 22 [(0, .ref 70), (1, .int x1), (2, .int x2), (3, .int x3)] [] σ) (x1 : Int32) (x3 : Int32) (xs0 : Int32) (xs1 : Int32) (σ : St) (h : f_X0_listOpenSets_65 kk22 x1 x3 xs0 xs1 σ = some R) : G p l e rm_X0_listOpenSets s m args below meth c D ca ad 91 LC 5 (gEnd below args s D ca ad 91 LC none R) 65 [(0, .ref 70), (1, .int x1), (3, .int x3)] [.int xs0, .int xs1] σ := by
  unfold f_X0_listOpenSets_65 at h
  refine g_ior C dX0_listOpenSets_65 ?_
  refine g_istore_n C [(2, .int (xs1 ||| xs0)), (0, .ref 70), (1, .int x1), (3, .int x3)] dX0_listOpenSets_66 (by decide) rfl ?_
  refine g_iinc C 3 [(3, .int (x3 + (1 : Int32))), (2, .int (xs1 ||| xs0)), (0, .ref 70), (1, .int x1)] dX0_listOpenSets_67 rfl rfl (by decide) rfl ?_
  refine g_goto C 22 dX0_listOpenSets_70 (by decide) ?_
  exact g_sub [2, 3, 1, 0] rfl (HK22 x1 (xs1 ||| xs0) (x3 + (1 : Int32)) σ h)
def f_X0_listOpenSets_22 (kk73 : Int32 → Int32 → St → Option (St)) : Nat → Int32 → Int32 → Int32 → St → Option (St)
  | 0, _, _, _, _ => none
  | n + 1, x1, x2, x3, σ => (if (σ.1 70 2) ≤ x3 then kk73 x1 x2 σ else cI (ix x3 7) (ap (σ.1 71 x3.toNatClampNeg) fun z3 => (if ((x1 >>> (z3 &&& 31)) &&& (1 : Int32)) = 0 then (f_X0_listOpenSets_65 (f_X0_listOpenSets_22 kk73 n)) x1 x3 (0 : Int32) x2 σ else cI (ix z3 7) ((f_X0_listOpenSets_65 (f_X0_listOpenSets_22 kk73 n)) x1 x3 (σ.1 69 z3.toNatClampNeg) x2 σ))))
set_option maxRecDepth 20000 in
theorem s_X0_listOpenSets_22 {R : St} (C : gC p s m args meth c D ca ad 91 LC RX0 cX0_listOpenSets 5 none) {kk73 : Int32 → Int32 → St → Option (St)} (HK73 : ∀ (x1 : Int32) (x2 : Int32) (σ : St), kk73 x1 x2 σ = some R → G p l e rm_X0_listOpenSets s m args below meth c D ca ad 91 LC 5 (gEnd below args s D ca ad 91 LC none R) 73 [(0, .ref 70), (1, .int x1), (2, .int x2)] [] σ) : ∀ (n : Nat) (x1 : Int32) (x2 : Int32) (x3 : Int32) (σ : St), f_X0_listOpenSets_22 kk73 n x1 x2 x3 σ = some R → G p l e rm_X0_listOpenSets s m args below meth c D ca ad 91 LC 5 (gEnd below args s D ca ad 91 LC none R) 22 [(0, .ref 70), (1, .int x1), (2, .int x2), (3, .int x3)] [] σ := by
  intro n
  induction n with
  | zero =>
    intro x1 x2 x3 σ h
    have h : none = some R := h
    cases h
  | succ n ih =>
    intro x1 x2 x3 σ h
    rw [f_X0_listOpenSets_22] at h
    refine g_iload_n C 3 dX0_listOpenSets_22 rfl ?_
    refine g_aload_n C 0 dX0_listOpenSets_23 rfl ?_
    refine g_getI C 2 rfl q_X0_15 rfl dX0_listOpenSets_24 ?_
    refine g_icmp_ge C 73 dX0_listOpenSets_27 (by decide) (fun hc1 => ?_) (fun hc1 => ?_)
    · have h := ite_t hc1 h
      exact g_sub [0, 1, 2] rfl (HK73 x1 x2 σ h)
    · have h := ite_f hc1 h
      refine g_aload_n C 0 dX0_listOpenSets_30 rfl ?_
      refine g_getR C 1 71 rfl q_X0_9 rfl rfl dX0_listOpenSets_31 ?_
      refine g_iload_n C 3 dX0_listOpenSets_34 rfl ?_
      obtain ⟨hi2, h⟩ := cI_some h
      refine g_iald C 7 rfl ho_11 hi2 dX0_listOpenSets_35 ?_
      refine g_nmI (fun z3 ez3 => ?_)
      have h := ap_at ez3 h
      refine g_istore C [(4, .int z3), (0, .ref 70), (1, .int x1), (2, .int x2), (3, .int x3)] dX0_listOpenSets_36 (by decide) rfl ?_
      refine g_iload_n C 3 dX0_listOpenSets_38 rfl ?_
      refine g_iload_n C 2 dX0_listOpenSets_39 rfl ?_
      refine g_iload C 0 dX0_listOpenSets_40 rfl ?_
      refine g_ishr C dX0_listOpenSets_42 ?_
      refine g_iconst C (1 : Int32) dX0_listOpenSets_43 rfl ?_
      refine g_iand C dX0_listOpenSets_44 ?_
      refine g_if_eq C 64 dX0_listOpenSets_45 (by decide) (fun hc4 => ?_) (fun hc4 => ?_)
      · have h := ite_t hc4 h
        refine g_iconst C (0 : Int32) dX0_listOpenSets_64 rfl ?_
        exact g_sub [1, 2, 4] rfl ((s_X0_listOpenSets_65 C ih) x1 x3 (0 : Int32) x2 σ h)
      · have h := ite_f hc4 h
        refine g_aload_n C 1 dX0_listOpenSets_48 rfl ?_
        refine g_getA C 0 63 rfl q_X0_50 rfl rfl dX0_listOpenSets_49 ?_
        refine g_getR C 6 67 rfl q_X0_105 rfl rfl dX0_listOpenSets_52 ?_
        refine g_getR C 1 69 rfl q_X0_114 rfl rfl dX0_listOpenSets_55 ?_
        refine g_iload C 0 dX0_listOpenSets_58 rfl ?_
        obtain ⟨hi5, h⟩ := cI_some h
        refine g_iald C 7 rfl ho_11 hi5 dX0_listOpenSets_60 ?_
        refine g_goto C 65 dX0_listOpenSets_61 (by decide) ?_
        exact g_sub [1, 2, 4] rfl ((s_X0_listOpenSets_65 C ih) x1 x3 (σ.1 69 z3.toNatClampNeg) x2 σ h)
def f_X0_listOpenSets_101 (kk7 : Int32 → St → Option (St)) (x1 : Int32) (σ : St) : Option (St) := kk7 (x1 + (1 : Int32)) σ
set_option maxRecDepth 20000 in
theorem s_X0_listOpenSets_101 {R : St} (C : gC p s m args meth c D ca ad 91 LC RX0 cX0_listOpenSets 5 none) {kk7 : Int32 → St → Option (St)} (HK7 : ∀ (x1 : Int32) (σ : St), kk7 x1 σ = some R → G p l e rm_X0_listOpenSets s m args below meth c D ca ad 91 LC 5 (gEnd below args s D ca ad 91 LC none R) 7 [(0, .ref 70), (1, .int x1)] [] σ) (x1 : Int32) (σ : St) (h : f_X0_listOpenSets_101 kk7 x1 σ = some R) : G p l e rm_X0_listOpenSets s m args below meth c D ca ad 91 LC 5 (gEnd below args s D ca ad 91 LC none R) 101 [(0, .ref 70), (1, .int x1)] [] σ := by
  unfold f_X0_listOpenSets_101 at h
  refine g_iinc C 1 [(1, .int (x1 + (1 : Int32))), (0, .ref 70)] dX0_listOpenSets_101 rfl rfl (by decide) rfl ?_
  refine g_goto C 7 dX0_listOpenSets_104 (by decide) ?_
  exact g_sub [1, 0] rfl (HK7 (x1 + (1 : Int32)) σ h)
def f_X0_listOpenSets_73 (kk7 : Int32 → St → Option (St)) (x1 : Int32) (x2 : Int32) (σ : St) : Option (St) := (if (x2 &&& (x1 ^^^ (-1 : Int32))) = 0 then (f_X0_listOpenSets_101 kk7) x1 σ else cI (ix (σ.1 70 8) 128) (ap (up1 σ 76 (σ.1 70 8).toNatClampNeg x1) fun σ3 => ap (up1 σ3 70 8 ((σ3.1 70 8) + (1 : Int32))) fun σ4 => (f_X0_listOpenSets_101 kk7) x1 σ4))
set_option maxRecDepth 20000 in
theorem s_X0_listOpenSets_73 {R : St} (C : gC p s m args meth c D ca ad 91 LC RX0 cX0_listOpenSets 5 none) {kk7 : Int32 → St → Option (St)} (HK7 : ∀ (x1 : Int32) (σ : St), kk7 x1 σ = some R → G p l e rm_X0_listOpenSets s m args below meth c D ca ad 91 LC 5 (gEnd below args s D ca ad 91 LC none R) 7 [(0, .ref 70), (1, .int x1)] [] σ) (x1 : Int32) (x2 : Int32) (σ : St) (h : f_X0_listOpenSets_73 kk7 x1 x2 σ = some R) : G p l e rm_X0_listOpenSets s m args below meth c D ca ad 91 LC 5 (gEnd below args s D ca ad 91 LC none R) 73 [(0, .ref 70), (1, .int x1), (2, .int x2)] [] σ := by
  unfold f_X0_listOpenSets_73 at h
  refine g_iload_n C 2 dX0_listOpenSets_73 rfl ?_
  refine g_iload_n C 1 dX0_listOpenSets_74 rfl ?_
  refine g_iconst C (-1 : Int32) dX0_listOpenSets_75 rfl ?_
  refine g_ixor C dX0_listOpenSets_76 ?_
  refine g_iand C dX0_listOpenSets_77 ?_
  refine g_if_eq C 101 dX0_listOpenSets_78 (by decide) (fun hc1 => ?_) (fun hc1 => ?_)
  · have h := ite_t hc1 h
    exact g_sub [0, 1] rfl ((s_X0_listOpenSets_101 C HK7) x1 σ h)
  · have h := ite_f hc1 h
    refine g_aload_n C 0 dX0_listOpenSets_81 rfl ?_
    refine g_getR C 7 76 rfl q_X0_31 rfl rfl dX0_listOpenSets_82 ?_
    refine g_aload_n C 0 dX0_listOpenSets_85 rfl ?_
    refine g_getI C 8 rfl q_X0_34 rfl dX0_listOpenSets_86 ?_
    refine g_iload_n C 1 dX0_listOpenSets_89 rfl ?_
    obtain ⟨hi2, h⟩ := cI_some h
    refine g_iast C 128 rfl ho_16 hi2 dX0_listOpenSets_90 ?_
    refine g_nmS (fun σ3 eσ3 => ?_)
    have h := ap_at eσ3 h
    refine g_aload_n C 0 dX0_listOpenSets_91 rfl ?_
    refine g_dup C rfl dX0_listOpenSets_92 ?_
    refine g_getI C 8 rfl q_X0_34 rfl dX0_listOpenSets_93 ?_
    refine g_iconst C (1 : Int32) dX0_listOpenSets_96 rfl ?_
    refine g_iadd C dX0_listOpenSets_97 ?_
    refine g_putI C 8 rfl qp_X0_34 rfl dX0_listOpenSets_98 ?_
    refine g_nmS (fun σ4 eσ4 => ?_)
    have h := ap_at eσ4 h
    exact g_sub [0, 1] rfl ((s_X0_listOpenSets_101 C HK7) x1 σ4 h)
def f_X0_listOpenSets_7 : Nat → Int32 → St → Option (St)
  | 0, _, _ => none
  | n + 1, x1, σ => (if (σ.1 63 2) < x1 then some σ else (f_X0_listOpenSets_22 (f_X0_listOpenSets_73 (f_X0_listOpenSets_7 n)) FU) x1 (0 : Int32) (0 : Int32) σ)
set_option maxRecDepth 20000 in
theorem s_X0_listOpenSets_7 {R : St} (C : gC p s m args meth c D ca ad 91 LC RX0 cX0_listOpenSets 5 none) : ∀ (n : Nat) (x1 : Int32) (σ : St), f_X0_listOpenSets_7 n x1 σ = some R → G p l e rm_X0_listOpenSets s m args below meth c D ca ad 91 LC 5 (gEnd below args s D ca ad 91 LC none R) 7 [(0, .ref 70), (1, .int x1)] [] σ := by
  intro n
  induction n with
  | zero =>
    intro x1 σ h
    have h : none = some R := h
    cases h
  | succ n ih =>
    intro x1 σ h
    rw [f_X0_listOpenSets_7] at h
    refine g_iload_n C 1 dX0_listOpenSets_7 rfl ?_
    refine g_aload_n C 0 dX0_listOpenSets_8 rfl ?_
    refine g_getA C 0 63 rfl q_X0_50 rfl rfl dX0_listOpenSets_9 ?_
    refine g_getI C 2 rfl q_X0_73 rfl dX0_listOpenSets_12 ?_
    refine g_icmp_gt C 107 dX0_listOpenSets_15 (by decide) (fun hc1 => ?_) (fun hc1 => ?_)
    · have h := ite_t hc1 h
      obtain rfl := Option.some.inj h
      exact g_vret C dX0_listOpenSets_107
    · have h := ite_f hc1 h
      refine g_iconst C (0 : Int32) dX0_listOpenSets_18 rfl ?_
      refine g_istore_n C [(2, .int (0 : Int32)), (0, .ref 70), (1, .int x1)] dX0_listOpenSets_19 (by decide) rfl ?_
      refine g_iconst C (0 : Int32) dX0_listOpenSets_20 rfl ?_
      refine g_istore_n C [(3, .int (0 : Int32)), (2, .int (0 : Int32)), (0, .ref 70), (1, .int x1)] dX0_listOpenSets_21 (by decide) rfl ?_
      exact g_sub [2, 3, 1, 0] rfl ((s_X0_listOpenSets_22 C (s_X0_listOpenSets_73 C ih) FU) x1 (0 : Int32) (0 : Int32) σ h)
def f_X0_listOpenSets (σ : St) : Option (St) := ap (up1 σ 70 8 (0 : Int32)) fun σ1 => (f_X0_listOpenSets_7 FU) (0 : Int32) σ1
set_option maxRecDepth 20000 in
theorem m_X0_listOpenSets {l : Launch} {D : va_G} {ca : Nat → ClassId} {ad : Nat → Nat} {σ : St} {R : St} (h : f_X0_listOpenSets σ = some R) : gM l D ca ad 91 LC yX0_listOpenSets cX0_listOpenSets 5 none rm_X0_listOpenSets [.ref 70] σ none R := by
  refine gM_of (by decide) (Nat.le_of_ble_eq_true rfl) (fun p e s m args below meth c C => ?_)
  refine g_ent (ls' := [(0, .ref 70)]) rfl ?_
  unfold f_X0_listOpenSets at h
  refine g_aload_n C 0 dX0_listOpenSets_0 rfl ?_
  refine g_iconst C (0 : Int32) dX0_listOpenSets_1 rfl ?_
  refine g_putI C 8 rfl qp_X0_34 rfl dX0_listOpenSets_2 ?_
  refine g_nmS (fun σ1 eσ1 => ?_)
  have h := ap_at eσ1 h
  refine g_iconst C (0 : Int32) dX0_listOpenSets_5 rfl ?_
  refine g_istore_n C [(1, .int (0 : Int32)), (0, .ref 70)] dX0_listOpenSets_6 (by decide) rfl ?_
  exact g_sub [1, 0] rfl ((s_X0_listOpenSets_7 C FU) (0 : Int32) σ1 h)
def f_X0_rankFinds_124 (kk31 : Int32 → Int32 → Int32 → Int32 → St → Option (Int32 × St)) (x1 : Int32) (x2 : Int32) (x3 : Int32) (x4 : Int32) (σ : St) : Option (Int32 × St) := kk31 x1 x2 x3 (x4 + (1 : Int32)) σ
set_option maxRecDepth 20000 in
theorem s_X0_rankFinds_124 {R : Int32 × St} (C : gC p s m args meth c D ca ad 91 LC RX0 cX0_rankFinds 6 (some .boolean)) {kk31 : Int32 → Int32 → Int32 → Int32 → St → Option (Int32 × St)} (HK31 : ∀ (x1 : Int32) (x2 : Int32) (x3 : Int32) (x4 : Int32) (σ : St), kk31 x1 x2 x3 x4 σ = some R → G p l e rm_X0_rankFinds s m args below meth c D ca ad 91 LC 6 (gEnd below args s D ca ad 91 LC (some (.int R.1)) R.2) 31 [(0, .ref 70), (1, .int x1), (2, .int x2), (3, .int x3), (4, .int x4)] [] σ) (x1 : Int32) (x2 : Int32) (x3 : Int32) (x4 : Int32) (σ : St) (h : f_X0_rankFinds_124 kk31 x1 x2 x3 x4 σ = some R) : G p l e rm_X0_rankFinds s m args below meth c D ca ad 91 LC 6 (gEnd below args s D ca ad 91 LC (some (.int R.1)) R.2) 124 [(0, .ref 70), (1, .int x1), (2, .int x2), (3, .int x3), (4, .int x4)] [] σ := by
  unfold f_X0_rankFinds_124 at h
  refine g_iinc C 4 [(4, .int (x4 + (1 : Int32))), (0, .ref 70), (1, .int x1), (2, .int x2), (3, .int x3)] dX0_rankFinds_124 rfl rfl (by decide) rfl ?_
  refine g_goto C 31 dX0_rankFinds_127 (by decide) ?_
  exact g_sub [1, 2, 3, 4, 0] rfl (HK31 x1 x2 x3 (x4 + (1 : Int32)) σ h)
def f_X0_rankFinds_69 (kk31 : Int32 → Int32 → Int32 → Int32 → St → Option (Int32 × St)) (x1 : Int32) (x2 : Int32) (x3 : Int32) (x4 : Int32) (xs0 : Int32) (σ : St) : Option (Int32 × St) := (if xs0 = 0 then (f_X0_rankFinds_124 kk31) x1 x2 x3 x4 σ else cI (ix x4 7) ((if ((σ.1 68 x4.toNatClampNeg) &&& (x1 ^^^ (-1 : Int32))) = 0 then cI (ix (σ.1 70 2) 7) (ap (up1 σ 71 (σ.1 70 2).toNatClampNeg x4) fun σ5 => ap (up1 σ5 70 2 ((σ5.1 70 2) + (1 : Int32))) fun σ6 => ap (x1 ||| ((1 : Int32) <<< (x4 &&& 31))) fun z7 => (f_X0_rankFinds_124 kk31) z7 x2 x3 x4 σ6) else (f_X0_rankFinds_124 kk31) x1 x2 x3 x4 σ)))
set_option maxRecDepth 20000 in
theorem s_X0_rankFinds_69 {R : Int32 × St} (C : gC p s m args meth c D ca ad 91 LC RX0 cX0_rankFinds 6 (some .boolean)) {kk31 : Int32 → Int32 → Int32 → Int32 → St → Option (Int32 × St)} (HK31 : ∀ (x1 : Int32) (x2 : Int32) (x3 : Int32) (x4 : Int32) (σ : St), kk31 x1 x2 x3 x4 σ = some R → G p l e rm_X0_rankFinds s m args below meth c D ca ad 91 LC 6 (gEnd below args s D ca ad 91 LC (some (.int R.1)) R.2) 31 [(0, .ref 70), (1, .int x1), (2, .int x2), (3, .int x3), (4, .int x4)] [] σ) (x1 : Int32) (x2 : Int32) (x3 : Int32) (x4 : Int32) (xs0 : Int32) (σ : St) (h : f_X0_rankFinds_69 kk31 x1 x2 x3 x4 xs0 σ = some R) : G p l e rm_X0_rankFinds s m args below meth c D ca ad 91 LC 6 (gEnd below args s D ca ad 91 LC (some (.int R.1)) R.2) 69 [(0, .ref 70), (1, .int x1), (2, .int x2), (3, .int x3), (4, .int x4)] [.int xs0] σ := by
  unfold f_X0_rankFinds_69 at h
  refine g_istore C [(5, .int xs0), (0, .ref 70), (1, .int x1), (2, .int x2), (3, .int x3), (4, .int x4)] dX0_rankFinds_69 (by decide) rfl ?_
  refine g_iload C 0 dX0_rankFinds_71 rfl ?_
  refine g_if_eq C 124 dX0_rankFinds_73 (by decide) (fun hc1 => ?_) (fun hc1 => ?_)
  · have h := ite_t hc1 h
    exact g_sub [1, 2, 3, 4, 5] rfl ((s_X0_rankFinds_124 C HK31) x1 x2 x3 x4 σ h)
  · have h := ite_f hc1 h
    refine g_aload_n C 1 dX0_rankFinds_76 rfl ?_
    refine g_getA C 0 63 rfl q_X0_50 rfl rfl dX0_rankFinds_77 ?_
    refine g_getR C 6 67 rfl q_X0_105 rfl rfl dX0_rankFinds_80 ?_
    refine g_getR C 0 68 rfl q_X0_109 rfl rfl dX0_rankFinds_83 ?_
    refine g_iload C 5 dX0_rankFinds_86 rfl ?_
    obtain ⟨hi2, h⟩ := cI_some h
    refine g_iald C 7 rfl ho_11 hi2 dX0_rankFinds_88 ?_
    refine g_iload_n C 2 dX0_rankFinds_89 rfl ?_
    refine g_iconst C (-1 : Int32) dX0_rankFinds_90 rfl ?_
    refine g_ixor C dX0_rankFinds_91 ?_
    refine g_iand C dX0_rankFinds_92 ?_
    refine g_if_ne C 124 dX0_rankFinds_93 (by decide) (fun hc3 => ?_) (fun hc3 => ?_)
    · have h := ite_f hc3 h
      exact g_sub [1, 2, 3, 4, 5] rfl ((s_X0_rankFinds_124 C HK31) x1 x2 x3 x4 σ h)
    · have h := ite_t hc3 h
      refine g_aload_n C 1 dX0_rankFinds_96 rfl ?_
      refine g_getR C 1 71 rfl q_X0_9 rfl rfl dX0_rankFinds_97 ?_
      refine g_aload_n C 1 dX0_rankFinds_100 rfl ?_
      refine g_getI C 2 rfl q_X0_15 rfl dX0_rankFinds_101 ?_
      refine g_iload C 5 dX0_rankFinds_104 rfl ?_
      obtain ⟨hi4, h⟩ := cI_some h
      refine g_iast C 7 rfl ho_11 hi4 dX0_rankFinds_106 ?_
      refine g_nmS (fun σ5 eσ5 => ?_)
      have h := ap_at eσ5 h
      refine g_aload_n C 1 dX0_rankFinds_107 rfl ?_
      refine g_dup C rfl dX0_rankFinds_108 ?_
      refine g_getI C 2 rfl q_X0_15 rfl dX0_rankFinds_109 ?_
      refine g_iconst C (1 : Int32) dX0_rankFinds_112 rfl ?_
      refine g_iadd C dX0_rankFinds_113 ?_
      refine g_putI C 2 rfl qp_X0_15 rfl dX0_rankFinds_114 ?_
      refine g_nmS (fun σ6 eσ6 => ?_)
      have h := ap_at eσ6 h
      refine g_iload_n C 2 dX0_rankFinds_117 rfl ?_
      refine g_iconst C (1 : Int32) dX0_rankFinds_118 rfl ?_
      refine g_iload C 5 dX0_rankFinds_119 rfl ?_
      refine g_ishl C dX0_rankFinds_121 ?_
      refine g_ior C dX0_rankFinds_122 ?_
      refine g_nmI (fun z7 ez7 => ?_)
      have h := ap_at ez7 h
      refine g_istore_n C [(1, .int z7), (5, .int xs0), (0, .ref 70), (2, .int x2), (3, .int x3), (4, .int x4)] dX0_rankFinds_123 (by decide) rfl ?_
      exact g_sub [2, 0, 3, 4, 5] rfl ((s_X0_rankFinds_124 C HK31) z7 x2 x3 x4 σ6 h)
def f_X0_rankFinds_68 (kk31 : Int32 → Int32 → Int32 → Int32 → St → Option (Int32 × St)) (x1 : Int32) (x2 : Int32) (x3 : Int32) (x4 : Int32) (σ : St) : Option (Int32 × St) := (f_X0_rankFinds_69 kk31) x1 x2 x3 x4 (0 : Int32) σ
set_option maxRecDepth 20000 in
theorem s_X0_rankFinds_68 {R : Int32 × St} (C : gC p s m args meth c D ca ad 91 LC RX0 cX0_rankFinds 6 (some .boolean)) {kk31 : Int32 → Int32 → Int32 → Int32 → St → Option (Int32 × St)} (HK31 : ∀ (x1 : Int32) (x2 : Int32) (x3 : Int32) (x4 : Int32) (σ : St), kk31 x1 x2 x3 x4 σ = some R → G p l e rm_X0_rankFinds s m args below meth c D ca ad 91 LC 6 (gEnd below args s D ca ad 91 LC (some (.int R.1)) R.2) 31 [(0, .ref 70), (1, .int x1), (2, .int x2), (3, .int x3), (4, .int x4)] [] σ) (x1 : Int32) (x2 : Int32) (x3 : Int32) (x4 : Int32) (σ : St) (h : f_X0_rankFinds_68 kk31 x1 x2 x3 x4 σ = some R) : G p l e rm_X0_rankFinds s m args below meth c D ca ad 91 LC 6 (gEnd below args s D ca ad 91 LC (some (.int R.1)) R.2) 68 [(0, .ref 70), (1, .int x1), (2, .int x2), (3, .int x3), (4, .int x4)] [] σ := by
  unfold f_X0_rankFinds_68 at h
  refine g_iconst C (0 : Int32) dX0_rankFinds_68 rfl ?_
  exact g_sub [0, 1, 2, 3, 4] rfl ((s_X0_rankFinds_69 C HK31) x1 x2 x3 x4 (0 : Int32) σ h)
def f_X0_rankFinds_31 (kk130 : Int32 → Int32 → Int32 → St → Option (Int32 × St)) : Nat → Int32 → Int32 → Int32 → Int32 → St → Option (Int32 × St)
  | 0, _, _, _, _, _ => none
  | n + 1, x1, x2, x3, x4, σ => (if (σ.1 63 1) ≤ x4 then kk130 x1 x2 x3 σ else (f_X6_isMember x4 σ).bind (fun q2 => (if q2.1 = 0 then (f_X0_rankFinds_68 (f_X0_rankFinds_31 kk130 n)) x1 x2 x3 x4 q2.2 else (if ((x1 >>> (x4 &&& 31)) &&& (1 : Int32)) = 0 then (f_X0_rankFinds_69 (f_X0_rankFinds_31 kk130 n)) x1 x2 x3 x4 (1 : Int32) q2.2 else (f_X0_rankFinds_68 (f_X0_rankFinds_31 kk130 n)) x1 x2 x3 x4 q2.2))))
set_option maxRecDepth 20000 in
theorem s_X0_rankFinds_31 {R : Int32 × St} (C : gC p s m args meth c D ca ad 91 LC RX0 cX0_rankFinds 6 (some .boolean)) {kk130 : Int32 → Int32 → Int32 → St → Option (Int32 × St)} (HK130 : ∀ (x1 : Int32) (x2 : Int32) (x3 : Int32) (σ : St), kk130 x1 x2 x3 σ = some R → G p l e rm_X0_rankFinds s m args below meth c D ca ad 91 LC 6 (gEnd below args s D ca ad 91 LC (some (.int R.1)) R.2) 130 [(0, .ref 70), (1, .int x1), (2, .int x2), (3, .int x3)] [] σ) : ∀ (n : Nat) (x1 : Int32) (x2 : Int32) (x3 : Int32) (x4 : Int32) (σ : St), f_X0_rankFinds_31 kk130 n x1 x2 x3 x4 σ = some R → G p l e rm_X0_rankFinds s m args below meth c D ca ad 91 LC 6 (gEnd below args s D ca ad 91 LC (some (.int R.1)) R.2) 31 [(0, .ref 70), (1, .int x1), (2, .int x2), (3, .int x3), (4, .int x4)] [] σ := by
  intro n
  induction n with
  | zero =>
    intro x1 x2 x3 x4 σ h
    have h : none = some R := h
    cases h
  | succ n ih =>
    intro x1 x2 x3 x4 σ h
    rw [f_X0_rankFinds_31] at h
    refine g_iload C 4 dX0_rankFinds_31 rfl ?_
    refine g_aload_n C 0 dX0_rankFinds_33 rfl ?_
    refine g_getA C 0 63 rfl q_X0_50 rfl rfl dX0_rankFinds_34 ?_
    refine g_getI C 1 rfl q_X0_88 rfl dX0_rankFinds_37 ?_
    refine g_icmp_ge C 130 dX0_rankFinds_40 (by decide) (fun hc1 => ?_) (fun hc1 => ?_)
    · have h := ite_t hc1 h
      exact g_sub [0, 1, 2, 3] rfl (HK130 x1 x2 x3 σ h)
    · have h := ite_f hc1 h
      refine g_aload_n C 0 dX0_rankFinds_43 rfl ?_
      refine g_getA C 0 63 rfl q_X0_50 rfl rfl dX0_rankFinds_44 ?_
      refine g_iload C 4 dX0_rankFinds_47 rfl ?_
      obtain ⟨q2, hq2, h⟩ := bd h
      refine g_callVI C [.int x4] qv_X0_101 (m_X6_isMember hq2) rfl (by decide) rfl rfl rfl ⟨rfl, rfl⟩ ⟨by decide, by decide⟩ (Nat.le_of_ble_eq_true rfl) dX0_rankFinds_49 ?_
      refine g_if_eq C 68 dX0_rankFinds_52 (by decide) (fun hc3 => ?_) (fun hc3 => ?_)
      · have h := ite_t hc3 h
        exact g_sub [0, 1, 2, 3, 4] rfl ((s_X0_rankFinds_68 C ih) x1 x2 x3 x4 q2.2 h)
      · have h := ite_f hc3 h
        refine g_iload_n C 1 dX0_rankFinds_55 rfl ?_
        refine g_iload C 4 dX0_rankFinds_56 rfl ?_
        refine g_ishr C dX0_rankFinds_58 ?_
        refine g_iconst C (1 : Int32) dX0_rankFinds_59 rfl ?_
        refine g_iand C dX0_rankFinds_60 ?_
        refine g_if_ne C 68 dX0_rankFinds_61 (by decide) (fun hc4 => ?_) (fun hc4 => ?_)
        · have h := ite_f hc4 h
          exact g_sub [0, 1, 2, 3, 4] rfl ((s_X0_rankFinds_68 C ih) x1 x2 x3 x4 q2.2 h)
        · have h := ite_t hc4 h
          refine g_iconst C (1 : Int32) dX0_rankFinds_64 rfl ?_
          refine g_goto C 69 dX0_rankFinds_65 (by decide) ?_
          exact g_sub [0, 1, 2, 3, 4] rfl ((s_X0_rankFinds_69 C ih) x1 x2 x3 x4 (1 : Int32) q2.2 h)
def f_X0_rankFinds_130 (kk9 : Int32 → Int32 → St → Option (Int32 × St)) (x1 : Int32) (x2 : Int32) (x3 : Int32) (σ : St) : Option (Int32 × St) := (if x1 = x3 then some ((0 : Int32), σ) else kk9 x1 (x2 + (1 : Int32)) σ)
set_option maxRecDepth 20000 in
theorem s_X0_rankFinds_130 {R : Int32 × St} (C : gC p s m args meth c D ca ad 91 LC RX0 cX0_rankFinds 6 (some .boolean)) {kk9 : Int32 → Int32 → St → Option (Int32 × St)} (HK9 : ∀ (x1 : Int32) (x2 : Int32) (σ : St), kk9 x1 x2 σ = some R → G p l e rm_X0_rankFinds s m args below meth c D ca ad 91 LC 6 (gEnd below args s D ca ad 91 LC (some (.int R.1)) R.2) 9 [(0, .ref 70), (1, .int x1), (2, .int x2)] [] σ) (x1 : Int32) (x2 : Int32) (x3 : Int32) (σ : St) (h : f_X0_rankFinds_130 kk9 x1 x2 x3 σ = some R) : G p l e rm_X0_rankFinds s m args below meth c D ca ad 91 LC 6 (gEnd below args s D ca ad 91 LC (some (.int R.1)) R.2) 130 [(0, .ref 70), (1, .int x1), (2, .int x2), (3, .int x3)] [] σ := by
  unfold f_X0_rankFinds_130 at h
  refine g_iload_n C 1 dX0_rankFinds_130 rfl ?_
  refine g_iload_n C 3 dX0_rankFinds_131 rfl ?_
  refine g_icmp_ne C 137 dX0_rankFinds_132 (by decide) (fun hc1 => ?_) (fun hc1 => ?_)
  · have h := ite_f hc1 h
    refine g_iinc C 2 [(2, .int (x2 + (1 : Int32))), (0, .ref 70), (1, .int x1), (3, .int x3)] dX0_rankFinds_137 rfl rfl (by decide) rfl ?_
    refine g_goto C 9 dX0_rankFinds_140 (by decide) ?_
    exact g_sub [1, 2, 0] rfl (HK9 x1 (x2 + (1 : Int32)) σ h)
  · have h := ite_t hc1 h
    refine g_iconst C (0 : Int32) dX0_rankFinds_135 rfl ?_
    obtain rfl := Option.some.inj h
    exact g_zret C nz0 dX0_rankFinds_136
def f_X0_rankFinds_9 (kk143 : Int32 → St → Option (Int32 × St)) : Nat → Int32 → Int32 → St → Option (Int32 × St)
  | 0, _, _, _ => none
  | n + 1, x1, x2, σ => (if (7 : Int32) ≤ x2 then kk143 x1 σ else (if x1 = (σ.1 63 2) then kk143 x1 σ else (f_X0_rankFinds_31 (f_X0_rankFinds_130 (f_X0_rankFinds_9 kk143 n)) FU) x1 x2 x1 (0 : Int32) σ))
set_option maxRecDepth 20000 in
theorem s_X0_rankFinds_9 {R : Int32 × St} (C : gC p s m args meth c D ca ad 91 LC RX0 cX0_rankFinds 6 (some .boolean)) {kk143 : Int32 → St → Option (Int32 × St)} (HK143 : ∀ (x1 : Int32) (σ : St), kk143 x1 σ = some R → G p l e rm_X0_rankFinds s m args below meth c D ca ad 91 LC 6 (gEnd below args s D ca ad 91 LC (some (.int R.1)) R.2) 143 [(0, .ref 70), (1, .int x1)] [] σ) : ∀ (n : Nat) (x1 : Int32) (x2 : Int32) (σ : St), f_X0_rankFinds_9 kk143 n x1 x2 σ = some R → G p l e rm_X0_rankFinds s m args below meth c D ca ad 91 LC 6 (gEnd below args s D ca ad 91 LC (some (.int R.1)) R.2) 9 [(0, .ref 70), (1, .int x1), (2, .int x2)] [] σ := by
  intro n
  induction n with
  | zero =>
    intro x1 x2 σ h
    have h : none = some R := h
    cases h
  | succ n ih =>
    intro x1 x2 σ h
    rw [f_X0_rankFinds_9] at h
    refine g_iload_n C 2 dX0_rankFinds_9 rfl ?_
    refine g_bipush C (7 : Int32) dX0_rankFinds_10 rfl ?_
    refine g_icmp_ge C 143 dX0_rankFinds_12 (by decide) (fun hc1 => ?_) (fun hc1 => ?_)
    · have h := ite_t hc1 h
      exact g_sub [0, 1] rfl (HK143 x1 σ h)
    · have h := ite_f hc1 h
      refine g_iload_n C 1 dX0_rankFinds_15 rfl ?_
      refine g_aload_n C 0 dX0_rankFinds_16 rfl ?_
      refine g_getA C 0 63 rfl q_X0_50 rfl rfl dX0_rankFinds_17 ?_
      refine g_getI C 2 rfl q_X0_73 rfl dX0_rankFinds_20 ?_
      refine g_icmp_eq C 143 dX0_rankFinds_23 (by decide) (fun hc2 => ?_) (fun hc2 => ?_)
      · have h := ite_t hc2 h
        exact g_sub [0, 1] rfl (HK143 x1 σ h)
      · have h := ite_f hc2 h
        refine g_iload_n C 1 dX0_rankFinds_26 rfl ?_
        refine g_istore_n C [(3, .int x1), (0, .ref 70), (1, .int x1), (2, .int x2)] dX0_rankFinds_27 (by decide) rfl ?_
        refine g_iconst C (0 : Int32) dX0_rankFinds_28 rfl ?_
        refine g_istore C [(4, .int (0 : Int32)), (3, .int x1), (0, .ref 70), (1, .int x1), (2, .int x2)] dX0_rankFinds_29 (by decide) rfl ?_
        exact g_sub [2, 3, 4, 1, 0] rfl ((s_X0_rankFinds_31 C (s_X0_rankFinds_130 C ih) FU) x1 x2 x1 (0 : Int32) σ h)
def f_X0_rankFinds_143 (x1 : Int32) (σ : St) : Option (Int32 × St) := (if x1 = (σ.1 63 2) then some ((1 : Int32), σ) else some ((0 : Int32), σ))
set_option maxRecDepth 20000 in
theorem s_X0_rankFinds_143 {R : Int32 × St} (C : gC p s m args meth c D ca ad 91 LC RX0 cX0_rankFinds 6 (some .boolean)) (x1 : Int32) (σ : St) (h : f_X0_rankFinds_143 x1 σ = some R) : G p l e rm_X0_rankFinds s m args below meth c D ca ad 91 LC 6 (gEnd below args s D ca ad 91 LC (some (.int R.1)) R.2) 143 [(0, .ref 70), (1, .int x1)] [] σ := by
  unfold f_X0_rankFinds_143 at h
  refine g_iload_n C 1 dX0_rankFinds_143 rfl ?_
  refine g_aload_n C 0 dX0_rankFinds_144 rfl ?_
  refine g_getA C 0 63 rfl q_X0_50 rfl rfl dX0_rankFinds_145 ?_
  refine g_getI C 2 rfl q_X0_73 rfl dX0_rankFinds_148 ?_
  refine g_icmp_ne C 158 dX0_rankFinds_151 (by decide) (fun hc1 => ?_) (fun hc1 => ?_)
  · have h := ite_f hc1 h
    refine g_iconst C (0 : Int32) dX0_rankFinds_158 rfl ?_
    obtain rfl := Option.some.inj h
    exact g_zret C nz0 dX0_rankFinds_159
  · have h := ite_t hc1 h
    refine g_iconst C (1 : Int32) dX0_rankFinds_154 rfl ?_
    refine g_goto C 159 dX0_rankFinds_155 (by decide) ?_
    obtain rfl := Option.some.inj h
    exact g_zret C nz1 dX0_rankFinds_159
def f_X0_rankFinds (σ : St) : Option (Int32 × St) := ap (up1 σ 70 2 (0 : Int32)) fun σ1 => (f_X0_rankFinds_9 (f_X0_rankFinds_143) FU) (0 : Int32) (0 : Int32) σ1
set_option maxRecDepth 20000 in
theorem m_X0_rankFinds {l : Launch} {D : va_G} {ca : Nat → ClassId} {ad : Nat → Nat} {σ : St} {R : Int32 × St} (h : f_X0_rankFinds σ = some R) : gM l D ca ad 91 LC yX0_rankFinds cX0_rankFinds 6 (some .boolean) rm_X0_rankFinds [.ref 70] σ (some (.int R.1)) R.2 := by
  refine gM_of (by decide) (Nat.le_of_ble_eq_true rfl) (fun p e s m args below meth c C => ?_)
  refine g_ent (ls' := [(0, .ref 70)]) rfl ?_
  unfold f_X0_rankFinds at h
  refine g_iconst C (0 : Int32) dX0_rankFinds_0 rfl ?_
  refine g_istore_n C [(1, .int (0 : Int32)), (0, .ref 70)] dX0_rankFinds_1 (by decide) rfl ?_
  refine g_aload_n C 1 dX0_rankFinds_2 rfl ?_
  refine g_iconst C (0 : Int32) dX0_rankFinds_3 rfl ?_
  refine g_putI C 2 rfl qp_X0_15 rfl dX0_rankFinds_4 ?_
  refine g_nmS (fun σ1 eσ1 => ?_)
  have h := ap_at eσ1 h
  refine g_iconst C (0 : Int32) dX0_rankFinds_7 rfl ?_
  refine g_istore_n C [(2, .int (0 : Int32)), (1, .int (0 : Int32)), (0, .ref 70)] dX0_rankFinds_8 (by decide) rfl ?_
  exact g_sub [2, 1, 0] rfl ((s_X0_rankFinds_9 C (s_X0_rankFinds_143 C) FU) (0 : Int32) (0 : Int32) σ1 h)
def f_X0_prepare_110 (kk45 : Int32 → Int32 → St → Option (Int32 × St)) (x1 : Int32) (x2 : Int32) (xs0 : Int32) (xs1 : Int32) (xs2 : Int32) (σ : St) : Option (Int32 × St) := cI (ix xs2 40) (ap (up1 σ 75 xs2.toNatClampNeg (xs1 ||| xs0)) fun σ2 => kk45 x1 (x2 + (1 : Int32)) σ2)
set_option maxRecDepth 20000 in
theorem s_X0_prepare_110 {R : Int32 × St} (C : gC p s m args meth c D ca ad 91 LC RX0 cX0_prepare 4 (some .boolean)) {kk45 : Int32 → Int32 → St → Option (Int32 × St)} (HK45 : ∀ (x1 : Int32) (x2 : Int32) (σ : St), kk45 x1 x2 σ = some R → G p l e rm_X0_prepare s m args below meth c D ca ad 91 LC 4 (gEnd below args s D ca ad 91 LC (some (.int R.1)) R.2) 45 [(0, .ref 70), (1, .int x1), (2, .int x2)] [] σ) (x1 : Int32) (x2 : Int32) (xs0 : Int32) (xs1 : Int32) (xs2 : Int32) (σ : St) (h : f_X0_prepare_110 kk45 x1 x2 xs0 xs1 xs2 σ = some R) : G p l e rm_X0_prepare s m args below meth c D ca ad 91 LC 4 (gEnd below args s D ca ad 91 LC (some (.int R.1)) R.2) 110 [(0, .ref 70), (1, .int x1), (2, .int x2)] [.int xs0, .int xs1, .int xs2, .ref 75] σ := by
  unfold f_X0_prepare_110 at h
  refine g_ior C dX0_prepare_110 ?_
  obtain ⟨hi1, h⟩ := cI_some h
  refine g_iast C 40 rfl ho_14 hi1 dX0_prepare_111 ?_
  refine g_nmS (fun σ2 eσ2 => ?_)
  have h := ap_at eσ2 h
  refine g_iinc C 2 [(2, .int (x2 + (1 : Int32))), (0, .ref 70), (1, .int x1)] dX0_prepare_112 rfl rfl (by decide) rfl ?_
  refine g_goto C 45 dX0_prepare_115 (by decide) ?_
  exact g_sub [1, 2, 0] rfl (HK45 x1 (x2 + (1 : Int32)) σ2 h)
def f_X0_prepare_84 (kk45 : Int32 → Int32 → St → Option (Int32 × St)) (x1 : Int32) (x2 : Int32) (x3 : Int32) (xs0 : Int32) (xs1 : Int32) (xs2 : Int32) (σ : St) : Option (Int32 × St) := cI (ix xs2 40) (ap (up1 σ 74 xs2.toNatClampNeg (xs1 ||| xs0)) fun σ2 => cI (ix x1 40) (cI (ix x3 7) ((if x1 ≤ (σ2.1 73 x3.toNatClampNeg) then (f_X0_prepare_110 kk45) x1 x2 (0 : Int32) (σ2.1 75 x1.toNatClampNeg) x1 σ2 else (f_X0_prepare_110 kk45) x1 x2 ((1 : Int32) <<< (x3 &&& 31)) (σ2.1 75 x1.toNatClampNeg) x1 σ2))))
set_option maxRecDepth 20000 in
theorem s_X0_prepare_84 {R : Int32 × St} (C : gC p s m args meth c D ca ad 91 LC RX0 cX0_prepare 4 (some .boolean)) {kk45 : Int32 → Int32 → St → Option (Int32 × St)} (HK45 : ∀ (x1 : Int32) (x2 : Int32) (σ : St), kk45 x1 x2 σ = some R → G p l e rm_X0_prepare s m args below meth c D ca ad 91 LC 4 (gEnd below args s D ca ad 91 LC (some (.int R.1)) R.2) 45 [(0, .ref 70), (1, .int x1), (2, .int x2)] [] σ) (x1 : Int32) (x2 : Int32) (x3 : Int32) (xs0 : Int32) (xs1 : Int32) (xs2 : Int32) (σ : St) (h : f_X0_prepare_84 kk45 x1 x2 x3 xs0 xs1 xs2 σ = some R) : G p l e rm_X0_prepare s m args below meth c D ca ad 91 LC 4 (gEnd below args s D ca ad 91 LC (some (.int R.1)) R.2) 84 [(0, .ref 70), (1, .int x1), (2, .int x2), (3, .int x3)] [.int xs0, .int xs1, .int xs2, .ref 74] σ := by
  unfold f_X0_prepare_84 at h
  refine g_ior C dX0_prepare_84 ?_
  obtain ⟨hi1, h⟩ := cI_some h
  refine g_iast C 40 rfl ho_14 hi1 dX0_prepare_85 ?_
  refine g_nmS (fun σ2 eσ2 => ?_)
  have h := ap_at eσ2 h
  refine g_aload_n C 0 dX0_prepare_86 rfl ?_
  refine g_getR C 6 75 rfl q_X0_28 rfl rfl dX0_prepare_87 ?_
  refine g_iload_n C 1 dX0_prepare_90 rfl ?_
  refine g_dup2 C rfl rfl dX0_prepare_91 ?_
  obtain ⟨hi3, h⟩ := cI_some h
  refine g_iald C 40 rfl ho_14 hi3 dX0_prepare_92 ?_
  refine g_aload_n C 0 dX0_prepare_93 rfl ?_
  refine g_getR C 4 73 rfl q_X0_22 rfl rfl dX0_prepare_94 ?_
  refine g_iload_n C 3 dX0_prepare_97 rfl ?_
  obtain ⟨hi4, h⟩ := cI_some h
  refine g_iald C 7 rfl ho_11 hi4 dX0_prepare_98 ?_
  refine g_iload_n C 1 dX0_prepare_99 rfl ?_
  refine g_icmp_ge C 109 dX0_prepare_100 (by decide) (fun hc5 => ?_) (fun hc5 => ?_)
  · have h := ite_t hc5 h
    refine g_iconst C (0 : Int32) dX0_prepare_109 rfl ?_
    exact g_sub [0, 1, 2] rfl ((s_X0_prepare_110 C HK45) x1 x2 (0 : Int32) (σ2.1 75 x1.toNatClampNeg) x1 σ2 h)
  · have h := ite_f hc5 h
    refine g_iconst C (1 : Int32) dX0_prepare_103 rfl ?_
    refine g_iload_n C 3 dX0_prepare_104 rfl ?_
    refine g_ishl C dX0_prepare_105 ?_
    refine g_goto C 110 dX0_prepare_106 (by decide) ?_
    exact g_sub [0, 1, 2] rfl ((s_X0_prepare_110 C HK45) x1 x2 ((1 : Int32) <<< (x3 &&& 31)) (σ2.1 75 x1.toNatClampNeg) x1 σ2 h)
def f_X0_prepare_45 (kk118 : Int32 → St → Option (Int32 × St)) : Nat → Int32 → Int32 → St → Option (Int32 × St)
  | 0, _, _, _ => none
  | n + 1, x1, x2, σ => (if (σ.1 70 2) ≤ x2 then kk118 x1 σ else cI (ix x2 7) (ap (σ.1 71 x2.toNatClampNeg) fun z3 => cI (ix x1 40) (cI (ix z3 7) ((if x1 < (σ.1 72 z3.toNatClampNeg) then (f_X0_prepare_84 (f_X0_prepare_45 kk118 n)) x1 x2 z3 (0 : Int32) (σ.1 74 x1.toNatClampNeg) x1 σ else (f_X0_prepare_84 (f_X0_prepare_45 kk118 n)) x1 x2 z3 ((1 : Int32) <<< (z3 &&& 31)) (σ.1 74 x1.toNatClampNeg) x1 σ)))))
set_option maxRecDepth 20000 in
theorem s_X0_prepare_45 {R : Int32 × St} (C : gC p s m args meth c D ca ad 91 LC RX0 cX0_prepare 4 (some .boolean)) {kk118 : Int32 → St → Option (Int32 × St)} (HK118 : ∀ (x1 : Int32) (σ : St), kk118 x1 σ = some R → G p l e rm_X0_prepare s m args below meth c D ca ad 91 LC 4 (gEnd below args s D ca ad 91 LC (some (.int R.1)) R.2) 118 [(0, .ref 70), (1, .int x1)] [] σ) : ∀ (n : Nat) (x1 : Int32) (x2 : Int32) (σ : St), f_X0_prepare_45 kk118 n x1 x2 σ = some R → G p l e rm_X0_prepare s m args below meth c D ca ad 91 LC 4 (gEnd below args s D ca ad 91 LC (some (.int R.1)) R.2) 45 [(0, .ref 70), (1, .int x1), (2, .int x2)] [] σ := by
  intro n
  induction n with
  | zero =>
    intro x1 x2 σ h
    have h : none = some R := h
    cases h
  | succ n ih =>
    intro x1 x2 σ h
    rw [f_X0_prepare_45] at h
    refine g_iload_n C 2 dX0_prepare_45 rfl ?_
    refine g_aload_n C 0 dX0_prepare_46 rfl ?_
    refine g_getI C 2 rfl q_X0_15 rfl dX0_prepare_47 ?_
    refine g_icmp_ge C 118 dX0_prepare_50 (by decide) (fun hc1 => ?_) (fun hc1 => ?_)
    · have h := ite_t hc1 h
      exact g_sub [0, 1] rfl (HK118 x1 σ h)
    · have h := ite_f hc1 h
      refine g_aload_n C 0 dX0_prepare_53 rfl ?_
      refine g_getR C 1 71 rfl q_X0_9 rfl rfl dX0_prepare_54 ?_
      refine g_iload_n C 2 dX0_prepare_57 rfl ?_
      obtain ⟨hi2, h⟩ := cI_some h
      refine g_iald C 7 rfl ho_11 hi2 dX0_prepare_58 ?_
      refine g_nmI (fun z3 ez3 => ?_)
      have h := ap_at ez3 h
      refine g_istore_n C [(3, .int z3), (0, .ref 70), (1, .int x1), (2, .int x2)] dX0_prepare_59 (by decide) rfl ?_
      refine g_aload_n C 1 dX0_prepare_60 rfl ?_
      refine g_getR C 5 74 rfl q_X0_25 rfl rfl dX0_prepare_61 ?_
      refine g_iload_n C 2 dX0_prepare_64 rfl ?_
      refine g_dup2 C rfl rfl dX0_prepare_65 ?_
      obtain ⟨hi4, h⟩ := cI_some h
      refine g_iald C 40 rfl ho_14 hi4 dX0_prepare_66 ?_
      refine g_aload_n C 1 dX0_prepare_67 rfl ?_
      refine g_getR C 3 72 rfl q_X0_19 rfl rfl dX0_prepare_68 ?_
      refine g_iload_n C 0 dX0_prepare_71 rfl ?_
      obtain ⟨hi5, h⟩ := cI_some h
      refine g_iald C 7 rfl ho_11 hi5 dX0_prepare_72 ?_
      refine g_iload_n C 2 dX0_prepare_73 rfl ?_
      refine g_icmp_gt C 83 dX0_prepare_74 (by decide) (fun hc6 => ?_) (fun hc6 => ?_)
      · have h := ite_t hc6 h
        refine g_iconst C (0 : Int32) dX0_prepare_83 rfl ?_
        exact g_sub [1, 2, 3, 0] rfl ((s_X0_prepare_84 C ih) x1 x2 z3 (0 : Int32) (σ.1 74 x1.toNatClampNeg) x1 σ h)
      · have h := ite_f hc6 h
        refine g_iconst C (1 : Int32) dX0_prepare_77 rfl ?_
        refine g_iload_n C 0 dX0_prepare_78 rfl ?_
        refine g_ishl C dX0_prepare_79 ?_
        refine g_goto C 84 dX0_prepare_80 (by decide) ?_
        exact g_sub [1, 2, 3, 0] rfl ((s_X0_prepare_84 C ih) x1 x2 z3 ((1 : Int32) <<< (z3 &&& 31)) (σ.1 74 x1.toNatClampNeg) x1 σ h)
def f_X0_prepare_118 (kk18 : Int32 → St → Option (Int32 × St)) (x1 : Int32) (σ : St) : Option (Int32 × St) := kk18 (x1 + (1 : Int32)) σ
set_option maxRecDepth 20000 in
theorem s_X0_prepare_118 {R : Int32 × St} (C : gC p s m args meth c D ca ad 91 LC RX0 cX0_prepare 4 (some .boolean)) {kk18 : Int32 → St → Option (Int32 × St)} (HK18 : ∀ (x1 : Int32) (σ : St), kk18 x1 σ = some R → G p l e rm_X0_prepare s m args below meth c D ca ad 91 LC 4 (gEnd below args s D ca ad 91 LC (some (.int R.1)) R.2) 18 [(0, .ref 70), (1, .int x1)] [] σ) (x1 : Int32) (σ : St) (h : f_X0_prepare_118 kk18 x1 σ = some R) : G p l e rm_X0_prepare s m args below meth c D ca ad 91 LC 4 (gEnd below args s D ca ad 91 LC (some (.int R.1)) R.2) 118 [(0, .ref 70), (1, .int x1)] [] σ := by
  unfold f_X0_prepare_118 at h
  refine g_iinc C 1 [(1, .int (x1 + (1 : Int32))), (0, .ref 70)] dX0_prepare_118 rfl rfl (by decide) rfl ?_
  refine g_goto C 18 dX0_prepare_121 (by decide) ?_
  exact g_sub [1, 0] rfl (HK18 (x1 + (1 : Int32)) σ h)
def f_X0_prepare_18 (kk124 : St → Option (Int32 × St)) : Nat → Int32 → St → Option (Int32 × St)
  | 0, _, _ => none
  | n + 1, x1, σ => (if (σ.1 63 0) ≤ x1 then kk124 σ else cI (ix x1 40) (ap (up1 σ 74 x1.toNatClampNeg (0 : Int32)) fun σ3 => cI (ix x1 40) (ap (up1 σ3 75 x1.toNatClampNeg (0 : Int32)) fun σ5 => (f_X0_prepare_45 (f_X0_prepare_118 (f_X0_prepare_18 kk124 n)) FU) x1 (0 : Int32) σ5)))
set_option maxRecDepth 20000 in
theorem s_X0_prepare_18 {R : Int32 × St} (C : gC p s m args meth c D ca ad 91 LC RX0 cX0_prepare 4 (some .boolean)) {kk124 : St → Option (Int32 × St)} (HK124 : ∀ (σ : St), kk124 σ = some R → G p l e rm_X0_prepare s m args below meth c D ca ad 91 LC 4 (gEnd below args s D ca ad 91 LC (some (.int R.1)) R.2) 124 [(0, .ref 70)] [] σ) : ∀ (n : Nat) (x1 : Int32) (σ : St), f_X0_prepare_18 kk124 n x1 σ = some R → G p l e rm_X0_prepare s m args below meth c D ca ad 91 LC 4 (gEnd below args s D ca ad 91 LC (some (.int R.1)) R.2) 18 [(0, .ref 70), (1, .int x1)] [] σ := by
  intro n
  induction n with
  | zero =>
    intro x1 σ h
    have h : none = some R := h
    cases h
  | succ n ih =>
    intro x1 σ h
    rw [f_X0_prepare_18] at h
    refine g_iload_n C 1 dX0_prepare_18 rfl ?_
    refine g_aload_n C 0 dX0_prepare_19 rfl ?_
    refine g_getA C 0 63 rfl q_X0_50 rfl rfl dX0_prepare_20 ?_
    refine g_getI C 0 rfl q_X0_64 rfl dX0_prepare_23 ?_
    refine g_icmp_ge C 124 dX0_prepare_26 (by decide) (fun hc1 => ?_) (fun hc1 => ?_)
    · have h := ite_t hc1 h
      exact g_sub [0] rfl (HK124 σ h)
    · have h := ite_f hc1 h
      refine g_aload_n C 0 dX0_prepare_29 rfl ?_
      refine g_getR C 5 74 rfl q_X0_25 rfl rfl dX0_prepare_30 ?_
      refine g_iload_n C 1 dX0_prepare_33 rfl ?_
      refine g_iconst C (0 : Int32) dX0_prepare_34 rfl ?_
      obtain ⟨hi2, h⟩ := cI_some h
      refine g_iast C 40 rfl ho_14 hi2 dX0_prepare_35 ?_
      refine g_nmS (fun σ3 eσ3 => ?_)
      have h := ap_at eσ3 h
      refine g_aload_n C 0 dX0_prepare_36 rfl ?_
      refine g_getR C 6 75 rfl q_X0_28 rfl rfl dX0_prepare_37 ?_
      refine g_iload_n C 1 dX0_prepare_40 rfl ?_
      refine g_iconst C (0 : Int32) dX0_prepare_41 rfl ?_
      obtain ⟨hi4, h⟩ := cI_some h
      refine g_iast C 40 rfl ho_14 hi4 dX0_prepare_42 ?_
      refine g_nmS (fun σ5 eσ5 => ?_)
      have h := ap_at eσ5 h
      refine g_iconst C (0 : Int32) dX0_prepare_43 rfl ?_
      refine g_istore_n C [(2, .int (0 : Int32)), (0, .ref 70), (1, .int x1)] dX0_prepare_44 (by decide) rfl ?_
      exact g_sub [1, 2, 0] rfl ((s_X0_prepare_45 C (s_X0_prepare_118 C ih) FU) x1 (0 : Int32) σ5 h)
def f_X0_prepare_124 (σ : St) : Option (Int32 × St) := (f_X0_listOpenSets σ).bind (fun q1 => some ((1 : Int32), q1))
set_option maxRecDepth 20000 in
theorem s_X0_prepare_124 {R : Int32 × St} (C : gC p s m args meth c D ca ad 91 LC RX0 cX0_prepare 4 (some .boolean)) (σ : St) (h : f_X0_prepare_124 σ = some R) : G p l e rm_X0_prepare s m args below meth c D ca ad 91 LC 4 (gEnd below args s D ca ad 91 LC (some (.int R.1)) R.2) 124 [(0, .ref 70)] [] σ := by
  unfold f_X0_prepare_124 at h
  refine g_aload_n C 0 dX0_prepare_124 rfl ?_
  obtain ⟨q1, hq1, h⟩ := bd h
  refine g_callVV C [] qv_X0_85 (m_X0_listOpenSets hq1) rfl (by decide) rfl rfl rfl ⟨rfl, rfl⟩ ⟨by decide, by decide⟩ (Nat.le_of_ble_eq_true rfl) dX0_prepare_125 ?_
  refine g_iconst C (1 : Int32) dX0_prepare_128 rfl ?_
  obtain rfl := Option.some.inj h
  exact g_zret C nz1 dX0_prepare_129
def f_X0_prepare (σ : St) : Option (Int32 × St) := (f_X0_findYearsThatWeigh σ).bind (fun q1 => (if q1.1 = 0 then some ((0 : Int32), q1.2) else (f_X0_rankFinds q1.2).bind (fun q3 => (if q3.1 = 0 then some ((0 : Int32), q3.2) else (f_X0_prepare_18 (f_X0_prepare_124) FU) (0 : Int32) q3.2))))
set_option maxRecDepth 20000 in
theorem m_X0_prepare {l : Launch} {D : va_G} {ca : Nat → ClassId} {ad : Nat → Nat} {σ : St} {R : Int32 × St} (h : f_X0_prepare σ = some R) : gM l D ca ad 91 LC yX0_prepare cX0_prepare 4 (some .boolean) rm_X0_prepare [.ref 70] σ (some (.int R.1)) R.2 := by
  refine gM_of (by decide) (Nat.le_of_ble_eq_true rfl) (fun p e s m args below meth c C => ?_)
  refine g_ent (ls' := [(0, .ref 70)]) rfl ?_
  unfold f_X0_prepare at h
  refine g_aload_n C 0 dX0_prepare_0 rfl ?_
  obtain ⟨q1, hq1, h⟩ := bd h
  refine g_callVI C [] qv_X0_79 (m_X0_findYearsThatWeigh hq1) rfl (by decide) rfl rfl rfl ⟨rfl, rfl⟩ ⟨by decide, by decide⟩ (Nat.le_of_ble_eq_true rfl) dX0_prepare_1 ?_
  refine g_if_eq C 14 dX0_prepare_4 (by decide) (fun hc2 => ?_) (fun hc2 => ?_)
  · have h := ite_t hc2 h
    refine g_iconst C (0 : Int32) dX0_prepare_14 rfl ?_
    obtain rfl := Option.some.inj h
    exact g_zret C nz0 dX0_prepare_15
  · have h := ite_f hc2 h
    refine g_aload_n C 0 dX0_prepare_7 rfl ?_
    obtain ⟨q3, hq3, h⟩ := bd h
    refine g_callVI C [] qv_X0_82 (m_X0_rankFinds hq3) rfl (by decide) rfl rfl rfl ⟨rfl, rfl⟩ ⟨by decide, by decide⟩ (Nat.le_of_ble_eq_true rfl) dX0_prepare_8 ?_
    refine g_if_ne C 16 dX0_prepare_11 (by decide) (fun hc4 => ?_) (fun hc4 => ?_)
    · have h := ite_f hc4 h
      refine g_iconst C (0 : Int32) dX0_prepare_16 rfl ?_
      refine g_istore_n C [(1, .int (0 : Int32)), (0, .ref 70)] dX0_prepare_17 (by decide) rfl ?_
      exact g_sub [1, 0] rfl ((s_X0_prepare_18 C (s_X0_prepare_124 C) FU) (0 : Int32) q3.2 h)
    · have h := ite_t hc4 h
      refine g_iconst C (0 : Int32) dX0_prepare_14 rfl ?_
      obtain rfl := Option.some.inj h
      exact g_zret C nz0 dX0_prepare_15
def f_X0_countAll_26 : Nat → Int32 → St → Option (Int64 × St)
  | 0, _, _ => none
  | n + 1, x1, σ => (if (σ.1 63 0) ≤ x1 then cI (ix (σ.1 63 2) 128) (some ((σ.2 77 (σ.1 63 2).toNatClampNeg), σ)) else (f_X0_goForward x1 (-1 : Int32) σ).bind (fun q3 => (f_X0_countAll_26 n) (x1 + (1 : Int32)) q3))
set_option maxRecDepth 20000 in
theorem s_X0_countAll_26 {R : Int64 × St} (C : gC p s m args meth c D ca ad 91 LC RX0 cX0_countAll 2 (some .long)) : ∀ (n : Nat) (x1 : Int32) (σ : St), f_X0_countAll_26 n x1 σ = some R → G p l e rm_X0_countAll s m args below meth c D ca ad 91 LC 2 (gEnd below args s D ca ad 91 LC (some (.long R.1)) R.2) 26 [(0, .ref 70), (1, .int x1)] [] σ := by
  intro n
  induction n with
  | zero =>
    intro x1 σ h
    have h : none = some R := h
    cases h
  | succ n ih =>
    intro x1 σ h
    rw [f_X0_countAll_26] at h
    refine g_iload_n C 1 dX0_countAll_26 rfl ?_
    refine g_aload_n C 0 dX0_countAll_27 rfl ?_
    refine g_getA C 0 63 rfl q_X0_50 rfl rfl dX0_countAll_28 ?_
    refine g_getI C 0 rfl q_X0_64 rfl dX0_countAll_31 ?_
    refine g_icmp_ge C 49 dX0_countAll_34 (by decide) (fun hc1 => ?_) (fun hc1 => ?_)
    · have h := ite_t hc1 h
      refine g_aload_n C 0 dX0_countAll_49 rfl ?_
      refine g_getR C 9 77 rfl q_X0_37 rfl rfl dX0_countAll_50 ?_
      refine g_aload_n C 0 dX0_countAll_53 rfl ?_
      refine g_getA C 0 63 rfl q_X0_50 rfl rfl dX0_countAll_54 ?_
      refine g_getI C 2 rfl q_X0_73 rfl dX0_countAll_57 ?_
      obtain ⟨hi2, h⟩ := cI_some h
      refine g_lald C 128 rfl ho_18 hi2 dX0_countAll_60 ?_
      obtain rfl := Option.some.inj h
      exact g_lret C dX0_countAll_61
    · have h := ite_f hc1 h
      refine g_aload_n C 0 dX0_countAll_37 rfl ?_
      refine g_iload_n C 1 dX0_countAll_38 rfl ?_
      refine g_iconst C (-1 : Int32) dX0_countAll_39 rfl ?_
      obtain ⟨q3, hq3, h⟩ := bd h
      refine g_callVV C [.int x1, .int (-1 : Int32)] qv_X0_69 (m_X0_goForward hq3) rfl (by decide) rfl rfl rfl ⟨rfl, rfl⟩ ⟨by decide, by decide⟩ (Nat.le_of_ble_eq_true rfl) dX0_countAll_40 ?_
      refine g_iinc C 1 [(1, .int (x1 + (1 : Int32))), (0, .ref 70)] dX0_countAll_43 rfl rfl (by decide) rfl ?_
      refine g_goto C 26 dX0_countAll_46 (by decide) ?_
      exact g_sub [1, 0] rfl (ih (x1 + (1 : Int32)) q3 h)
def f_X0_countAll (σ : St) : Option (Int64 × St) := (f_X0_prepare σ).bind (fun q1 => (if q1.1 = 0 then some ((0 : Int64), q1.2) else (f_J7_fill_d0a16 77 128 (0 : Int64) q1.2).bind (fun q3 => cI (ix (0 : Int32) 128) (ap (up2 q3 77 (0 : Int32).toNatClampNeg (1 : Int64)) fun σ5 => (f_X0_countAll_26 FU) (0 : Int32) σ5))))
set_option maxRecDepth 20000 in
theorem m_X0_countAll {l : Launch} {D : va_G} {ca : Nat → ClassId} {ad : Nat → Nat} {σ : St} {R : Int64 × St} (h : f_X0_countAll σ = some R) : gM l D ca ad 91 LC yX0_countAll cX0_countAll 2 (some .long) rm_X0_countAll [.ref 70] σ (some (.long R.1)) R.2 := by
  refine gM_of (by decide) (Nat.le_of_ble_eq_true rfl) (fun p e s m args below meth c C => ?_)
  refine g_ent (ls' := [(0, .ref 70)]) rfl ?_
  unfold f_X0_countAll at h
  refine g_aload_n C 0 dX0_countAll_0 rfl ?_
  obtain ⟨q1, hq1, h⟩ := bd h
  refine g_callVI C [] qv_X0_54 (m_X0_prepare hq1) rfl (by decide) rfl rfl rfl ⟨rfl, rfl⟩ ⟨by decide, by decide⟩ (Nat.le_of_ble_eq_true rfl) dX0_countAll_1 ?_
  refine g_if_ne C 9 dX0_countAll_4 (by decide) (fun hc2 => ?_) (fun hc2 => ?_)
  · have h := ite_f hc2 h
    refine g_aload_n C 0 dX0_countAll_9 rfl ?_
    refine g_getR C 9 77 rfl q_X0_37 rfl rfl dX0_countAll_10 ?_
    refine g_lconst C (0 : Int64) dX0_countAll_13 rfl ?_
    obtain ⟨q3, hq3, h⟩ := bd h
    refine g_callSV C [.ref 77, .long (0 : Int64)] qs_X0_58 (m_J7_fill_d0a16 rfl ho_18 hq3) rfl rfl ⟨rfl, rfl⟩ ⟨by decide, by decide⟩ (Nat.le_of_ble_eq_true rfl) dX0_countAll_14 ?_
    refine g_aload_n C 0 dX0_countAll_17 rfl ?_
    refine g_getR C 9 77 rfl q_X0_37 rfl rfl dX0_countAll_18 ?_
    refine g_iconst C (0 : Int32) dX0_countAll_21 rfl ?_
    refine g_lconst C (1 : Int64) dX0_countAll_22 rfl ?_
    obtain ⟨hi4, h⟩ := cI_some h
    refine g_last C 128 rfl ho_18 hi4 dX0_countAll_23 ?_
    refine g_nmS (fun σ5 eσ5 => ?_)
    have h := ap_at eσ5 h
    refine g_iconst C (0 : Int32) dX0_countAll_24 rfl ?_
    refine g_istore_n C [(1, .int (0 : Int32)), (0, .ref 70)] dX0_countAll_25 (by decide) rfl ?_
    exact g_sub [1, 0] rfl ((s_X0_countAll_26 C FU) (0 : Int32) σ5 h)
  · have h := ite_t hc2 h
    refine g_lconst C (0 : Int64) dX0_countAll_7 rfl ?_
    obtain rfl := Option.some.inj h
    exact g_lret C dX0_countAll_8
def f_X0_meet_45 : Nat → Int32 → Int32 → Int32 → Int32 → Int64 → Int64 → Int32 → Int32 → St → Option (Int64 × St)
  | 0, _, _, _, _, _, _, _, _, _ => none
  | n + 1, x1, x2, x3, x4, x5, x7, x9, x10, σ => (if (128 : Int32) ≤ x10 then some (x7, σ) else cI (ix ((x2 * (128 : Int32)) + (x3 ||| x9)) 5120) (cI (ix ((x3 ||| x9) ||| ((1 : Int32) <<< (x1 &&& 31))) 128) (ap (x7 + (((σ.2 79 ((x2 * (128 : Int32)) + (x3 ||| x9)).toNatClampNeg) * x5) * (σ.2 78 ((x3 ||| x9) ||| ((1 : Int32) <<< (x1 &&& 31))).toNatClampNeg))) fun z4 => (f_X0_nextSubset x9 x4 σ).bind (fun q5 => (if q5.1 = 0 then some (z4, q5.2) else (f_X0_meet_45 n) x1 x2 x3 x4 x5 z4 q5.1 (x10 + (1 : Int32)) q5.2)))))
set_option maxRecDepth 20000 in
theorem s_X0_meet_45 {R : Int64 × St} (C : gC p s m args meth c D ca ad 91 LC RX0 cX0_meet 12 (some .long)) : ∀ (n : Nat) (x1 : Int32) (x2 : Int32) (x3 : Int32) (x4 : Int32) (x5 : Int64) (x7 : Int64) (x9 : Int32) (x10 : Int32) (σ : St), f_X0_meet_45 n x1 x2 x3 x4 x5 x7 x9 x10 σ = some R → G p l e rm_X0_meet s m args below meth c D ca ad 91 LC 12 (gEnd below args s D ca ad 91 LC (some (.long R.1)) R.2) 45 [(0, .ref 70), (1, .int x1), (2, .int x2), (3, .int x3), (4, .int x4), (5, .long x5), (7, .long x7), (9, .int x9), (10, .int x10)] [] σ := by
  intro n
  induction n with
  | zero =>
    intro x1 x2 x3 x4 x5 x7 x9 x10 σ h
    have h : none = some R := h
    cases h
  | succ n ih =>
    intro x1 x2 x3 x4 x5 x7 x9 x10 σ h
    rw [f_X0_meet_45] at h
    refine g_iload C 8 dX0_meet_45 rfl ?_
    refine g_sipush C (128 : Int32) dX0_meet_47 rfl ?_
    refine g_icmp_ge C 115 dX0_meet_50 (by decide) (fun hc1 => ?_) (fun hc1 => ?_)
    · have h := ite_t hc1 h
      refine g_lload C 6 dX0_meet_115 rfl ?_
      obtain rfl := Option.some.inj h
      exact g_lret C dX0_meet_117
    · have h := ite_f hc1 h
      refine g_iload_n C 3 dX0_meet_53 rfl ?_
      refine g_iload C 7 dX0_meet_54 rfl ?_
      refine g_ior C dX0_meet_56 ?_
      refine g_istore C [(11, .int (x3 ||| x9)), (0, .ref 70), (1, .int x1), (2, .int x2), (3, .int x3), (4, .int x4), (5, .long x5), (7, .long x7), (9, .int x9), (10, .int x10)] dX0_meet_57 (by decide) rfl ?_
      refine g_lload C 7 dX0_meet_59 rfl ?_
      refine g_aload_n C 1 dX0_meet_61 rfl ?_
      refine g_getR C 11 79 rfl q_X0_44 rfl rfl dX0_meet_62 ?_
      refine g_iload_n C 3 dX0_meet_65 rfl ?_
      refine g_sipush C (128 : Int32) dX0_meet_66 rfl ?_
      refine g_imul C dX0_meet_69 ?_
      refine g_iload C 0 dX0_meet_70 rfl ?_
      refine g_iadd C dX0_meet_72 ?_
      obtain ⟨hi2, h⟩ := cI_some h
      refine g_lald C 5120 rfl ho_20 hi2 dX0_meet_73 ?_
      refine g_lload C 6 dX0_meet_74 rfl ?_
      refine g_lmul C dX0_meet_76 ?_
      refine g_aload_n C 1 dX0_meet_77 rfl ?_
      refine g_getR C 10 78 rfl q_X0_41 rfl rfl dX0_meet_78 ?_
      refine g_iload C 0 dX0_meet_81 rfl ?_
      refine g_iconst C (1 : Int32) dX0_meet_83 rfl ?_
      refine g_iload_n C 2 dX0_meet_84 rfl ?_
      refine g_ishl C dX0_meet_85 ?_
      refine g_ior C dX0_meet_86 ?_
      obtain ⟨hi3, h⟩ := cI_some h
      refine g_lald C 128 rfl ho_18 hi3 dX0_meet_87 ?_
      refine g_lmul C dX0_meet_88 ?_
      refine g_ladd C dX0_meet_89 ?_
      refine g_nmL (fun z4 ez4 => ?_)
      have h := ap_at ez4 h
      refine g_lstore C [(7, .long z4), (11, .int (x3 ||| x9)), (0, .ref 70), (1, .int x1), (2, .int x2), (3, .int x3), (4, .int x4), (5, .long x5), (9, .int x9), (10, .int x10)] dX0_meet_90 (by decide) rfl ?_
      refine g_iload C 8 dX0_meet_92 rfl ?_
      refine g_iload C 6 dX0_meet_94 rfl ?_
      obtain ⟨q5, hq5, h⟩ := bd h
      refine g_callSI C [.int x9, .int x4] qs_X0_139 (m_X0_nextSubset hq5) rfl rfl ⟨rfl, rfl⟩ ⟨by decide, by decide⟩ (Nat.le_of_ble_eq_true rfl) dX0_meet_96 ?_
      refine g_istore C [(9, .int q5.1), (7, .long z4), (11, .int (x3 ||| x9)), (0, .ref 70), (1, .int x1), (2, .int x2), (3, .int x3), (4, .int x4), (5, .long x5), (10, .int x10)] dX0_meet_99 (by decide) rfl ?_
      refine g_iload C 0 dX0_meet_101 rfl ?_
      refine g_if_ne C 109 dX0_meet_103 (by decide) (fun hc6 => ?_) (fun hc6 => ?_)
      · have h := ite_f hc6 h
        refine g_iinc C 9 [(10, .int (x10 + (1 : Int32))), (9, .int q5.1), (7, .long z4), (11, .int (x3 ||| x9)), (0, .ref 70), (1, .int x1), (2, .int x2), (3, .int x3), (4, .int x4), (5, .long x5)] dX0_meet_109 rfl rfl (by decide) rfl ?_
        refine g_goto C 45 dX0_meet_112 (by decide) ?_
        exact g_sub [4, 5, 6, 7, 8, 9, 2, 1, 0] rfl (ih x1 x2 x3 x4 x5 z4 q5.1 (x10 + (1 : Int32)) q5.2 h)
      · have h := ite_t hc6 h
        refine g_goto C 115 dX0_meet_106 (by decide) ?_
        refine g_lload C 1 dX0_meet_115 rfl ?_
        obtain rfl := Option.some.inj h
        exact g_lret C dX0_meet_117
def f_X0_meet (x1 : Int32) (x2 : Int32) (σ : St) : Option (Int64 × St) := (f_X0_leastBefore x1 x2 σ).bind (fun q1 => cI (ix x2 40) (ap (((q1.2.1 74 x2.toNatClampNeg) &&& (q1.1 ^^^ (-1 : Int32))) &&& (((1 : Int32) <<< (x1 &&& 31)) ^^^ (-1 : Int32))) fun z3 => (f_X6_weightAt x1 x2 q1.2).bind (fun q4 => (f_X0_meet_45 FU) x1 x2 q1.1 z3 q4.1 (0 : Int64) (0 : Int32) (0 : Int32) q4.2)))
set_option maxRecDepth 20000 in
theorem m_X0_meet {l : Launch} {D : va_G} {ca : Nat → ClassId} {ad : Nat → Nat} {x1 : Int32} {x2 : Int32} {σ : St} {R : Int64 × St} (h : f_X0_meet x1 x2 σ = some R) : gM l D ca ad 91 LC yX0_meet cX0_meet 12 (some .long) rm_X0_meet [.ref 70, .int x1, .int x2] σ (some (.long R.1)) R.2 := by
  refine gM_of (by decide) (Nat.le_of_ble_eq_true rfl) (fun p e s m args below meth c C => ?_)
  refine g_ent (ls' := [(0, .ref 70), (1, .int x1), (2, .int x2)]) rfl ?_
  unfold f_X0_meet at h
  refine g_aload_n C 0 dX0_meet_0 rfl ?_
  refine g_iload_n C 1 dX0_meet_1 rfl ?_
  refine g_iload_n C 2 dX0_meet_2 rfl ?_
  obtain ⟨q1, hq1, h⟩ := bd h
  refine g_callVI C [.int x1, .int x2] qv_X0_136 (m_X0_leastBefore hq1) rfl (by decide) rfl rfl rfl ⟨rfl, rfl⟩ ⟨by decide, by decide⟩ (Nat.le_of_ble_eq_true rfl) dX0_meet_3 ?_
  refine g_istore_n C [(3, .int q1.1), (0, .ref 70), (1, .int x1), (2, .int x2)] dX0_meet_6 (by decide) rfl ?_
  refine g_aload_n C 1 dX0_meet_7 rfl ?_
  refine g_getR C 5 74 rfl q_X0_25 rfl rfl dX0_meet_8 ?_
  refine g_iload_n C 3 dX0_meet_11 rfl ?_
  obtain ⟨hi2, h⟩ := cI_some h
  refine g_iald C 40 rfl ho_14 hi2 dX0_meet_12 ?_
  refine g_iload_n C 0 dX0_meet_13 rfl ?_
  refine g_iconst C (-1 : Int32) dX0_meet_14 rfl ?_
  refine g_ixor C dX0_meet_15 ?_
  refine g_iand C dX0_meet_16 ?_
  refine g_iconst C (1 : Int32) dX0_meet_17 rfl ?_
  refine g_iload_n C 2 dX0_meet_18 rfl ?_
  refine g_ishl C dX0_meet_19 ?_
  refine g_iconst C (-1 : Int32) dX0_meet_20 rfl ?_
  refine g_ixor C dX0_meet_21 ?_
  refine g_iand C dX0_meet_22 ?_
  refine g_nmI (fun z3 ez3 => ?_)
  have h := ap_at ez3 h
  refine g_istore C [(4, .int z3), (3, .int q1.1), (0, .ref 70), (1, .int x1), (2, .int x2)] dX0_meet_23 (by decide) rfl ?_
  refine g_aload_n C 2 dX0_meet_25 rfl ?_
  refine g_getA C 0 63 rfl q_X0_50 rfl rfl dX0_meet_26 ?_
  refine g_iload_n C 3 dX0_meet_29 rfl ?_
  refine g_iload_n C 4 dX0_meet_30 rfl ?_
  obtain ⟨q4, hq4, h⟩ := bd h
  refine g_callVL C [.int x1, .int x2] qv_X0_91 (m_X6_weightAt hq4) rfl (by decide) rfl rfl rfl ⟨rfl, rfl⟩ ⟨by decide, by decide⟩ (Nat.le_of_ble_eq_true rfl) dX0_meet_31 ?_
  refine g_lstore C [(5, .long q4.1), (4, .int z3), (3, .int q1.1), (0, .ref 70), (1, .int x1), (2, .int x2)] dX0_meet_34 (by decide) rfl ?_
  refine g_lconst C (0 : Int64) dX0_meet_36 rfl ?_
  refine g_lstore C [(7, .long (0 : Int64)), (5, .long q4.1), (4, .int z3), (3, .int q1.1), (0, .ref 70), (1, .int x1), (2, .int x2)] dX0_meet_37 (by decide) rfl ?_
  refine g_iconst C (0 : Int32) dX0_meet_39 rfl ?_
  refine g_istore C [(9, .int (0 : Int32)), (7, .long (0 : Int64)), (5, .long q4.1), (4, .int z3), (3, .int q1.1), (0, .ref 70), (1, .int x1), (2, .int x2)] dX0_meet_40 (by decide) rfl ?_
  refine g_iconst C (0 : Int32) dX0_meet_42 rfl ?_
  refine g_istore C [(10, .int (0 : Int32)), (9, .int (0 : Int32)), (7, .long (0 : Int64)), (5, .long q4.1), (4, .int z3), (3, .int q1.1), (0, .ref 70), (1, .int x1), (2, .int x2)] dX0_meet_43 (by decide) rfl ?_
  exact g_sub [6, 7, 8, 5, 4, 3, 2, 1, 0] rfl ((s_X0_meet_45 C FU) x1 x2 q1.1 z3 q4.1 (0 : Int64) (0 : Int32) (0 : Int32) q4.2 h)
def f_X0_takeUp_42 : Nat → Int32 → Int32 → Int32 → Int64 → Int32 → Int32 → St → Option (St)
  | 0, _, _, _, _, _, _, _ => none
  | n + 1, x1, x3, x4, x5, x7, x8, σ => (if (128 : Int32) ≤ x8 then some σ else cI (ix (x3 ||| x7) 128) (cI (ix ((x3 ||| x7) ||| ((1 : Int32) <<< (x1 &&& 31))) 128) (cI (ix (x3 ||| x7) 128) (ap (up2 σ 78 (x3 ||| x7).toNatClampNeg ((σ.2 78 (x3 ||| x7).toNatClampNeg) + ((σ.2 78 ((x3 ||| x7) ||| ((1 : Int32) <<< (x1 &&& 31))).toNatClampNeg) * x5))) fun σ5 => (f_X0_nextSubset x7 x4 σ5).bind (fun q6 => (if q6.1 = 0 then some q6.2 else (f_X0_takeUp_42 n) x1 x3 x4 x5 q6.1 (x8 + (1 : Int32)) q6.2))))))
set_option maxRecDepth 20000 in
theorem s_X0_takeUp_42 {R : St} (C : gC p s m args meth c D ca ad 91 LC RX0 cX0_takeUp 10 none) : ∀ (n : Nat) (x1 : Int32) (x3 : Int32) (x4 : Int32) (x5 : Int64) (x7 : Int32) (x8 : Int32) (σ : St), f_X0_takeUp_42 n x1 x3 x4 x5 x7 x8 σ = some R → G p l e rm_X0_takeUp s m args below meth c D ca ad 91 LC 10 (gEnd below args s D ca ad 91 LC none R) 42 [(0, .ref 70), (1, .int x1), (3, .int x3), (4, .int x4), (5, .long x5), (7, .int x7), (8, .int x8)] [] σ := by
  intro n
  induction n with
  | zero =>
    intro x1 x3 x4 x5 x7 x8 σ h
    have h : none = some R := h
    cases h
  | succ n ih =>
    intro x1 x3 x4 x5 x7 x8 σ h
    rw [f_X0_takeUp_42] at h
    refine g_iload C 6 dX0_takeUp_42 rfl ?_
    refine g_sipush C (128 : Int32) dX0_takeUp_44 rfl ?_
    refine g_icmp_ge C 103 dX0_takeUp_47 (by decide) (fun hc1 => ?_) (fun hc1 => ?_)
    · have h := ite_t hc1 h
      obtain rfl := Option.some.inj h
      exact g_vret C dX0_takeUp_103
    · have h := ite_f hc1 h
      refine g_iload_n C 2 dX0_takeUp_50 rfl ?_
      refine g_iload C 5 dX0_takeUp_51 rfl ?_
      refine g_ior C dX0_takeUp_53 ?_
      refine g_istore C [(9, .int (x3 ||| x7)), (0, .ref 70), (1, .int x1), (3, .int x3), (4, .int x4), (5, .long x5), (7, .int x7), (8, .int x8)] dX0_takeUp_54 (by decide) rfl ?_
      refine g_aload_n C 1 dX0_takeUp_56 rfl ?_
      refine g_getR C 10 78 rfl q_X0_41 rfl rfl dX0_takeUp_57 ?_
      refine g_iload C 0 dX0_takeUp_60 rfl ?_
      refine g_dup2 C rfl rfl dX0_takeUp_62 ?_
      obtain ⟨hi2, h⟩ := cI_some h
      refine g_lald C 128 rfl ho_18 hi2 dX0_takeUp_63 ?_
      refine g_aload_n C 1 dX0_takeUp_64 rfl ?_
      refine g_getR C 10 78 rfl q_X0_41 rfl rfl dX0_takeUp_65 ?_
      refine g_iload C 0 dX0_takeUp_68 rfl ?_
      refine g_iconst C (1 : Int32) dX0_takeUp_70 rfl ?_
      refine g_iload_n C 2 dX0_takeUp_71 rfl ?_
      refine g_ishl C dX0_takeUp_72 ?_
      refine g_ior C dX0_takeUp_73 ?_
      obtain ⟨hi3, h⟩ := cI_some h
      refine g_lald C 128 rfl ho_18 hi3 dX0_takeUp_74 ?_
      refine g_lload C 5 dX0_takeUp_75 rfl ?_
      refine g_lmul C dX0_takeUp_77 ?_
      refine g_ladd C dX0_takeUp_78 ?_
      obtain ⟨hi4, h⟩ := cI_some h
      refine g_last C 128 rfl ho_18 hi4 dX0_takeUp_79 ?_
      refine g_nmS (fun σ5 eσ5 => ?_)
      have h := ap_at eσ5 h
      refine g_iload C 6 dX0_takeUp_80 rfl ?_
      refine g_iload C 4 dX0_takeUp_82 rfl ?_
      obtain ⟨q6, hq6, h⟩ := bd h
      refine g_callSI C [.int x7, .int x4] qs_X0_139 (m_X0_nextSubset hq6) rfl rfl ⟨rfl, rfl⟩ ⟨by decide, by decide⟩ (Nat.le_of_ble_eq_true rfl) dX0_takeUp_84 ?_
      refine g_istore C [(7, .int q6.1), (9, .int (x3 ||| x7)), (0, .ref 70), (1, .int x1), (3, .int x3), (4, .int x4), (5, .long x5), (8, .int x8)] dX0_takeUp_87 (by decide) rfl ?_
      refine g_iload C 0 dX0_takeUp_89 rfl ?_
      refine g_if_ne C 97 dX0_takeUp_91 (by decide) (fun hc7 => ?_) (fun hc7 => ?_)
      · have h := ite_f hc7 h
        refine g_iinc C 7 [(8, .int (x8 + (1 : Int32))), (7, .int q6.1), (9, .int (x3 ||| x7)), (0, .ref 70), (1, .int x1), (3, .int x3), (4, .int x4), (5, .long x5)] dX0_takeUp_97 rfl rfl (by decide) rfl ?_
        refine g_goto C 42 dX0_takeUp_100 (by decide) ?_
        exact g_sub [3, 4, 5, 6, 7, 1, 0] rfl (ih x1 x3 x4 x5 q6.1 (x8 + (1 : Int32)) q6.2 h)
      · have h := ite_t hc7 h
        refine g_goto C 103 dX0_takeUp_94 (by decide) ?_
        obtain rfl := Option.some.inj h
        exact g_vret C dX0_takeUp_103
def f_X0_takeUp (x1 : Int32) (x2 : Int32) (σ : St) : Option (St) := (f_X0_leastBefore x1 x2 σ).bind (fun q1 => cI (ix x2 40) (ap (((q1.2.1 74 x2.toNatClampNeg) &&& (q1.1 ^^^ (-1 : Int32))) &&& (((1 : Int32) <<< (x1 &&& 31)) ^^^ (-1 : Int32))) fun z3 => (f_X6_weightAt x1 x2 q1.2).bind (fun q4 => (f_X0_takeUp_42 FU) x1 q1.1 z3 q4.1 (0 : Int32) (0 : Int32) q4.2)))
set_option maxRecDepth 20000 in
theorem m_X0_takeUp {l : Launch} {D : va_G} {ca : Nat → ClassId} {ad : Nat → Nat} {x1 : Int32} {x2 : Int32} {σ : St} {R : St} (h : f_X0_takeUp x1 x2 σ = some R) : gM l D ca ad 91 LC yX0_takeUp cX0_takeUp 10 none rm_X0_takeUp [.ref 70, .int x1, .int x2] σ none R := by
  refine gM_of (by decide) (Nat.le_of_ble_eq_true rfl) (fun p e s m args below meth c C => ?_)
  refine g_ent (ls' := [(0, .ref 70), (1, .int x1), (2, .int x2)]) rfl ?_
  unfold f_X0_takeUp at h
  refine g_aload_n C 0 dX0_takeUp_0 rfl ?_
  refine g_iload_n C 1 dX0_takeUp_1 rfl ?_
  refine g_iload_n C 2 dX0_takeUp_2 rfl ?_
  obtain ⟨q1, hq1, h⟩ := bd h
  refine g_callVI C [.int x1, .int x2] qv_X0_136 (m_X0_leastBefore hq1) rfl (by decide) rfl rfl rfl ⟨rfl, rfl⟩ ⟨by decide, by decide⟩ (Nat.le_of_ble_eq_true rfl) dX0_takeUp_3 ?_
  refine g_istore_n C [(3, .int q1.1), (0, .ref 70), (1, .int x1), (2, .int x2)] dX0_takeUp_6 (by decide) rfl ?_
  refine g_aload_n C 1 dX0_takeUp_7 rfl ?_
  refine g_getR C 5 74 rfl q_X0_25 rfl rfl dX0_takeUp_8 ?_
  refine g_iload_n C 3 dX0_takeUp_11 rfl ?_
  obtain ⟨hi2, h⟩ := cI_some h
  refine g_iald C 40 rfl ho_14 hi2 dX0_takeUp_12 ?_
  refine g_iload_n C 0 dX0_takeUp_13 rfl ?_
  refine g_iconst C (-1 : Int32) dX0_takeUp_14 rfl ?_
  refine g_ixor C dX0_takeUp_15 ?_
  refine g_iand C dX0_takeUp_16 ?_
  refine g_iconst C (1 : Int32) dX0_takeUp_17 rfl ?_
  refine g_iload_n C 2 dX0_takeUp_18 rfl ?_
  refine g_ishl C dX0_takeUp_19 ?_
  refine g_iconst C (-1 : Int32) dX0_takeUp_20 rfl ?_
  refine g_ixor C dX0_takeUp_21 ?_
  refine g_iand C dX0_takeUp_22 ?_
  refine g_nmI (fun z3 ez3 => ?_)
  have h := ap_at ez3 h
  refine g_istore C [(4, .int z3), (3, .int q1.1), (0, .ref 70), (1, .int x1), (2, .int x2)] dX0_takeUp_23 (by decide) rfl ?_
  refine g_aload_n C 2 dX0_takeUp_25 rfl ?_
  refine g_getA C 0 63 rfl q_X0_50 rfl rfl dX0_takeUp_26 ?_
  refine g_iload_n C 3 dX0_takeUp_29 rfl ?_
  refine g_iload_n C 4 dX0_takeUp_30 rfl ?_
  obtain ⟨q4, hq4, h⟩ := bd h
  refine g_callVL C [.int x1, .int x2] qv_X0_91 (m_X6_weightAt hq4) rfl (by decide) rfl rfl rfl ⟨rfl, rfl⟩ ⟨by decide, by decide⟩ (Nat.le_of_ble_eq_true rfl) dX0_takeUp_31 ?_
  refine g_lstore C [(5, .long q4.1), (4, .int z3), (3, .int q1.1), (0, .ref 70), (1, .int x1), (2, .int x2)] dX0_takeUp_34 (by decide) rfl ?_
  refine g_iconst C (0 : Int32) dX0_takeUp_36 rfl ?_
  refine g_istore C [(7, .int (0 : Int32)), (5, .long q4.1), (4, .int z3), (3, .int q1.1), (0, .ref 70), (1, .int x1), (2, .int x2)] dX0_takeUp_37 (by decide) rfl ?_
  refine g_iconst C (0 : Int32) dX0_takeUp_39 rfl ?_
  refine g_istore C [(8, .int (0 : Int32)), (7, .int (0 : Int32)), (5, .long q4.1), (4, .int z3), (3, .int q1.1), (0, .ref 70), (1, .int x1), (2, .int x2)] dX0_takeUp_40 (by decide) rfl ?_
  exact g_sub [5, 6, 4, 3, 2, 1, 0] rfl ((s_X0_takeUp_42 C FU) x1 q1.1 z3 q4.1 (0 : Int32) (0 : Int32) q4.2 h)
def f_X0_goBackward_70 (kk10 : Int32 → Int32 → Int32 → St → Option (St)) (x1 : Int32) (x2 : Int32) (x3 : Int32) (σ : St) : Option (St) := kk10 x1 x2 (x3 + (1 : Int32)) σ
set_option maxRecDepth 20000 in
theorem s_X0_goBackward_70 {R : St} (C : gC p s m args meth c D ca ad 91 LC RX0 cX0_goBackward 5 none) {kk10 : Int32 → Int32 → Int32 → St → Option (St)} (HK10 : ∀ (x1 : Int32) (x2 : Int32) (x3 : Int32) (σ : St), kk10 x1 x2 x3 σ = some R → G p l e rm_X0_goBackward s m args below meth c D ca ad 91 LC 5 (gEnd below args s D ca ad 91 LC none R) 10 [(0, .ref 70), (1, .int x1), (2, .int x2), (3, .int x3)] [] σ) (x1 : Int32) (x2 : Int32) (x3 : Int32) (σ : St) (h : f_X0_goBackward_70 kk10 x1 x2 x3 σ = some R) : G p l e rm_X0_goBackward s m args below meth c D ca ad 91 LC 5 (gEnd below args s D ca ad 91 LC none R) 70 [(0, .ref 70), (1, .int x1), (2, .int x2), (3, .int x3)] [] σ := by
  unfold f_X0_goBackward_70 at h
  refine g_iinc C 3 [(3, .int (x3 + (1 : Int32))), (0, .ref 70), (1, .int x1), (2, .int x2)] dX0_goBackward_70 rfl rfl (by decide) rfl ?_
  refine g_goto C 10 dX0_goBackward_73 (by decide) ?_
  exact g_sub [1, 2, 3, 0] rfl (HK10 x1 x2 (x3 + (1 : Int32)) σ h)
def f_X0_goBackward_63 (kk10 : Int32 → Int32 → Int32 → St → Option (St)) (x1 : Int32) (x2 : Int32) (x3 : Int32) (x4 : Int32) (σ : St) : Option (St) := (f_X0_takeUp x4 x1 σ).bind (fun q1 => (f_X0_goBackward_70 kk10) x1 x2 x3 q1)
set_option maxRecDepth 20000 in
theorem s_X0_goBackward_63 {R : St} (C : gC p s m args meth c D ca ad 91 LC RX0 cX0_goBackward 5 none) {kk10 : Int32 → Int32 → Int32 → St → Option (St)} (HK10 : ∀ (x1 : Int32) (x2 : Int32) (x3 : Int32) (σ : St), kk10 x1 x2 x3 σ = some R → G p l e rm_X0_goBackward s m args below meth c D ca ad 91 LC 5 (gEnd below args s D ca ad 91 LC none R) 10 [(0, .ref 70), (1, .int x1), (2, .int x2), (3, .int x3)] [] σ) (x1 : Int32) (x2 : Int32) (x3 : Int32) (x4 : Int32) (σ : St) (h : f_X0_goBackward_63 kk10 x1 x2 x3 x4 σ = some R) : G p l e rm_X0_goBackward s m args below meth c D ca ad 91 LC 5 (gEnd below args s D ca ad 91 LC none R) 63 [(0, .ref 70), (1, .int x1), (2, .int x2), (3, .int x3), (4, .int x4)] [] σ := by
  unfold f_X0_goBackward_63 at h
  refine g_aload_n C 0 dX0_goBackward_63 rfl ?_
  refine g_iload C 4 dX0_goBackward_64 rfl ?_
  refine g_iload_n C 1 dX0_goBackward_66 rfl ?_
  obtain ⟨q1, hq1, h⟩ := bd h
  refine g_callVV C [.int x4, .int x1] qv_X0_133 (m_X0_takeUp hq1) rfl (by decide) rfl rfl rfl ⟨rfl, rfl⟩ ⟨by decide, by decide⟩ (Nat.le_of_ble_eq_true rfl) dX0_goBackward_67 ?_
  exact g_sub [0, 1, 2, 3] rfl ((s_X0_goBackward_70 C HK10) x1 x2 x3 q1 h)
def f_X0_goBackward_10 : Nat → Int32 → Int32 → Int32 → St → Option (St)
  | 0, _, _, _, _ => none
  | n + 1, x1, x2, x3, σ => (if (σ.1 70 2) ≤ x3 then some σ else cI (ix x3 7) (ap (σ.1 71 x3.toNatClampNeg) fun z3 => (f_X6_weightAt z3 x1 σ).bind (fun q4 => (if q4.1 = (0 : Int64) then (f_X0_goBackward_70 (f_X0_goBackward_10 n)) x1 x2 x3 q4.2 else (if z3 = x2 then (f_X0_meet z3 x1 q4.2).bind (fun q7 => cI (ix x1 40) (ap (up2 q7.2 80 x1.toNatClampNeg q7.1) fun σ9 => (f_X0_goBackward_63 (f_X0_goBackward_10 n)) x1 x2 x3 z3 σ9)) else (f_X0_goBackward_63 (f_X0_goBackward_10 n)) x1 x2 x3 z3 q4.2)))))
set_option maxRecDepth 20000 in
theorem s_X0_goBackward_10 {R : St} (C : gC p s m args meth c D ca ad 91 LC RX0 cX0_goBackward 5 none) : ∀ (n : Nat) (x1 : Int32) (x2 : Int32) (x3 : Int32) (σ : St), f_X0_goBackward_10 n x1 x2 x3 σ = some R → G p l e rm_X0_goBackward s m args below meth c D ca ad 91 LC 5 (gEnd below args s D ca ad 91 LC none R) 10 [(0, .ref 70), (1, .int x1), (2, .int x2), (3, .int x3)] [] σ := by
  intro n
  induction n with
  | zero =>
    intro x1 x2 x3 σ h
    have h : none = some R := h
    cases h
  | succ n ih =>
    intro x1 x2 x3 σ h
    rw [f_X0_goBackward_10] at h
    refine g_iload_n C 3 dX0_goBackward_10 rfl ?_
    refine g_aload_n C 0 dX0_goBackward_11 rfl ?_
    refine g_getI C 2 rfl q_X0_15 rfl dX0_goBackward_12 ?_
    refine g_icmp_ge C 76 dX0_goBackward_15 (by decide) (fun hc1 => ?_) (fun hc1 => ?_)
    · have h := ite_t hc1 h
      obtain rfl := Option.some.inj h
      exact g_vret C dX0_goBackward_76
    · have h := ite_f hc1 h
      refine g_aload_n C 0 dX0_goBackward_18 rfl ?_
      refine g_getR C 1 71 rfl q_X0_9 rfl rfl dX0_goBackward_19 ?_
      refine g_iload_n C 3 dX0_goBackward_22 rfl ?_
      obtain ⟨hi2, h⟩ := cI_some h
      refine g_iald C 7 rfl ho_11 hi2 dX0_goBackward_23 ?_
      refine g_nmI (fun z3 ez3 => ?_)
      have h := ap_at ez3 h
      refine g_istore C [(4, .int z3), (0, .ref 70), (1, .int x1), (2, .int x2), (3, .int x3)] dX0_goBackward_24 (by decide) rfl ?_
      refine g_aload_n C 1 dX0_goBackward_26 rfl ?_
      refine g_getA C 0 63 rfl q_X0_50 rfl rfl dX0_goBackward_27 ?_
      refine g_iload C 0 dX0_goBackward_30 rfl ?_
      refine g_iload_n C 2 dX0_goBackward_32 rfl ?_
      obtain ⟨q4, hq4, h⟩ := bd h
      refine g_callVL C [.int z3, .int x1] qv_X0_91 (m_X6_weightAt hq4) rfl (by decide) rfl rfl rfl ⟨rfl, rfl⟩ ⟨by decide, by decide⟩ (Nat.le_of_ble_eq_true rfl) dX0_goBackward_33 ?_
      refine g_lconst C (0 : Int64) dX0_goBackward_36 rfl ?_
      refine g_lcmp_ne C 44 dX0_goBackward_37 dX0_goBackward_38 (by decide) (fun hc5 => ?_) (fun hc5 => ?_)
      · have h := ite_f hc5 h
        refine g_iload C 0 dX0_goBackward_44 rfl ?_
        refine g_iload_n C 3 dX0_goBackward_46 rfl ?_
        refine g_icmp_ne C 63 dX0_goBackward_47 (by decide) (fun hc6 => ?_) (fun hc6 => ?_)
        · have h := ite_f hc6 h
          exact g_sub [1, 2, 3, 4, 0] rfl ((s_X0_goBackward_63 C ih) x1 x2 x3 z3 q4.2 h)
        · have h := ite_t hc6 h
          refine g_aload_n C 1 dX0_goBackward_50 rfl ?_
          refine g_getR C 12 80 rfl q_X0_47 rfl rfl dX0_goBackward_51 ?_
          refine g_iload_n C 2 dX0_goBackward_54 rfl ?_
          refine g_aload_n C 1 dX0_goBackward_55 rfl ?_
          refine g_iload C 0 dX0_goBackward_56 rfl ?_
          refine g_iload_n C 2 dX0_goBackward_58 rfl ?_
          obtain ⟨q7, hq7, h⟩ := bd h
          refine g_callVL C [.int z3, .int x1] qv_X0_130 (m_X0_meet hq7) rfl (by decide) rfl rfl rfl ⟨rfl, rfl⟩ ⟨by decide, by decide⟩ (Nat.le_of_ble_eq_true rfl) dX0_goBackward_59 ?_
          obtain ⟨hi8, h⟩ := cI_some h
          refine g_last C 40 rfl ho_17 hi8 dX0_goBackward_62 ?_
          refine g_nmS (fun σ9 eσ9 => ?_)
          have h := ap_at eσ9 h
          exact g_sub [1, 2, 3, 4, 0] rfl ((s_X0_goBackward_63 C ih) x1 x2 x3 z3 σ9 h)
      · have h := ite_t hc5 h
        refine g_goto C 70 dX0_goBackward_41 (by decide) ?_
        exact g_sub [1, 2, 3, 4] rfl ((s_X0_goBackward_70 C ih) x1 x2 x3 q4.2 h)
def f_X0_goBackward (x1 : Int32) (x2 : Int32) (σ : St) : Option (St) := (f_X0_clearOpenSets 78 128 σ).bind (fun q1 => (f_X0_goBackward_10 FU) x1 x2 (0 : Int32) q1)
set_option maxRecDepth 20000 in
theorem m_X0_goBackward {l : Launch} {D : va_G} {ca : Nat → ClassId} {ad : Nat → Nat} {x1 : Int32} {x2 : Int32} {σ : St} {R : St} (h : f_X0_goBackward x1 x2 σ = some R) : gM l D ca ad 91 LC yX0_goBackward cX0_goBackward 5 none rm_X0_goBackward [.ref 70, .int x1, .int x2] σ none R := by
  refine gM_of (by decide) (Nat.le_of_ble_eq_true rfl) (fun p e s m args below meth c C => ?_)
  refine g_ent (ls' := [(0, .ref 70), (1, .int x1), (2, .int x2)]) rfl ?_
  unfold f_X0_goBackward at h
  refine g_aload_n C 0 dX0_goBackward_0 rfl ?_
  refine g_aload_n C 0 dX0_goBackward_1 rfl ?_
  refine g_getR C 10 78 rfl q_X0_41 rfl rfl dX0_goBackward_2 ?_
  obtain ⟨q1, hq1, h⟩ := bd h
  refine g_callVV C [.ref 78] qv_X0_126 (m_X0_clearOpenSets rfl ho_18 hq1) rfl (by decide) rfl rfl rfl ⟨rfl, rfl⟩ ⟨by decide, by decide⟩ (Nat.le_of_ble_eq_true rfl) dX0_goBackward_5 ?_
  refine g_iconst C (0 : Int32) dX0_goBackward_8 rfl ?_
  refine g_istore_n C [(3, .int (0 : Int32)), (0, .ref 70), (1, .int x1), (2, .int x2)] dX0_goBackward_9 (by decide) rfl ?_
  exact g_sub [1, 2, 3, 0] rfl ((s_X0_goBackward_10 C FU) x1 x2 (0 : Int32) q1 h)
def f_X0_countEachYear_33 (kk56 : Int32 → St → Option (St)) : Nat → Int32 → Int32 → St → Option (St)
  | 0, _, _, _ => none
  | n + 1, x1, x2, σ => (if (σ.1 63 0) ≤ x2 then kk56 x1 σ else (f_X0_goForward x2 x1 σ).bind (fun q2 => (f_X0_countEachYear_33 kk56 n) x1 (x2 + (1 : Int32)) q2))
set_option maxRecDepth 20000 in
theorem s_X0_countEachYear_33 {R : St} (C : gC p s m args meth c D ca ad 91 LC RX0 cX0_countEachYear 3 none) {kk56 : Int32 → St → Option (St)} (HK56 : ∀ (x1 : Int32) (σ : St), kk56 x1 σ = some R → G p l e rm_X0_countEachYear s m args below meth c D ca ad 91 LC 3 (gEnd below args s D ca ad 91 LC none R) 56 [(0, .ref 70), (1, .int x1)] [] σ) : ∀ (n : Nat) (x1 : Int32) (x2 : Int32) (σ : St), f_X0_countEachYear_33 kk56 n x1 x2 σ = some R → G p l e rm_X0_countEachYear s m args below meth c D ca ad 91 LC 3 (gEnd below args s D ca ad 91 LC none R) 33 [(0, .ref 70), (1, .int x1), (2, .int x2)] [] σ := by
  intro n
  induction n with
  | zero =>
    intro x1 x2 σ h
    have h : none = some R := h
    cases h
  | succ n ih =>
    intro x1 x2 σ h
    rw [f_X0_countEachYear_33] at h
    refine g_iload_n C 2 dX0_countEachYear_33 rfl ?_
    refine g_aload_n C 0 dX0_countEachYear_34 rfl ?_
    refine g_getA C 0 63 rfl q_X0_50 rfl rfl dX0_countEachYear_35 ?_
    refine g_getI C 0 rfl q_X0_64 rfl dX0_countEachYear_38 ?_
    refine g_icmp_ge C 56 dX0_countEachYear_41 (by decide) (fun hc1 => ?_) (fun hc1 => ?_)
    · have h := ite_t hc1 h
      exact g_sub [0, 1] rfl (HK56 x1 σ h)
    · have h := ite_f hc1 h
      refine g_aload_n C 0 dX0_countEachYear_44 rfl ?_
      refine g_iload_n C 2 dX0_countEachYear_45 rfl ?_
      refine g_iload_n C 1 dX0_countEachYear_46 rfl ?_
      obtain ⟨q2, hq2, h⟩ := bd h
      refine g_callVV C [.int x2, .int x1] qv_X0_69 (m_X0_goForward hq2) rfl (by decide) rfl rfl rfl ⟨rfl, rfl⟩ ⟨by decide, by decide⟩ (Nat.le_of_ble_eq_true rfl) dX0_countEachYear_47 ?_
      refine g_iinc C 2 [(2, .int (x2 + (1 : Int32))), (0, .ref 70), (1, .int x1)] dX0_countEachYear_50 rfl rfl (by decide) rfl ?_
      refine g_goto C 33 dX0_countEachYear_53 (by decide) ?_
      exact g_sub [1, 2, 0] rfl (ih x1 (x2 + (1 : Int32)) q2 h)
def f_X0_countEachYear_87 : Nat → Int32 → Int32 → St → Option (St)
  | 0, _, _, _ => none
  | n + 1, x1, x2, σ => (if x2 < 0 then some σ else (f_X0_goBackward x2 x1 σ).bind (fun q2 => (f_X0_countEachYear_87 n) x1 (x2 + (-1 : Int32)) q2))
set_option maxRecDepth 20000 in
theorem s_X0_countEachYear_87 {R : St} (C : gC p s m args meth c D ca ad 91 LC RX0 cX0_countEachYear 3 none) : ∀ (n : Nat) (x1 : Int32) (x2 : Int32) (σ : St), f_X0_countEachYear_87 n x1 x2 σ = some R → G p l e rm_X0_countEachYear s m args below meth c D ca ad 91 LC 3 (gEnd below args s D ca ad 91 LC none R) 87 [(0, .ref 70), (1, .int x1), (2, .int x2)] [] σ := by
  intro n
  induction n with
  | zero =>
    intro x1 x2 σ h
    have h : none = some R := h
    cases h
  | succ n ih =>
    intro x1 x2 σ h
    rw [f_X0_countEachYear_87] at h
    refine g_iload_n C 2 dX0_countEachYear_87 rfl ?_
    refine g_if_lt C 103 dX0_countEachYear_88 (by decide) (fun hc1 => ?_) (fun hc1 => ?_)
    · have h := ite_t hc1 h
      obtain rfl := Option.some.inj h
      exact g_vret C dX0_countEachYear_103
    · have h := ite_f hc1 h
      refine g_aload_n C 0 dX0_countEachYear_91 rfl ?_
      refine g_iload_n C 2 dX0_countEachYear_92 rfl ?_
      refine g_iload_n C 1 dX0_countEachYear_93 rfl ?_
      obtain ⟨q2, hq2, h⟩ := bd h
      refine g_callVV C [.int x2, .int x1] qv_X0_76 (m_X0_goBackward hq2) rfl (by decide) rfl rfl rfl ⟨rfl, rfl⟩ ⟨by decide, by decide⟩ (Nat.le_of_ble_eq_true rfl) dX0_countEachYear_94 ?_
      refine g_iinc C 2 [(2, .int (x2 + (-1 : Int32))), (0, .ref 70), (1, .int x1)] dX0_countEachYear_97 rfl rfl (by decide) rfl ?_
      refine g_goto C 87 dX0_countEachYear_100 (by decide) ?_
      exact g_sub [1, 2, 0] rfl (ih x1 (x2 + (-1 : Int32)) q2 h)
def f_X0_countEachYear_56 (x1 : Int32) (σ : St) : Option (St) := (f_J7_fill_d0a16 78 128 (0 : Int64) σ).bind (fun q1 => cI (ix (q1.1 63 2) 128) (ap (up2 q1 78 (q1.1 63 2).toNatClampNeg (1 : Int64)) fun σ3 => ap ((σ3.1 63 0) - (1 : Int32)) fun z4 => (f_X0_countEachYear_87 FU) x1 z4 σ3))
set_option maxRecDepth 20000 in
theorem s_X0_countEachYear_56 {R : St} (C : gC p s m args meth c D ca ad 91 LC RX0 cX0_countEachYear 3 none) (x1 : Int32) (σ : St) (h : f_X0_countEachYear_56 x1 σ = some R) : G p l e rm_X0_countEachYear s m args below meth c D ca ad 91 LC 3 (gEnd below args s D ca ad 91 LC none R) 56 [(0, .ref 70), (1, .int x1)] [] σ := by
  unfold f_X0_countEachYear_56 at h
  refine g_aload_n C 0 dX0_countEachYear_56 rfl ?_
  refine g_getR C 10 78 rfl q_X0_41 rfl rfl dX0_countEachYear_57 ?_
  refine g_lconst C (0 : Int64) dX0_countEachYear_60 rfl ?_
  obtain ⟨q1, hq1, h⟩ := bd h
  refine g_callSV C [.ref 78, .long (0 : Int64)] qs_X0_58 (m_J7_fill_d0a16 rfl ho_18 hq1) rfl rfl ⟨rfl, rfl⟩ ⟨by decide, by decide⟩ (Nat.le_of_ble_eq_true rfl) dX0_countEachYear_61 ?_
  refine g_aload_n C 0 dX0_countEachYear_64 rfl ?_
  refine g_getR C 10 78 rfl q_X0_41 rfl rfl dX0_countEachYear_65 ?_
  refine g_aload_n C 0 dX0_countEachYear_68 rfl ?_
  refine g_getA C 0 63 rfl q_X0_50 rfl rfl dX0_countEachYear_69 ?_
  refine g_getI C 2 rfl q_X0_73 rfl dX0_countEachYear_72 ?_
  refine g_lconst C (1 : Int64) dX0_countEachYear_75 rfl ?_
  obtain ⟨hi2, h⟩ := cI_some h
  refine g_last C 128 rfl ho_18 hi2 dX0_countEachYear_76 ?_
  refine g_nmS (fun σ3 eσ3 => ?_)
  have h := ap_at eσ3 h
  refine g_aload_n C 0 dX0_countEachYear_77 rfl ?_
  refine g_getA C 0 63 rfl q_X0_50 rfl rfl dX0_countEachYear_78 ?_
  refine g_getI C 0 rfl q_X0_64 rfl dX0_countEachYear_81 ?_
  refine g_iconst C (1 : Int32) dX0_countEachYear_84 rfl ?_
  refine g_isub C dX0_countEachYear_85 ?_
  refine g_nmI (fun z4 ez4 => ?_)
  have h := ap_at ez4 h
  refine g_istore_n C [(2, .int z4), (0, .ref 70), (1, .int x1)] dX0_countEachYear_86 (by decide) rfl ?_
  exact g_sub [1, 2, 0] rfl ((s_X0_countEachYear_87 C FU) x1 z4 σ3 h)
def f_X0_countEachYear (x1 : Int32) (σ : St) : Option (St) := (f_J7_fill_d0a16 80 40 (0 : Int64) σ).bind (fun q1 => (f_X0_prepare q1).bind (fun q2 => (if q2.1 = 0 then some q2.2 else (f_J7_fill_d0a16 77 128 (0 : Int64) q2.2).bind (fun q4 => cI (ix (0 : Int32) 128) (ap (up2 q4 77 (0 : Int32).toNatClampNeg (1 : Int64)) fun σ6 => (f_X0_countEachYear_33 (f_X0_countEachYear_56) FU) x1 (0 : Int32) σ6)))))
set_option maxRecDepth 20000 in
theorem m_X0_countEachYear {l : Launch} {D : va_G} {ca : Nat → ClassId} {ad : Nat → Nat} {x1 : Int32} {σ : St} {R : St} (h : f_X0_countEachYear x1 σ = some R) : gM l D ca ad 91 LC yX0_countEachYear cX0_countEachYear 3 none rm_X0_countEachYear [.ref 70, .int x1] σ none R := by
  refine gM_of (by decide) (Nat.le_of_ble_eq_true rfl) (fun p e s m args below meth c C => ?_)
  refine g_ent (ls' := [(0, .ref 70), (1, .int x1)]) rfl ?_
  unfold f_X0_countEachYear at h
  refine g_aload_n C 0 dX0_countEachYear_0 rfl ?_
  refine g_getR C 12 80 rfl q_X0_47 rfl rfl dX0_countEachYear_1 ?_
  refine g_lconst C (0 : Int64) dX0_countEachYear_4 rfl ?_
  obtain ⟨q1, hq1, h⟩ := bd h
  refine g_callSV C [.ref 80, .long (0 : Int64)] qs_X0_58 (m_J7_fill_d0a16 rfl ho_17 hq1) rfl rfl ⟨rfl, rfl⟩ ⟨by decide, by decide⟩ (Nat.le_of_ble_eq_true rfl) dX0_countEachYear_5 ?_
  refine g_aload_n C 0 dX0_countEachYear_8 rfl ?_
  obtain ⟨q2, hq2, h⟩ := bd h
  refine g_callVI C [] qv_X0_54 (m_X0_prepare hq2) rfl (by decide) rfl rfl rfl ⟨rfl, rfl⟩ ⟨by decide, by decide⟩ (Nat.le_of_ble_eq_true rfl) dX0_countEachYear_9 ?_
  refine g_if_ne C 16 dX0_countEachYear_12 (by decide) (fun hc3 => ?_) (fun hc3 => ?_)
  · have h := ite_f hc3 h
    refine g_aload_n C 0 dX0_countEachYear_16 rfl ?_
    refine g_getR C 9 77 rfl q_X0_37 rfl rfl dX0_countEachYear_17 ?_
    refine g_lconst C (0 : Int64) dX0_countEachYear_20 rfl ?_
    obtain ⟨q4, hq4, h⟩ := bd h
    refine g_callSV C [.ref 77, .long (0 : Int64)] qs_X0_58 (m_J7_fill_d0a16 rfl ho_18 hq4) rfl rfl ⟨rfl, rfl⟩ ⟨by decide, by decide⟩ (Nat.le_of_ble_eq_true rfl) dX0_countEachYear_21 ?_
    refine g_aload_n C 0 dX0_countEachYear_24 rfl ?_
    refine g_getR C 9 77 rfl q_X0_37 rfl rfl dX0_countEachYear_25 ?_
    refine g_iconst C (0 : Int32) dX0_countEachYear_28 rfl ?_
    refine g_lconst C (1 : Int64) dX0_countEachYear_29 rfl ?_
    obtain ⟨hi5, h⟩ := cI_some h
    refine g_last C 128 rfl ho_18 hi5 dX0_countEachYear_30 ?_
    refine g_nmS (fun σ6 eσ6 => ?_)
    have h := ap_at eσ6 h
    refine g_iconst C (0 : Int32) dX0_countEachYear_31 rfl ?_
    refine g_istore_n C [(2, .int (0 : Int32)), (0, .ref 70), (1, .int x1)] dX0_countEachYear_32 (by decide) rfl ?_
    exact g_sub [1, 2, 0] rfl ((s_X0_countEachYear_33 C (s_X0_countEachYear_56 C) FU) x1 (0 : Int32) σ6 h)
  · have h := ite_t hc3 h
    obtain rfl := Option.some.inj h
    exact g_vret C dX0_countEachYear_15
end
