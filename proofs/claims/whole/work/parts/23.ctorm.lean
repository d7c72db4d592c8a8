theorem qf_X8_13 : gLf RX8 13 8 1 (.array .int) := ⟨TX8, 37, tyX8, rfl, by decide, rfl, by decide, inX8, gi (List.mem_of_getElem? (i := 779) (by decide +kernel)) rfl, tyX8_ok, nmX8, by decide, rfl, by decide +kernel⟩
theorem qf_X8_17 : gLf RX8 17 8 2 (.array .int) := ⟨TX8, 37, tyX8, rfl, by decide, rfl, by decide, inX8, gi (List.mem_of_getElem? (i := 780) (by decide +kernel)) rfl, tyX8_ok, nmX8, by decide, rfl, by decide +kernel⟩
theorem qf_X8_20 : gLf RX8 20 8 4 (.array .int) := ⟨TX8, 37, tyX8, rfl, by decide, rfl, by decide, inX8, gi (List.mem_of_getElem? (i := 782) (by decide +kernel)) rfl, tyX8_ok, nmX8, by decide, rfl, by decide +kernel⟩
theorem qf_X8_23 : gLf RX8 23 8 5 (.array .int) := ⟨TX8, 37, tyX8, rfl, by decide, rfl, by decide, inX8, gi (List.mem_of_getElem? (i := 783) (by decide +kernel)) rfl, tyX8_ok, nmX8, by decide, rfl, by decide +kernel⟩
theorem qf_X8_26 : gLf RX8 26 8 6 (.array .int) := ⟨TX8, 37, tyX8, rfl, by decide, rfl, by decide, inX8, gi (List.mem_of_getElem? (i := 784) (by decide +kernel)) rfl, tyX8_ok, nmX8, by decide, rfl, by decide +kernel⟩
theorem qf_X8_29 : gLf RX8 29 8 7 (.array .int) := ⟨TX8, 37, tyX8, rfl, by decide, rfl, by decide, inX8, gi (List.mem_of_getElem? (i := 785) (by decide +kernel)) rfl, tyX8_ok, nmX8, by decide, rfl, by decide +kernel⟩
theorem qf_X8_32 : gLf RX8 32 8 8 (.array .int) := ⟨TX8, 37, tyX8, rfl, by decide, rfl, by decide, inX8, gi (List.mem_of_getElem? (i := 786) (by decide +kernel)) rfl, tyX8_ok, nmX8, by decide, rfl, by decide +kernel⟩
theorem qf_X8_35 : gLf RX8 35 8 9 (.array .int) := ⟨TX8, 37, tyX8, rfl, by decide, rfl, by decide, inX8, gi (List.mem_of_getElem? (i := 787) (by decide +kernel)) rfl, tyX8_ok, nmX8, by decide, rfl, by decide +kernel⟩
theorem qf_X8_38 : gLf RX8 38 8 11 (.array .int) := ⟨TX8, 37, tyX8, rfl, by decide, rfl, by decide, inX8, gi (List.mem_of_getElem? (i := 789) (by decide +kernel)) rfl, tyX8_ok, nmX8, by decide, rfl, by decide +kernel⟩
theorem qf_X8_45 : gLf RX8 45 8 14 (.array .int) := ⟨TX8, 37, tyX8, rfl, by decide, rfl, by decide, inX8, gi (List.mem_of_getElem? (i := 792) (by decide +kernel)) rfl, tyX8_ok, nmX8, by decide, rfl, by decide +kernel⟩
theorem qf_X8_48 : gLf RX8 48 8 15 (.array .int) := ⟨TX8, 37, tyX8, rfl, by decide, rfl, by decide, inX8, gi (List.mem_of_getElem? (i := 793) (by decide +kernel)) rfl, tyX8_ok, nmX8, by decide, rfl, by decide +kernel⟩
theorem qf_X8_51 : gLf RX8 51 8 16 (.array .int) := ⟨TX8, 37, tyX8, rfl, by decide, rfl, by decide, inX8, gi (List.mem_of_getElem? (i := 794) (by decide +kernel)) rfl, tyX8_ok, nmX8, by decide, rfl, by decide +kernel⟩
theorem qf_X8_54 : gLf RX8 54 8 17 (.array .int) := ⟨TX8, 37, tyX8, rfl, by decide, rfl, by decide, inX8, gi (List.mem_of_getElem? (i := 795) (by decide +kernel)) rfl, tyX8_ok, nmX8, by decide, rfl, by decide +kernel⟩
theorem qf_X8_57 : gLf RX8 57 8 18 (.array .int) := ⟨TX8, 37, tyX8, rfl, by decide, rfl, by decide, inX8, gi (List.mem_of_getElem? (i := 796) (by decide +kernel)) rfl, tyX8_ok, nmX8, by decide, rfl, by decide +kernel⟩
theorem qf_X8_60 : gLf RX8 60 8 21 (.array .int) := ⟨TX8, 37, tyX8, rfl, by decide, rfl, by decide, inX8, gi (List.mem_of_getElem? (i := 799) (by decide +kernel)) rfl, tyX8_ok, nmX8, by decide, rfl, by decide +kernel⟩
theorem qf_X8_63 : gLf RX8 63 8 25 (.array .int) := ⟨TX8, 37, tyX8, rfl, by decide, rfl, by decide, inX8, gi (List.mem_of_getElem? (i := 803) (by decide +kernel)) rfl, tyX8_ok, nmX8, by decide, rfl, by decide +kernel⟩
theorem qf_X8_66 : gLf RX8 66 8 26 (.array .long) := ⟨TX8, 37, tyX8, rfl, by decide, rfl, by decide, inX8, gi (List.mem_of_getElem? (i := 804) (by decide +kernel)) rfl, tyX8_ok, nmX8, by decide, rfl, by decide +kernel⟩
theorem qf_X8_70 : gLf RX8 70 8 28 (.array .int) := ⟨TX8, 37, tyX8, rfl, by decide, rfl, by decide, inX8, gi (List.mem_of_getElem? (i := 806) (by decide +kernel)) rfl, tyX8_ok, nmX8, by decide, rfl, by decide +kernel⟩
theorem qf_X8_73 : gLf RX8 73 8 29 (.array .int) := ⟨TX8, 37, tyX8, rfl, by decide, rfl, by decide, inX8, gi (List.mem_of_getElem? (i := 807) (by decide +kernel)) rfl, tyX8_ok, nmX8, by decide, rfl, by decide +kernel⟩
theorem qf_X8_76 : gLf RX8 76 8 30 (.array .long) := ⟨TX8, 37, tyX8, rfl, by decide, rfl, by decide, inX8, gi (List.mem_of_getElem? (i := 808) (by decide +kernel)) rfl, tyX8_ok, nmX8, by decide, rfl, by decide +kernel⟩
theorem qf_X8_79 : gLf RX8 79 8 31 (.array .long) := ⟨TX8, 37, tyX8, rfl, by decide, rfl, by decide, inX8, gi (List.mem_of_getElem? (i := 809) (by decide +kernel)) rfl, tyX8_ok, nmX8, by decide, rfl, by decide +kernel⟩
theorem qf_X8_82 : gLf RX8 82 8 32 (.array .long) := ⟨TX8, 37, tyX8, rfl, by decide, rfl, by decide, inX8, gi (List.mem_of_getElem? (i := 810) (by decide +kernel)) rfl, tyX8_ok, nmX8, by decide, rfl, by decide +kernel⟩
theorem qf_X8_85 : gLf RX8 85 8 34 (.array .long) := ⟨TX8, 37, tyX8, rfl, by decide, rfl, by decide, inX8, gi (List.mem_of_getElem? (i := 812) (by decide +kernel)) rfl, tyX8_ok, nmX8, by decide, rfl, by decide +kernel⟩
theorem qf_X8_88 : gLf RX8 88 8 35 (.array .int) := ⟨TX8, 37, tyX8, rfl, by decide, rfl, by decide, inX8, gi (List.mem_of_getElem? (i := 813) (by decide +kernel)) rfl, tyX8_ok, nmX8, by decide, rfl, by decide +kernel⟩
theorem qf_X8_91 : gLf RX8 91 8 36 (.array .int) := ⟨TX8, 37, tyX8, rfl, by decide, rfl, by decide, inX8, gi (List.mem_of_getElem? (i := 814) (by decide +kernel)) rfl, tyX8_ok, nmX8, by decide, rfl, by decide +kernel⟩
theorem qo_X8_1 : okO RX8 1 := ⟨gi (List.mem_of_getElem? (i := 777) (by decide +kernel)) rfl, gi (List.mem_of_getElem? (i := 74) (by decide +kernel)) rfl, gi (List.mem_of_getElem? (i := 75) (by decide +kernel)) rfl⟩
def rm_X8_init : Room := { frames := 1, cells := 25, slots := 2207, locals := 40 }
def rho_X8_init : St := (up1 (up1 (up1 (up1 (up1 (up1 (up1 (up1 (up1 (up1 (up1 (up1 (up1 (up1 (up1 (up1 (up1 (up1 (up1 (up1 (up1 (up1 (up1 (up1 (up1 (up1 (up1 (up1 (up1 (up1 (up1 (up1 (up1 (up1 (up1 (up1 (up1 (up1 (up1 (up1 (up1 (up1 (up1 (up1 (up1 (up1 (up1 (up1 (up1 (up1 (up1 (up1 (up1 (up1 (up1 (up1 (up1 (up1 (up1 (up1 (up1 (up1 (up1 (up1 (up1 (clr (clr (clr (clr (clr (clr (clr (clr (clr (clr (clr (clr (clr (clr (clr (clr (up2 (clr (clr (clr (clr (clr (clr (clr (clr (clr (up1 zst 0 0 (30 : Int32)) 1) 2) 3) 4) 5) 6) 7) 8) 9) 0 12 (1 : Int64)) 10) 11) 12) 13) 14) 15) 16) 17) 18) 19) 20) 21) 22) 23) 24) 25) 1 ((0 : Int32)).toNatClampNeg ((500 : Int32) - ((5 : Int32) * (0 : Int32)))) 1 ((1 : Int32)).toNatClampNeg ((500 : Int32) - ((5 : Int32) * (1 : Int32)))) 1 ((2 : Int32)).toNatClampNeg ((500 : Int32) - ((5 : Int32) * (2 : Int32)))) 1 ((3 : Int32)).toNatClampNeg ((500 : Int32) - ((5 : Int32) * (3 : Int32)))) 1 ((4 : Int32)).toNatClampNeg ((500 : Int32) - ((5 : Int32) * (4 : Int32)))) 1 ((5 : Int32)).toNatClampNeg ((500 : Int32) - ((5 : Int32) * (5 : Int32)))) 1 ((6 : Int32)).toNatClampNeg ((500 : Int32) - ((5 : Int32) * (6 : Int32)))) 1 ((7 : Int32)).toNatClampNeg ((500 : Int32) - ((5 : Int32) * (7 : Int32)))) 1 ((8 : Int32)).toNatClampNeg ((500 : Int32) - ((5 : Int32) * (8 : Int32)))) 1 ((9 : Int32)).toNatClampNeg ((500 : Int32) - ((5 : Int32) * (9 : Int32)))) 1 ((10 : Int32)).toNatClampNeg ((500 : Int32) - ((5 : Int32) * (10 : Int32)))) 1 ((11 : Int32)).toNatClampNeg ((500 : Int32) - ((5 : Int32) * (11 : Int32)))) 1 ((12 : Int32)).toNatClampNeg ((500 : Int32) - ((5 : Int32) * (12 : Int32)))) 1 ((13 : Int32)).toNatClampNeg ((500 : Int32) - ((5 : Int32) * (13 : Int32)))) 1 ((14 : Int32)).toNatClampNeg ((500 : Int32) - ((5 : Int32) * (14 : Int32)))) 1 ((15 : Int32)).toNatClampNeg ((500 : Int32) - ((5 : Int32) * (15 : Int32)))) 1 ((16 : Int32)).toNatClampNeg ((500 : Int32) - ((5 : Int32) * (16 : Int32)))) 1 ((17 : Int32)).toNatClampNeg ((500 : Int32) - ((5 : Int32) * (17 : Int32)))) 1 ((18 : Int32)).toNatClampNeg ((500 : Int32) - ((5 : Int32) * (18 : Int32)))) 1 ((19 : Int32)).toNatClampNeg ((500 : Int32) - ((5 : Int32) * (19 : Int32)))) 1 ((20 : Int32)).toNatClampNeg ((500 : Int32) - ((5 : Int32) * (20 : Int32)))) 1 ((21 : Int32)).toNatClampNeg ((500 : Int32) - ((5 : Int32) * (21 : Int32)))) 1 ((22 : Int32)).toNatClampNeg ((500 : Int32) - ((5 : Int32) * (22 : Int32)))) 1 ((23 : Int32)).toNatClampNeg ((500 : Int32) - ((5 : Int32) * (23 : Int32)))) 1 ((24 : Int32)).toNatClampNeg ((500 : Int32) - ((5 : Int32) * (24 : Int32)))) 1 ((25 : Int32)).toNatClampNeg ((500 : Int32) - ((5 : Int32) * (25 : Int32)))) 1 ((26 : Int32)).toNatClampNeg ((500 : Int32) - ((5 : Int32) * (26 : Int32)))) 1 ((27 : Int32)).toNatClampNeg ((500 : Int32) - ((5 : Int32) * (27 : Int32)))) 1 ((28 : Int32)).toNatClampNeg ((500 : Int32) - ((5 : Int32) * (28 : Int32)))) 1 ((29 : Int32)).toNatClampNeg ((500 : Int32) - ((5 : Int32) * (29 : Int32)))) 1 ((30 : Int32)).toNatClampNeg ((500 : Int32) - ((5 : Int32) * (30 : Int32)))) 1 ((31 : Int32)).toNatClampNeg ((500 : Int32) - ((5 : Int32) * (31 : Int32)))) 1 ((32 : Int32)).toNatClampNeg ((500 : Int32) - ((5 : Int32) * (32 : Int32)))) 1 ((33 : Int32)).toNatClampNeg ((500 : Int32) - ((5 : Int32) * (33 : Int32)))) 1 ((34 : Int32)).toNatClampNeg ((500 : Int32) - ((5 : Int32) * (34 : Int32)))) 1 ((35 : Int32)).toNatClampNeg ((500 : Int32) - ((5 : Int32) * (35 : Int32)))) 1 ((36 : Int32)).toNatClampNeg ((500 : Int32) - ((5 : Int32) * (36 : Int32)))) 1 ((37 : Int32)).toNatClampNeg ((500 : Int32) - ((5 : Int32) * (37 : Int32)))) 1 ((38 : Int32)).toNatClampNeg ((500 : Int32) - ((5 : Int32) * (38 : Int32)))) 1 ((39 : Int32)).toNatClampNeg ((500 : Int32) - ((5 : Int32) * (39 : Int32)))) 2 ((0 : Int32)).toNatClampNeg ((9 : Int32) - (0 : Int32))) 2 ((1 : Int32)).toNatClampNeg ((9 : Int32) - (1 : Int32))) 2 ((2 : Int32)).toNatClampNeg ((9 : Int32) - (2 : Int32))) 2 ((3 : Int32)).toNatClampNeg ((9 : Int32) - (3 : Int32))) 2 ((4 : Int32)).toNatClampNeg ((9 : Int32) - (4 : Int32))) 2 ((5 : Int32)).toNatClampNeg ((9 : Int32) - (5 : Int32))) 2 ((6 : Int32)).toNatClampNeg ((9 : Int32) - (6 : Int32))) 2 ((7 : Int32)).toNatClampNeg ((9 : Int32) - (7 : Int32))) 2 ((8 : Int32)).toNatClampNeg ((9 : Int32) - (8 : Int32))) 2 ((9 : Int32)).toNatClampNeg (0 : Int32)) 2 ((10 : Int32)).toNatClampNeg (0 : Int32)) 2 ((11 : Int32)).toNatClampNeg (0 : Int32)) 2 ((12 : Int32)).toNatClampNeg (0 : Int32)) 2 ((13 : Int32)).toNatClampNeg (0 : Int32)) 2 ((14 : Int32)).toNatClampNeg (0 : Int32)) 2 ((15 : Int32)).toNatClampNeg (0 : Int32)) 2 ((16 : Int32)).toNatClampNeg (0 : Int32)) 2 ((17 : Int32)).toNatClampNeg (0 : Int32)) 2 ((18 : Int32)).toNatClampNeg (0 : Int32)) 2 ((19 : Int32)).toNatClampNeg (0 : Int32)) 2 ((20 : Int32)).toNatClampNeg (0 : Int32)) 12 ((0 : Int32)).toNatClampNeg (-1 : Int32)) 12 ((1 : Int32)).toNatClampNeg (-1 : Int32)) 12 ((2 : Int32)).toNatClampNeg (-1 : Int32)) 12 ((3 : Int32)).toNatClampNeg (-1 : Int32))
set_option maxRecDepth 100000 in
set_option maxHeartbeats 4000000 in
theorem m_X8_init {l : Launch} {D : va_G} {ca : Nat → ClassId} (hw : Nat) : gMi l D ca yX8_init cX8_init 2 rm_X8_init 8 [] hw [8, 14, 13, 11, 11, 11, 24, 24, 25, 11, 26, 27, 27, 28, 29, 12, 25, 19, 16, 16, 18, 18, 18, 17, 30, 26] rho_X8_init 25 2207 := by
  refine gMi_of (exa := []) (by decide) rfl (by decide) (Nat.le_of_ble_eq_true rfl) (fun _ _ => rfl) (fun h0 p e s m args below meth c ad C F hin => ?_)
  refine g_ent (ls' := [(0, .ref 0)]) rfl ?_
  refine g_nrm C F [108] 1 rfl rfl (fun C F => ?_)
  refine g_aload_n C 0 dX8_init_0 rfl ?_
  refine g_objI C qo_X8_1 (by decide) (Nat.le_of_ble_eq_true rfl) dX8_init_1 ?_
  refine g_aload_n C 0 dX8_init_4 rfl ?_
  refine g_bipush C (30 : Int32) dX8_init_5 rfl ?_
  refine g_putPI C 0 rfl (by decide) rfl qp_X8_7 rfl dX8_init_7 ?_
  refine g_aload_n C 0 dX8_init_10 rfl ?_
  refine g_bipush C (40 : Int32) dX8_init_11 rfl ?_
  refine g_newa C F 0 14 40 rfl .int rfl qw_int ho_14 (by decide) (fun _ => rfl) raI (fun _ _ _ => rfl) (by decide) (by decide) (by decide) (by decide +kernel) rfl rfl (Nat.le_of_ble_eq_true rfl) (Nat.le_of_ble_eq_true rfl) dX8_init_13 (fun ad C F => ?_)
  refine g_nrm C F [108, 14] 2 rfl rfl (fun C F => ?_)
  refine g_putPR C 1 140 hin rfl (by decide) (by decide) rfl rfl qf_X8_13 (fun _ => rfl) (fun _ => rfl) (by decide) rfl (by decide) dX8_init_15 (fun C => ?_)
  refine g_nrm C F [140, 14] 2 rfl rfl (fun C F => ?_)
  refine g_aload_n C 0 dX8_init_18 rfl ?_
  refine g_bipush C (21 : Int32) dX8_init_19 rfl ?_
  refine g_newa C F 0 13 21 rfl .int rfl qw_int ho_13 (by decide) (fun _ => rfl) raI (fun _ _ _ => rfl) (by decide) (by decide) (by decide) (by decide +kernel) rfl rfl (Nat.le_of_ble_eq_true rfl) (Nat.le_of_ble_eq_true rfl) dX8_init_21 (fun ad C F => ?_)
  refine g_nrm C F [140, 14, 13] 3 rfl rfl (fun C F => ?_)
  refine g_putPR C 2 204 hin rfl (by decide) (by decide) rfl rfl qf_X8_17 (fun _ => rfl) (fun _ => rfl) (by decide) rfl (by decide) dX8_init_23 (fun C => ?_)
  refine g_nrm C F [204, 14, 13] 3 rfl rfl (fun C F => ?_)
  refine g_aload_n C 0 dX8_init_26 rfl ?_
  refine g_bipush C (7 : Int32) dX8_init_27 rfl ?_
  refine g_newa C F 0 11 7 rfl .int rfl qw_int ho_11 (by decide) (fun _ => rfl) raI (fun _ _ _ => rfl) (by decide) (by decide) (by decide) (by decide +kernel) rfl rfl (Nat.le_of_ble_eq_true rfl) (Nat.le_of_ble_eq_true rfl) dX8_init_29 (fun ad C F => ?_)
  refine g_nrm C F [204, 14, 13, 11] 4 rfl rfl (fun C F => ?_)
  refine g_putPR C 4 460 hin rfl (by decide) (by decide) rfl rfl qf_X8_20 (fun _ => rfl) (fun _ => rfl) (by decide) rfl (by decide) dX8_init_31 (fun C => ?_)
  refine g_nrm C F [460, 14, 13, 11] 4 rfl rfl (fun C F => ?_)
  refine g_aload_n C 0 dX8_init_34 rfl ?_
  refine g_bipush C (7 : Int32) dX8_init_35 rfl ?_
  refine g_newa C F 0 11 7 rfl .int rfl qw_int ho_11 (by decide) (fun _ => rfl) raI (fun _ _ _ => rfl) (by decide) (by decide) (by decide) (by decide +kernel) rfl rfl (Nat.le_of_ble_eq_true rfl) (Nat.le_of_ble_eq_true rfl) dX8_init_37 (fun ad C F => ?_)
  refine g_nrm C F [460, 14, 13, 11, 11] 5 rfl rfl (fun C F => ?_)
  refine g_putPR C 5 972 hin rfl (by decide) (by decide) rfl rfl qf_X8_23 (fun _ => rfl) (fun _ => rfl) (by decide) rfl (by decide) dX8_init_39 (fun C => ?_)
  refine g_nrm C F [972, 14, 13, 11, 11] 5 rfl rfl (fun C F => ?_)
  refine g_aload_n C 0 dX8_init_42 rfl ?_
  refine g_bipush C (7 : Int32) dX8_init_43 rfl ?_
  refine g_newa C F 0 11 7 rfl .int rfl qw_int ho_11 (by decide) (fun _ => rfl) raI (fun _ _ _ => rfl) (by decide) (by decide) (by decide) (by decide +kernel) rfl rfl (Nat.le_of_ble_eq_true rfl) (Nat.le_of_ble_eq_true rfl) dX8_init_45 (fun ad C F => ?_)
  refine g_nrm C F [972, 14, 13, 11, 11, 11] 6 rfl rfl (fun C F => ?_)
  refine g_putPR C 6 1996 hin rfl (by decide) (by decide) rfl rfl qf_X8_26 (fun _ => rfl) (fun _ => rfl) (by decide) rfl (by decide) dX8_init_47 (fun C => ?_)
  refine g_nrm C F [1996, 14, 13, 11, 11, 11] 6 rfl rfl (fun C F => ?_)
  refine g_aload_n C 0 dX8_init_50 rfl ?_
  refine g_bipush C (35 : Int32) dX8_init_51 rfl ?_
  refine g_newa C F 0 24 35 rfl .int rfl qw_int ho_24 (by decide) (fun _ => rfl) raI (fun _ _ _ => rfl) (by decide) (by decide) (by decide) (by decide +kernel) rfl rfl (Nat.le_of_ble_eq_true rfl) (Nat.le_of_ble_eq_true rfl) dX8_init_53 (fun ad C F => ?_)
  refine g_nrm C F [1996, 14, 13, 11, 11, 11, 24] 7 rfl rfl (fun C F => ?_)
  refine g_putPR C 7 4044 hin rfl (by decide) (by decide) rfl rfl qf_X8_29 (fun _ => rfl) (fun _ => rfl) (by decide) rfl (by decide) dX8_init_55 (fun C => ?_)
  refine g_nrm C F [4044, 14, 13, 11, 11, 11, 24] 7 rfl rfl (fun C F => ?_)
  refine g_aload_n C 0 dX8_init_58 rfl ?_
  refine g_bipush C (35 : Int32) dX8_init_59 rfl ?_
  refine g_newa C F 0 24 35 rfl .int rfl qw_int ho_24 (by decide) (fun _ => rfl) raI (fun _ _ _ => rfl) (by decide) (by decide) (by decide) (by decide +kernel) rfl rfl (Nat.le_of_ble_eq_true rfl) (Nat.le_of_ble_eq_true rfl) dX8_init_61 (fun ad C F => ?_)
  refine g_nrm C F [4044, 14, 13, 11, 11, 11, 24, 24] 8 rfl rfl (fun C F => ?_)
  refine g_putPR C 8 8140 hin rfl (by decide) (by decide) rfl rfl qf_X8_32 (fun _ => rfl) (fun _ => rfl) (by decide) rfl (by decide) dX8_init_63 (fun C => ?_)
  refine g_nrm C F [8140, 14, 13, 11, 11, 11, 24, 24] 8 rfl rfl (fun C F => ?_)
  refine g_aload_n C 0 dX8_init_66 rfl ?_
  refine g_bipush C (49 : Int32) dX8_init_67 rfl ?_
  refine g_newa C F 0 25 49 rfl .int rfl qw_int ho_25 (by decide) (fun _ => rfl) raI (fun _ _ _ => rfl) (by decide) (by decide) (by decide) (by decide +kernel) rfl rfl (Nat.le_of_ble_eq_true rfl) (Nat.le_of_ble_eq_true rfl) dX8_init_69 (fun ad C F => ?_)
  refine g_nrm C F [8140, 14, 13, 11, 11, 11, 24, 24, 25] 9 rfl rfl (fun C F => ?_)
  refine g_putPR C 9 16332 hin rfl (by decide) (by decide) rfl rfl qf_X8_35 (fun _ => rfl) (fun _ => rfl) (by decide) rfl (by decide) dX8_init_71 (fun C => ?_)
  refine g_nrm C F [16332, 14, 13, 11, 11, 11, 24, 24, 25] 9 rfl rfl (fun C F => ?_)
  refine g_aload_n C 0 dX8_init_74 rfl ?_
  refine g_bipush C (7 : Int32) dX8_init_75 rfl ?_
  refine g_newa C F 0 11 7 rfl .int rfl qw_int ho_11 (by decide) (fun _ => rfl) raI (fun _ _ _ => rfl) (by decide) (by decide) (by decide) (by decide +kernel) rfl rfl (Nat.le_of_ble_eq_true rfl) (Nat.le_of_ble_eq_true rfl) dX8_init_77 (fun ad C F => ?_)
  refine g_nrm C F [16332, 14, 13, 11, 11, 11, 24, 24, 25, 11] 10 rfl rfl (fun C F => ?_)
  refine g_putPR C 11 49100 hin rfl (by decide) (by decide) rfl rfl qf_X8_38 (fun _ => rfl) (fun _ => rfl) (by decide) rfl (by decide) dX8_init_79 (fun C => ?_)
  refine g_nrm C F [49100, 14, 13, 11, 11, 11, 24, 24, 25, 11] 10 rfl rfl (fun C F => ?_)
  refine g_aload_n C 0 dX8_init_82 rfl ?_
  refine g_lconst C (1 : Int64) dX8_init_83 rfl ?_
  refine g_putPL C 12 rfl (by decide) rfl qp_X8_41 rfl dX8_init_84 ?_
  refine g_aload_n C 0 dX8_init_87 rfl ?_
  refine g_sipush C (260 : Int32) dX8_init_88 rfl ?_
  refine g_newa C F 0 26 260 rfl .int rfl qw_int ho_26 (by decide) (fun _ => rfl) raI (fun _ _ _ => rfl) (by decide) (by decide) (by decide) (by decide +kernel) rfl rfl (Nat.le_of_ble_eq_true rfl) (Nat.le_of_ble_eq_true rfl) dX8_init_91 (fun ad C F => ?_)
  refine g_nrm C F [49100, 14, 13, 11, 11, 11, 24, 24, 25, 11, 26] 11 rfl rfl (fun C F => ?_)
  refine g_putPR C 14 311244 hin rfl (by decide) (by decide) rfl rfl qf_X8_45 (fun _ => rfl) (fun _ => rfl) (by decide) rfl (by decide) dX8_init_93 (fun C => ?_)
  refine g_nrm C F [311244, 14, 13, 11, 11, 11, 24, 24, 25, 11, 26] 11 rfl rfl (fun C F => ?_)
  refine g_aload_n C 0 dX8_init_96 rfl ?_
  refine g_iconst C (4 : Int32) dX8_init_97 rfl ?_
  refine g_newa C F 0 27 4 rfl .int rfl qw_int ho_27 (by decide) (fun _ => rfl) raI (fun _ _ _ => rfl) (by decide) (by decide) (by decide) (by decide +kernel) rfl rfl (Nat.le_of_ble_eq_true rfl) (Nat.le_of_ble_eq_true rfl) dX8_init_98 (fun ad C F => ?_)
  refine g_nrm C F [311244, 14, 13, 11, 11, 11, 24, 24, 25, 11, 26, 27] 12 rfl rfl (fun C F => ?_)
  refine g_putPR C 15 835532 hin rfl (by decide) (by decide) rfl rfl qf_X8_48 (fun _ => rfl) (fun _ => rfl) (by decide) rfl (by decide) dX8_init_100 (fun C => ?_)
  refine g_nrm C F [835532, 14, 13, 11, 11, 11, 24, 24, 25, 11, 26, 27] 12 rfl rfl (fun C F => ?_)
  refine g_aload_n C 0 dX8_init_103 rfl ?_
  refine g_iconst C (4 : Int32) dX8_init_104 rfl ?_
  refine g_newa C F 0 27 4 rfl .int rfl qw_int ho_27 (by decide) (fun _ => rfl) raI (fun _ _ _ => rfl) (by decide) (by decide) (by decide) (by decide +kernel) rfl rfl (Nat.le_of_ble_eq_true rfl) (Nat.le_of_ble_eq_true rfl) dX8_init_105 (fun ad C F => ?_)
  refine g_nrm C F [835532, 14, 13, 11, 11, 11, 24, 24, 25, 11, 26, 27, 27] 13 rfl rfl (fun C F => ?_)
  refine g_putPR C 16 1884108 hin rfl (by decide) (by decide) rfl rfl qf_X8_51 (fun _ => rfl) (fun _ => rfl) (by decide) rfl (by decide) dX8_init_107 (fun C => ?_)
  refine g_nrm C F [1884108, 14, 13, 11, 11, 11, 24, 24, 25, 11, 26, 27, 27] 13 rfl rfl (fun C F => ?_)
  refine g_aload_n C 0 dX8_init_110 rfl ?_
  refine g_sipush C (240 : Int32) dX8_init_111 rfl ?_
  refine g_newa C F 0 28 240 rfl .int rfl qw_int ho_28 (by decide) (fun _ => rfl) raI (fun _ _ _ => rfl) (by decide) (by decide) (by decide) (by decide +kernel) rfl rfl (Nat.le_of_ble_eq_true rfl) (Nat.le_of_ble_eq_true rfl) dX8_init_114 (fun ad C F => ?_)
  refine g_nrm C F [1884108, 14, 13, 11, 11, 11, 24, 24, 25, 11, 26, 27, 27, 28] 14 rfl rfl (fun C F => ?_)
  refine g_putPR C 17 3981260 hin rfl (by decide) (by decide) rfl rfl qf_X8_54 (fun _ => rfl) (fun _ => rfl) (by decide) rfl (by decide) dX8_init_116 (fun C => ?_)
  refine g_nrm C F [3981260, 14, 13, 11, 11, 11, 24, 24, 25, 11, 26, 27, 27, 28] 14 rfl rfl (fun C F => ?_)
  refine g_aload_n C 0 dX8_init_119 rfl ?_
  refine g_sipush C (200 : Int32) dX8_init_120 rfl ?_
  refine g_newa C F 0 29 200 rfl .int rfl qw_int ho_29 (by decide) (fun _ => rfl) raI (fun _ _ _ => rfl) (by decide) (by decide) (by decide) (by decide +kernel) rfl rfl (Nat.le_of_ble_eq_true rfl) (Nat.le_of_ble_eq_true rfl) dX8_init_123 (fun ad C F => ?_)
  refine g_nrm C F [3981260, 14, 13, 11, 11, 11, 24, 24, 25, 11, 26, 27, 27, 28, 29] 15 rfl rfl (fun C F => ?_)
  refine g_putPR C 18 8175564 hin rfl (by decide) (by decide) rfl rfl qf_X8_57 (fun _ => rfl) (fun _ => rfl) (by decide) rfl (by decide) dX8_init_125 (fun C => ?_)
  refine g_nrm C F [8175564, 14, 13, 11, 11, 11, 24, 24, 25, 11, 26, 27, 27, 28, 29] 15 rfl rfl (fun C F => ?_)
  refine g_aload_n C 0 dX8_init_128 rfl ?_
  refine g_bipush C (20 : Int32) dX8_init_129 rfl ?_
  refine g_newa C F 0 12 20 rfl .int rfl qw_int ho_12 (by decide) (fun _ => rfl) raI (fun _ _ _ => rfl) (by decide) (by decide) (by decide) (by decide +kernel) rfl rfl (Nat.le_of_ble_eq_true rfl) (Nat.le_of_ble_eq_true rfl) dX8_init_131 (fun ad C F => ?_)
  refine g_nrm C F [8175564, 14, 13, 11, 11, 11, 24, 24, 25, 11, 26, 27, 27, 28, 29, 12] 16 rfl rfl (fun C F => ?_)
  refine g_putPR C 21 41729996 hin rfl (by decide) (by decide) rfl rfl qf_X8_60 (fun _ => rfl) (fun _ => rfl) (by decide) rfl (by decide) dX8_init_133 (fun C => ?_)
  refine g_nrm C F [41729996, 14, 13, 11, 11, 11, 24, 24, 25, 11, 26, 27, 27, 28, 29, 12] 16 rfl rfl (fun C F => ?_)
  refine g_aload_n C 0 dX8_init_136 rfl ?_
  refine g_bipush C (49 : Int32) dX8_init_137 rfl ?_
  refine g_newa C F 0 25 49 rfl .int rfl qw_int ho_25 (by decide) (fun _ => rfl) raI (fun _ _ _ => rfl) (by decide) (by decide) (by decide) (by decide +kernel) rfl rfl (Nat.le_of_ble_eq_true rfl) (Nat.le_of_ble_eq_true rfl) dX8_init_139 (fun ad C F => ?_)
  refine g_nrm C F [41729996, 14, 13, 11, 11, 11, 24, 24, 25, 11, 26, 27, 27, 28, 29, 12, 25] 17 rfl rfl (fun C F => ?_)
  refine g_putPR C 25 578600908 hin rfl (by decide) (by decide) rfl rfl qf_X8_63 (fun _ => rfl) (fun _ => rfl) (by decide) rfl (by decide) dX8_init_141 (fun C => ?_)
  refine g_nrm C F [578600908, 14, 13, 11, 11, 11, 24, 24, 25, 11, 26, 27, 27, 28, 29, 12, 25] 17 rfl rfl (fun C F => ?_)
  refine g_aload_n C 0 dX8_init_144 rfl ?_
  refine g_sipush C (280 : Int32) dX8_init_145 rfl ?_
  refine g_newa C F 1 19 280 rfl .long rfl qw_long ho_19 (by decide) (fun _ => rfl) raJ (fun _ _ _ => rfl) (by decide) (by decide) (by decide) (by decide +kernel) rfl rfl (Nat.le_of_ble_eq_true rfl) (Nat.le_of_ble_eq_true rfl) dX8_init_148 (fun ad C F => ?_)
  refine g_nrm C F [578600908, 14, 13, 11, 11, 11, 24, 24, 25, 11, 26, 27, 27, 28, 29, 12, 25, 19] 18 rfl rfl (fun C F => ?_)
  refine g_putPR C 26 1652342732 hin rfl (by decide) (by decide) rfl rfl qf_X8_66 (fun _ => rfl) (fun _ => rfl) (by decide) rfl (by decide) dX8_init_150 (fun C => ?_)
  refine g_nrm C F [1652342732, 14, 13, 11, 11, 11, 24, 24, 25, 11, 26, 27, 27, 28, 29, 12, 25, 19] 18 rfl rfl (fun C F => ?_)
  refine g_aload_n C 0 dX8_init_153 rfl ?_
  refine g_sipush C (128 : Int32) dX8_init_154 rfl ?_
  refine g_newa C F 0 16 128 rfl .int rfl qw_int ho_16 (by decide) (fun _ => rfl) raI (fun _ _ _ => rfl) (by decide) (by decide) (by decide) (by decide +kernel) rfl rfl (Nat.le_of_ble_eq_true rfl) (Nat.le_of_ble_eq_true rfl) dX8_init_157 (fun ad C F => ?_)
  refine g_nrm C F [1652342732, 14, 13, 11, 11, 11, 24, 24, 25, 11, 26, 27, 27, 28, 29, 12, 25, 19, 16] 19 rfl rfl (fun C F => ?_)
  refine g_putPR C 28 5947310028 hin rfl (by decide) (by decide) rfl rfl qf_X8_70 (fun _ => rfl) (fun _ => rfl) (by decide) rfl (by decide) dX8_init_159 (fun C => ?_)
  refine g_nrm C F [5947310028, 14, 13, 11, 11, 11, 24, 24, 25, 11, 26, 27, 27, 28, 29, 12, 25, 19, 16] 19 rfl rfl (fun C F => ?_)
  refine g_aload_n C 0 dX8_init_162 rfl ?_
  refine g_sipush C (128 : Int32) dX8_init_163 rfl ?_
  refine g_newa C F 0 16 128 rfl .int rfl qw_int ho_16 (by decide) (fun _ => rfl) raI (fun _ _ _ => rfl) (by decide) (by decide) (by decide) (by decide +kernel) rfl rfl (Nat.le_of_ble_eq_true rfl) (Nat.le_of_ble_eq_true rfl) dX8_init_166 (fun ad C F => ?_)
  refine g_nrm C F [5947310028, 14, 13, 11, 11, 11, 24, 24, 25, 11, 26, 27, 27, 28, 29, 12, 25, 19, 16, 16] 20 rfl rfl (fun C F => ?_)
  refine g_putPR C 29 14537244620 hin rfl (by decide) (by decide) rfl rfl qf_X8_73 (fun _ => rfl) (fun _ => rfl) (by decide) rfl (by decide) dX8_init_168 (fun C => ?_)
  refine g_nrm C F [14537244620, 14, 13, 11, 11, 11, 24, 24, 25, 11, 26, 27, 27, 28, 29, 12, 25, 19, 16, 16] 20 rfl rfl (fun C F => ?_)
  refine g_aload_n C 0 dX8_init_171 rfl ?_
  refine g_sipush C (128 : Int32) dX8_init_172 rfl ?_
  refine g_newa C F 1 18 128 rfl .long rfl qw_long ho_18 (by decide) (fun _ => rfl) raJ (fun _ _ _ => rfl) (by decide) (by decide) (by decide) (by decide +kernel) rfl rfl (Nat.le_of_ble_eq_true rfl) (Nat.le_of_ble_eq_true rfl) dX8_init_175 (fun ad C F => ?_)
  refine g_nrm C F [14537244620, 14, 13, 11, 11, 11, 24, 24, 25, 11, 26, 27, 27, 28, 29, 12, 25, 19, 16, 16, 18] 21 rfl rfl (fun C F => ?_)
  refine g_putPR C 30 31717113804 hin rfl (by decide) (by decide) rfl rfl qf_X8_76 (fun _ => rfl) (fun _ => rfl) (by decide) rfl (by decide) dX8_init_177 (fun C => ?_)
  refine g_nrm C F [31717113804, 14, 13, 11, 11, 11, 24, 24, 25, 11, 26, 27, 27, 28, 29, 12, 25, 19, 16, 16, 18] 21 rfl rfl (fun C F => ?_)
  refine g_aload_n C 0 dX8_init_180 rfl ?_
  refine g_sipush C (128 : Int32) dX8_init_181 rfl ?_
  refine g_newa C F 1 18 128 rfl .long rfl qw_long ho_18 (by decide) (fun _ => rfl) raJ (fun _ _ _ => rfl) (by decide) (by decide) (by decide) (by decide +kernel) rfl rfl (Nat.le_of_ble_eq_true rfl) (Nat.le_of_ble_eq_true rfl) dX8_init_184 (fun ad C F => ?_)
  refine g_nrm C F [31717113804, 14, 13, 11, 11, 11, 24, 24, 25, 11, 26, 27, 27, 28, 29, 12, 25, 19, 16, 16, 18, 18] 22 rfl rfl (fun C F => ?_)
  refine g_putPR C 31 66076852172 hin rfl (by decide) (by decide) rfl rfl qf_X8_79 (fun _ => rfl) (fun _ => rfl) (by decide) rfl (by decide) dX8_init_186 (fun C => ?_)
  refine g_nrm C F [66076852172, 14, 13, 11, 11, 11, 24, 24, 25, 11, 26, 27, 27, 28, 29, 12, 25, 19, 16, 16, 18, 18] 22 rfl rfl (fun C F => ?_)
  refine g_aload_n C 0 dX8_init_189 rfl ?_
  refine g_sipush C (128 : Int32) dX8_init_190 rfl ?_
  refine g_newa C F 1 18 128 rfl .long rfl qw_long ho_18 (by decide) (fun _ => rfl) raJ (fun _ _ _ => rfl) (by decide) (by decide) (by decide) (by decide +kernel) rfl rfl (Nat.le_of_ble_eq_true rfl) (Nat.le_of_ble_eq_true rfl) dX8_init_193 (fun ad C F => ?_)
  refine g_nrm C F [66076852172, 14, 13, 11, 11, 11, 24, 24, 25, 11, 26, 27, 27, 28, 29, 12, 25, 19, 16, 16, 18, 18, 18] 23 rfl rfl (fun C F => ?_)
  refine g_putPR C 32 134796328908 hin rfl (by decide) (by decide) rfl rfl qf_X8_82 (fun _ => rfl) (fun _ => rfl) (by decide) rfl (by decide) dX8_init_195 (fun C => ?_)
  refine g_nrm C F [134796328908, 14, 13, 11, 11, 11, 24, 24, 25, 11, 26, 27, 27, 28, 29, 12, 25, 19, 16, 16, 18, 18, 18] 23 rfl rfl (fun C F => ?_)
  refine g_aload_n C 0 dX8_init_198 rfl ?_
  refine g_bipush C (40 : Int32) dX8_init_199 rfl ?_
  refine g_newa C F 1 17 40 rfl .long rfl qw_long ho_17 (by decide) (fun _ => rfl) raJ (fun _ _ _ => rfl) (by decide) (by decide) (by decide) (by decide +kernel) rfl rfl (Nat.le_of_ble_eq_true rfl) (Nat.le_of_ble_eq_true rfl) dX8_init_201 (fun ad C F => ?_)
  refine g_nrm C F [134796328908, 14, 13, 11, 11, 11, 24, 24, 25, 11, 26, 27, 27, 28, 29, 12, 25, 19, 16, 16, 18, 18, 18, 17] 24 rfl rfl (fun C F => ?_)
  refine g_putPR C 34 409674235852 hin rfl (by decide) (by decide) rfl rfl qf_X8_85 (fun _ => rfl) (fun _ => rfl) (by decide) rfl (by decide) dX8_init_203 (fun C => ?_)
  refine g_nrm C F [409674235852, 14, 13, 11, 11, 11, 24, 24, 25, 11, 26, 27, 27, 28, 29, 12, 25, 19, 16, 16, 18, 18, 18, 17] 24 rfl rfl (fun C F => ?_)
  refine g_aload_n C 0 dX8_init_206 rfl ?_
  refine g_iconst C (2 : Int32) dX8_init_207 rfl ?_
  refine g_newa C F 0 30 2 rfl .int rfl qw_int ho_30 (by decide) (fun _ => rfl) raI (fun _ _ _ => rfl) (by decide) (by decide) (by decide) (by decide +kernel) rfl rfl (Nat.le_of_ble_eq_true rfl) (Nat.le_of_ble_eq_true rfl) dX8_init_208 (fun ad C F => ?_)
  refine g_nrm C F [409674235852, 14, 13, 11, 11, 11, 24, 24, 25, 11, 26, 27, 27, 28, 29, 12, 25, 19, 16, 16, 18, 18, 18, 17, 30] 25 rfl rfl (fun C F => ?_)
  refine g_putPR C 35 959430049740 hin rfl (by decide) (by decide) rfl rfl qf_X8_88 (fun _ => rfl) (fun _ => rfl) (by decide) rfl (by decide) dX8_init_210 (fun C => ?_)
  refine g_nrm C F [959430049740, 14, 13, 11, 11, 11, 24, 24, 25, 11, 26, 27, 27, 28, 29, 12, 25, 19, 16, 16, 18, 18, 18, 17, 30] 25 rfl rfl (fun C F => ?_)
  refine g_aload_n C 0 dX8_init_213 rfl ?_
  refine g_sipush C (260 : Int32) dX8_init_214 rfl ?_
  refine g_newa C F 0 26 260 rfl .int rfl qw_int ho_26 (by decide) (fun _ => rfl) raI (fun _ _ _ => rfl) (by decide) (by decide) (by decide) (by decide +kernel) rfl rfl (Nat.le_of_ble_eq_true rfl) (Nat.le_of_ble_eq_true rfl) dX8_init_217 (fun ad C F => ?_)
  refine g_nrm C F [959430049740, 14, 13, 11, 11, 11, 24, 24, 25, 11, 26, 27, 27, 28, 29, 12, 25, 19, 16, 16, 18, 18, 18, 17, 30, 26] 26 rfl rfl (fun C F => ?_)
  refine g_putPR C 36 2058941677516 hin rfl (by decide) (by decide) rfl rfl qf_X8_91 (fun _ => rfl) (fun _ => rfl) (by decide) rfl (by decide) dX8_init_219 (fun C => ?_)
  refine g_nrm C F [2058941677516, 14, 13, 11, 11, 11, 24, 24, 25, 11, 26, 27, 27, 28, 29, 12, 25, 19, 16, 16, 18, 18, 18, 17, 30, 26] 26 rfl rfl (fun C F => ?_)
  refine g_recode C 0 8 (by decide) (g_full (c0 := 8) (ms := 128683854838) (by decide) (by decide)) (fun C => ?_)
  refine g_nrm C F [8, 14, 13, 11, 11, 11, 24, 24, 25, 11, 26, 27, 27, 28, 29, 12, 25, 19, 16, 16, 18, 18, 18, 17, 30, 26] 26 rfl rfl (fun C F => ?_)
  refine g_iconst C (0 : Int32) dX8_init_222 rfl ?_
  refine g_istore_n C [(1, .int (0 : Int32)), (0, .ref 0)] dX8_init_223 (by decide) rfl ?_
  refine g_iload_n C 0 dX8_init_224 rfl ?_
  refine g_bipush C (40 : Int32) dX8_init_225 rfl ?_
  refine g_icmp_ge C 249 dX8_init_227 (by decide) (fun hc => absurd hc (by decide)) (fun _ => ?_)
  refine g_aload_n C 1 dX8_init_230 rfl ?_
  refine g_getR C 1 1 rfl q_X8_13 rfl rfl dX8_init_231 ?_
  refine g_iload_n C 0 dX8_init_234 rfl ?_
  refine g_sipush C (500 : Int32) dX8_init_235 rfl ?_
  refine g_iconst C (5 : Int32) dX8_init_238 rfl ?_
  refine g_iload_n C 0 dX8_init_239 rfl ?_
  refine g_imul C dX8_init_240 ?_
  refine g_isub C dX8_init_241 ?_
  refine g_iast C 40 rfl ho_14 (by decide) dX8_init_242 ?_
  refine g_iinc C 0 [(1, .int (1 : Int32)), (0, .ref 0)] dX8_init_243 rfl (by decide) (by decide) rfl ?_
  refine g_goto C 224 dX8_init_246 (by decide) ?_
  refine g_iload_n C 0 dX8_init_224 rfl ?_
  refine g_bipush C (40 : Int32) dX8_init_225 rfl ?_
  refine g_icmp_ge C 249 dX8_init_227 (by decide) (fun hc => absurd hc (by decide)) (fun _ => ?_)
  refine g_aload_n C 1 dX8_init_230 rfl ?_
  refine g_getR C 1 1 rfl q_X8_13 rfl rfl dX8_init_231 ?_
  refine g_iload_n C 0 dX8_init_234 rfl ?_
  refine g_sipush C (500 : Int32) dX8_init_235 rfl ?_
  refine g_iconst C (5 : Int32) dX8_init_238 rfl ?_
  refine g_iload_n C 0 dX8_init_239 rfl ?_
  refine g_imul C dX8_init_240 ?_
  refine g_isub C dX8_init_241 ?_
  refine g_iast C 40 rfl ho_14 (by decide) dX8_init_242 ?_
  refine g_iinc C 0 [(1, .int (2 : Int32)), (0, .ref 0)] dX8_init_243 rfl (by decide) (by decide) rfl ?_
  refine g_goto C 224 dX8_init_246 (by decide) ?_
  refine g_iload_n C 0 dX8_init_224 rfl ?_
  refine g_bipush C (40 : Int32) dX8_init_225 rfl ?_
  refine g_icmp_ge C 249 dX8_init_227 (by decide) (fun hc => absurd hc (by decide)) (fun _ => ?_)
  refine g_aload_n C 1 dX8_init_230 rfl ?_
  refine g_getR C 1 1 rfl q_X8_13 rfl rfl dX8_init_231 ?_
  refine g_iload_n C 0 dX8_init_234 rfl ?_
  refine g_sipush C (500 : Int32) dX8_init_235 rfl ?_
  refine g_iconst C (5 : Int32) dX8_init_238 rfl ?_
  refine g_iload_n C 0 dX8_init_239 rfl ?_
  refine g_imul C dX8_init_240 ?_
  refine g_isub C dX8_init_241 ?_
  refine g_iast C 40 rfl ho_14 (by decide) dX8_init_242 ?_
  refine g_iinc C 0 [(1, .int (3 : Int32)), (0, .ref 0)] dX8_init_243 rfl (by decide) (by decide) rfl ?_
  refine g_goto C 224 dX8_init_246 (by decide) ?_
  refine g_iload_n C 0 dX8_init_224 rfl ?_
  refine g_bipush C (40 : Int32) dX8_init_225 rfl ?_
  refine g_icmp_ge C 249 dX8_init_227 (by decide) (fun hc => absurd hc (by decide)) (fun _ => ?_)
  refine g_aload_n C 1 dX8_init_230 rfl ?_
  refine g_getR C 1 1 rfl q_X8_13 rfl rfl dX8_init_231 ?_
  refine g_iload_n C 0 dX8_init_234 rfl ?_
  refine g_sipush C (500 : Int32) dX8_init_235 rfl ?_
  refine g_iconst C (5 : Int32) dX8_init_238 rfl ?_
  refine g_iload_n C 0 dX8_init_239 rfl ?_
  refine g_imul C dX8_init_240 ?_
  refine g_isub C dX8_init_241 ?_
  refine g_iast C 40 rfl ho_14 (by decide) dX8_init_242 ?_
  refine g_iinc C 0 [(1, .int (4 : Int32)), (0, .ref 0)] dX8_init_243 rfl (by decide) (by decide) rfl ?_
  refine g_goto C 224 dX8_init_246 (by decide) ?_
  refine g_iload_n C 0 dX8_init_224 rfl ?_
  refine g_bipush C (40 : Int32) dX8_init_225 rfl ?_
  refine g_icmp_ge C 249 dX8_init_227 (by decide) (fun hc => absurd hc (by decide)) (fun _ => ?_)
  refine g_aload_n C 1 dX8_init_230 rfl ?_
  refine g_getR C 1 1 rfl q_X8_13 rfl rfl dX8_init_231 ?_
  refine g_iload_n C 0 dX8_init_234 rfl ?_
  refine g_sipush C (500 : Int32) dX8_init_235 rfl ?_
  refine g_iconst C (5 : Int32) dX8_init_238 rfl ?_
  refine g_iload_n C 0 dX8_init_239 rfl ?_
  refine g_imul C dX8_init_240 ?_
  refine g_isub C dX8_init_241 ?_
  refine g_iast C 40 rfl ho_14 (by decide) dX8_init_242 ?_
  refine g_iinc C 0 [(1, .int (5 : Int32)), (0, .ref 0)] dX8_init_243 rfl (by decide) (by decide) rfl ?_
  refine g_goto C 224 dX8_init_246 (by decide) ?_
  refine g_iload_n C 0 dX8_init_224 rfl ?_
  refine g_bipush C (40 : Int32) dX8_init_225 rfl ?_
  refine g_icmp_ge C 249 dX8_init_227 (by decide) (fun hc => absurd hc (by decide)) (fun _ => ?_)
  refine g_aload_n C 1 dX8_init_230 rfl ?_
  refine g_getR C 1 1 rfl q_X8_13 rfl rfl dX8_init_231 ?_
  refine g_iload_n C 0 dX8_init_234 rfl ?_
  refine g_sipush C (500 : Int32) dX8_init_235 rfl ?_
  refine g_iconst C (5 : Int32) dX8_init_238 rfl ?_
  refine g_iload_n C 0 dX8_init_239 rfl ?_
  refine g_imul C dX8_init_240 ?_
  refine g_isub C dX8_init_241 ?_
  refine g_iast C 40 rfl ho_14 (by decide) dX8_init_242 ?_
  refine g_iinc C 0 [(1, .int (6 : Int32)), (0, .ref 0)] dX8_init_243 rfl (by decide) (by decide) rfl ?_
  refine g_goto C 224 dX8_init_246 (by decide) ?_
  refine g_iload_n C 0 dX8_init_224 rfl ?_
  refine g_bipush C (40 : Int32) dX8_init_225 rfl ?_
  refine g_icmp_ge C 249 dX8_init_227 (by decide) (fun hc => absurd hc (by decide)) (fun _ => ?_)
  refine g_aload_n C 1 dX8_init_230 rfl ?_
  refine g_getR C 1 1 rfl q_X8_13 rfl rfl dX8_init_231 ?_
  refine g_iload_n C 0 dX8_init_234 rfl ?_
  refine g_sipush C (500 : Int32) dX8_init_235 rfl ?_
  refine g_iconst C (5 : Int32) dX8_init_238 rfl ?_
  refine g_iload_n C 0 dX8_init_239 rfl ?_
  refine g_imul C dX8_init_240 ?_
  refine g_isub C dX8_init_241 ?_
  refine g_iast C 40 rfl ho_14 (by decide) dX8_init_242 ?_
  refine g_iinc C 0 [(1, .int (7 : Int32)), (0, .ref 0)] dX8_init_243 rfl (by decide) (by decide) rfl ?_
  refine g_goto C 224 dX8_init_246 (by decide) ?_
  refine g_iload_n C 0 dX8_init_224 rfl ?_
  refine g_bipush C (40 : Int32) dX8_init_225 rfl ?_
  refine g_icmp_ge C 249 dX8_init_227 (by decide) (fun hc => absurd hc (by decide)) (fun _ => ?_)
  refine g_aload_n C 1 dX8_init_230 rfl ?_
  refine g_getR C 1 1 rfl q_X8_13 rfl rfl dX8_init_231 ?_
  refine g_iload_n C 0 dX8_init_234 rfl ?_
  refine g_sipush C (500 : Int32) dX8_init_235 rfl ?_
  refine g_iconst C (5 : Int32) dX8_init_238 rfl ?_
  refine g_iload_n C 0 dX8_init_239 rfl ?_
  refine g_imul C dX8_init_240 ?_
  refine g_isub C dX8_init_241 ?_
  refine g_iast C 40 rfl ho_14 (by decide) dX8_init_242 ?_
  refine g_iinc C 0 [(1, .int (8 : Int32)), (0, .ref 0)] dX8_init_243 rfl (by decide) (by decide) rfl ?_
  refine g_goto C 224 dX8_init_246 (by decide) ?_
  refine g_iload_n C 0 dX8_init_224 rfl ?_
  refine g_bipush C (40 : Int32) dX8_init_225 rfl ?_
  refine g_icmp_ge C 249 dX8_init_227 (by decide) (fun hc => absurd hc (by decide)) (fun _ => ?_)
  refine g_aload_n C 1 dX8_init_230 rfl ?_
  refine g_getR C 1 1 rfl q_X8_13 rfl rfl dX8_init_231 ?_
  refine g_iload_n C 0 dX8_init_234 rfl ?_
  refine g_sipush C (500 : Int32) dX8_init_235 rfl ?_
  refine g_iconst C (5 : Int32) dX8_init_238 rfl ?_
  refine g_iload_n C 0 dX8_init_239 rfl ?_
  refine g_imul C dX8_init_240 ?_
  refine g_isub C dX8_init_241 ?_
  refine g_iast C 40 rfl ho_14 (by decide) dX8_init_242 ?_
  refine g_iinc C 0 [(1, .int (9 : Int32)), (0, .ref 0)] dX8_init_243 rfl (by decide) (by decide) rfl ?_
  refine g_goto C 224 dX8_init_246 (by decide) ?_
  refine g_iload_n C 0 dX8_init_224 rfl ?_
  refine g_bipush C (40 : Int32) dX8_init_225 rfl ?_
  refine g_icmp_ge C 249 dX8_init_227 (by decide) (fun hc => absurd hc (by decide)) (fun _ => ?_)
  refine g_aload_n C 1 dX8_init_230 rfl ?_
  refine g_getR C 1 1 rfl q_X8_13 rfl rfl dX8_init_231 ?_
  refine g_iload_n C 0 dX8_init_234 rfl ?_
  refine g_sipush C (500 : Int32) dX8_init_235 rfl ?_
  refine g_iconst C (5 : Int32) dX8_init_238 rfl ?_
  refine g_iload_n C 0 dX8_init_239 rfl ?_
  refine g_imul C dX8_init_240 ?_
  refine g_isub C dX8_init_241 ?_
  refine g_iast C 40 rfl ho_14 (by decide) dX8_init_242 ?_
  refine g_iinc C 0 [(1, .int (10 : Int32)), (0, .ref 0)] dX8_init_243 rfl (by decide) (by decide) rfl ?_
  refine g_goto C 224 dX8_init_246 (by decide) ?_
  refine g_iload_n C 0 dX8_init_224 rfl ?_
  refine g_bipush C (40 : Int32) dX8_init_225 rfl ?_
  refine g_icmp_ge C 249 dX8_init_227 (by decide) (fun hc => absurd hc (by decide)) (fun _ => ?_)
  refine g_aload_n C 1 dX8_init_230 rfl ?_
  refine g_getR C 1 1 rfl q_X8_13 rfl rfl dX8_init_231 ?_
  refine g_iload_n C 0 dX8_init_234 rfl ?_
  refine g_sipush C (500 : Int32) dX8_init_235 rfl ?_
  refine g_iconst C (5 : Int32) dX8_init_238 rfl ?_
  refine g_iload_n C 0 dX8_init_239 rfl ?_
  refine g_imul C dX8_init_240 ?_
  refine g_isub C dX8_init_241 ?_
  refine g_iast C 40 rfl ho_14 (by decide) dX8_init_242 ?_
  refine g_iinc C 0 [(1, .int (11 : Int32)), (0, .ref 0)] dX8_init_243 rfl (by decide) (by decide) rfl ?_
  refine g_goto C 224 dX8_init_246 (by decide) ?_
  refine g_iload_n C 0 dX8_init_224 rfl ?_
  refine g_bipush C (40 : Int32) dX8_init_225 rfl ?_
  refine g_icmp_ge C 249 dX8_init_227 (by decide) (fun hc => absurd hc (by decide)) (fun _ => ?_)
  refine g_aload_n C 1 dX8_init_230 rfl ?_
  refine g_getR C 1 1 rfl q_X8_13 rfl rfl dX8_init_231 ?_
  refine g_iload_n C 0 dX8_init_234 rfl ?_
  refine g_sipush C (500 : Int32) dX8_init_235 rfl ?_
  refine g_iconst C (5 : Int32) dX8_init_238 rfl ?_
  refine g_iload_n C 0 dX8_init_239 rfl ?_
  refine g_imul C dX8_init_240 ?_
  refine g_isub C dX8_init_241 ?_
  refine g_iast C 40 rfl ho_14 (by decide) dX8_init_242 ?_
  refine g_iinc C 0 [(1, .int (12 : Int32)), (0, .ref 0)] dX8_init_243 rfl (by decide) (by decide) rfl ?_
  refine g_goto C 224 dX8_init_246 (by decide) ?_
  refine g_iload_n C 0 dX8_init_224 rfl ?_
  refine g_bipush C (40 : Int32) dX8_init_225 rfl ?_
  refine g_icmp_ge C 249 dX8_init_227 (by decide) (fun hc => absurd hc (by decide)) (fun _ => ?_)
  refine g_aload_n C 1 dX8_init_230 rfl ?_
  refine g_getR C 1 1 rfl q_X8_13 rfl rfl dX8_init_231 ?_
  refine g_iload_n C 0 dX8_init_234 rfl ?_
  refine g_sipush C (500 : Int32) dX8_init_235 rfl ?_
  refine g_iconst C (5 : Int32) dX8_init_238 rfl ?_
  refine g_iload_n C 0 dX8_init_239 rfl ?_
  refine g_imul C dX8_init_240 ?_
  refine g_isub C dX8_init_241 ?_
  refine g_iast C 40 rfl ho_14 (by decide) dX8_init_242 ?_
  refine g_iinc C 0 [(1, .int (13 : Int32)), (0, .ref 0)] dX8_init_243 rfl (by decide) (by decide) rfl ?_
  refine g_goto C 224 dX8_init_246 (by decide) ?_
  refine g_iload_n C 0 dX8_init_224 rfl ?_
  refine g_bipush C (40 : Int32) dX8_init_225 rfl ?_
  refine g_icmp_ge C 249 dX8_init_227 (by decide) (fun hc => absurd hc (by decide)) (fun _ => ?_)
  refine g_aload_n C 1 dX8_init_230 rfl ?_
  refine g_getR C 1 1 rfl q_X8_13 rfl rfl dX8_init_231 ?_
  refine g_iload_n C 0 dX8_init_234 rfl ?_
  refine g_sipush C (500 : Int32) dX8_init_235 rfl ?_
  refine g_iconst C (5 : Int32) dX8_init_238 rfl ?_
  refine g_iload_n C 0 dX8_init_239 rfl ?_
  refine g_imul C dX8_init_240 ?_
  refine g_isub C dX8_init_241 ?_
  refine g_iast C 40 rfl ho_14 (by decide) dX8_init_242 ?_
  refine g_iinc C 0 [(1, .int (14 : Int32)), (0, .ref 0)] dX8_init_243 rfl (by decide) (by decide) rfl ?_
  refine g_goto C 224 dX8_init_246 (by decide) ?_
  refine g_iload_n C 0 dX8_init_224 rfl ?_
  refine g_bipush C (40 : Int32) dX8_init_225 rfl ?_
  refine g_icmp_ge C 249 dX8_init_227 (by decide) (fun hc => absurd hc (by decide)) (fun _ => ?_)
  refine g_aload_n C 1 dX8_init_230 rfl ?_
  refine g_getR C 1 1 rfl q_X8_13 rfl rfl dX8_init_231 ?_
  refine g_iload_n C 0 dX8_init_234 rfl ?_
  refine g_sipush C (500 : Int32) dX8_init_235 rfl ?_
  refine g_iconst C (5 : Int32) dX8_init_238 rfl ?_
  refine g_iload_n C 0 dX8_init_239 rfl ?_
  refine g_imul C dX8_init_240 ?_
  refine g_isub C dX8_init_241 ?_
  refine g_iast C 40 rfl ho_14 (by decide) dX8_init_242 ?_
  refine g_iinc C 0 [(1, .int (15 : Int32)), (0, .ref 0)] dX8_init_243 rfl (by decide) (by decide) rfl ?_
  refine g_goto C 224 dX8_init_246 (by decide) ?_
  refine g_iload_n C 0 dX8_init_224 rfl ?_
  refine g_bipush C (40 : Int32) dX8_init_225 rfl ?_
  refine g_icmp_ge C 249 dX8_init_227 (by decide) (fun hc => absurd hc (by decide)) (fun _ => ?_)
  refine g_aload_n C 1 dX8_init_230 rfl ?_
  refine g_getR C 1 1 rfl q_X8_13 rfl rfl dX8_init_231 ?_
  refine g_iload_n C 0 dX8_init_234 rfl ?_
  refine g_sipush C (500 : Int32) dX8_init_235 rfl ?_
  refine g_iconst C (5 : Int32) dX8_init_238 rfl ?_
  refine g_iload_n C 0 dX8_init_239 rfl ?_
  refine g_imul C dX8_init_240 ?_
  refine g_isub C dX8_init_241 ?_
  refine g_iast C 40 rfl ho_14 (by decide) dX8_init_242 ?_
  refine g_iinc C 0 [(1, .int (16 : Int32)), (0, .ref 0)] dX8_init_243 rfl (by decide) (by decide) rfl ?_
  refine g_goto C 224 dX8_init_246 (by decide) ?_
  refine g_iload_n C 0 dX8_init_224 rfl ?_
  refine g_bipush C (40 : Int32) dX8_init_225 rfl ?_
  refine g_icmp_ge C 249 dX8_init_227 (by decide) (fun hc => absurd hc (by decide)) (fun _ => ?_)
  refine g_aload_n C 1 dX8_init_230 rfl ?_
  refine g_getR C 1 1 rfl q_X8_13 rfl rfl dX8_init_231 ?_
  refine g_iload_n C 0 dX8_init_234 rfl ?_
  refine g_sipush C (500 : Int32) dX8_init_235 rfl ?_
  refine g_iconst C (5 : Int32) dX8_init_238 rfl ?_
  refine g_iload_n C 0 dX8_init_239 rfl ?_
  refine g_imul C dX8_init_240 ?_
  refine g_isub C dX8_init_241 ?_
  refine g_iast C 40 rfl ho_14 (by decide) dX8_init_242 ?_
  refine g_iinc C 0 [(1, .int (17 : Int32)), (0, .ref 0)] dX8_init_243 rfl (by decide) (by decide) rfl ?_
  refine g_goto C 224 dX8_init_246 (by decide) ?_
  refine g_iload_n C 0 dX8_init_224 rfl ?_
  refine g_bipush C (40 : Int32) dX8_init_225 rfl ?_
  refine g_icmp_ge C 249 dX8_init_227 (by decide) (fun hc => absurd hc (by decide)) (fun _ => ?_)
  refine g_aload_n C 1 dX8_init_230 rfl ?_
  refine g_getR C 1 1 rfl q_X8_13 rfl rfl dX8_init_231 ?_
  refine g_iload_n C 0 dX8_init_234 rfl ?_
  refine g_sipush C (500 : Int32) dX8_init_235 rfl ?_
  refine g_iconst C (5 : Int32) dX8_init_238 rfl ?_
  refine g_iload_n C 0 dX8_init_239 rfl ?_
  refine g_imul C dX8_init_240 ?_
  refine g_isub C dX8_init_241 ?_
  refine g_iast C 40 rfl ho_14 (by decide) dX8_init_242 ?_
  refine g_iinc C 0 [(1, .int (18 : Int32)), (0, .ref 0)] dX8_init_243 rfl (by decide) (by decide) rfl ?_
  refine g_goto C 224 dX8_init_246 (by decide) ?_
  refine g_iload_n C 0 dX8_init_224 rfl ?_
  refine g_bipush C (40 : Int32) dX8_init_225 rfl ?_
  refine g_icmp_ge C 249 dX8_init_227 (by decide) (fun hc => absurd hc (by decide)) (fun _ => ?_)
  refine g_aload_n C 1 dX8_init_230 rfl ?_
  refine g_getR C 1 1 rfl q_X8_13 rfl rfl dX8_init_231 ?_
  refine g_iload_n C 0 dX8_init_234 rfl ?_
  refine g_sipush C (500 : Int32) dX8_init_235 rfl ?_
  refine g_iconst C (5 : Int32) dX8_init_238 rfl ?_
  refine g_iload_n C 0 dX8_init_239 rfl ?_
  refine g_imul C dX8_init_240 ?_
  refine g_isub C dX8_init_241 ?_
  refine g_iast C 40 rfl ho_14 (by decide) dX8_init_242 ?_
  refine g_iinc C 0 [(1, .int (19 : Int32)), (0, .ref 0)] dX8_init_243 rfl (by decide) (by decide) rfl ?_
  refine g_goto C 224 dX8_init_246 (by decide) ?_
  refine g_iload_n C 0 dX8_init_224 rfl ?_
  refine g_bipush C (40 : Int32) dX8_init_225 rfl ?_
  refine g_icmp_ge C 249 dX8_init_227 (by decide) (fun hc => absurd hc (by decide)) (fun _ => ?_)
  refine g_aload_n C 1 dX8_init_230 rfl ?_
  refine g_getR C 1 1 rfl q_X8_13 rfl rfl dX8_init_231 ?_
  refine g_iload_n C 0 dX8_init_234 rfl ?_
  refine g_sipush C (500 : Int32) dX8_init_235 rfl ?_
  refine g_iconst C (5 : Int32) dX8_init_238 rfl ?_
  refine g_iload_n C 0 dX8_init_239 rfl ?_
  refine g_imul C dX8_init_240 ?_
  refine g_isub C dX8_init_241 ?_
  refine g_iast C 40 rfl ho_14 (by decide) dX8_init_242 ?_
  refine g_iinc C 0 [(1, .int (20 : Int32)), (0, .ref 0)] dX8_init_243 rfl (by decide) (by decide) rfl ?_
  refine g_goto C 224 dX8_init_246 (by decide) ?_
  refine g_iload_n C 0 dX8_init_224 rfl ?_
  refine g_bipush C (40 : Int32) dX8_init_225 rfl ?_
  refine g_icmp_ge C 249 dX8_init_227 (by decide) (fun hc => absurd hc (by decide)) (fun _ => ?_)
  refine g_aload_n C 1 dX8_init_230 rfl ?_
  refine g_getR C 1 1 rfl q_X8_13 rfl rfl dX8_init_231 ?_
  refine g_iload_n C 0 dX8_init_234 rfl ?_
  refine g_sipush C (500 : Int32) dX8_init_235 rfl ?_
  refine g_iconst C (5 : Int32) dX8_init_238 rfl ?_
  refine g_iload_n C 0 dX8_init_239 rfl ?_
  refine g_imul C dX8_init_240 ?_
  refine g_isub C dX8_init_241 ?_
  refine g_iast C 40 rfl ho_14 (by decide) dX8_init_242 ?_
  refine g_iinc C 0 [(1, .int (21 : Int32)), (0, .ref 0)] dX8_init_243 rfl (by decide) (by decide) rfl ?_
  refine g_goto C 224 dX8_init_246 (by decide) ?_
  refine g_iload_n C 0 dX8_init_224 rfl ?_
  refine g_bipush C (40 : Int32) dX8_init_225 rfl ?_
  refine g_icmp_ge C 249 dX8_init_227 (by decide) (fun hc => absurd hc (by decide)) (fun _ => ?_)
  refine g_aload_n C 1 dX8_init_230 rfl ?_
  refine g_getR C 1 1 rfl q_X8_13 rfl rfl dX8_init_231 ?_
  refine g_iload_n C 0 dX8_init_234 rfl ?_
  refine g_sipush C (500 : Int32) dX8_init_235 rfl ?_
  refine g_iconst C (5 : Int32) dX8_init_238 rfl ?_
  refine g_iload_n C 0 dX8_init_239 rfl ?_
  refine g_imul C dX8_init_240 ?_
  refine g_isub C dX8_init_241 ?_
  refine g_iast C 40 rfl ho_14 (by decide) dX8_init_242 ?_
  refine g_iinc C 0 [(1, .int (22 : Int32)), (0, .ref 0)] dX8_init_243 rfl (by decide) (by decide) rfl ?_
  refine g_goto C 224 dX8_init_246 (by decide) ?_
  refine g_iload_n C 0 dX8_init_224 rfl ?_
  refine g_bipush C (40 : Int32) dX8_init_225 rfl ?_
  refine g_icmp_ge C 249 dX8_init_227 (by decide) (fun hc => absurd hc (by decide)) (fun _ => ?_)
  refine g_aload_n C 1 dX8_init_230 rfl ?_
  refine g_getR C 1 1 rfl q_X8_13 rfl rfl dX8_init_231 ?_
  refine g_iload_n C 0 dX8_init_234 rfl ?_
  refine g_sipush C (500 : Int32) dX8_init_235 rfl ?_
  refine g_iconst C (5 : Int32) dX8_init_238 rfl ?_
  refine g_iload_n C 0 dX8_init_239 rfl ?_
  refine g_imul C dX8_init_240 ?_
  refine g_isub C dX8_init_241 ?_
  refine g_iast C 40 rfl ho_14 (by decide) dX8_init_242 ?_
  refine g_iinc C 0 [(1, .int (23 : Int32)), (0, .ref 0)] dX8_init_243 rfl (by decide) (by decide) rfl ?_
  refine g_goto C 224 dX8_init_246 (by decide) ?_
  refine g_iload_n C 0 dX8_init_224 rfl ?_
  refine g_bipush C (40 : Int32) dX8_init_225 rfl ?_
  refine g_icmp_ge C 249 dX8_init_227 (by decide) (fun hc => absurd hc (by decide)) (fun _ => ?_)
  refine g_aload_n C 1 dX8_init_230 rfl ?_
  refine g_getR C 1 1 rfl q_X8_13 rfl rfl dX8_init_231 ?_
  refine g_iload_n C 0 dX8_init_234 rfl ?_
  refine g_sipush C (500 : Int32) dX8_init_235 rfl ?_
  refine g_iconst C (5 : Int32) dX8_init_238 rfl ?_
  refine g_iload_n C 0 dX8_init_239 rfl ?_
  refine g_imul C dX8_init_240 ?_
  refine g_isub C dX8_init_241 ?_
  refine g_iast C 40 rfl ho_14 (by decide) dX8_init_242 ?_
  refine g_iinc C 0 [(1, .int (24 : Int32)), (0, .ref 0)] dX8_init_243 rfl (by decide) (by decide) rfl ?_
  refine g_goto C 224 dX8_init_246 (by decide) ?_
  refine g_iload_n C 0 dX8_init_224 rfl ?_
  refine g_bipush C (40 : Int32) dX8_init_225 rfl ?_
  refine g_icmp_ge C 249 dX8_init_227 (by decide) (fun hc => absurd hc (by decide)) (fun _ => ?_)
  refine g_aload_n C 1 dX8_init_230 rfl ?_
  refine g_getR C 1 1 rfl q_X8_13 rfl rfl dX8_init_231 ?_
  refine g_iload_n C 0 dX8_init_234 rfl ?_
  refine g_sipush C (500 : Int32) dX8_init_235 rfl ?_
  refine g_iconst C (5 : Int32) dX8_init_238 rfl ?_
  refine g_iload_n C 0 dX8_init_239 rfl ?_
  refine g_imul C dX8_init_240 ?_
  refine g_isub C dX8_init_241 ?_
  refine g_iast C 40 rfl ho_14 (by decide) dX8_init_242 ?_
  refine g_iinc C 0 [(1, .int (25 : Int32)), (0, .ref 0)] dX8_init_243 rfl (by decide) (by decide) rfl ?_
  refine g_goto C 224 dX8_init_246 (by decide) ?_
  refine g_iload_n C 0 dX8_init_224 rfl ?_
  refine g_bipush C (40 : Int32) dX8_init_225 rfl ?_
  refine g_icmp_ge C 249 dX8_init_227 (by decide) (fun hc => absurd hc (by decide)) (fun _ => ?_)
  refine g_aload_n C 1 dX8_init_230 rfl ?_
  refine g_getR C 1 1 rfl q_X8_13 rfl rfl dX8_init_231 ?_
  refine g_iload_n C 0 dX8_init_234 rfl ?_
  refine g_sipush C (500 : Int32) dX8_init_235 rfl ?_
  refine g_iconst C (5 : Int32) dX8_init_238 rfl ?_
  refine g_iload_n C 0 dX8_init_239 rfl ?_
  refine g_imul C dX8_init_240 ?_
  refine g_isub C dX8_init_241 ?_
  refine g_iast C 40 rfl ho_14 (by decide) dX8_init_242 ?_
  refine g_iinc C 0 [(1, .int (26 : Int32)), (0, .ref 0)] dX8_init_243 rfl (by decide) (by decide) rfl ?_
  refine g_goto C 224 dX8_init_246 (by decide) ?_
  refine g_iload_n C 0 dX8_init_224 rfl ?_
  refine g_bipush C (40 : Int32) dX8_init_225 rfl ?_
  refine g_icmp_ge C 249 dX8_init_227 (by decide) (fun hc => absurd hc (by decide)) (fun _ => ?_)
  refine g_aload_n C 1 dX8_init_230 rfl ?_
  refine g_getR C 1 1 rfl q_X8_13 rfl rfl dX8_init_231 ?_
  refine g_iload_n C 0 dX8_init_234 rfl ?_
  refine g_sipush C (500 : Int32) dX8_init_235 rfl ?_
  refine g_iconst C (5 : Int32) dX8_init_238 rfl ?_
  refine g_iload_n C 0 dX8_init_239 rfl ?_
  refine g_imul C dX8_init_240 ?_
  refine g_isub C dX8_init_241 ?_
  refine g_iast C 40 rfl ho_14 (by decide) dX8_init_242 ?_
  refine g_iinc C 0 [(1, .int (27 : Int32)), (0, .ref 0)] dX8_init_243 rfl (by decide) (by decide) rfl ?_
  refine g_goto C 224 dX8_init_246 (by decide) ?_
  refine g_iload_n C 0 dX8_init_224 rfl ?_
  refine g_bipush C (40 : Int32) dX8_init_225 rfl ?_
  refine g_icmp_ge C 249 dX8_init_227 (by decide) (fun hc => absurd hc (by decide)) (fun _ => ?_)
  refine g_aload_n C 1 dX8_init_230 rfl ?_
  refine g_getR C 1 1 rfl q_X8_13 rfl rfl dX8_init_231 ?_
  refine g_iload_n C 0 dX8_init_234 rfl ?_
  refine g_sipush C (500 : Int32) dX8_init_235 rfl ?_
  refine g_iconst C (5 : Int32) dX8_init_238 rfl ?_
  refine g_iload_n C 0 dX8_init_239 rfl ?_
  refine g_imul C dX8_init_240 ?_
  refine g_isub C dX8_init_241 ?_
  refine g_iast C 40 rfl ho_14 (by decide) dX8_init_242 ?_
  refine g_iinc C 0 [(1, .int (28 : Int32)), (0, .ref 0)] dX8_init_243 rfl (by decide) (by decide) rfl ?_
  refine g_goto C 224 dX8_init_246 (by decide) ?_
  refine g_iload_n C 0 dX8_init_224 rfl ?_
  refine g_bipush C (40 : Int32) dX8_init_225 rfl ?_
  refine g_icmp_ge C 249 dX8_init_227 (by decide) (fun hc => absurd hc (by decide)) (fun _ => ?_)
  refine g_aload_n C 1 dX8_init_230 rfl ?_
  refine g_getR C 1 1 rfl q_X8_13 rfl rfl dX8_init_231 ?_
  refine g_iload_n C 0 dX8_init_234 rfl ?_
  refine g_sipush C (500 : Int32) dX8_init_235 rfl ?_
  refine g_iconst C (5 : Int32) dX8_init_238 rfl ?_
  refine g_iload_n C 0 dX8_init_239 rfl ?_
  refine g_imul C dX8_init_240 ?_
  refine g_isub C dX8_init_241 ?_
  refine g_iast C 40 rfl ho_14 (by decide) dX8_init_242 ?_
  refine g_iinc C 0 [(1, .int (29 : Int32)), (0, .ref 0)] dX8_init_243 rfl (by decide) (by decide) rfl ?_
  refine g_goto C 224 dX8_init_246 (by decide) ?_
  refine g_iload_n C 0 dX8_init_224 rfl ?_
  refine g_bipush C (40 : Int32) dX8_init_225 rfl ?_
  refine g_icmp_ge C 249 dX8_init_227 (by decide) (fun hc => absurd hc (by decide)) (fun _ => ?_)
  refine g_aload_n C 1 dX8_init_230 rfl ?_
  refine g_getR C 1 1 rfl q_X8_13 rfl rfl dX8_init_231 ?_
  refine g_iload_n C 0 dX8_init_234 rfl ?_
  refine g_sipush C (500 : Int32) dX8_init_235 rfl ?_
  refine g_iconst C (5 : Int32) dX8_init_238 rfl ?_
  refine g_iload_n C 0 dX8_init_239 rfl ?_
  refine g_imul C dX8_init_240 ?_
  refine g_isub C dX8_init_241 ?_
  refine g_iast C 40 rfl ho_14 (by decide) dX8_init_242 ?_
  refine g_iinc C 0 [(1, .int (30 : Int32)), (0, .ref 0)] dX8_init_243 rfl (by decide) (by decide) rfl ?_
  refine g_goto C 224 dX8_init_246 (by decide) ?_
  refine g_iload_n C 0 dX8_init_224 rfl ?_
  refine g_bipush C (40 : Int32) dX8_init_225 rfl ?_
  refine g_icmp_ge C 249 dX8_init_227 (by decide) (fun hc => absurd hc (by decide)) (fun _ => ?_)
  refine g_aload_n C 1 dX8_init_230 rfl ?_
  refine g_getR C 1 1 rfl q_X8_13 rfl rfl dX8_init_231 ?_
  refine g_iload_n C 0 dX8_init_234 rfl ?_
  refine g_sipush C (500 : Int32) dX8_init_235 rfl ?_
  refine g_iconst C (5 : Int32) dX8_init_238 rfl ?_
  refine g_iload_n C 0 dX8_init_239 rfl ?_
  refine g_imul C dX8_init_240 ?_
  refine g_isub C dX8_init_241 ?_
  refine g_iast C 40 rfl ho_14 (by decide) dX8_init_242 ?_
  refine g_iinc C 0 [(1, .int (31 : Int32)), (0, .ref 0)] dX8_init_243 rfl (by decide) (by decide) rfl ?_
  refine g_goto C 224 dX8_init_246 (by decide) ?_
  refine g_iload_n C 0 dX8_init_224 rfl ?_
  refine g_bipush C (40 : Int32) dX8_init_225 rfl ?_
  refine g_icmp_ge C 249 dX8_init_227 (by decide) (fun hc => absurd hc (by decide)) (fun _ => ?_)
  refine g_aload_n C 1 dX8_init_230 rfl ?_
  refine g_getR C 1 1 rfl q_X8_13 rfl rfl dX8_init_231 ?_
  refine g_iload_n C 0 dX8_init_234 rfl ?_
  refine g_sipush C (500 : Int32) dX8_init_235 rfl ?_
  refine g_iconst C (5 : Int32) dX8_init_238 rfl ?_
  refine g_iload_n C 0 dX8_init_239 rfl ?_
  refine g_imul C dX8_init_240 ?_
  refine g_isub C dX8_init_241 ?_
  refine g_iast C 40 rfl ho_14 (by decide) dX8_init_242 ?_
  refine g_iinc C 0 [(1, .int (32 : Int32)), (0, .ref 0)] dX8_init_243 rfl (by decide) (by decide) rfl ?_
  refine g_goto C 224 dX8_init_246 (by decide) ?_
  refine g_iload_n C 0 dX8_init_224 rfl ?_
  refine g_bipush C (40 : Int32) dX8_init_225 rfl ?_
  refine g_icmp_ge C 249 dX8_init_227 (by decide) (fun hc => absurd hc (by decide)) (fun _ => ?_)
  refine g_aload_n C 1 dX8_init_230 rfl ?_
  refine g_getR C 1 1 rfl q_X8_13 rfl rfl dX8_init_231 ?_
  refine g_iload_n C 0 dX8_init_234 rfl ?_
  refine g_sipush C (500 : Int32) dX8_init_235 rfl ?_
  refine g_iconst C (5 : Int32) dX8_init_238 rfl ?_
  refine g_iload_n C 0 dX8_init_239 rfl ?_
  refine g_imul C dX8_init_240 ?_
  refine g_isub C dX8_init_241 ?_
  refine g_iast C 40 rfl ho_14 (by decide) dX8_init_242 ?_
  refine g_iinc C 0 [(1, .int (33 : Int32)), (0, .ref 0)] dX8_init_243 rfl (by decide) (by decide) rfl ?_
  refine g_goto C 224 dX8_init_246 (by decide) ?_
  refine g_iload_n C 0 dX8_init_224 rfl ?_
  refine g_bipush C (40 : Int32) dX8_init_225 rfl ?_
  refine g_icmp_ge C 249 dX8_init_227 (by decide) (fun hc => absurd hc (by decide)) (fun _ => ?_)
  refine g_aload_n C 1 dX8_init_230 rfl ?_
  refine g_getR C 1 1 rfl q_X8_13 rfl rfl dX8_init_231 ?_
  refine g_iload_n C 0 dX8_init_234 rfl ?_
  refine g_sipush C (500 : Int32) dX8_init_235 rfl ?_
  refine g_iconst C (5 : Int32) dX8_init_238 rfl ?_
  refine g_iload_n C 0 dX8_init_239 rfl ?_
  refine g_imul C dX8_init_240 ?_
  refine g_isub C dX8_init_241 ?_
  refine g_iast C 40 rfl ho_14 (by decide) dX8_init_242 ?_
  refine g_iinc C 0 [(1, .int (34 : Int32)), (0, .ref 0)] dX8_init_243 rfl (by decide) (by decide) rfl ?_
  refine g_goto C 224 dX8_init_246 (by decide) ?_
  refine g_iload_n C 0 dX8_init_224 rfl ?_
  refine g_bipush C (40 : Int32) dX8_init_225 rfl ?_
  refine g_icmp_ge C 249 dX8_init_227 (by decide) (fun hc => absurd hc (by decide)) (fun _ => ?_)
  refine g_aload_n C 1 dX8_init_230 rfl ?_
  refine g_getR C 1 1 rfl q_X8_13 rfl rfl dX8_init_231 ?_
  refine g_iload_n C 0 dX8_init_234 rfl ?_
  refine g_sipush C (500 : Int32) dX8_init_235 rfl ?_
  refine g_iconst C (5 : Int32) dX8_init_238 rfl ?_
  refine g_iload_n C 0 dX8_init_239 rfl ?_
  refine g_imul C dX8_init_240 ?_
  refine g_isub C dX8_init_241 ?_
  refine g_iast C 40 rfl ho_14 (by decide) dX8_init_242 ?_
  refine g_iinc C 0 [(1, .int (35 : Int32)), (0, .ref 0)] dX8_init_243 rfl (by decide) (by decide) rfl ?_
  refine g_goto C 224 dX8_init_246 (by decide) ?_
  refine g_iload_n C 0 dX8_init_224 rfl ?_
  refine g_bipush C (40 : Int32) dX8_init_225 rfl ?_
  refine g_icmp_ge C 249 dX8_init_227 (by decide) (fun hc => absurd hc (by decide)) (fun _ => ?_)
  refine g_aload_n C 1 dX8_init_230 rfl ?_
  refine g_getR C 1 1 rfl q_X8_13 rfl rfl dX8_init_231 ?_
  refine g_iload_n C 0 dX8_init_234 rfl ?_
  refine g_sipush C (500 : Int32) dX8_init_235 rfl ?_
  refine g_iconst C (5 : Int32) dX8_init_238 rfl ?_
  refine g_iload_n C 0 dX8_init_239 rfl ?_
  refine g_imul C dX8_init_240 ?_
  refine g_isub C dX8_init_241 ?_
  refine g_iast C 40 rfl ho_14 (by decide) dX8_init_242 ?_
  refine g_iinc C 0 [(1, .int (36 : Int32)), (0, .ref 0)] dX8_init_243 rfl (by decide) (by decide) rfl ?_
  refine g_goto C 224 dX8_init_246 (by decide) ?_
  refine g_iload_n C 0 dX8_init_224 rfl ?_
  refine g_bipush C (40 : Int32) dX8_init_225 rfl ?_
  refine g_icmp_ge C 249 dX8_init_227 (by decide) (fun hc => absurd hc (by decide)) (fun _ => ?_)
  refine g_aload_n C 1 dX8_init_230 rfl ?_
  refine g_getR C 1 1 rfl q_X8_13 rfl rfl dX8_init_231 ?_
  refine g_iload_n C 0 dX8_init_234 rfl ?_
  refine g_sipush C (500 : Int32) dX8_init_235 rfl ?_
  refine g_iconst C (5 : Int32) dX8_init_238 rfl ?_
  refine g_iload_n C 0 dX8_init_239 rfl ?_
  refine g_imul C dX8_init_240 ?_
  refine g_isub C dX8_init_241 ?_
  refine g_iast C 40 rfl ho_14 (by decide) dX8_init_242 ?_
  refine g_iinc C 0 [(1, .int (37 : Int32)), (0, .ref 0)] dX8_init_243 rfl (by decide) (by decide) rfl ?_
  refine g_goto C 224 dX8_init_246 (by decide) ?_
  refine g_iload_n C 0 dX8_init_224 rfl ?_
  refine g_bipush C (40 : Int32) dX8_init_225 rfl ?_
  refine g_icmp_ge C 249 dX8_init_227 (by decide) (fun hc => absurd hc (by decide)) (fun _ => ?_)
  refine g_aload_n C 1 dX8_init_230 rfl ?_
  refine g_getR C 1 1 rfl q_X8_13 rfl rfl dX8_init_231 ?_
  refine g_iload_n C 0 dX8_init_234 rfl ?_
  refine g_sipush C (500 : Int32) dX8_init_235 rfl ?_
  refine g_iconst C (5 : Int32) dX8_init_238 rfl ?_
  refine g_iload_n C 0 dX8_init_239 rfl ?_
  refine g_imul C dX8_init_240 ?_
  refine g_isub C dX8_init_241 ?_
  refine g_iast C 40 rfl ho_14 (by decide) dX8_init_242 ?_
  refine g_iinc C 0 [(1, .int (38 : Int32)), (0, .ref 0)] dX8_init_243 rfl (by decide) (by decide) rfl ?_
  refine g_goto C 224 dX8_init_246 (by decide) ?_
  refine g_iload_n C 0 dX8_init_224 rfl ?_
  refine g_bipush C (40 : Int32) dX8_init_225 rfl ?_
  refine g_icmp_ge C 249 dX8_init_227 (by decide) (fun hc => absurd hc (by decide)) (fun _ => ?_)
  refine g_aload_n C 1 dX8_init_230 rfl ?_
  refine g_getR C 1 1 rfl q_X8_13 rfl rfl dX8_init_231 ?_
  refine g_iload_n C 0 dX8_init_234 rfl ?_
  refine g_sipush C (500 : Int32) dX8_init_235 rfl ?_
  refine g_iconst C (5 : Int32) dX8_init_238 rfl ?_
  refine g_iload_n C 0 dX8_init_239 rfl ?_
  refine g_imul C dX8_init_240 ?_
  refine g_isub C dX8_init_241 ?_
  refine g_iast C 40 rfl ho_14 (by decide) dX8_init_242 ?_
  refine g_iinc C 0 [(1, .int (39 : Int32)), (0, .ref 0)] dX8_init_243 rfl (by decide) (by decide) rfl ?_
  refine g_goto C 224 dX8_init_246 (by decide) ?_
  refine g_iload_n C 0 dX8_init_224 rfl ?_
  refine g_bipush C (40 : Int32) dX8_init_225 rfl ?_
  refine g_icmp_ge C 249 dX8_init_227 (by decide) (fun hc => absurd hc (by decide)) (fun _ => ?_)
  refine g_aload_n C 1 dX8_init_230 rfl ?_
  refine g_getR C 1 1 rfl q_X8_13 rfl rfl dX8_init_231 ?_
  refine g_iload_n C 0 dX8_init_234 rfl ?_
  refine g_sipush C (500 : Int32) dX8_init_235 rfl ?_
  refine g_iconst C (5 : Int32) dX8_init_238 rfl ?_
  refine g_iload_n C 0 dX8_init_239 rfl ?_
  refine g_imul C dX8_init_240 ?_
  refine g_isub C dX8_init_241 ?_
  refine g_iast C 40 rfl ho_14 (by decide) dX8_init_242 ?_
  refine g_iinc C 0 [(1, .int (40 : Int32)), (0, .ref 0)] dX8_init_243 rfl (by decide) (by decide) rfl ?_
  refine g_goto C 224 dX8_init_246 (by decide) ?_
  refine g_iload_n C 0 dX8_init_224 rfl ?_
  refine g_bipush C (40 : Int32) dX8_init_225 rfl ?_
  refine g_icmp_ge C 249 dX8_init_227 (by decide) (fun _ => ?_) (fun hc => absurd (by decide) hc)
  refine g_iconst C (0 : Int32) dX8_init_249 rfl ?_
  refine g_istore_n C [(1, .int (0 : Int32)), (0, .ref 0)] dX8_init_250 (by decide) rfl ?_
  refine g_iload_n C 0 dX8_init_251 rfl ?_
  refine g_bipush C (21 : Int32) dX8_init_252 rfl ?_
  refine g_icmp_ge C 283 dX8_init_254 (by decide) (fun hc => absurd hc (by decide)) (fun _ => ?_)
  refine g_aload_n C 1 dX8_init_257 rfl ?_
  refine g_getR C 2 2 rfl q_X8_17 rfl rfl dX8_init_258 ?_
  refine g_iload_n C 0 dX8_init_261 rfl ?_
  refine g_iload_n C 0 dX8_init_262 rfl ?_
  refine g_bipush C (9 : Int32) dX8_init_263 rfl ?_
  refine g_icmp_ge C 275 dX8_init_265 (by decide) (fun hc => absurd hc (by decide)) (fun _ => ?_)
  refine g_bipush C (9 : Int32) dX8_init_268 rfl ?_
  refine g_iload_n C 0 dX8_init_270 rfl ?_
  refine g_isub C dX8_init_271 ?_
  refine g_goto C 276 dX8_init_272 (by decide) ?_
  refine g_iast C 21 rfl ho_13 (by decide) dX8_init_276 ?_
  refine g_iinc C 0 [(1, .int (1 : Int32)), (0, .ref 0)] dX8_init_277 rfl (by decide) (by decide) rfl ?_
  refine g_goto C 251 dX8_init_280 (by decide) ?_
  refine g_iload_n C 0 dX8_init_251 rfl ?_
  refine g_bipush C (21 : Int32) dX8_init_252 rfl ?_
  refine g_icmp_ge C 283 dX8_init_254 (by decide) (fun hc => absurd hc (by decide)) (fun _ => ?_)
  refine g_aload_n C 1 dX8_init_257 rfl ?_
  refine g_getR C 2 2 rfl q_X8_17 rfl rfl dX8_init_258 ?_
  refine g_iload_n C 0 dX8_init_261 rfl ?_
  refine g_iload_n C 0 dX8_init_262 rfl ?_
  refine g_bipush C (9 : Int32) dX8_init_263 rfl ?_
  refine g_icmp_ge C 275 dX8_init_265 (by decide) (fun hc => absurd hc (by decide)) (fun _ => ?_)
  refine g_bipush C (9 : Int32) dX8_init_268 rfl ?_
  refine g_iload_n C 0 dX8_init_270 rfl ?_
  refine g_isub C dX8_init_271 ?_
  refine g_goto C 276 dX8_init_272 (by decide) ?_
  refine g_iast C 21 rfl ho_13 (by decide) dX8_init_276 ?_
  refine g_iinc C 0 [(1, .int (2 : Int32)), (0, .ref 0)] dX8_init_277 rfl (by decide) (by decide) rfl ?_
  refine g_goto C 251 dX8_init_280 (by decide) ?_
  refine g_iload_n C 0 dX8_init_251 rfl ?_
  refine g_bipush C (21 : Int32) dX8_init_252 rfl ?_
  refine g_icmp_ge C 283 dX8_init_254 (by decide) (fun hc => absurd hc (by decide)) (fun _ => ?_)
  refine g_aload_n C 1 dX8_init_257 rfl ?_
  refine g_getR C 2 2 rfl q_X8_17 rfl rfl dX8_init_258 ?_
  refine g_iload_n C 0 dX8_init_261 rfl ?_
  refine g_iload_n C 0 dX8_init_262 rfl ?_
  refine g_bipush C (9 : Int32) dX8_init_263 rfl ?_
  refine g_icmp_ge C 275 dX8_init_265 (by decide) (fun hc => absurd hc (by decide)) (fun _ => ?_)
  refine g_bipush C (9 : Int32) dX8_init_268 rfl ?_
  refine g_iload_n C 0 dX8_init_270 rfl ?_
  refine g_isub C dX8_init_271 ?_
  refine g_goto C 276 dX8_init_272 (by decide) ?_
  refine g_iast C 21 rfl ho_13 (by decide) dX8_init_276 ?_
  refine g_iinc C 0 [(1, .int (3 : Int32)), (0, .ref 0)] dX8_init_277 rfl (by decide) (by decide) rfl ?_
  refine g_goto C 251 dX8_init_280 (by decide) ?_
  refine g_iload_n C 0 dX8_init_251 rfl ?_
  refine g_bipush C (21 : Int32) dX8_init_252 rfl ?_
  refine g_icmp_ge C 283 dX8_init_254 (by decide) (fun hc => absurd hc (by decide)) (fun _ => ?_)
  refine g_aload_n C 1 dX8_init_257 rfl ?_
  refine g_getR C 2 2 rfl q_X8_17 rfl rfl dX8_init_258 ?_
  refine g_iload_n C 0 dX8_init_261 rfl ?_
  refine g_iload_n C 0 dX8_init_262 rfl ?_
  refine g_bipush C (9 : Int32) dX8_init_263 rfl ?_
  refine g_icmp_ge C 275 dX8_init_265 (by decide) (fun hc => absurd hc (by decide)) (fun _ => ?_)
  refine g_bipush C (9 : Int32) dX8_init_268 rfl ?_
  refine g_iload_n C 0 dX8_init_270 rfl ?_
  refine g_isub C dX8_init_271 ?_
  refine g_goto C 276 dX8_init_272 (by decide) ?_
  refine g_iast C 21 rfl ho_13 (by decide) dX8_init_276 ?_
  refine g_iinc C 0 [(1, .int (4 : Int32)), (0, .ref 0)] dX8_init_277 rfl (by decide) (by decide) rfl ?_
  refine g_goto C 251 dX8_init_280 (by decide) ?_
  refine g_iload_n C 0 dX8_init_251 rfl ?_
  refine g_bipush C (21 : Int32) dX8_init_252 rfl ?_
  refine g_icmp_ge C 283 dX8_init_254 (by decide) (fun hc => absurd hc (by decide)) (fun _ => ?_)
  refine g_aload_n C 1 dX8_init_257 rfl ?_
  refine g_getR C 2 2 rfl q_X8_17 rfl rfl dX8_init_258 ?_
  refine g_iload_n C 0 dX8_init_261 rfl ?_
  refine g_iload_n C 0 dX8_init_262 rfl ?_
  refine g_bipush C (9 : Int32) dX8_init_263 rfl ?_
  refine g_icmp_ge C 275 dX8_init_265 (by decide) (fun hc => absurd hc (by decide)) (fun _ => ?_)
  refine g_bipush C (9 : Int32) dX8_init_268 rfl ?_
  refine g_iload_n C 0 dX8_init_270 rfl ?_
  refine g_isub C dX8_init_271 ?_
  refine g_goto C 276 dX8_init_272 (by decide) ?_
  refine g_iast C 21 rfl ho_13 (by decide) dX8_init_276 ?_
  refine g_iinc C 0 [(1, .int (5 : Int32)), (0, .ref 0)] dX8_init_277 rfl (by decide) (by decide) rfl ?_
  refine g_goto C 251 dX8_init_280 (by decide) ?_
  refine g_iload_n C 0 dX8_init_251 rfl ?_
  refine g_bipush C (21 : Int32) dX8_init_252 rfl ?_
  refine g_icmp_ge C 283 dX8_init_254 (by decide) (fun hc => absurd hc (by decide)) (fun _ => ?_)
  refine g_aload_n C 1 dX8_init_257 rfl ?_
  refine g_getR C 2 2 rfl q_X8_17 rfl rfl dX8_init_258 ?_
  refine g_iload_n C 0 dX8_init_261 rfl ?_
  refine g_iload_n C 0 dX8_init_262 rfl ?_
  refine g_bipush C (9 : Int32) dX8_init_263 rfl ?_
  refine g_icmp_ge C 275 dX8_init_265 (by decide) (fun hc => absurd hc (by decide)) (fun _ => ?_)
  refine g_bipush C (9 : Int32) dX8_init_268 rfl ?_
  refine g_iload_n C 0 dX8_init_270 rfl ?_
  refine g_isub C dX8_init_271 ?_
  refine g_goto C 276 dX8_init_272 (by decide) ?_
  refine g_iast C 21 rfl ho_13 (by decide) dX8_init_276 ?_
  refine g_iinc C 0 [(1, .int (6 : Int32)), (0, .ref 0)] dX8_init_277 rfl (by decide) (by decide) rfl ?_
  refine g_goto C 251 dX8_init_280 (by decide) ?_
  refine g_iload_n C 0 dX8_init_251 rfl ?_
  refine g_bipush C (21 : Int32) dX8_init_252 rfl ?_
  refine g_icmp_ge C 283 dX8_init_254 (by decide) (fun hc => absurd hc (by decide)) (fun _ => ?_)
  refine g_aload_n C 1 dX8_init_257 rfl ?_
  refine g_getR C 2 2 rfl q_X8_17 rfl rfl dX8_init_258 ?_
  refine g_iload_n C 0 dX8_init_261 rfl ?_
  refine g_iload_n C 0 dX8_init_262 rfl ?_
  refine g_bipush C (9 : Int32) dX8_init_263 rfl ?_
  refine g_icmp_ge C 275 dX8_init_265 (by decide) (fun hc => absurd hc (by decide)) (fun _ => ?_)
  refine g_bipush C (9 : Int32) dX8_init_268 rfl ?_
  refine g_iload_n C 0 dX8_init_270 rfl ?_
  refine g_isub C dX8_init_271 ?_
  refine g_goto C 276 dX8_init_272 (by decide) ?_
  refine g_iast C 21 rfl ho_13 (by decide) dX8_init_276 ?_
  refine g_iinc C 0 [(1, .int (7 : Int32)), (0, .ref 0)] dX8_init_277 rfl (by decide) (by decide) rfl ?_
  refine g_goto C 251 dX8_init_280 (by decide) ?_
  refine g_iload_n C 0 dX8_init_251 rfl ?_
  refine g_bipush C (21 : Int32) dX8_init_252 rfl ?_
  refine g_icmp_ge C 283 dX8_init_254 (by decide) (fun hc => absurd hc (by decide)) (fun _ => ?_)
  refine g_aload_n C 1 dX8_init_257 rfl ?_
  refine g_getR C 2 2 rfl q_X8_17 rfl rfl dX8_init_258 ?_
  refine g_iload_n C 0 dX8_init_261 rfl ?_
  refine g_iload_n C 0 dX8_init_262 rfl ?_
  refine g_bipush C (9 : Int32) dX8_init_263 rfl ?_
  refine g_icmp_ge C 275 dX8_init_265 (by decide) (fun hc => absurd hc (by decide)) (fun _ => ?_)
  refine g_bipush C (9 : Int32) dX8_init_268 rfl ?_
  refine g_iload_n C 0 dX8_init_270 rfl ?_
  refine g_isub C dX8_init_271 ?_
  refine g_goto C 276 dX8_init_272 (by decide) ?_
  refine g_iast C 21 rfl ho_13 (by decide) dX8_init_276 ?_
  refine g_iinc C 0 [(1, .int (8 : Int32)), (0, .ref 0)] dX8_init_277 rfl (by decide) (by decide) rfl ?_
  refine g_goto C 251 dX8_init_280 (by decide) ?_
  refine g_iload_n C 0 dX8_init_251 rfl ?_
  refine g_bipush C (21 : Int32) dX8_init_252 rfl ?_
  refine g_icmp_ge C 283 dX8_init_254 (by decide) (fun hc => absurd hc (by decide)) (fun _ => ?_)
  refine g_aload_n C 1 dX8_init_257 rfl ?_
  refine g_getR C 2 2 rfl q_X8_17 rfl rfl dX8_init_258 ?_
  refine g_iload_n C 0 dX8_init_261 rfl ?_
  refine g_iload_n C 0 dX8_init_262 rfl ?_
  refine g_bipush C (9 : Int32) dX8_init_263 rfl ?_
  refine g_icmp_ge C 275 dX8_init_265 (by decide) (fun hc => absurd hc (by decide)) (fun _ => ?_)
  refine g_bipush C (9 : Int32) dX8_init_268 rfl ?_
  refine g_iload_n C 0 dX8_init_270 rfl ?_
  refine g_isub C dX8_init_271 ?_
  refine g_goto C 276 dX8_init_272 (by decide) ?_
  refine g_iast C 21 rfl ho_13 (by decide) dX8_init_276 ?_
  refine g_iinc C 0 [(1, .int (9 : Int32)), (0, .ref 0)] dX8_init_277 rfl (by decide) (by decide) rfl ?_
  refine g_goto C 251 dX8_init_280 (by decide) ?_
  refine g_iload_n C 0 dX8_init_251 rfl ?_
  refine g_bipush C (21 : Int32) dX8_init_252 rfl ?_
  refine g_icmp_ge C 283 dX8_init_254 (by decide) (fun hc => absurd hc (by decide)) (fun _ => ?_)
  refine g_aload_n C 1 dX8_init_257 rfl ?_
  refine g_getR C 2 2 rfl q_X8_17 rfl rfl dX8_init_258 ?_
  refine g_iload_n C 0 dX8_init_261 rfl ?_
  refine g_iload_n C 0 dX8_init_262 rfl ?_
  refine g_bipush C (9 : Int32) dX8_init_263 rfl ?_
  refine g_icmp_ge C 275 dX8_init_265 (by decide) (fun _ => ?_) (fun hc => absurd (by decide) hc)
  refine g_iconst C (0 : Int32) dX8_init_275 rfl ?_
  refine g_iast C 21 rfl ho_13 (by decide) dX8_init_276 ?_
  refine g_iinc C 0 [(1, .int (10 : Int32)), (0, .ref 0)] dX8_init_277 rfl (by decide) (by decide) rfl ?_
  refine g_goto C 251 dX8_init_280 (by decide) ?_
  refine g_iload_n C 0 dX8_init_251 rfl ?_
  refine g_bipush C (21 : Int32) dX8_init_252 rfl ?_
  refine g_icmp_ge C 283 dX8_init_254 (by decide) (fun hc => absurd hc (by decide)) (fun _ => ?_)
  refine g_aload_n C 1 dX8_init_257 rfl ?_
  refine g_getR C 2 2 rfl q_X8_17 rfl rfl dX8_init_258 ?_
  refine g_iload_n C 0 dX8_init_261 rfl ?_
  refine g_iload_n C 0 dX8_init_262 rfl ?_
  refine g_bipush C (9 : Int32) dX8_init_263 rfl ?_
  refine g_icmp_ge C 275 dX8_init_265 (by decide) (fun _ => ?_) (fun hc => absurd (by decide) hc)
  refine g_iconst C (0 : Int32) dX8_init_275 rfl ?_
  refine g_iast C 21 rfl ho_13 (by decide) dX8_init_276 ?_
  refine g_iinc C 0 [(1, .int (11 : Int32)), (0, .ref 0)] dX8_init_277 rfl (by decide) (by decide) rfl ?_
  refine g_goto C 251 dX8_init_280 (by decide) ?_
  refine g_iload_n C 0 dX8_init_251 rfl ?_
  refine g_bipush C (21 : Int32) dX8_init_252 rfl ?_
  refine g_icmp_ge C 283 dX8_init_254 (by decide) (fun hc => absurd hc (by decide)) (fun _ => ?_)
  refine g_aload_n C 1 dX8_init_257 rfl ?_
  refine g_getR C 2 2 rfl q_X8_17 rfl rfl dX8_init_258 ?_
  refine g_iload_n C 0 dX8_init_261 rfl ?_
  refine g_iload_n C 0 dX8_init_262 rfl ?_
  refine g_bipush C (9 : Int32) dX8_init_263 rfl ?_
  refine g_icmp_ge C 275 dX8_init_265 (by decide) (fun _ => ?_) (fun hc => absurd (by decide) hc)
  refine g_iconst C (0 : Int32) dX8_init_275 rfl ?_
  refine g_iast C 21 rfl ho_13 (by decide) dX8_init_276 ?_
  refine g_iinc C 0 [(1, .int (12 : Int32)), (0, .ref 0)] dX8_init_277 rfl (by decide) (by decide) rfl ?_
  refine g_goto C 251 dX8_init_280 (by decide) ?_
  refine g_iload_n C 0 dX8_init_251 rfl ?_
  refine g_bipush C (21 : Int32) dX8_init_252 rfl ?_
  refine g_icmp_ge C 283 dX8_init_254 (by decide) (fun hc => absurd hc (by decide)) (fun _ => ?_)
  refine g_aload_n C 1 dX8_init_257 rfl ?_
  refine g_getR C 2 2 rfl q_X8_17 rfl rfl dX8_init_258 ?_
  refine g_iload_n C 0 dX8_init_261 rfl ?_
  refine g_iload_n C 0 dX8_init_262 rfl ?_
  refine g_bipush C (9 : Int32) dX8_init_263 rfl ?_
  refine g_icmp_ge C 275 dX8_init_265 (by decide) (fun _ => ?_) (fun hc => absurd (by decide) hc)
  refine g_iconst C (0 : Int32) dX8_init_275 rfl ?_
  refine g_iast C 21 rfl ho_13 (by decide) dX8_init_276 ?_
  refine g_iinc C 0 [(1, .int (13 : Int32)), (0, .ref 0)] dX8_init_277 rfl (by decide) (by decide) rfl ?_
  refine g_goto C 251 dX8_init_280 (by decide) ?_
  refine g_iload_n C 0 dX8_init_251 rfl ?_
  refine g_bipush C (21 : Int32) dX8_init_252 rfl ?_
  refine g_icmp_ge C 283 dX8_init_254 (by decide) (fun hc => absurd hc (by decide)) (fun _ => ?_)
  refine g_aload_n C 1 dX8_init_257 rfl ?_
  refine g_getR C 2 2 rfl q_X8_17 rfl rfl dX8_init_258 ?_
  refine g_iload_n C 0 dX8_init_261 rfl ?_
  refine g_iload_n C 0 dX8_init_262 rfl ?_
  refine g_bipush C (9 : Int32) dX8_init_263 rfl ?_
  refine g_icmp_ge C 275 dX8_init_265 (by decide) (fun _ => ?_) (fun hc => absurd (by decide) hc)
  refine g_iconst C (0 : Int32) dX8_init_275 rfl ?_
  refine g_iast C 21 rfl ho_13 (by decide) dX8_init_276 ?_
  refine g_iinc C 0 [(1, .int (14 : Int32)), (0, .ref 0)] dX8_init_277 rfl (by decide) (by decide) rfl ?_
  refine g_goto C 251 dX8_init_280 (by decide) ?_
  refine g_iload_n C 0 dX8_init_251 rfl ?_
  refine g_bipush C (21 : Int32) dX8_init_252 rfl ?_
  refine g_icmp_ge C 283 dX8_init_254 (by decide) (fun hc => absurd hc (by decide)) (fun _ => ?_)
  refine g_aload_n C 1 dX8_init_257 rfl ?_
  refine g_getR C 2 2 rfl q_X8_17 rfl rfl dX8_init_258 ?_
  refine g_iload_n C 0 dX8_init_261 rfl ?_
  refine g_iload_n C 0 dX8_init_262 rfl ?_
  refine g_bipush C (9 : Int32) dX8_init_263 rfl ?_
  refine g_icmp_ge C 275 dX8_init_265 (by decide) (fun _ => ?_) (fun hc => absurd (by decide) hc)
  refine g_iconst C (0 : Int32) dX8_init_275 rfl ?_
  refine g_iast C 21 rfl ho_13 (by decide) dX8_init_276 ?_
  refine g_iinc C 0 [(1, .int (15 : Int32)), (0, .ref 0)] dX8_init_277 rfl (by decide) (by decide) rfl ?_
  refine g_goto C 251 dX8_init_280 (by decide) ?_
  refine g_iload_n C 0 dX8_init_251 rfl ?_
  refine g_bipush C (21 : Int32) dX8_init_252 rfl ?_
  refine g_icmp_ge C 283 dX8_init_254 (by decide) (fun hc => absurd hc (by decide)) (fun _ => ?_)
  refine g_aload_n C 1 dX8_init_257 rfl ?_
  refine g_getR C 2 2 rfl q_X8_17 rfl rfl dX8_init_258 ?_
  refine g_iload_n C 0 dX8_init_261 rfl ?_
  refine g_iload_n C 0 dX8_init_262 rfl ?_
  refine g_bipush C (9 : Int32) dX8_init_263 rfl ?_
  refine g_icmp_ge C 275 dX8_init_265 (by decide) (fun _ => ?_) (fun hc => absurd (by decide) hc)
  refine g_iconst C (0 : Int32) dX8_init_275 rfl ?_
  refine g_iast C 21 rfl ho_13 (by decide) dX8_init_276 ?_
  refine g_iinc C 0 [(1, .int (16 : Int32)), (0, .ref 0)] dX8_init_277 rfl (by decide) (by decide) rfl ?_
  refine g_goto C 251 dX8_init_280 (by decide) ?_
  refine g_iload_n C 0 dX8_init_251 rfl ?_
  refine g_bipush C (21 : Int32) dX8_init_252 rfl ?_
  refine g_icmp_ge C 283 dX8_init_254 (by decide) (fun hc => absurd hc (by decide)) (fun _ => ?_)
  refine g_aload_n C 1 dX8_init_257 rfl ?_
  refine g_getR C 2 2 rfl q_X8_17 rfl rfl dX8_init_258 ?_
  refine g_iload_n C 0 dX8_init_261 rfl ?_
  refine g_iload_n C 0 dX8_init_262 rfl ?_
  refine g_bipush C (9 : Int32) dX8_init_263 rfl ?_
  refine g_icmp_ge C 275 dX8_init_265 (by decide) (fun _ => ?_) (fun hc => absurd (by decide) hc)
  refine g_iconst C (0 : Int32) dX8_init_275 rfl ?_
  refine g_iast C 21 rfl ho_13 (by decide) dX8_init_276 ?_
  refine g_iinc C 0 [(1, .int (17 : Int32)), (0, .ref 0)] dX8_init_277 rfl (by decide) (by decide) rfl ?_
  refine g_goto C 251 dX8_init_280 (by decide) ?_
  refine g_iload_n C 0 dX8_init_251 rfl ?_
  refine g_bipush C (21 : Int32) dX8_init_252 rfl ?_
  refine g_icmp_ge C 283 dX8_init_254 (by decide) (fun hc => absurd hc (by decide)) (fun _ => ?_)
  refine g_aload_n C 1 dX8_init_257 rfl ?_
  refine g_getR C 2 2 rfl q_X8_17 rfl rfl dX8_init_258 ?_
  refine g_iload_n C 0 dX8_init_261 rfl ?_
  refine g_iload_n C 0 dX8_init_262 rfl ?_
  refine g_bipush C (9 : Int32) dX8_init_263 rfl ?_
  refine g_icmp_ge C 275 dX8_init_265 (by decide) (fun _ => ?_) (fun hc => absurd (by decide) hc)
  refine g_iconst C (0 : Int32) dX8_init_275 rfl ?_
  refine g_iast C 21 rfl ho_13 (by decide) dX8_init_276 ?_
  refine g_iinc C 0 [(1, .int (18 : Int32)), (0, .ref 0)] dX8_init_277 rfl (by decide) (by decide) rfl ?_
  refine g_goto C 251 dX8_init_280 (by decide) ?_
  refine g_iload_n C 0 dX8_init_251 rfl ?_
  refine g_bipush C (21 : Int32) dX8_init_252 rfl ?_
  refine g_icmp_ge C 283 dX8_init_254 (by decide) (fun hc => absurd hc (by decide)) (fun _ => ?_)
  refine g_aload_n C 1 dX8_init_257 rfl ?_
  refine g_getR C 2 2 rfl q_X8_17 rfl rfl dX8_init_258 ?_
  refine g_iload_n C 0 dX8_init_261 rfl ?_
  refine g_iload_n C 0 dX8_init_262 rfl ?_
  refine g_bipush C (9 : Int32) dX8_init_263 rfl ?_
  refine g_icmp_ge C 275 dX8_init_265 (by decide) (fun _ => ?_) (fun hc => absurd (by decide) hc)
  refine g_iconst C (0 : Int32) dX8_init_275 rfl ?_
  refine g_iast C 21 rfl ho_13 (by decide) dX8_init_276 ?_
  refine g_iinc C 0 [(1, .int (19 : Int32)), (0, .ref 0)] dX8_init_277 rfl (by decide) (by decide) rfl ?_
  refine g_goto C 251 dX8_init_280 (by decide) ?_
  refine g_iload_n C 0 dX8_init_251 rfl ?_
  refine g_bipush C (21 : Int32) dX8_init_252 rfl ?_
  refine g_icmp_ge C 283 dX8_init_254 (by decide) (fun hc => absurd hc (by decide)) (fun _ => ?_)
  refine g_aload_n C 1 dX8_init_257 rfl ?_
  refine g_getR C 2 2 rfl q_X8_17 rfl rfl dX8_init_258 ?_
  refine g_iload_n C 0 dX8_init_261 rfl ?_
  refine g_iload_n C 0 dX8_init_262 rfl ?_
  refine g_bipush C (9 : Int32) dX8_init_263 rfl ?_
  refine g_icmp_ge C 275 dX8_init_265 (by decide) (fun _ => ?_) (fun hc => absurd (by decide) hc)
  refine g_iconst C (0 : Int32) dX8_init_275 rfl ?_
  refine g_iast C 21 rfl ho_13 (by decide) dX8_init_276 ?_
  refine g_iinc C 0 [(1, .int (20 : Int32)), (0, .ref 0)] dX8_init_277 rfl (by decide) (by decide) rfl ?_
  refine g_goto C 251 dX8_init_280 (by decide) ?_
  refine g_iload_n C 0 dX8_init_251 rfl ?_
  refine g_bipush C (21 : Int32) dX8_init_252 rfl ?_
  refine g_icmp_ge C 283 dX8_init_254 (by decide) (fun hc => absurd hc (by decide)) (fun _ => ?_)
  refine g_aload_n C 1 dX8_init_257 rfl ?_
  refine g_getR C 2 2 rfl q_X8_17 rfl rfl dX8_init_258 ?_
  refine g_iload_n C 0 dX8_init_261 rfl ?_
  refine g_iload_n C 0 dX8_init_262 rfl ?_
  refine g_bipush C (9 : Int32) dX8_init_263 rfl ?_
  refine g_icmp_ge C 275 dX8_init_265 (by decide) (fun _ => ?_) (fun hc => absurd (by decide) hc)
  refine g_iconst C (0 : Int32) dX8_init_275 rfl ?_
  refine g_iast C 21 rfl ho_13 (by decide) dX8_init_276 ?_
  refine g_iinc C 0 [(1, .int (21 : Int32)), (0, .ref 0)] dX8_init_277 rfl (by decide) (by decide) rfl ?_
  refine g_goto C 251 dX8_init_280 (by decide) ?_
  refine g_iload_n C 0 dX8_init_251 rfl ?_
  refine g_bipush C (21 : Int32) dX8_init_252 rfl ?_
  refine g_icmp_ge C 283 dX8_init_254 (by decide) (fun _ => ?_) (fun hc => absurd (by decide) hc)
  refine g_iconst C (0 : Int32) dX8_init_283 rfl ?_
  refine g_istore_n C [(1, .int (0 : Int32)), (0, .ref 0)] dX8_init_284 (by decide) rfl ?_
  refine g_iload_n C 0 dX8_init_285 rfl ?_
  refine g_iconst C (4 : Int32) dX8_init_286 rfl ?_
  refine g_icmp_ge C 303 dX8_init_287 (by decide) (fun hc => absurd hc (by decide)) (fun _ => ?_)
  refine g_aload_n C 1 dX8_init_290 rfl ?_
  refine g_getR C 16 12 rfl q_X8_51 rfl rfl dX8_init_291 ?_
  refine g_iload_n C 0 dX8_init_294 rfl ?_
  refine g_iconst C (-1 : Int32) dX8_init_295 rfl ?_
  refine g_iast C 4 rfl ho_27 (by decide) dX8_init_296 ?_
  refine g_iinc C 0 [(1, .int (1 : Int32)), (0, .ref 0)] dX8_init_297 rfl (by decide) (by decide) rfl ?_
  refine g_goto C 285 dX8_init_300 (by decide) ?_
  refine g_iload_n C 0 dX8_init_285 rfl ?_
  refine g_iconst C (4 : Int32) dX8_init_286 rfl ?_
  refine g_icmp_ge C 303 dX8_init_287 (by decide) (fun hc => absurd hc (by decide)) (fun _ => ?_)
  refine g_aload_n C 1 dX8_init_290 rfl ?_
  refine g_getR C 16 12 rfl q_X8_51 rfl rfl dX8_init_291 ?_
  refine g_iload_n C 0 dX8_init_294 rfl ?_
  refine g_iconst C (-1 : Int32) dX8_init_295 rfl ?_
  refine g_iast C 4 rfl ho_27 (by decide) dX8_init_296 ?_
  refine g_iinc C 0 [(1, .int (2 : Int32)), (0, .ref 0)] dX8_init_297 rfl (by decide) (by decide) rfl ?_
  refine g_goto C 285 dX8_init_300 (by decide) ?_
  refine g_iload_n C 0 dX8_init_285 rfl ?_
  refine g_iconst C (4 : Int32) dX8_init_286 rfl ?_
  refine g_icmp_ge C 303 dX8_init_287 (by decide) (fun hc => absurd hc (by decide)) (fun _ => ?_)
  refine g_aload_n C 1 dX8_init_290 rfl ?_
  refine g_getR C 16 12 rfl q_X8_51 rfl rfl dX8_init_291 ?_
  refine g_iload_n C 0 dX8_init_294 rfl ?_
  refine g_iconst C (-1 : Int32) dX8_init_295 rfl ?_
  refine g_iast C 4 rfl ho_27 (by decide) dX8_init_296 ?_
  refine g_iinc C 0 [(1, .int (3 : Int32)), (0, .ref 0)] dX8_init_297 rfl (by decide) (by decide) rfl ?_
  refine g_goto C 285 dX8_init_300 (by decide) ?_
  refine g_iload_n C 0 dX8_init_285 rfl ?_
  refine g_iconst C (4 : Int32) dX8_init_286 rfl ?_
  refine g_icmp_ge C 303 dX8_init_287 (by decide) (fun hc => absurd hc (by decide)) (fun _ => ?_)
  refine g_aload_n C 1 dX8_init_290 rfl ?_
  refine g_getR C 16 12 rfl q_X8_51 rfl rfl dX8_init_291 ?_
  refine g_iload_n C 0 dX8_init_294 rfl ?_
  refine g_iconst C (-1 : Int32) dX8_init_295 rfl ?_
  refine g_iast C 4 rfl ho_27 (by decide) dX8_init_296 ?_
  refine g_iinc C 0 [(1, .int (4 : Int32)), (0, .ref 0)] dX8_init_297 rfl (by decide) (by decide) rfl ?_
  refine g_goto C 285 dX8_init_300 (by decide) ?_
  refine g_iload_n C 0 dX8_init_285 rfl ?_
  refine g_iconst C (4 : Int32) dX8_init_286 rfl ?_
  refine g_icmp_ge C 303 dX8_init_287 (by decide) (fun _ => ?_) (fun hc => absurd (by decide) hc)
  exact g_done C F rfl dX8_init_303
