section GR
variable {p : Program} {l : Launch} {e : Env} {R : Room} {s : State} {m : MethodId} {args : Array Value} {below : List Frame} {meth : Method} {c : Code} {D : va_G} {ca : Nat → ClassId} {ad : Nat → Nat} {N : Nat} {L : Nat → Nat} {own : String} {cc : ByteArray} {nL : Nat} {Q : State → Prop} {pc : Nat} {ls : List (Nat × Value)} {st : List Value} {σ : St} {cs ss : Nat}
theorem g_iadd {ret : Option FieldType} (C : gC p s m args meth c D ca ad N L own cc nL ret) {x y : Int32} (hd : decode cc pc = .ok (.iadd, 1)) (k : GG p l e R s m args below meth c D ca ad N L nL cs ss Q (pc + 1) ls (.int (x + y) :: st) σ) : GG p l e R s m args below meth c D ca ad N L nL cs ss Q pc ls (.int y :: .int x :: st) σ :=
  fun H locs la hP hS hl => lv_iadd C.1 C.2.1 hd (k H locs la hP hS hl)
theorem g_isub {ret : Option FieldType} (C : gC p s m args meth c D ca ad N L own cc nL ret) {x y : Int32} (hd : decode cc pc = .ok (.isub, 1)) (k : GG p l e R s m args below meth c D ca ad N L nL cs ss Q (pc + 1) ls (.int (x - y) :: st) σ) : GG p l e R s m args below meth c D ca ad N L nL cs ss Q pc ls (.int y :: .int x :: st) σ :=
  fun H locs la hP hS hl => lv_isub C.1 C.2.1 hd (k H locs la hP hS hl)
theorem g_imul {ret : Option FieldType} (C : gC p s m args meth c D ca ad N L own cc nL ret) {x y : Int32} (hd : decode cc pc = .ok (.imul, 1)) (k : GG p l e R s m args below meth c D ca ad N L nL cs ss Q (pc + 1) ls (.int (x * y) :: st) σ) : GG p l e R s m args below meth c D ca ad N L nL cs ss Q pc ls (.int y :: .int x :: st) σ :=
  fun H locs la hP hS hl => lv_imul C.1 C.2.1 hd (k H locs la hP hS hl)
theorem g_iand {ret : Option FieldType} (C : gC p s m args meth c D ca ad N L own cc nL ret) {x y : Int32} (hd : decode cc pc = .ok (.iand, 1)) (k : GG p l e R s m args below meth c D ca ad N L nL cs ss Q (pc + 1) ls (.int (x &&& y) :: st) σ) : GG p l e R s m args below meth c D ca ad N L nL cs ss Q pc ls (.int y :: .int x :: st) σ :=
  fun H locs la hP hS hl => lv_iand C.1 C.2.1 hd (k H locs la hP hS hl)
theorem g_ior {ret : Option FieldType} (C : gC p s m args meth c D ca ad N L own cc nL ret) {x y : Int32} (hd : decode cc pc = .ok (.ior, 1)) (k : GG p l e R s m args below meth c D ca ad N L nL cs ss Q (pc + 1) ls (.int (x ||| y) :: st) σ) : GG p l e R s m args below meth c D ca ad N L nL cs ss Q pc ls (.int y :: .int x :: st) σ :=
  fun H locs la hP hS hl => lv_ior C.1 C.2.1 hd (k H locs la hP hS hl)
theorem g_ixor {ret : Option FieldType} (C : gC p s m args meth c D ca ad N L own cc nL ret) {x y : Int32} (hd : decode cc pc = .ok (.ixor, 1)) (k : GG p l e R s m args below meth c D ca ad N L nL cs ss Q (pc + 1) ls (.int (x ^^^ y) :: st) σ) : GG p l e R s m args below meth c D ca ad N L nL cs ss Q pc ls (.int y :: .int x :: st) σ :=
  fun H locs la hP hS hl => lv_ixor C.1 C.2.1 hd (k H locs la hP hS hl)
theorem g_ishl {ret : Option FieldType} (C : gC p s m args meth c D ca ad N L own cc nL ret) {x y : Int32} (hd : decode cc pc = .ok (.ishl, 1)) (k : GG p l e R s m args below meth c D ca ad N L nL cs ss Q (pc + 1) ls (.int (x <<< (y &&& 31)) :: st) σ) : GG p l e R s m args below meth c D ca ad N L nL cs ss Q pc ls (.int y :: .int x :: st) σ :=
  fun H locs la hP hS hl => lv_ishl C.1 C.2.1 hd (k H locs la hP hS hl)
theorem g_ishr {ret : Option FieldType} (C : gC p s m args meth c D ca ad N L own cc nL ret) {x y : Int32} (hd : decode cc pc = .ok (.ishr, 1)) (k : GG p l e R s m args below meth c D ca ad N L nL cs ss Q (pc + 1) ls (.int (x >>> (y &&& 31)) :: st) σ) : GG p l e R s m args below meth c D ca ad N L nL cs ss Q pc ls (.int y :: .int x :: st) σ :=
  fun H locs la hP hS hl => lv_ishr C.1 C.2.1 hd (k H locs la hP hS hl)
theorem g_idiv {ret : Option FieldType} (C : gC p s m args meth c D ca ad N L own cc nL ret) {x y : Int32} (hd : decode cc pc = .ok (.idiv, 1)) (hne : ¬ y = 0) (k : GG p l e R s m args below meth c D ca ad N L nL cs ss Q (pc + 1) ls (.int (x / y) :: st) σ) : GG p l e R s m args below meth c D ca ad N L nL cs ss Q pc ls (.int y :: .int x :: st) σ :=
  fun H locs la hP hS hl => lv_idiv C.1 C.2.1 hd hne (k H locs la hP hS hl)
theorem g_iushr {ret : Option FieldType} (C : gC p s m args meth c D ca ad N L own cc nL ret) {x y : Int32} (hd : decode cc pc = .ok (.iushr, 1)) (k : GG p l e R s m args below meth c D ca ad N L nL cs ss Q (pc + 1) ls (.int ((x.toUInt32 >>> (y.toUInt32 &&& Int32.toUInt32 31)).toInt32) :: st) σ) : GG p l e R s m args below meth c D ca ad N L nL cs ss Q pc ls (.int y :: .int x :: st) σ :=
  fun H locs la hP hS hl => lv_iushr C.1 C.2.1 hd rfl (k H locs la hP hS hl)
theorem g_ineg {ret : Option FieldType} (C : gC p s m args meth c D ca ad N L own cc nL ret) {x : Int32} (hd : decode cc pc = .ok (.ineg, 1)) (k : GG p l e R s m args below meth c D ca ad N L nL cs ss Q (pc + 1) ls (.int (-x) :: st) σ) : GG p l e R s m args below meth c D ca ad N L nL cs ss Q pc ls (.int x :: st) σ :=
  fun H locs la hP hS hl => lv_ineg C.1 C.2.1 hd (k H locs la hP hS hl)
theorem g_ladd {ret : Option FieldType} (C : gC p s m args meth c D ca ad N L own cc nL ret) {x y : Int64} (hd : decode cc pc = .ok (.ladd, 1)) (k : GG p l e R s m args below meth c D ca ad N L nL cs ss Q (pc + 1) ls (.long (x + y) :: st) σ) : GG p l e R s m args below meth c D ca ad N L nL cs ss Q pc ls (.long y :: .long x :: st) σ :=
  fun H locs la hP hS hl => lv_ladd C.1 C.2.1 hd (k H locs la hP hS hl)
theorem g_lsub {ret : Option FieldType} (C : gC p s m args meth c D ca ad N L own cc nL ret) {x y : Int64} (hd : decode cc pc = .ok (.lsub, 1)) (k : GG p l e R s m args below meth c D ca ad N L nL cs ss Q (pc + 1) ls (.long (x - y) :: st) σ) : GG p l e R s m args below meth c D ca ad N L nL cs ss Q pc ls (.long y :: .long x :: st) σ :=
  fun H locs la hP hS hl => lv_lsub C.1 C.2.1 hd (k H locs la hP hS hl)
theorem g_lmul {ret : Option FieldType} (C : gC p s m args meth c D ca ad N L own cc nL ret) {x y : Int64} (hd : decode cc pc = .ok (.lmul, 1)) (k : GG p l e R s m args below meth c D ca ad N L nL cs ss Q (pc + 1) ls (.long (x * y) :: st) σ) : GG p l e R s m args below meth c D ca ad N L nL cs ss Q pc ls (.long y :: .long x :: st) σ :=
  fun H locs la hP hS hl => lv_lmul C.1 C.2.1 hd (k H locs la hP hS hl)
theorem g_land {ret : Option FieldType} (C : gC p s m args meth c D ca ad N L own cc nL ret) {x y : Int64} (hd : decode cc pc = .ok (.land, 1)) (k : GG p l e R s m args below meth c D ca ad N L nL cs ss Q (pc + 1) ls (.long (x &&& y) :: st) σ) : GG p l e R s m args below meth c D ca ad N L nL cs ss Q pc ls (.long y :: .long x :: st) σ :=
  fun H locs la hP hS hl => lv_land C.1 C.2.1 hd (k H locs la hP hS hl)
theorem g_lor {ret : Option FieldType} (C : gC p s m args meth c D ca ad N L own cc nL ret) {x y : Int64} (hd : decode cc pc = .ok (.lor, 1)) (k : GG p l e R s m args below meth c D ca ad N L nL cs ss Q (pc + 1) ls (.long (x ||| y) :: st) σ) : GG p l e R s m args below meth c D ca ad N L nL cs ss Q pc ls (.long y :: .long x :: st) σ :=
  fun H locs la hP hS hl => lv_lor C.1 C.2.1 hd (k H locs la hP hS hl)
theorem g_ldiv {ret : Option FieldType} (C : gC p s m args meth c D ca ad N L own cc nL ret) {x y : Int64} (hd : decode cc pc = .ok (.ldiv, 1)) (hne : ¬ y = 0) (k : GG p l e R s m args below meth c D ca ad N L nL cs ss Q (pc + 1) ls (.long (x / y) :: st) σ) : GG p l e R s m args below meth c D ca ad N L nL cs ss Q pc ls (.long y :: .long x :: st) σ :=
  fun H locs la hP hS hl => lv_ldiv C.1 C.2.1 hd hne (k H locs la hP hS hl)
theorem g_lrem {ret : Option FieldType} (C : gC p s m args meth c D ca ad N L own cc nL ret) {x y : Int64} (hd : decode cc pc = .ok (.lrem, 1)) (hne : ¬ y = 0) (k : GG p l e R s m args below meth c D ca ad N L nL cs ss Q (pc + 1) ls (.long (x - x / y * y) :: st) σ) : GG p l e R s m args below meth c D ca ad N L nL cs ss Q pc ls (.long y :: .long x :: st) σ :=
  fun H locs la hP hS hl => lv_lrem C.1 C.2.1 hd hne (k H locs la hP hS hl)
theorem g_lshl {ret : Option FieldType} (C : gC p s m args meth c D ca ad N L own cc nL ret) {x : Int64} {y : Int32} (hd : decode cc pc = .ok (.lshl, 1)) (k : GG p l e R s m args below meth c D ca ad N L nL cs ss Q (pc + 1) ls (.long (x <<< (y.toInt64 &&& 63)) :: st) σ) : GG p l e R s m args below meth c D ca ad N L nL cs ss Q pc ls (.int y :: .long x :: st) σ :=
  fun H locs la hP hS hl => lv_lshl C.1 C.2.1 hd rfl (k H locs la hP hS hl)
theorem g_lshr {ret : Option FieldType} (C : gC p s m args meth c D ca ad N L own cc nL ret) {x : Int64} {y : Int32} (hd : decode cc pc = .ok (.lshr, 1)) (k : GG p l e R s m args below meth c D ca ad N L nL cs ss Q (pc + 1) ls (.long (x >>> (y.toInt64 &&& 63)) :: st) σ) : GG p l e R s m args below meth c D ca ad N L nL cs ss Q pc ls (.int y :: .long x :: st) σ :=
  fun H locs la hP hS hl => lv_lshr C.1 C.2.1 hd rfl (k H locs la hP hS hl)
theorem g_lushr {ret : Option FieldType} (C : gC p s m args meth c D ca ad N L own cc nL ret) {x : Int64} {y : Int32} (hd : decode cc pc = .ok (.lushr, 1)) (k : GG p l e R s m args below meth c D ca ad N L nL cs ss Q (pc + 1) ls (.long ((x.toUInt64 >>> (y.toInt64.toUInt64 &&& Int64.toUInt64 63)).toInt64) :: st) σ) : GG p l e R s m args below meth c D ca ad N L nL cs ss Q pc ls (.int y :: .long x :: st) σ :=
  fun H locs la hP hS hl => lv_lushr C.1 C.2.1 hd rfl (k H locs la hP hS hl)
theorem g_i2l {ret : Option FieldType} (C : gC p s m args meth c D ca ad N L own cc nL ret) {x : Int32} (hd : decode cc pc = .ok (.i2l, 1)) (k : GG p l e R s m args below meth c D ca ad N L nL cs ss Q (pc + 1) ls (.long x.toInt64 :: st) σ) : GG p l e R s m args below meth c D ca ad N L nL cs ss Q pc ls (.int x :: st) σ :=
  fun H locs la hP hS hl => lv_i2l C.1 C.2.1 hd rfl (k H locs la hP hS hl)
theorem g_l2i {ret : Option FieldType} (C : gC p s m args meth c D ca ad N L own cc nL ret) {x : Int64} (hd : decode cc pc = .ok (.l2i, 1)) (k : GG p l e R s m args below meth c D ca ad N L nL cs ss Q (pc + 1) ls (.int x.toInt32 :: st) σ) : GG p l e R s m args below meth c D ca ad N L nL cs ss Q pc ls (.long x :: st) σ :=
  fun H locs la hP hS hl => lv_l2i C.1 C.2.1 hd rfl (k H locs la hP hS hl)
theorem g_i2b {ret : Option FieldType} (C : gC p s m args meth c D ca ad N L own cc nL ret) {x : Int32} (hd : decode cc pc = .ok (.i2b, 1)) (k : GG p l e R s m args below meth c D ca ad N L nL cs ss Q (pc + 1) ls (.int x.toInt8.toInt32 :: st) σ) : GG p l e R s m args below meth c D ca ad N L nL cs ss Q pc ls (.int x :: st) σ :=
  fun H locs la hP hS hl => lv_i2b C.1 C.2.1 hd rfl (k H locs la hP hS hl)
theorem g_i2s {ret : Option FieldType} (C : gC p s m args meth c D ca ad N L own cc nL ret) {x : Int32} (hd : decode cc pc = .ok (.i2s, 1)) (k : GG p l e R s m args below meth c D ca ad N L nL cs ss Q (pc + 1) ls (.int x.toInt16.toInt32 :: st) σ) : GG p l e R s m args below meth c D ca ad N L nL cs ss Q pc ls (.int x :: st) σ :=
  fun H locs la hP hS hl => lv_i2s C.1 C.2.1 hd rfl (k H locs la hP hS hl)
theorem g_i2c {ret : Option FieldType} (C : gC p s m args meth c D ca ad N L own cc nL ret) {x : Int32} (hd : decode cc pc = .ok (.i2c, 1)) (k : GG p l e R s m args below meth c D ca ad N L nL cs ss Q (pc + 1) ls (.int (x.toUInt32 % 65536).toInt32 :: st) σ) : GG p l e R s m args below meth c D ca ad N L nL cs ss Q pc ls (.int x :: st) σ :=
  fun H locs la hP hS hl => lv_i2c C.1 C.2.1 hd rfl (k H locs la hP hS hl)
theorem g_dup {ret : Option FieldType} (C : gC p s m args meth c D ca ad N L own cc nL ret) {v : Value} (hc : v.category = 1) (hd : decode cc pc = .ok (.dup, 1)) (k : GG p l e R s m args below meth c D ca ad N L nL cs ss Q (pc + 1) ls (v :: v :: st) σ) : GG p l e R s m args below meth c D ca ad N L nL cs ss Q pc ls (v :: st) σ :=
  fun H locs la hP hS hl => lv_dup C.1 C.2.1 hd (by rw [tv_cat]; exact hc) (k H locs la hP hS hl)
theorem g_dup2 {ret : Option FieldType} (C : gC p s m args meth c D ca ad N L own cc nL ret) {v w : Value} (hv : v.category = 1) (hw : w.category = 1) (hd : decode cc pc = .ok (.dup2, 1)) (k : GG p l e R s m args below meth c D ca ad N L nL cs ss Q (pc + 1) ls (v :: w :: v :: w :: st) σ) : GG p l e R s m args below meth c D ca ad N L nL cs ss Q pc ls (v :: w :: st) σ :=
  fun H locs la hP hS hl => lv_dup2_11 C.1 C.2.1 hd (by rw [tv_cat]; exact hv) (by rw [tv_cat]; exact hw) (k H locs la hP hS hl)
theorem g_pop {ret : Option FieldType} (C : gC p s m args meth c D ca ad N L own cc nL ret) {v : Value} (hc : v.category = 1) (hd : decode cc pc = .ok (.pop, 1)) (k : GG p l e R s m args below meth c D ca ad N L nL cs ss Q (pc + 1) ls st σ) : GG p l e R s m args below meth c D ca ad N L nL cs ss Q pc ls (v :: st) σ :=
  fun H locs la hP hS hl => lv_pop C.1 C.2.1 hd (by rw [tv_cat]; exact hc) (k H locs la hP hS hl)
theorem g_if_eq {ret : Option FieldType} (C : gC p s m args meth c D ca ad N L own cc nL ret) {x : Int32} {off : Int} (tgt : Nat) (hd : decode cc pc = .ok (.ifCond .eq off, 3)) (ht : (pc : Int) + off = (tgt : Int)) (kt : x = 0 → GG p l e R s m args below meth c D ca ad N L nL cs ss Q tgt ls st σ) (kf : ¬ (x = 0) → GG p l e R s m args below meth c D ca ad N L nL cs ss Q (pc + 3) ls st σ) : GG p l e R s m args below meth c D ca ad N L nL cs ss Q pc ls (.int x :: st) σ :=
  fun H locs la hP hS hl => lv_if_eq C.1 C.2.1 hd ht (fun q => kt q H locs la hP hS hl) (fun q => kf q H locs la hP hS hl)
theorem g_icmp_eq {ret : Option FieldType} (C : gC p s m args meth c D ca ad N L own cc nL ret) {x y : Int32} {off : Int} (tgt : Nat) (hd : decode cc pc = .ok (.if_icmp .eq off, 3)) (ht : (pc : Int) + off = (tgt : Int)) (kt : x = y → GG p l e R s m args below meth c D ca ad N L nL cs ss Q tgt ls st σ) (kf : ¬ (x = y) → GG p l e R s m args below meth c D ca ad N L nL cs ss Q (pc + 3) ls st σ) : GG p l e R s m args below meth c D ca ad N L nL cs ss Q pc ls (.int y :: .int x :: st) σ :=
  fun H locs la hP hS hl => lv_icmp_eq C.1 C.2.1 hd ht (fun q => kt q H locs la hP hS hl) (fun q => kf q H locs la hP hS hl)
theorem g_lcmp_eq {ret : Option FieldType} (C : gC p s m args meth c D ca ad N L own cc nL ret) {x y : Int64} {off : Int} (tgt : Nat) (hd0 : decode cc pc = .ok (.lcmp, 1)) (hd : decode cc (pc + 1) = .ok (.ifCond .eq off, 3)) (ht : ((pc + 1 : Nat) : Int) + off = (tgt : Int)) (kt : x = y → GG p l e R s m args below meth c D ca ad N L nL cs ss Q tgt ls st σ) (kf : ¬ (x = y) → GG p l e R s m args below meth c D ca ad N L nL cs ss Q (pc + 1 + 3) ls st σ) : GG p l e R s m args below meth c D ca ad N L nL cs ss Q pc ls (.long y :: .long x :: st) σ :=
  fun H locs la hP hS hl => W.lcmp C.1 C.2.1 hd0 (lv_if_eq C.1 C.2.1 hd ht (fun q => kt ((lg_cmp_eq x y).mp q) H locs la hP hS hl) (fun q => kf ((fun z => q ((lg_cmp_eq x y).mpr z))) H locs la hP hS hl))
theorem g_if_ne {ret : Option FieldType} (C : gC p s m args meth c D ca ad N L own cc nL ret) {x : Int32} {off : Int} (tgt : Nat) (hd : decode cc pc = .ok (.ifCond .ne off, 3)) (ht : (pc : Int) + off = (tgt : Int)) (kt : ¬ x = 0 → GG p l e R s m args below meth c D ca ad N L nL cs ss Q tgt ls st σ) (kf : x = 0 → GG p l e R s m args below meth c D ca ad N L nL cs ss Q (pc + 3) ls st σ) : GG p l e R s m args below meth c D ca ad N L nL cs ss Q pc ls (.int x :: st) σ :=
  fun H locs la hP hS hl => lv_if_ne C.1 C.2.1 hd ht (fun q => kt q H locs la hP hS hl) (fun q => kf q H locs la hP hS hl)
theorem g_icmp_ne {ret : Option FieldType} (C : gC p s m args meth c D ca ad N L own cc nL ret) {x y : Int32} {off : Int} (tgt : Nat) (hd : decode cc pc = .ok (.if_icmp .ne off, 3)) (ht : (pc : Int) + off = (tgt : Int)) (kt : ¬ x = y → GG p l e R s m args below meth c D ca ad N L nL cs ss Q tgt ls st σ) (kf : x = y → GG p l e R s m args below meth c D ca ad N L nL cs ss Q (pc + 3) ls st σ) : GG p l e R s m args below meth c D ca ad N L nL cs ss Q pc ls (.int y :: .int x :: st) σ :=
  fun H locs la hP hS hl => lv_icmp_ne C.1 C.2.1 hd ht (fun q => kt q H locs la hP hS hl) (fun q => kf q H locs la hP hS hl)
theorem g_lcmp_ne {ret : Option FieldType} (C : gC p s m args meth c D ca ad N L own cc nL ret) {x y : Int64} {off : Int} (tgt : Nat) (hd0 : decode cc pc = .ok (.lcmp, 1)) (hd : decode cc (pc + 1) = .ok (.ifCond .ne off, 3)) (ht : ((pc + 1 : Nat) : Int) + off = (tgt : Int)) (kt : ¬ x = y → GG p l e R s m args below meth c D ca ad N L nL cs ss Q tgt ls st σ) (kf : x = y → GG p l e R s m args below meth c D ca ad N L nL cs ss Q (pc + 1 + 3) ls st σ) : GG p l e R s m args below meth c D ca ad N L nL cs ss Q pc ls (.long y :: .long x :: st) σ :=
  fun H locs la hP hS hl => W.lcmp C.1 C.2.1 hd0 (lv_if_ne C.1 C.2.1 hd ht (fun q => kt ((not_congr (lg_cmp_eq x y)).mp q) H locs la hP hS hl) (fun q => kf ((lg_cmp_eq x y).mp q) H locs la hP hS hl))
theorem g_if_lt {ret : Option FieldType} (C : gC p s m args meth c D ca ad N L own cc nL ret) {x : Int32} {off : Int} (tgt : Nat) (hd : decode cc pc = .ok (.ifCond .lt off, 3)) (ht : (pc : Int) + off = (tgt : Int)) (kt : x < 0 → GG p l e R s m args below meth c D ca ad N L nL cs ss Q tgt ls st σ) (kf : ¬ (x < 0) → GG p l e R s m args below meth c D ca ad N L nL cs ss Q (pc + 3) ls st σ) : GG p l e R s m args below meth c D ca ad N L nL cs ss Q pc ls (.int x :: st) σ :=
  fun H locs la hP hS hl => lv_if_lt C.1 C.2.1 hd ht (fun q => kt q H locs la hP hS hl) (fun q => kf q H locs la hP hS hl)
theorem g_icmp_lt {ret : Option FieldType} (C : gC p s m args meth c D ca ad N L own cc nL ret) {x y : Int32} {off : Int} (tgt : Nat) (hd : decode cc pc = .ok (.if_icmp .lt off, 3)) (ht : (pc : Int) + off = (tgt : Int)) (kt : x < y → GG p l e R s m args below meth c D ca ad N L nL cs ss Q tgt ls st σ) (kf : ¬ (x < y) → GG p l e R s m args below meth c D ca ad N L nL cs ss Q (pc + 3) ls st σ) : GG p l e R s m args below meth c D ca ad N L nL cs ss Q pc ls (.int y :: .int x :: st) σ :=
  fun H locs la hP hS hl => lv_icmp_lt C.1 C.2.1 hd ht (fun q => kt q H locs la hP hS hl) (fun q => kf q H locs la hP hS hl)
theorem g_lcmp_lt {ret : Option FieldType} (C : gC p s m args meth c D ca ad N L own cc nL ret) {x y : Int64} {off : Int} (tgt : Nat) (hd0 : decode cc pc = .ok (.lcmp, 1)) (hd : decode cc (pc + 1) = .ok (.ifCond .lt off, 3)) (ht : ((pc + 1 : Nat) : Int) + off = (tgt : Int)) (kt : x < y → GG p l e R s m args below meth c D ca ad N L nL cs ss Q tgt ls st σ) (kf : ¬ (x < y) → GG p l e R s m args below meth c D ca ad N L nL cs ss Q (pc + 1 + 3) ls st σ) : GG p l e R s m args below meth c D ca ad N L nL cs ss Q pc ls (.long y :: .long x :: st) σ :=
  fun H locs la hP hS hl => W.lcmp C.1 C.2.1 hd0 (lv_if_lt C.1 C.2.1 hd ht (fun q => kt ((lg_cmp_lt x y).mp q) H locs la hP hS hl) (fun q => kf ((fun z => q ((lg_cmp_lt x y).mpr z))) H locs la hP hS hl))
theorem g_if_ge {ret : Option FieldType} (C : gC p s m args meth c D ca ad N L own cc nL ret) {x : Int32} {off : Int} (tgt : Nat) (hd : decode cc pc = .ok (.ifCond .ge off, 3)) (ht : (pc : Int) + off = (tgt : Int)) (kt : 0 ≤ x → GG p l e R s m args below meth c D ca ad N L nL cs ss Q tgt ls st σ) (kf : ¬ (0 ≤ x) → GG p l e R s m args below meth c D ca ad N L nL cs ss Q (pc + 3) ls st σ) : GG p l e R s m args below meth c D ca ad N L nL cs ss Q pc ls (.int x :: st) σ :=
  fun H locs la hP hS hl => lv_if_ge C.1 C.2.1 hd ht (fun q => kt q H locs la hP hS hl) (fun q => kf q H locs la hP hS hl)
theorem g_icmp_ge {ret : Option FieldType} (C : gC p s m args meth c D ca ad N L own cc nL ret) {x y : Int32} {off : Int} (tgt : Nat) (hd : decode cc pc = .ok (.if_icmp .ge off, 3)) (ht : (pc : Int) + off = (tgt : Int)) (kt : y ≤ x → GG p l e R s m args below meth c D ca ad N L nL cs ss Q tgt ls st σ) (kf : ¬ (y ≤ x) → GG p l e R s m args below meth c D ca ad N L nL cs ss Q (pc + 3) ls st σ) : GG p l e R s m args below meth c D ca ad N L nL cs ss Q pc ls (.int y :: .int x :: st) σ :=
  fun H locs la hP hS hl => lv_icmp_ge C.1 C.2.1 hd ht (fun q => kt q H locs la hP hS hl) (fun q => kf q H locs la hP hS hl)
theorem g_lcmp_ge {ret : Option FieldType} (C : gC p s m args meth c D ca ad N L own cc nL ret) {x y : Int64} {off : Int} (tgt : Nat) (hd0 : decode cc pc = .ok (.lcmp, 1)) (hd : decode cc (pc + 1) = .ok (.ifCond .ge off, 3)) (ht : ((pc + 1 : Nat) : Int) + off = (tgt : Int)) (kt : y ≤ x → GG p l e R s m args below meth c D ca ad N L nL cs ss Q tgt ls st σ) (kf : ¬ (y ≤ x) → GG p l e R s m args below meth c D ca ad N L nL cs ss Q (pc + 1 + 3) ls st σ) : GG p l e R s m args below meth c D ca ad N L nL cs ss Q pc ls (.long y :: .long x :: st) σ :=
  fun H locs la hP hS hl => W.lcmp C.1 C.2.1 hd0 (lv_if_ge C.1 C.2.1 hd ht (fun q => kt ((lg_cmp_ge x y).mp q) H locs la hP hS hl) (fun q => kf ((fun z => q ((lg_cmp_ge x y).mpr z))) H locs la hP hS hl))
theorem g_if_gt {ret : Option FieldType} (C : gC p s m args meth c D ca ad N L own cc nL ret) {x : Int32} {off : Int} (tgt : Nat) (hd : decode cc pc = .ok (.ifCond .gt off, 3)) (ht : (pc : Int) + off = (tgt : Int)) (kt : 0 < x → GG p l e R s m args below meth c D ca ad N L nL cs ss Q tgt ls st σ) (kf : ¬ (0 < x) → GG p l e R s m args below meth c D ca ad N L nL cs ss Q (pc + 3) ls st σ) : GG p l e R s m args below meth c D ca ad N L nL cs ss Q pc ls (.int x :: st) σ :=
  fun H locs la hP hS hl => lv_if_gt C.1 C.2.1 hd ht (fun q => kt q H locs la hP hS hl) (fun q => kf q H locs la hP hS hl)
theorem g_icmp_gt {ret : Option FieldType} (C : gC p s m args meth c D ca ad N L own cc nL ret) {x y : Int32} {off : Int} (tgt : Nat) (hd : decode cc pc = .ok (.if_icmp .gt off, 3)) (ht : (pc : Int) + off = (tgt : Int)) (kt : y < x → GG p l e R s m args below meth c D ca ad N L nL cs ss Q tgt ls st σ) (kf : ¬ (y < x) → GG p l e R s m args below meth c D ca ad N L nL cs ss Q (pc + 3) ls st σ) : GG p l e R s m args below meth c D ca ad N L nL cs ss Q pc ls (.int y :: .int x :: st) σ :=
  fun H locs la hP hS hl => lv_icmp_gt C.1 C.2.1 hd ht (fun q => kt q H locs la hP hS hl) (fun q => kf q H locs la hP hS hl)
theorem g_lcmp_gt {ret : Option FieldType} (C : gC p s m args meth c D ca ad N L own cc nL ret) {x y : Int64} {off : Int} (tgt : Nat) (hd0 : decode cc pc = .ok (.lcmp, 1)) (hd : decode cc (pc + 1) = .ok (.ifCond .gt off, 3)) (ht : ((pc + 1 : Nat) : Int) + off = (tgt : Int)) (kt : y < x → GG p l e R s m args below meth c D ca ad N L nL cs ss Q tgt ls st σ) (kf : ¬ (y < x) → GG p l e R s m args below meth c D ca ad N L nL cs ss Q (pc + 1 + 3) ls st σ) : GG p l e R s m args below meth c D ca ad N L nL cs ss Q pc ls (.long y :: .long x :: st) σ :=
  fun H locs la hP hS hl => W.lcmp C.1 C.2.1 hd0 (lv_if_gt C.1 C.2.1 hd ht (fun q => kt ((lg_cmp_gt x y).mp q) H locs la hP hS hl) (fun q => kf ((fun z => q ((lg_cmp_gt x y).mpr z))) H locs la hP hS hl))
theorem g_if_le {ret : Option FieldType} (C : gC p s m args meth c D ca ad N L own cc nL ret) {x : Int32} {off : Int} (tgt : Nat) (hd : decode cc pc = .ok (.ifCond .le off, 3)) (ht : (pc : Int) + off = (tgt : Int)) (kt : x ≤ 0 → GG p l e R s m args below meth c D ca ad N L nL cs ss Q tgt ls st σ) (kf : ¬ (x ≤ 0) → GG p l e R s m args below meth c D ca ad N L nL cs ss Q (pc + 3) ls st σ) : GG p l e R s m args below meth c D ca ad N L nL cs ss Q pc ls (.int x :: st) σ :=
  fun H locs la hP hS hl => lv_if_le C.1 C.2.1 hd ht (fun q => kt q H locs la hP hS hl) (fun q => kf q H locs la hP hS hl)
theorem g_icmp_le {ret : Option FieldType} (C : gC p s m args meth c D ca ad N L own cc nL ret) {x y : Int32} {off : Int} (tgt : Nat) (hd : decode cc pc = .ok (.if_icmp .le off, 3)) (ht : (pc : Int) + off = (tgt : Int)) (kt : x ≤ y → GG p l e R s m args below meth c D ca ad N L nL cs ss Q tgt ls st σ) (kf : ¬ (x ≤ y) → GG p l e R s m args below meth c D ca ad N L nL cs ss Q (pc + 3) ls st σ) : GG p l e R s m args below meth c D ca ad N L nL cs ss Q pc ls (.int y :: .int x :: st) σ :=
  fun H locs la hP hS hl => lv_icmp_le C.1 C.2.1 hd ht (fun q => kt q H locs la hP hS hl) (fun q => kf q H locs la hP hS hl)
theorem g_lcmp_le {ret : Option FieldType} (C : gC p s m args meth c D ca ad N L own cc nL ret) {x y : Int64} {off : Int} (tgt : Nat) (hd0 : decode cc pc = .ok (.lcmp, 1)) (hd : decode cc (pc + 1) = .ok (.ifCond .le off, 3)) (ht : ((pc + 1 : Nat) : Int) + off = (tgt : Int)) (kt : x ≤ y → GG p l e R s m args below meth c D ca ad N L nL cs ss Q tgt ls st σ) (kf : ¬ (x ≤ y) → GG p l e R s m args below meth c D ca ad N L nL cs ss Q (pc + 1 + 3) ls st σ) : GG p l e R s m args below meth c D ca ad N L nL cs ss Q pc ls (.long y :: .long x :: st) σ :=
  fun H locs la hP hS hl => W.lcmp C.1 C.2.1 hd0 (lv_if_le C.1 C.2.1 hd ht (fun q => kt ((lg_cmp_le x y).mp q) H locs la hP hS hl) (fun q => kf ((fun z => q ((lg_cmp_le x y).mpr z))) H locs la hP hS hl))
theorem g_goto {ret : Option FieldType} (C : gC p s m args meth c D ca ad N L own cc nL ret) {off : Int} (tgt : Nat) (hd : decode cc pc = .ok (.goto off, 3)) (ht : (pc : Int) + off = (tgt : Int)) (k : GG p l e R s m args below meth c D ca ad N L nL cs ss Q tgt ls st σ) : GG p l e R s m args below meth c D ca ad N L nL cs ss Q pc ls st σ :=
  fun H locs la hP hS hl => lv_goto C.1 C.2.1 hd ht (k H locs la hP hS hl)
theorem g_tableOut {ret : Option FieldType} (C : gC p s m args meth c D ca ad N L own cc nL ret) {dflt lo hi : Int} {offs : Array Int} {len : Nat} {x : Int32} (tgt : Nat) (hd : decode cc pc = .ok (.tableswitch dflt lo hi offs, len)) (h : x.toInt < lo ∨ hi < x.toInt) (ht : (pc : Int) + dflt = (tgt : Int)) (k : GG p l e R s m args below meth c D ca ad N L nL cs ss Q tgt ls st σ) : GG p l e R s m args below meth c D ca ad N L nL cs ss Q pc ls (.int x :: st) σ :=
  fun H locs la hP hS hl => lv_tableOut C.1 C.2.1 hd h ht (k H locs la hP hS hl)
theorem g_tableIn {ret : Option FieldType} (C : gC p s m args meth c D ca ad N L own cc nL ret) {dflt lo hi : Int} {offs : Array Int} {len : Nat} {x : Int32} {off : Int} (tgt : Nat) (hd : decode cc pc = .ok (.tableswitch dflt lo hi offs, len)) (h1 : ¬ x.toInt < lo) (h2 : ¬ hi < x.toInt) (ho : offs[(x.toInt - lo).toNat]? = some off) (ht : (pc : Int) + off = (tgt : Int)) (k : GG p l e R s m args below meth c D ca ad N L nL cs ss Q tgt ls st σ) : GG p l e R s m args below meth c D ca ad N L nL cs ss Q pc ls (.int x :: st) σ :=
  fun H locs la hP hS hl => lv_tableIn C.1 C.2.1 hd h1 h2 ho ht (k H locs la hP hS hl)
theorem g_lookup {ret : Option FieldType} (C : gC p s m args meth c D ca ad N L own cc nL ret) {dflt : Int} {ps : Array (Int × Int)} {len : Nat} {x : Int32} {off : Int} (tgt : Nat) (hd : decode cc pc = .ok (.lookupswitch dflt ps, len)) (hp : (ps.toList.zip (ps.toList.drop 1)).all (fun (a, next) => a.1 < next.1) = true) (ho : Op.lookupswitch.offset ps.toList dflt x.toInt = off) (ht : (pc : Int) + off = (tgt : Int)) (k : GG p l e R s m args below meth c D ca ad N L nL cs ss Q tgt ls st σ) : GG p l e R s m args below meth c D ca ad N L nL cs ss Q pc ls (.int x :: st) σ :=
  fun H locs la hP hS hl => lv_lookup C.1 C.2.1 hd hp ho ht (k H locs la hP hS hl)
theorem g_nmI {x : Int32} (k : ∀ z : Int32, z = x → GG p l e R s m args below meth c D ca ad N L nL cs ss Q pc ls (.int z :: st) σ) : GG p l e R s m args below meth c D ca ad N L nL cs ss Q pc ls (.int x :: st) σ := k x rfl
theorem g_nmL {x : Int64} (k : ∀ z : Int64, z = x → GG p l e R s m args below meth c D ca ad N L nL cs ss Q pc ls (.long z :: st) σ) : GG p l e R s m args below meth c D ca ad N L nL cs ss Q pc ls (.long x :: st) σ := k x rfl
/-! fields -/
theorem gW_obj {k cd : Nat} (hk : L k = cd) (hc : cd < 10) (hI : gI ad N L) : (gW ad ca N L σ)[k]? = some (ad k, .inr (cd, (List.range (gnf cd)).map (fun j => gfv ad cd j k σ))) := by
  have hN : k < N := hI.2 k (by omega)
  rw [gW_get hN, hk]
  simp [gE, hc]
theorem g_get {ret : Option FieldType} (C : gC p s m args meth c D ca ad N L own cc nL ret) {k cd i : Nat} {v : Value} (j : Nat) (hk : L k = cd) (hf : gL own i cd j) (hv : gfv ad cd j k σ = tv ad v) (hd : decode cc pc = .ok (.getfield i, 3)) (kk : GG p l e R s m args below meth c D ca ad N L nL cs ss Q (pc + 3) ls (v :: st) σ) : GG p l e R s m args below meth c D ca ad N L nL cs ss Q pc ls (.ref k :: st) σ := by
  intro H locs la hP hS hl
  obtain ⟨hx, hb, hml, hown, hts, ⟨hK, hNw, hAO⟩, hI, hlk, hr⟩ := C
  obtain ⟨Cn, T, Nf, h1, h2, h3, h4, h5, h6⟩ := hf
  have hg := gW_obj (ca := ca) (σ := σ) hk h4 hI
  have hv2 : ((List.range (gnf cd)).map (fun j => gfv ad cd j k σ))[j]? = some (tv ad v) := by rw [gfl_get (by omega), hv]
  rcases h6 with h6 | ⟨host, h6⟩
  · exact va_get (D := D) hx hb (fun w hw => hts w hw) h5 hown hK hP k hg h1 j h2 (hts _ h6) (fun _ h9 => h9) hv2 hd (kk H locs la hP hS hl)
  · exact va_getN (D := D) hx hb (fun w hw => hts w hw) h5 hown hK hP k hg h1 j h2 (va_Nw.use rfl (hNw _ h6)) (fun _ h9 => h9) hv2 hd (kk H locs la hP hS hl)
theorem g_getI {ret : Option FieldType} (C : gC p s m args meth c D ca ad N L own cc nL ret) {k cd i : Nat} (j : Nat) (hk : L k = cd) (hf : gL own i cd j) (h0 : gfk cd j = 0) (hd : decode cc pc = .ok (.getfield i, 3)) (kk : GG p l e R s m args below meth c D ca ad N L nL cs ss Q (pc + 3) ls (.int (σ.1 k j) :: st) σ) : GG p l e R s m args below meth c D ca ad N L nL cs ss Q pc ls (.ref k :: st) σ :=
  g_get C j hk hf (by simp [gfv, h0, tv]) hd kk
theorem g_getL {ret : Option FieldType} (C : gC p s m args meth c D ca ad N L own cc nL ret) {k cd i : Nat} (j : Nat) (hk : L k = cd) (hf : gL own i cd j) (h0 : gfk cd j = 1) (hd : decode cc pc = .ok (.getfield i, 3)) (kk : GG p l e R s m args below meth c D ca ad N L nL cs ss Q (pc + 3) ls (.long (σ.2 k j) :: st) σ) : GG p l e R s m args below meth c D ca ad N L nL cs ss Q pc ls (.ref k :: st) σ :=
  g_get C j hk hf (by simp [gfv, h0, tv]) hd kk
theorem g_getR {ret : Option FieldType} (C : gC p s m args meth c D ca ad N L own cc nL ret) {k cd i : Nat} (j k2 : Nat) (hk : L k = cd) (hf : gL own i cd j) (h0 : gfk cd j = 2) (h2 : k + gfo cd j = k2) (hd : decode cc pc = .ok (.getfield i, 3)) (kk : GG p l e R s m args below meth c D ca ad N L nL cs ss Q (pc + 3) ls (.ref k2 :: st) σ) : GG p l e R s m args below meth c D ca ad N L nL cs ss Q pc ls (.ref k :: st) σ :=
  g_get C j hk hf (by simp [gfv, h0, tv, h2]) hd kk
theorem g_getA {ret : Option FieldType} (C : gC p s m args meth c D ca ad N L own cc nL ret) {k cd i : Nat} (j k2 : Nat) (hk : L k = cd) (hf : gL own i cd j) (h0 : gfk cd j = 4) (h2 : gfo cd j = k2) (hd : decode cc pc = .ok (.getfield i, 3)) (kk : GG p l e R s m args below meth c D ca ad N L nL cs ss Q (pc + 3) ls (.ref k2 :: st) σ) : GG p l e R s m args below meth c D ca ad N L nL cs ss Q pc ls (.ref k :: st) σ :=
  g_get C j hk hf (by simp [gfv, h0, tv, h2]) hd kk
theorem g_put {ret : Option FieldType} (C : gC p s m args meth c D ca ad N L own cc nL ret) {k cd i : Nat} {v : Value} {ty : FieldType} {τ : St} (j : Nat) (hk : L k = cd) (hf : gLp own i cd j ty) (hn : narrow ty v = v) (hfit : fits ty v = true) (hset : ((List.range (gnf cd)).map (fun i => gfv ad cd i k σ)).set j v = (List.range (gnf cd)).map (fun i => gfv ad cd i k τ)) (hoff : ∀ a, a ≠ k → τ.1 a = σ.1 a ∧ τ.2 a = σ.2 a) (htv : tv ad v = v) (hd : decode cc pc = .ok (.putfield i, 3)) (kk : GG p l e R s m args below meth c D ca ad N L nL cs ss Q (pc + 3) ls st τ) : GG p l e R s m args below meth c D ca ad N L nL cs ss Q pc ls (v :: .ref k :: st) σ := by
  intro H locs la hP hS hl
  obtain ⟨hx, hb, hml, hown, hts, ⟨hK, hNw, hAO⟩, hI, hlk, hr⟩ := C
  obtain ⟨Cn, T, Nf, tyf, h1, h2, h3, h4, h5, h6, h7, h8, h9, h10⟩ := hf
  have hg := gW_obj (ca := ca) (σ := σ) hk h4 hI
  have hw : (gW ad ca N L σ).set k (ad k, .inr (cd, ((List.range (gnf cd)).map (fun i => gfv ad cd i k σ)).set j v)) = gW ad ca N L τ := gW_set (by rw [hset, hk]; simp [gE, h4]) hoff
  show W p l e R s m args below meth c H locs cs ss Q (F0 m pc la (tv ad v :: .ref (ad k) :: st.map (tv ad)))
  rw [htv]
  rcases h6 with h6 | ⟨host, h6⟩
  · exact va_put (D := D) hx hb (fun w hw => hts w hw) h5 tyf h7 h8 hown hK hP (gW_D hI) hS k hg h1 j h2 (hts _ h6) (fun _ h9 => h9) h9 h10 hn hfit (by simp; omega) hd (fun H1 locs1 hP1 _ hS1 => kk H1 locs1 la (by rw [hw] at hP1; exact hP1) hS1 hl)
  · exact va_putN (D := D) hx hb (fun w hw => hts w hw) h5 tyf h7 h8 hown hK hP (gW_D hI) hS k hg h1 j h2 (va_Nw.use rfl (hNw _ h6)) (fun _ h9 => h9) h9 h10 hn hfit (by simp; omega) hd (fun H1 locs1 hP1 _ hS1 => kk H1 locs1 la (by rw [hw] at hP1; exact hP1) hS1 hl)
theorem g_putI {ret : Option FieldType} (C : gC p s m args meth c D ca ad N L own cc nL ret) {k cd i : Nat} {x : Int32} (j : Nat) (hk : L k = cd) (hf : gLp own i cd j .int) (h0 : gfk cd j = 0) (hd : decode cc pc = .ok (.putfield i, 3)) (kk : GG p l e R s m args below meth c D ca ad N L nL cs ss Q (pc + 3) ls st (up1 σ k j x)) : GG p l e R s m args below meth c D ca ad N L nL cs ss Q pc ls (.int x :: .ref k :: st) σ :=
  g_put C j hk hf rfl rfl (gfl_set1 h0) (fun a h => up1_off a h) rfl hd kk
theorem g_putZ {ret : Option FieldType} (C : gC p s m args meth c D ca ad N L own cc nL ret) {k cd i : Nat} {x : Int32} (j : Nat) (hk : L k = cd) (hf : gLp own i cd j .boolean) (h0 : gfk cd j = 0) (hn : narrow .boolean (.int x) = .int x) (hfit : fits .boolean (.int x) = true) (hd : decode cc pc = .ok (.putfield i, 3)) (kk : GG p l e R s m args below meth c D ca ad N L nL cs ss Q (pc + 3) ls st (up1 σ k j x)) : GG p l e R s m args below meth c D ca ad N L nL cs ss Q pc ls (.int x :: .ref k :: st) σ :=
  g_put C j hk hf hn hfit (gfl_set1 h0) (fun a h => up1_off a h) rfl hd kk
theorem g_putL {ret : Option FieldType} (C : gC p s m args meth c D ca ad N L own cc nL ret) {k cd i : Nat} {x : Int64} (j : Nat) (hk : L k = cd) (hf : gLp own i cd j .long) (h0 : gfk cd j = 1) (hd : decode cc pc = .ok (.putfield i, 3)) (kk : GG p l e R s m args below meth c D ca ad N L nL cs ss Q (pc + 3) ls st (up2 σ k j x)) : GG p l e R s m args below meth c D ca ad N L nL cs ss Q pc ls (.long x :: .ref k :: st) σ :=
  g_put C j hk hf rfl rfl (gfl_set2 h0) (fun a h => up2_off a h) rfl hd kk
/-! rows -/
theorem gW_arr {k cd : Nat} (hk : L k = cd) (hc : ¬ cd < 10) (h9 : cd < 99) (hI : gI ad N L) : (gW ad ca N L σ)[k]? = some (ad k, .inl (ca (gac (gat cd)), gal cd, gct ad cd k σ)) := by
  have hN : k < N := hI.2 k (by omega)
  rw [gW_get hN, hk]
  simp [gE, hc, h9]
/-- an index within a row -/
def ix (i : Int32) (n : Nat) : Bool := decide (¬ i < 0) && decide (i.toNatClampNeg < n)
theorem ix_in {i : Int32} {n : Nat} (h : ix i n = true) : vp_in i n := by
  simp only [ix, Bool.and_eq_true, decide_eq_true_eq] at h
  intro q
  rcases q with q | q
  · exact h.1 q
  · omega
theorem ix_lt {i : Int32} {n : Nat} (h : ix i n = true) : i.toNatClampNeg < n := by
  simp only [ix, Bool.and_eq_true, decide_eq_true_eq] at h
  exact h.2
def gok (cd t n : Nat) : Prop := ¬ cd < 10 ∧ cd < 99 ∧ gat cd = t ∧ gal cd = n
theorem gW_row {k cd t n : Nat} (hk : L k = cd) (ho : gok cd t n) (hI : gI ad N L) : (gW ad ca N L σ)[k]? = some (ad k, .inl (ca (gac t), n, gct ad cd k σ)) := by
  obtain ⟨h1, h2, h3, h4⟩ := ho
  rw [gW_arr hk h1 h2 hI, h3, h4]
theorem gW_rowset {k cd t n : Nat} {f} {τ : St} (hk : L k = cd) (ho : gok cd t n) (hf : f = gct ad cd k τ) (hoff : ∀ a, a ≠ k → τ.1 a = σ.1 a ∧ τ.2 a = σ.2 a) : (gW ad ca N L σ).set k (ad k, .inl (ca (gac t), n, f)) = gW ad ca N L τ := by
  obtain ⟨h1, h2, h3, h4⟩ := ho
  exact gW_set (by rw [hf, hk]; simp [gE, h1, h2, h3, h4]) hoff
theorem g_iald {ret : Option FieldType} (C : gC p s m args meth c D ca ad N L own cc nL ret) {k cd : Nat} {i : Int32} (n : Nat) (hk : L k = cd) (ho : gok cd 0 n) (hi : ix i n = true) (hd : decode cc pc = .ok (.iaload, 1)) (kk : GG p l e R s m args below meth c D ca ad N L nL cs ss Q (pc + 1) ls (.int (σ.1 k i.toNatClampNeg) :: st) σ) : GG p l e R s m args below meth c D ca ad N L nL cs ss Q pc ls (.int i :: .ref k :: st) σ := by
  intro H locs la hP hS hl
  obtain ⟨hx, hb, hml, hown, hts, ⟨hK, hNw, hAO⟩, hI, hlk, hr⟩ := C
  have hg := gW_row (ca := ca) (σ := σ) hk ho hI
  rw [show gct ad cd k σ = .inl (σ.1 k) by simp [gct, ho.2.2.1]] at hg
  exact va_iald (D := D) hx hb hK hP k 0 hg rfl (ix_in hi) hd (kk H locs la hP hS hl)
theorem g_bald {ret : Option FieldType} (C : gC p s m args meth c D ca ad N L own cc nL ret) {k cd : Nat} {i : Int32} (n : Nat) (hk : L k = cd) (ho : gok cd 2 n) (hi : ix i n = true) (hd : decode cc pc = .ok (.baload, 1)) (kk : GG p l e R s m args below meth c D ca ad N L nL cs ss Q (pc + 1) ls (.int (σ.1 k i.toNatClampNeg) :: st) σ) : GG p l e R s m args below meth c D ca ad N L nL cs ss Q pc ls (.int i :: .ref k :: st) σ := by
  intro H locs la hP hS hl
  obtain ⟨hx, hb, hml, hown, hts, ⟨hK, hNw, hAO⟩, hI, hlk, hr⟩ := C
  have hg := gW_row (ca := ca) (σ := σ) hk ho hI
  rw [show gct ad cd k σ = .inl (σ.1 k) by simp [gct, ho.2.2.1]] at hg
  exact va_bald (D := D) hx hb hK hP k 2 hg rfl (ix_in hi) hd (kk H locs la hP hS hl)
theorem g_lald {ret : Option FieldType} (C : gC p s m args meth c D ca ad N L own cc nL ret) {k cd : Nat} {i : Int32} (n : Nat) (hk : L k = cd) (ho : gok cd 1 n) (hi : ix i n = true) (hd : decode cc pc = .ok (.laload, 1)) (kk : GG p l e R s m args below meth c D ca ad N L nL cs ss Q (pc + 1) ls (.long (σ.2 k i.toNatClampNeg) :: st) σ) : GG p l e R s m args below meth c D ca ad N L nL cs ss Q pc ls (.int i :: .ref k :: st) σ := by
  intro H locs la hP hS hl
  obtain ⟨hx, hb, hml, hown, hts, ⟨hK, hNw, hAO⟩, hI, hlk, hr⟩ := C
  have hg := gW_row (ca := ca) (σ := σ) hk ho hI
  rw [show gct ad cd k σ = .inr (.inl (σ.2 k)) by simp [gct, ho.2.2.1]] at hg
  exact va_lald (D := D) hx hb hK hP k 1 hg rfl (ix_in hi) hd (kk H locs la hP hS hl)
theorem g_aald3 {ret : Option FieldType} (C : gC p s m args meth c D ca ad N L own cc nL ret) {k cd : Nat} {i : Int32} (hk : L k = cd) (ho : gok cd 3 7) (hi : ix i 7 = true) (hd : decode cc pc = .ok (.aaload, 1)) (kk : GG p l e R s m args below meth c D ca ad N L nL cs ss Q (pc + 1) ls (.ref (k + 4 + 3 * i.toNatClampNeg) :: st) σ) : GG p l e R s m args below meth c D ca ad N L nL cs ss Q pc ls (.int i :: .ref k :: st) σ := by
  intro H locs la hP hS hl
  obtain ⟨hx, hb, hml, hown, hts, ⟨hK, hNw, hAO⟩, hI, hlk, hr⟩ := C
  have hg := gW_row (ca := ca) (σ := σ) hk ho hI
  rw [show gct ad cd k σ = .inr (.inr (.inr (.inr (fun j => if j < 7 then some (ad (k + 4 + 3 * j)) else none)))) by simp [gct, ho.2.2.1]] at hg
  refine va_aldq (D := D) hx hb hK hP k 3 hg rfl (ix_in hi) hd ?_
  rw [if_pos (ix_lt hi)]
  exact kk H locs la hP hS hl
theorem g_aald4 {ret : Option FieldType} (C : gC p s m args meth c D ca ad N L own cc nL ret) {k cd : Nat} {i : Int32} (hk : L k = cd) (ho : gok cd 4 4) (hi : ix i 4 = true) (hd : decode cc pc = .ok (.aaload, 1)) (kk : GG p l e R s m args below meth c D ca ad N L nL cs ss Q (pc + 1) ls (.ref (k + 26 + 2 * i.toNatClampNeg) :: st) σ) : GG p l e R s m args below meth c D ca ad N L nL cs ss Q pc ls (.int i :: .ref k :: st) σ := by
  intro H locs la hP hS hl
  obtain ⟨hx, hb, hml, hown, hts, ⟨hK, hNw, hAO⟩, hI, hlk, hr⟩ := C
  have hg := gW_row (ca := ca) (σ := σ) hk ho hI
  rw [show gct ad cd k σ = .inr (.inr (.inr (.inr (fun j => if j < 4 then some (ad (k + 26 + 2 * j)) else none)))) by simp [gct, ho.2.2.1]] at hg
  refine va_aldq (D := D) hx hb hK hP k 4 hg rfl (ix_in hi) hd ?_
  rw [if_pos (ix_lt hi)]
  exact kk H locs la hP hS hl
theorem g_iast {ret : Option FieldType} (C : gC p s m args meth c D ca ad N L own cc nL ret) {k cd : Nat} {i x : Int32} (n : Nat) (hk : L k = cd) (ho : gok cd 0 n) (hi : ix i n = true) (hd : decode cc pc = .ok (.iastore, 1)) (kk : GG p l e R s m args below meth c D ca ad N L nL cs ss Q (pc + 1) ls st (up1 σ k i.toNatClampNeg x)) : GG p l e R s m args below meth c D ca ad N L nL cs ss Q pc ls (.int x :: .int i :: .ref k :: st) σ := by
  intro H locs la hP hS hl
  obtain ⟨hx, hb, hml, hown, hts, ⟨hK, hNw, hAO⟩, hI, hlk, hr⟩ := C
  have hg := gW_row (ca := ca) (σ := σ) hk ho hI
  rw [show gct ad cd k σ = .inl (σ.1 k) by simp [gct, ho.2.2.1]] at hg
  have hw : (gW ad ca N L σ).set k (ad k, .inl (ca (gac 0), n, .inl (upd (σ.1 k) i.toNatClampNeg x))) = gW ad ca N L (up1 σ k i.toNatClampNeg x) := gW_rowset hk ho (by simp [gct, ho.2.2.1, up1_row]) (fun a h => up1_off a h)
  exact va_iast (D := D) hx hb hK hP (gW_D hI) hS k 0 hg rfl (ix_in hi) hd (fun H1 locs1 hP1 _ hS1 => kk H1 locs1 la (by rw [hw] at hP1; exact hP1) hS1 hl)
theorem g_bast {ret : Option FieldType} (C : gC p s m args meth c D ca ad N L own cc nL ret) {k cd : Nat} {i x : Int32} (n : Nat) (hk : L k = cd) (ho : gok cd 2 n) (hi : ix i n = true) (hd : decode cc pc = .ok (.bastore, 1)) (kk : GG p l e R s m args below meth c D ca ad N L nL cs ss Q (pc + 1) ls st (up1 σ k i.toNatClampNeg (vp_nar .byte x))) : GG p l e R s m args below meth c D ca ad N L nL cs ss Q pc ls (.int x :: .int i :: .ref k :: st) σ := by
  intro H locs la hP hS hl
  obtain ⟨hx, hb, hml, hown, hts, ⟨hK, hNw, hAO⟩, hI, hlk, hr⟩ := C
  have hg := gW_row (ca := ca) (σ := σ) hk ho hI
  rw [show gct ad cd k σ = .inl (σ.1 k) by simp [gct, ho.2.2.1]] at hg
  have hw : (gW ad ca N L σ).set k (ad k, .inl (ca (gac 2), n, .inl (upd (σ.1 k) i.toNatClampNeg (vp_nar .byte x)))) = gW ad ca N L (up1 σ k i.toNatClampNeg (vp_nar .byte x)) := gW_rowset hk ho (by simp [gct, ho.2.2.1, up1_row]) (fun a h => up1_off a h)
  exact va_bast (D := D) hx hb hK hP (gW_D hI) hS k 2 hg rfl (ix_in hi) hd (fun H1 locs1 hP1 _ hS1 => kk H1 locs1 la (by rw [hw] at hP1; exact hP1) hS1 hl)
theorem g_last {ret : Option FieldType} (C : gC p s m args meth c D ca ad N L own cc nL ret) {k cd : Nat} {i : Int32} {x : Int64} (n : Nat) (hk : L k = cd) (ho : gok cd 1 n) (hi : ix i n = true) (hd : decode cc pc = .ok (.lastore, 1)) (kk : GG p l e R s m args below meth c D ca ad N L nL cs ss Q (pc + 1) ls st (up2 σ k i.toNatClampNeg x)) : GG p l e R s m args below meth c D ca ad N L nL cs ss Q pc ls (.long x :: .int i :: .ref k :: st) σ := by
  intro H locs la hP hS hl
  obtain ⟨hx, hb, hml, hown, hts, ⟨hK, hNw, hAO⟩, hI, hlk, hr⟩ := C
  have hg := gW_row (ca := ca) (σ := σ) hk ho hI
  rw [show gct ad cd k σ = .inr (.inl (σ.2 k)) by simp [gct, ho.2.2.1]] at hg
  have hw : (gW ad ca N L σ).set k (ad k, .inl (ca (gac 1), n, .inr (.inl (vp_updL (σ.2 k) i.toNatClampNeg x)))) = gW ad ca N L (up2 σ k i.toNatClampNeg x) := gW_rowset hk ho (by simp [gct, ho.2.2.1, up2_row]) (fun a h => up2_off a h)
  exact va_last (D := D) hx hb hK hP (gW_D hI) hS k 1 hg rfl (ix_in hi) hd (fun H1 locs1 hP1 _ hS1 => kk H1 locs1 la (by rw [hw] at hP1; exact hP1) hS1 hl)
theorem g_alen {ret : Option FieldType} (C : gC p s m args meth c D ca ad N L own cc nL ret) {k cd : Nat} (t n : Nat) (hk : L k = cd) (ho : gok cd t n) (ht : t < 5) (hd : decode cc pc = .ok (.arraylength, 1)) (kk : GG p l e R s m args below meth c D ca ad N L nL cs ss Q (pc + 1) ls (.int (nI n) :: st) σ) : GG p l e R s m args below meth c D ca ad N L nL cs ss Q pc ls (.ref k :: st) σ := by
  intro H locs la hP hS hl
  obtain ⟨hx, hb, hml, hown, hts, ⟨hK, hNw, hAO⟩, hI, hlk, hr⟩ := C
  have hg := gW_row (ca := ca) (σ := σ) hk ho hI
  obtain ⟨ty, hty⟩ : ∃ ty, (gT ca)[t]? = some (ca (gac t), ty) := by
    match t, ht with
    | 0, _ => exact ⟨_, rfl⟩
    | 1, _ => exact ⟨_, rfl⟩
    | 2, _ => exact ⟨_, rfl⟩
    | 3, _ => exact ⟨_, rfl⟩
    | 4, _ => exact ⟨_, rfl⟩
  exact va_alen (D := D) hx hb hK hP k t hg hty rfl hd (kk H locs la hP hS hl)
/-! returns -/
theorem g_F {H : Heap} {locs : List Loc} {t : State} (hS : va_S (gA ad N) s.heap H locs) (ht : t.heap = H) : va_F (gA ad N) s t := hS.F ht
theorem g_iret (C : gC p s m args meth c D ca ad N L own cc nL (some .int)) {v : Int32} (hd : decode cc pc = .ok (.ireturn, 1)) : G p l e R s m args below meth c D ca ad N L nL (gEnd below args s D ca ad N L (some (.int v)) σ) pc ls [.int v] σ :=
  fun H locs la hP hS hl => W.iret (v := v) C.1 C.2.1 C.2.2.2.2.2.2.2.2 (fun t ht hW => ⟨rfl, by rw [ht]; exact hP, hS.F ht⟩) hS.2.2 hd C.2.2.2.2.2.2.2.1
theorem g_zret (C : gC p s m args meth c D ca ad N L own cc nL (some .boolean)) {v : Int32} (hn : narrow .boolean (.int v) = .int v) (hd : decode cc pc = .ok (.ireturn, 1)) : G p l e R s m args below meth c D ca ad N L nL (gEnd below args s D ca ad N L (some (.int v)) σ) pc ls [.int v] σ :=
  fun H locs la hP hS hl => W.zret (v := v) C.1 C.2.1 C.2.2.2.2.2.2.2.2 hn (fun t ht hW => ⟨rfl, by rw [ht]; exact hP, hS.F ht⟩) hS.2.2 hd C.2.2.2.2.2.2.2.1
theorem g_lret (C : gC p s m args meth c D ca ad N L own cc nL (some .long)) {v : Int64} (hd : decode cc pc = .ok (.lreturn, 1)) : G p l e R s m args below meth c D ca ad N L nL (gEnd below args s D ca ad N L (some (.long v)) σ) pc ls [.long v] σ :=
  fun H locs la hP hS hl => W.lret (v := v) C.1 C.2.1 C.2.2.2.2.2.2.2.2 (fun t ht hW => ⟨rfl, by rw [ht]; exact hP, hS.F ht⟩) hS.2.2 hd C.2.2.2.2.2.2.2.1
theorem g_vret (C : gC p s m args meth c D ca ad N L own cc nL none) (hd : decode cc pc = .ok (.return_, 1)) : G p l e R s m args below meth c D ca ad N L nL (gEnd below args s D ca ad N L none σ) pc ls [] σ :=
  fun H locs la hP hS hl => W.vret C.1 C.2.1 C.2.2.2.2.2.2.2.2 (fun t ht hW => ⟨rfl, by rw [ht]; exact hP, hS.F ht⟩) hS.2.2 hd C.2.2.2.2.2.2.2.1
/-! calls -/
theorem gPc_blind {av : List Value} : FrameBlind (va_Pc av (gPre D ca ad N L σ)) := by
  intro a U g mk q
  obtain ⟨q0, qP, qK, qI⟩ := q
  exact ⟨q0, qP, ⟨va_K.moved (u := U) (U := U.calling g mk a) (Vm.Alike.refl U.vm) qK.1, fun w hw => va_Nw.same (u := U) (U := U.calling g mk a) (gnb_tab hw) rfl (qK.2.1 w hw), va_AO.moved (u := U) (U := U.calling g mk a) (Vm.Alike.refl U.vm) qK.2.2.1, va_AO.moved (u := U) (U := U.calling g mk a) (Vm.Alike.refl U.vm) qK.2.2.2⟩, qI⟩
theorem g_run {rv : Option Value} {τ : St} {st0 : List Value} {a : Array Value} (hr : ∀ (H : Heap) (locs : List Loc) (la : Array Slot), va_P D vwCl (gW ad ca N L σ) H → va_S (gA ad N) s.heap H locs → lv_has la nL (ls.map (tvp ad)) → va_Run p l e R s m args below meth c H locs 0 0 0 0 (F0 m pc la (st0.map (tv ad))) (st.map (tv ad)) (gQ D ca ad N L rv τ a) (gA ad N)) (hv : rv.toList.map (tv ad) = rv.toList) (kk : G p l e R s m args below meth c D ca ad N L nL Q (pc + 3) ls (rv.toList ++ st) τ) : G p l e R s m args below meth c D ca ad N L nL Q pc ls st0 σ := by
  intro H locs la hP hS hl T hT X
  obtain ⟨v, st₀, t, T', Lc, h0, X', hL, e1, e2, ⟨h4, h5, h6⟩, stp⟩ := hr H locs la hP hS hl T hT X
  obtain rfl : v = rv := by cases h4; rfl
  have hS' : va_S (gA ad N) s.heap T'.heap (locs ++ Lc) := by
    obtain ⟨z1, z2⟩ := h6
    rw [h0] at z1 z2
    refine ⟨Nat.le_trans hS.1 (by rw [e1]; exact z1), fun q a1 a2 => ?_, fun q hq => ?_⟩
    · rw [e1, z2 q (Nat.lt_of_lt_of_le a1 hS.1) a2]
      exact hS.2.1 q a1 a2
    · rcases List.mem_append.mp hq with h | h
      · exact hS.2.2 q h
      · exact hL q h
  have hk := kk T'.heap (locs ++ Lc) la (by rw [e1]; exact h5) hS' hl
  rw [List.map_append, hv] at hk
  obtain ⟨t2, a1, b1⟩ := hk T' rfl X'
  exact ⟨t2, stp t2 a1, b1⟩
theorem g_callV {ret : Option FieldType} (C : gC p s m args meth c D ca ad N L own cc nL ret) {y : MethodName} {bytes : ByteArray} {mL n i : Nat} {ry : Option FieldType} {rm : Room} {k cd : Nat} {As st0 : List Value} {rv : Option Value} {τ : St} {Cn : String} {T : u_T} {Nf : Nat} (q : okV own i Cn y bytes mL ry n) (hM : gM l D ca ad N L y bytes mL ry rm (.ref k :: As) σ rv τ) (hk : L k = cd) (hc : cd < 10) (hcd : vwCl[cd]? = some (Cn, T, Nf)) (hst : st0 = As.reverse ++ .ref k :: st) (hn : As.length = n) (hrm : rm.cells = 0 ∧ rm.slots = 0) (hR : rm.frames + 1 ≤ R.frames ∧ 8 + (mL + 11) + rm.locals ≤ R.locals) (h8 : (st.map (fun v => v.category)).sum ≤ 8) (hv : rv.toList.map (tv ad) = rv.toList) (hd : decode cc pc = .ok (.invokevirtual i, 3)) (kk : G p l e R s m args below meth c D ca ad N L nL Q (pc + 3) ls (rv.toList ++ st) τ) : G p l e R s m args below meth c D ca ad N L nL Q pc ls st0 σ := by
  obtain ⟨q1, q2, q3, q4, q5, q6, q7, q8⟩ := q
  obtain ⟨hx, hb, hml, hown, hts, ⟨hK, hNw, hAO⟩, hI, hlk, hr⟩ := C
  subst hst
  refine g_run (a := (Value.ref (ad k) :: As.map (tv ad)).toArray) (fun H locs la hP hS hl => ?_) hv kk
  have h8' : ((st.map (tv ad)).map (fun v => v.category)).sum ≤ 8 := by
    rw [List.map_map, show ((fun v : Value => v.category) ∘ tv ad) = (fun v => v.category) from funext (fun v => tv_cat ad v)]
    exact h8
  exact va_runV (As := As.map (tv ad)) (rest := st.map (tv ad)) (C := Cn) (b := ad k) (index := i) (n := n) (bytes := bytes) (maxL := mL) (ret := ry) ⟨hx, hb, hml, hown, hts⟩ hM ⟨callB_of n hts (gd_in q5) rfl hrm.1 hrm.2 (hts _ q4) (hts _ q1) ⟨q6, q7, q8⟩ hR, hts _ q2, hts _ q3⟩ ⟨gPc_blind, va_recv hK hP hcd (gW_obj hk hc hI), fun U hU hW => ⟨rfl, by rw [hU]; exact hP, gK_warm hW ⟨hK, hNw, hAO⟩, hI⟩⟩ rfl (by rw [List.length_map]; exact hn) hl.1 (by simp; rfl) (lv_room h8') hd ⟨Nat.zero_le _, Nat.zero_le _⟩
theorem g_callS {ret : Option FieldType} (C : gC p s m args meth c D ca ad N L own cc nL ret) {y : MethodName} {bytes : ByteArray} {mL n i : Nat} {ry : Option FieldType} {rm : Room} {As st0 : List Value} {rv : Option Value} {τ : St} (q : okS own i y bytes mL ry n) (hM : gM l D ca ad N L y bytes mL ry rm As σ rv τ) (hst : st0 = As.reverse ++ st) (hn : As.length = n) (hrm : rm.cells = 0 ∧ rm.slots = 0) (hR : rm.frames + 1 ≤ R.frames ∧ 8 + (mL + 11) + rm.locals ≤ R.locals) (h8 : (st.map (fun v => v.category)).sum ≤ 8) (hv : rv.toList.map (tv ad) = rv.toList) (hd : decode cc pc = .ok (.invokestatic i, 3)) (kk : G p l e R s m args below meth c D ca ad N L nL Q (pc + 3) ls (rv.toList ++ st) τ) : G p l e R s m args below meth c D ca ad N L nL Q pc ls st0 σ := by
  obtain ⟨q1, q2, q4, q5, q6, q7, q8⟩ := q
  obtain ⟨hx, hb, hml, hown, hts, ⟨hK, hNw, hAO⟩, hI, hlk, hr⟩ := C
  subst hst
  refine g_run (a := (As.map (tv ad)).toArray) (fun H locs la hP hS hl => ?_) hv kk
  have h8' : ((st.map (tv ad)).map (fun v => v.category)).sum ≤ 8 := by
    rw [List.map_map, show ((fun v : Value => v.category) ∘ tv ad) = (fun v => v.category) from funext (fun v => tv_cat ad v)]
    exact h8
  exact va_runS (As := As.map (tv ad)) (rest := st.map (tv ad)) (index := i) (n := n) (bytes := bytes) (maxL := mL) (ret := ry) ⟨hx, hb, hml, hown, hts⟩ hM ⟨callB_of n hts (gd_in q5) rfl hrm.1 hrm.2 (hts _ q4) (hts _ q1) ⟨q6, q7, q8⟩ hR, hts _ q2⟩ ⟨gPc_blind, fun U hU hW => ⟨rfl, by rw [hU]; exact hP, gK_warm hW ⟨hK, hNw, hAO⟩, hI⟩⟩ rfl (by rw [List.length_map]; exact hn) hl.1 (by simp) (lv_room h8') hd ⟨Nat.zero_le _, Nat.zero_le _⟩
end GR
/-! what the printed functions are made of -/
def cI {α : Type} (c : Bool) (x : Option α) : Option α := if c = true then x else none
theorem cI_some {α : Type} {c : Bool} {x : Option α} {r : α} (h : cI c x = some r) : c = true ∧ x = some r := by
  unfold cI at h
  by_cases hc : c = true
  · rw [if_pos hc] at h; exact ⟨hc, h⟩
  · rw [if_neg hc] at h; cases h
theorem bd {α β : Type} {x : Option α} {f : α → Option β} {r : β} (h : x.bind f = some r) : ∃ q, x = some q ∧ f q = some r := Option.bind_eq_some_iff.mp h
/-- a named number -/
def ap {α β : Type} (x : α) (f : α → β) : β := f x
theorem ap_at {α β : Type} {x z : α} {f : α → β} {r : β} (hz : z = x) (h : ap x f = r) : f z = r := by subst hz; exact h
theorem ite_t {α : Type} {c : Prop} [Decidable c] {a b : α} {r : α} (hc : c) (h : (if c then a else b) = r) : a = r := by rw [if_pos hc] at h; exact h
theorem ite_f {α : Type} {c : Prop} [Decidable c] {a b : α} {r : α} (hc : ¬ c) (h : (if c then a else b) = r) : b = r := by rw [if_neg hc] at h; exact h
def zb (v : Int32) : Bool := decide (v = 0) || decide (v = 1)
theorem zb_n {v : Int32} (h : zb v = true) : narrow .boolean (.int v) = .int v := by
  simp only [zb, Bool.or_eq_true, decide_eq_true_eq] at h
  rcases h with rfl | rfl <;> rfl
theorem zb_f {v : Int32} (h : zb v = true) : fits .boolean (.int v) = true := by
  simp only [zb, Bool.or_eq_true, decide_eq_true_eq] at h
  rcases h with rfl | rfl <;> rfl
def FU : Nat := 100000
