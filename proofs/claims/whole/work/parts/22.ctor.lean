theorem va_up_lt {g : Nat → Nat} {j : Nat} : va_up (fun x => if x < j then some (g x) else none) j (some (g j)) = fun x => if x < j + 1 then some (g x) else none := by
  funext x
  unfold va_up
  by_cases h : x = j
  · subst h; simp
  · rw [if_neg h]
    show (if x < j then some (g x) else none) = _
    by_cases h2 : x < j
    · rw [if_pos h2, if_pos (by omega)]
    · rw [if_neg h2, if_neg (by omega)]
theorem g_nrm {p : Program} {l : Launch} {e : Env} {R : Room} {s : State} {m : MethodId} {args : Array Value} {below : List Frame} {meth : Method} {c : Code} {D : va_G} {ca : Nat → ClassId} {ad : Nat → Nat} {own : String} {cc : ByteArray} {nL : Nat} {Q : State → Prop} {pc : Nat} {ls : List (Nat × Value)} {st : List Value} {σ : St} {cs ss : Nat} {ret : Option FieldType} {lx : List Nat} {N h0 hw : Nat} (C : gC p s m args meth c D ca ad N (ly lx) own cc nL ret) (F : gF h0 hw s ad N) (lx' : List Nat) (N' : Nat) (h : lx = lx') (hN : N = N') (kk : gC p s m args meth c D ca ad N' (ly lx') own cc nL ret → gF h0 hw s ad N' → GG p l e R s m args below meth c D ca ad N' (ly lx') nL cs ss Q pc ls st σ) : GG p l e R s m args below meth c D ca ad N (ly lx) nL cs ss Q pc ls st σ := by
  subst h; subst hN
  exact kk C F
theorem g_lp {p : Program} {l : Launch} {e : Env} {R : Room} {s : State} {m : MethodId} {args : Array Value} {below : List Frame} {meth : Method} {c : Code} {D : va_G} {ca : Nat → ClassId} {ad : Nat → Nat} {own : String} {cc : ByteArray} {nL : Nat} {Q : State → Prop} {pc : Nat} {ls : List (Nat × Value)} {st : List Value} {σ : St} {cs ss : Nat} {ret : Option FieldType} {lx : List Nat} {N h0 hw : Nat} (C : gC p s m args meth c D ca ad N (ly lx) own cc nL ret) (F : gF h0 hw s ad N) {lp : List Nat} {cd M : Nat} (h : lx = lp ++ [cd]) (hN : N = M + 1) (kk : gC p s m args meth c D ca ad (M + 1) (ly (lp ++ [cd])) own cc nL ret → gF h0 hw s ad (M + 1) → GG p l e R s m args below meth c D ca ad (M + 1) (ly (lp ++ [cd])) nL cs ss Q pc ls st σ) : GG p l e R s m args below meth c D ca ad N (ly lx) nL cs ss Q pc ls st σ := by
  subst h; subst hN
  exact kk C F
theorem qf_X0_19 : gLf RX0 19 0 3 (.array .int) := ⟨TX0, 13, tyX0, rfl, by decide, rfl, by decide, inX0, gi (List.mem_of_getElem? (i := 239) (by decide +kernel)) rfl, tyX0_ok, nmX0, by decide, rfl, by decide +kernel⟩
theorem qf_X0_22 : gLf RX0 22 0 4 (.array .int) := ⟨TX0, 13, tyX0, rfl, by decide, rfl, by decide, inX0, gi (List.mem_of_getElem? (i := 240) (by decide +kernel)) rfl, tyX0_ok, nmX0, by decide, rfl, by decide +kernel⟩
theorem qf_X0_25 : gLf RX0 25 0 5 (.array .int) := ⟨TX0, 13, tyX0, rfl, by decide, rfl, by decide, inX0, gi (List.mem_of_getElem? (i := 241) (by decide +kernel)) rfl, tyX0_ok, nmX0, by decide, rfl, by decide +kernel⟩
theorem qf_X0_28 : gLf RX0 28 0 6 (.array .int) := ⟨TX0, 13, tyX0, rfl, by decide, rfl, by decide, inX0, gi (List.mem_of_getElem? (i := 242) (by decide +kernel)) rfl, tyX0_ok, nmX0, by decide, rfl, by decide +kernel⟩
theorem qf_X0_31 : gLf RX0 31 0 7 (.array .int) := ⟨TX0, 13, tyX0, rfl, by decide, rfl, by decide, inX0, gi (List.mem_of_getElem? (i := 243) (by decide +kernel)) rfl, tyX0_ok, nmX0, by decide, rfl, by decide +kernel⟩
theorem qf_X0_37 : gLf RX0 37 0 9 (.array .long) := ⟨TX0, 13, tyX0, rfl, by decide, rfl, by decide, inX0, gi (List.mem_of_getElem? (i := 245) (by decide +kernel)) rfl, tyX0_ok, nmX0, by decide, rfl, by decide +kernel⟩
theorem qf_X0_41 : gLf RX0 41 0 10 (.array .long) := ⟨TX0, 13, tyX0, rfl, by decide, rfl, by decide, inX0, gi (List.mem_of_getElem? (i := 246) (by decide +kernel)) rfl, tyX0_ok, nmX0, by decide, rfl, by decide +kernel⟩
theorem qf_X0_44 : gLf RX0 44 0 11 (.array .long) := ⟨TX0, 13, tyX0, rfl, by decide, rfl, by decide, inX0, gi (List.mem_of_getElem? (i := 247) (by decide +kernel)) rfl, tyX0_ok, nmX0, by decide, rfl, by decide +kernel⟩
theorem qf_X0_47 : gLf RX0 47 0 12 (.array .long) := ⟨TX0, 13, tyX0, rfl, by decide, rfl, by decide, inX0, gi (List.mem_of_getElem? (i := 248) (by decide +kernel)) rfl, tyX0_ok, nmX0, by decide, rfl, by decide +kernel⟩
theorem qf_X0_50 : gLf RX0 50 0 0 (.object "DatingTable$Weighing") := ⟨TX0, 13, tyX0, rfl, by decide, rfl, by decide, inX0, gi (List.mem_of_getElem? (i := 236) (by decide +kernel)) rfl, tyX0_ok, nmX0, by decide, rfl, by decide +kernel⟩
theorem qf_X0_9 : gLf RX0 9 0 1 (.array .int) := ⟨TX0, 13, tyX0, rfl, by decide, rfl, by decide, inX0, gi (List.mem_of_getElem? (i := 237) (by decide +kernel)) rfl, tyX0_ok, nmX0, by decide, rfl, by decide +kernel⟩
theorem qf_X1_21 : gLf RX1 21 1 3 (.array .int) := ⟨TX1, 5, tyX1, rfl, by decide, rfl, by decide, inX1, gi (List.mem_of_getElem? (i := 116) (by decide +kernel)) rfl, tyX1_ok, nmX1, by decide, rfl, by decide +kernel⟩
theorem qf_X1_25 : gLf RX1 25 1 4 (.array .int) := ⟨TX1, 5, tyX1, rfl, by decide, rfl, by decide, inX1, gi (List.mem_of_getElem? (i := 119) (by decide +kernel)) rfl, tyX1_ok, nmX1, by decide, rfl, by decide +kernel⟩
theorem qf_X2_15 : gLf RX2 15 2 1 (.array .int) := ⟨TX2, 2, tyX2, rfl, by decide, rfl, by decide, inX2, gi (List.mem_of_getElem? (i := 92) (by decide +kernel)) rfl, tyX2_ok, nmX2, by decide, rfl, by decide +kernel⟩
theorem qf_X2_9 : gLf RX2 9 2 0 (.array .int) := ⟨TX2, 2, tyX2, rfl, by decide, rfl, by decide, inX2, gi (List.mem_of_getElem? (i := 90) (by decide +kernel)) rfl, tyX2_ok, nmX2, by decide, rfl, by decide +kernel⟩
theorem qf_X3_22 : gLf RX3 22 3 3 (.array .int) := ⟨TX3, 4, tyX3, rfl, by decide, rfl, by decide, inX3, gi (List.mem_of_getElem? (i := 287) (by decide +kernel)) rfl, tyX3_ok, nmX3, by decide, rfl, by decide +kernel⟩
theorem qf_X4_31 : gLf RX4 31 4 5 (.object "DatingTable$Pairs") := ⟨TX4, 6, tyX4, rfl, by decide, rfl, by decide, inX4, gi (List.mem_of_getElem? (i := 178) (by decide +kernel)) rfl, tyX4_ok, nmX4, by decide, rfl, by decide +kernel⟩
theorem qf_X4_9 : gLf RX4 9 4 0 (.array .byte) := ⟨TX4, 6, tyX4, rfl, by decide, rfl, by decide, inX4, gi (List.mem_of_getElem? (i := 171) (by decide +kernel)) rfl, tyX4_ok, nmX4, by decide, rfl, by decide +kernel⟩
theorem qf_X5_15 : gLf RX5 15 5 1 (.array .int) := ⟨TX5, 6, tyX5, rfl, by decide, rfl, by decide, inX5, gi (List.mem_of_getElem? (i := 135) (by decide +kernel)) rfl, tyX5_ok, nmX5, by decide, rfl, by decide +kernel⟩
theorem qf_X5_19 : gLf RX5 19 5 2 (.array .int) := ⟨TX5, 6, tyX5, rfl, by decide, rfl, by decide, inX5, gi (List.mem_of_getElem? (i := 137) (by decide +kernel)) rfl, tyX5_ok, nmX5, by decide, rfl, by decide +kernel⟩
theorem qf_X5_27 : gLf RX5 27 5 4 (.array (.object "DatingTable$Find")) := ⟨TX5, 6, tyX5, rfl, by decide, rfl, by decide, inX5, gi (List.mem_of_getElem? (i := 142) (by decide +kernel)) rfl, tyX5_ok, nmX5, by decide, rfl, by decide +kernel⟩
theorem qf_X5_34 : gLf RX5 34 5 5 (.object "DatingTable$Pairs") := ⟨TX5, 6, tyX5, rfl, by decide, rfl, by decide, inX5, gi (List.mem_of_getElem? (i := 145) (by decide +kernel)) rfl, tyX5_ok, nmX5, by decide, rfl, by decide +kernel⟩
theorem qf_X6_21 : gLf RX6 21 6 3 (.array .long) := ⟨TX6, 7, tyX6, rfl, by decide, rfl, by decide, inX6, gi (List.mem_of_getElem? (i := 208) (by decide +kernel)) rfl, tyX6_ok, nmX6, by decide, rfl, by decide +kernel⟩
theorem qf_X6_25 : gLf RX6 25 6 4 (.array .int) := ⟨TX6, 7, tyX6, rfl, by decide, rfl, by decide, inX6, gi (List.mem_of_getElem? (i := 209) (by decide +kernel)) rfl, tyX6_ok, nmX6, by decide, rfl, by decide +kernel⟩
theorem qf_X6_29 : gLf RX6 29 6 5 (.array .int) := ⟨TX6, 7, tyX6, rfl, by decide, rfl, by decide, inX6, gi (List.mem_of_getElem? (i := 210) (by decide +kernel)) rfl, tyX6_ok, nmX6, by decide, rfl, by decide +kernel⟩
theorem qf_X6_35 : gLf RX6 35 6 6 (.object "DatingTable$Pairs") := ⟨TX6, 7, tyX6, rfl, by decide, rfl, by decide, inX6, gi (List.mem_of_getElem? (i := 211) (by decide +kernel)) rfl, tyX6_ok, nmX6, by decide, rfl, by decide +kernel⟩
theorem qf_X7_10 : gLf RX7 10 7 0 (.object "DatingTable$Telling") := ⟨TX7, 13, tyX7, rfl, by decide, rfl, by decide, inX7, gi (List.mem_of_getElem? (i := 298) (by decide +kernel)) rfl, tyX7_ok, nmX7, by decide, rfl, by decide +kernel⟩
theorem qf_X7_16 : gLf RX7 16 7 1 (.object "DatingTable$Telling") := ⟨TX7, 13, tyX7, rfl, by decide, rfl, by decide, inX7, gi (List.mem_of_getElem? (i := 299) (by decide +kernel)) rfl, tyX7_ok, nmX7, by decide, rfl, by decide +kernel⟩
theorem qf_X7_25 : gLf RX7 25 7 3 (.array (.object "DatingTable$Sheet")) := ⟨TX7, 13, tyX7, rfl, by decide, rfl, by decide, inX7, gi (List.mem_of_getElem? (i := 301) (by decide +kernel)) rfl, tyX7_ok, nmX7, by decide, rfl, by decide +kernel⟩
theorem qf_X7_32 : gLf RX7 32 7 4 (.object "DatingTable$Tape") := ⟨TX7, 13, tyX7, rfl, by decide, rfl, by decide, inX7, gi (List.mem_of_getElem? (i := 302) (by decide +kernel)) rfl, tyX7_ok, nmX7, by decide, rfl, by decide +kernel⟩
theorem qf_X7_39 : gLf RX7 39 7 5 (.object "DatingTable$Weighing") := ⟨TX7, 13, tyX7, rfl, by decide, rfl, by decide, inX7, gi (List.mem_of_getElem? (i := 303) (by decide +kernel)) rfl, tyX7_ok, nmX7, by decide, rfl, by decide +kernel⟩
theorem qf_X7_48 : gLf RX7 48 7 6 (.object "DatingTable$Counter") := ⟨TX7, 13, tyX7, rfl, by decide, rfl, by decide, inX7, gi (List.mem_of_getElem? (i := 304) (by decide +kernel)) rfl, tyX7_ok, nmX7, by decide, rfl, by decide +kernel⟩
theorem qf_X7_52 : gLf RX7 52 7 7 (.array .int) := ⟨TX7, 13, tyX7, rfl, by decide, rfl, by decide, inX7, gi (List.mem_of_getElem? (i := 305) (by decide +kernel)) rfl, tyX7_ok, nmX7, by decide, rfl, by decide +kernel⟩
theorem qf_X7_60 : gLf RX7 60 7 9 (.array .int) := ⟨TX7, 13, tyX7, rfl, by decide, rfl, by decide, inX7, gi (List.mem_of_getElem? (i := 307) (by decide +kernel)) rfl, tyX7_ok, nmX7, by decide, rfl, by decide +kernel⟩
theorem qi_X4_30 : okI RX4 30 yX2_init cX2_init 1 0 := ⟨gi (List.mem_of_getElem? (i := 170) (by decide +kernel)) rfl, gi (List.mem_of_getElem? (i := 87) (by decide +kernel)) rfl, gi (List.mem_of_getElem? (i := 57) (by decide +kernel)) rfl, gi (List.mem_of_getElem? (i := 88) (by decide +kernel)) rfl, rfl, by decide, by decide, by decide +kernel⟩
theorem qi_X5_33 : okI RX5 33 yX2_init cX2_init 1 0 := ⟨gi (List.mem_of_getElem? (i := 86) (by decide +kernel)) rfl, gi (List.mem_of_getElem? (i := 87) (by decide +kernel)) rfl, gi (List.mem_of_getElem? (i := 57) (by decide +kernel)) rfl, gi (List.mem_of_getElem? (i := 88) (by decide +kernel)) rfl, rfl, by decide, by decide, by decide +kernel⟩
theorem qi_X5_44 : okI RX5 44 yX1_init cX1_init 1 0 := ⟨gi (List.mem_of_getElem? (i := 104) (by decide +kernel)) rfl, gi (List.mem_of_getElem? (i := 105) (by decide +kernel)) rfl, gi (List.mem_of_getElem? (i := 59) (by decide +kernel)) rfl, gi (List.mem_of_getElem? (i := 106) (by decide +kernel)) rfl, rfl, by decide, by decide, by decide +kernel⟩
theorem qi_X6_34 : okI RX6 34 yX2_init cX2_init 1 0 := ⟨gi (List.mem_of_getElem? (i := 201) (by decide +kernel)) rfl, gi (List.mem_of_getElem? (i := 87) (by decide +kernel)) rfl, gi (List.mem_of_getElem? (i := 57) (by decide +kernel)) rfl, gi (List.mem_of_getElem? (i := 88) (by decide +kernel)) rfl, rfl, by decide, by decide, by decide +kernel⟩
theorem qi_X7_31 : okI RX7 31 yX4_init cX4_init 1 0 := ⟨gi (List.mem_of_getElem? (i := 165) (by decide +kernel)) rfl, gi (List.mem_of_getElem? (i := 166) (by decide +kernel)) rfl, gi (List.mem_of_getElem? (i := 60) (by decide +kernel)) rfl, gi (List.mem_of_getElem? (i := 167) (by decide +kernel)) rfl, rfl, by decide, by decide, by decide +kernel⟩
theorem qi_X7_38 : okI RX7 38 yX6_init cX6_init 1 0 := ⟨gi (List.mem_of_getElem? (i := 196) (by decide +kernel)) rfl, gi (List.mem_of_getElem? (i := 197) (by decide +kernel)) rfl, gi (List.mem_of_getElem? (i := 61) (by decide +kernel)) rfl, gi (List.mem_of_getElem? (i := 198) (by decide +kernel)) rfl, rfl, by decide, by decide, by decide +kernel⟩
theorem qi_X7_45 : okI RX7 45 yX0_init cX0_init 2 1 := ⟨gi (List.mem_of_getElem? (i := 232) (by decide +kernel)) rfl, gi (List.mem_of_getElem? (i := 233) (by decide +kernel)) rfl, gi (List.mem_of_getElem? (i := 62) (by decide +kernel)) rfl, gi (List.mem_of_getElem? (i := 234) (by decide +kernel)) rfl, rfl, by decide, by decide, by decide +kernel⟩
theorem qi_X7_73 : okI RX7 73 yX3_init cX3_init 1 0 := ⟨gi (List.mem_of_getElem? (i := 278) (by decide +kernel)) rfl, gi (List.mem_of_getElem? (i := 279) (by decide +kernel)) rfl, gi (List.mem_of_getElem? (i := 63) (by decide +kernel)) rfl, gi (List.mem_of_getElem? (i := 280) (by decide +kernel)) rfl, rfl, by decide, by decide, by decide +kernel⟩
theorem qi_X7_9 : okI RX7 9 yX5_init cX5_init 2 0 := ⟨gi (List.mem_of_getElem? (i := 78) (by decide +kernel)) rfl, gi (List.mem_of_getElem? (i := 79) (by decide +kernel)) rfl, gi (List.mem_of_getElem? (i := 56) (by decide +kernel)) rfl, gi (List.mem_of_getElem? (i := 80) (by decide +kernel)) rfl, rfl, by decide, by decide, by decide +kernel⟩
theorem qk_X5_25 : Cond.classLink RX5 25 RX1 ∈ gtb := gi (List.mem_of_getElem? (i := 82) (by decide +kernel)) rfl
theorem qk_X7_23 : Cond.classLink RX7 23 RX3 ∈ gtb := gi (List.mem_of_getElem? (i := 161) (by decide +kernel)) rfl
theorem qn_X4_28 : okN RX4 28 2 2 := ⟨RX2, TX2, tyX2, rfl, by decide, rfl, inX2, tyX2_ok, gi (List.mem_of_getElem? (i := 169) (by decide +kernel)) rfl, gi (List.mem_of_getElem? (i := 85) (by decide +kernel)) rfl, gi (List.mem_of_getElem? (i := 57) (by decide +kernel)) rfl, by intro k j ad hj; match j, hj with | 0, _ => rfl | 1, _ => rfl | j + 2, hj => omega⟩
theorem qn_X5_25 : okN RX5 25 1 5 := ⟨RX1, TX1, tyX1, rfl, by decide, rfl, inX1, tyX1_ok, gi (List.mem_of_getElem? (i := 82) (by decide +kernel)) rfl, gi (List.mem_of_getElem? (i := 103) (by decide +kernel)) rfl, gi (List.mem_of_getElem? (i := 59) (by decide +kernel)) rfl, by intro k j ad hj; match j, hj with | 0, _ => rfl | 1, _ => rfl | 2, _ => rfl | 3, _ => rfl | 4, _ => rfl | j + 5, hj => omega⟩
theorem qn_X5_31 : okN RX5 31 2 2 := ⟨RX2, TX2, tyX2, rfl, by decide, rfl, inX2, tyX2_ok, gi (List.mem_of_getElem? (i := 84) (by decide +kernel)) rfl, gi (List.mem_of_getElem? (i := 85) (by decide +kernel)) rfl, gi (List.mem_of_getElem? (i := 57) (by decide +kernel)) rfl, by intro k j ad hj; match j, hj with | 0, _ => rfl | 1, _ => rfl | j + 2, hj => omega⟩
theorem qn_X6_32 : okN RX6 32 2 2 := ⟨RX2, TX2, tyX2, rfl, by decide, rfl, inX2, tyX2_ok, gi (List.mem_of_getElem? (i := 200) (by decide +kernel)) rfl, gi (List.mem_of_getElem? (i := 85) (by decide +kernel)) rfl, gi (List.mem_of_getElem? (i := 57) (by decide +kernel)) rfl, by intro k j ad hj; match j, hj with | 0, _ => rfl | 1, _ => rfl | j + 2, hj => omega⟩
theorem qn_X7_23 : okN RX7 23 3 4 := ⟨RX3, TX3, tyX3, rfl, by decide, rfl, inX3, tyX3_ok, gi (List.mem_of_getElem? (i := 161) (by decide +kernel)) rfl, gi (List.mem_of_getElem? (i := 277) (by decide +kernel)) rfl, gi (List.mem_of_getElem? (i := 63) (by decide +kernel)) rfl, by intro k j ad hj; match j, hj with | 0, _ => rfl | 1, _ => rfl | 2, _ => rfl | 3, _ => rfl | j + 4, hj => omega⟩
theorem qn_X7_29 : okN RX7 29 4 6 := ⟨RX4, TX4, tyX4, rfl, by decide, rfl, inX4, tyX4_ok, gi (List.mem_of_getElem? (i := 163) (by decide +kernel)) rfl, gi (List.mem_of_getElem? (i := 164) (by decide +kernel)) rfl, gi (List.mem_of_getElem? (i := 60) (by decide +kernel)) rfl, by intro k j ad hj; match j, hj with | 0, _ => rfl | 1, _ => rfl | 2, _ => rfl | 3, _ => rfl | 4, _ => rfl | 5, _ => rfl | j + 6, hj => omega⟩
theorem qn_X7_36 : okN RX7 36 6 7 := ⟨RX6, TX6, tyX6, rfl, by decide, rfl, inX6, tyX6_ok, gi (List.mem_of_getElem? (i := 194) (by decide +kernel)) rfl, gi (List.mem_of_getElem? (i := 195) (by decide +kernel)) rfl, gi (List.mem_of_getElem? (i := 61) (by decide +kernel)) rfl, by intro k j ad hj; match j, hj with | 0, _ => rfl | 1, _ => rfl | 2, _ => rfl | 3, _ => rfl | 4, _ => rfl | 5, _ => rfl | 6, _ => rfl | j + 7, hj => omega⟩
theorem qn_X7_43 : okN RX7 43 0 13 := ⟨RX0, TX0, tyX0, rfl, by decide, rfl, inX0, tyX0_ok, gi (List.mem_of_getElem? (i := 230) (by decide +kernel)) rfl, gi (List.mem_of_getElem? (i := 231) (by decide +kernel)) rfl, gi (List.mem_of_getElem? (i := 62) (by decide +kernel)) rfl, by intro k j ad hj; match j, hj with | 0, _ => rfl | 1, _ => rfl | 2, _ => rfl | 3, _ => rfl | 4, _ => rfl | 5, _ => rfl | 6, _ => rfl | 7, _ => rfl | 8, _ => rfl | 9, _ => rfl | 10, _ => rfl | 11, _ => rfl | 12, _ => rfl | j + 13, hj => omega⟩
theorem qn_X7_7 : okN RX7 7 5 6 := ⟨RX5, TX5, tyX5, rfl, by decide, rfl, inX5, tyX5_ok, gi (List.mem_of_getElem? (i := 76) (by decide +kernel)) rfl, gi (List.mem_of_getElem? (i := 77) (by decide +kernel)) rfl, gi (List.mem_of_getElem? (i := 56) (by decide +kernel)) rfl, by intro k j ad hj; match j, hj with | 0, _ => rfl | 1, _ => rfl | 2, _ => rfl | 3, _ => rfl | 4, _ => rfl | 5, _ => rfl | j + 6, hj => omega⟩
theorem qo_X0_3 : okO RX0 3 := ⟨gi (List.mem_of_getElem? (i := 235) (by decide +kernel)) rfl, gi (List.mem_of_getElem? (i := 74) (by decide +kernel)) rfl, gi (List.mem_of_getElem? (i := 75) (by decide +kernel)) rfl⟩
theorem qo_X1_3 : okO RX1 3 := ⟨gi (List.mem_of_getElem? (i := 107) (by decide +kernel)) rfl, gi (List.mem_of_getElem? (i := 74) (by decide +kernel)) rfl, gi (List.mem_of_getElem? (i := 75) (by decide +kernel)) rfl⟩
theorem qo_X2_3 : okO RX2 3 := ⟨gi (List.mem_of_getElem? (i := 89) (by decide +kernel)) rfl, gi (List.mem_of_getElem? (i := 74) (by decide +kernel)) rfl, gi (List.mem_of_getElem? (i := 75) (by decide +kernel)) rfl⟩
theorem qo_X3_3 : okO RX3 3 := ⟨gi (List.mem_of_getElem? (i := 281) (by decide +kernel)) rfl, gi (List.mem_of_getElem? (i := 74) (by decide +kernel)) rfl, gi (List.mem_of_getElem? (i := 75) (by decide +kernel)) rfl⟩
theorem qo_X4_3 : okO RX4 3 := ⟨gi (List.mem_of_getElem? (i := 168) (by decide +kernel)) rfl, gi (List.mem_of_getElem? (i := 74) (by decide +kernel)) rfl, gi (List.mem_of_getElem? (i := 75) (by decide +kernel)) rfl⟩
theorem qo_X5_3 : okO RX5 3 := ⟨gi (List.mem_of_getElem? (i := 81) (by decide +kernel)) rfl, gi (List.mem_of_getElem? (i := 74) (by decide +kernel)) rfl, gi (List.mem_of_getElem? (i := 75) (by decide +kernel)) rfl⟩
theorem qo_X6_3 : okO RX6 3 := ⟨gi (List.mem_of_getElem? (i := 199) (by decide +kernel)) rfl, gi (List.mem_of_getElem? (i := 74) (by decide +kernel)) rfl, gi (List.mem_of_getElem? (i := 75) (by decide +kernel)) rfl⟩
theorem qo_X7_1 : okO RX7 1 := ⟨gi (List.mem_of_getElem? (i := 73) (by decide +kernel)) rfl, gi (List.mem_of_getElem? (i := 74) (by decide +kernel)) rfl, gi (List.mem_of_getElem? (i := 75) (by decide +kernel)) rfl⟩
theorem qw_byte : Cond.arrayClass .byte ∈ gtb := gi (List.mem_of_getElem? (i := 193) (by decide +kernel)) rfl
theorem qw_int : Cond.arrayClass .int ∈ gtb := gi (List.mem_of_getElem? (i := 99) (by decide +kernel)) rfl
theorem qw_long : Cond.arrayClass .long ∈ gtb := gi (List.mem_of_getElem? (i := 229) (by decide +kernel)) rfl
theorem qx_X5_38 : okX RX5 38 Lib.Math.max.name Lib.Math.max.code 2 := ⟨gi (List.mem_of_getElem? (i := 100) (by decide +kernel)) rfl, gi (List.mem_of_getElem? (i := 101) (by decide +kernel)) rfl, gi (List.mem_of_getElem? (i := 58) (by decide +kernel)) rfl, gi (List.mem_of_getElem? (i := 102) (by decide +kernel)) rfl⟩
def rm_X2_init : Room := { frames := 1, cells := 2, slots := 14, locals := 40 }
def rho_X2_init : St := (clr (clr zst 1) 2)
set_option maxRecDepth 100000 in
set_option maxHeartbeats 4000000 in
theorem m_X2_init {l : Launch} {D : va_G} {ca : Nat → ClassId} (hw : Nat) : gMi l D ca yX2_init cX2_init 1 rm_X2_init 2 [] hw [2, 11, 11] rho_X2_init 2 14 := by
  refine gMi_of (exa := []) (by decide) rfl (by decide) (Nat.le_of_ble_eq_true rfl) (fun _ _ => rfl) (fun h0 p e s m args below meth c ad C F hin => ?_)
  refine g_ent (ls' := [(0, .ref 0)]) rfl ?_
  refine g_nrm C F [102] 1 rfl rfl (fun C F => ?_)
  refine g_aload_n C 0 dX2_init_0 rfl ?_
  refine g_objI C qo_X2_3 (by decide) (Nat.le_of_ble_eq_true rfl) dX2_init_1 ?_
  refine g_aload_n C 0 dX2_init_4 rfl ?_
  refine g_bipush C (7 : Int32) dX2_init_5 rfl ?_
  refine g_newa C F 0 11 7 rfl .int rfl qw_int ho_11 (by decide) (fun _ => rfl) raI (fun _ _ _ => rfl) (by decide) (by decide) (by decide) (by decide +kernel) rfl rfl (Nat.le_of_ble_eq_true rfl) (Nat.le_of_ble_eq_true rfl) dX2_init_7 (fun ad C F => ?_)
  refine g_nrm C F [102, 11] 2 rfl rfl (fun C F => ?_)
  refine g_putPR C 0 118 hin rfl (by decide) (by decide) rfl rfl qf_X2_9 (fun _ => rfl) (fun _ => rfl) (by decide) rfl (by decide) dX2_init_9 (fun C => ?_)
  refine g_nrm C F [118, 11] 2 rfl rfl (fun C F => ?_)
  refine g_aload_n C 0 dX2_init_12 rfl ?_
  refine g_bipush C (7 : Int32) dX2_init_13 rfl ?_
  refine g_newa C F 0 11 7 rfl .int rfl qw_int ho_11 (by decide) (fun _ => rfl) raI (fun _ _ _ => rfl) (by decide) (by decide) (by decide) (by decide +kernel) rfl rfl (Nat.le_of_ble_eq_true rfl) (Nat.le_of_ble_eq_true rfl) dX2_init_15 (fun ad C F => ?_)
  refine g_nrm C F [118, 11, 11] 3 rfl rfl (fun C F => ?_)
  refine g_putPR C 1 150 hin rfl (by decide) (by decide) rfl rfl qf_X2_15 (fun _ => rfl) (fun _ => rfl) (by decide) rfl (by decide) dX2_init_17 (fun C => ?_)
  refine g_nrm C F [150, 11, 11] 3 rfl rfl (fun C F => ?_)
  refine g_recode C 0 2 (by decide) (g_full (c0 := 2) (ms := 3) (by decide) (by decide)) (fun C => ?_)
  refine g_nrm C F [2, 11, 11] 3 rfl rfl (fun C F => ?_)
  exact g_done C F rfl dX2_init_20
def rm_X1_init : Room := { frames := 1, cells := 2, slots := 10, locals := 40 }
def rho_X1_init : St := (clr (clr (up1 (up1 (up1 zst 0 0 (0 : Int32)) 0 1 (0 : Int32)) 0 2 (0 : Int32)) 1) 2)
set_option maxRecDepth 100000 in
set_option maxHeartbeats 4000000 in
theorem m_X1_init {l : Launch} {D : va_G} {ca : Nat → ClassId} (hw : Nat) : gMi l D ca yX1_init cX1_init 1 rm_X1_init 1 [] hw [1, 10, 10] rho_X1_init 2 10 := by
  refine gMi_of (exa := []) (by decide) rfl (by decide) (Nat.le_of_ble_eq_true rfl) (fun _ _ => rfl) (fun h0 p e s m args below meth c ad C F hin => ?_)
  refine g_ent (ls' := [(0, .ref 0)]) rfl ?_
  refine g_nrm C F [101] 1 rfl rfl (fun C F => ?_)
  refine g_aload_n C 0 dX1_init_0 rfl ?_
  refine g_objI C qo_X1_3 (by decide) (Nat.le_of_ble_eq_true rfl) dX1_init_1 ?_
  refine g_aload_n C 0 dX1_init_4 rfl ?_
  refine g_iconst C (0 : Int32) dX1_init_5 rfl ?_
  refine g_putPI C 0 rfl (by decide) rfl qp_X1_9 rfl dX1_init_6 ?_
  refine g_aload_n C 0 dX1_init_9 rfl ?_
  refine g_iconst C (0 : Int32) dX1_init_10 rfl ?_
  refine g_putPI C 1 rfl (by decide) rfl qp_X1_15 rfl dX1_init_11 ?_
  refine g_aload_n C 0 dX1_init_14 rfl ?_
  refine g_iconst C (0 : Int32) dX1_init_15 rfl ?_
  refine g_putPI C 2 rfl (by decide) rfl qp_X1_18 rfl dX1_init_16 ?_
  refine g_aload_n C 0 dX1_init_19 rfl ?_
  refine g_iconst C (5 : Int32) dX1_init_20 rfl ?_
  refine g_newa C F 0 10 5 rfl .int rfl qw_int ho_10 (by decide) (fun _ => rfl) raI (fun _ _ _ => rfl) (by decide) (by decide) (by decide) (by decide +kernel) rfl rfl (Nat.le_of_ble_eq_true rfl) (Nat.le_of_ble_eq_true rfl) dX1_init_21 (fun ad C F => ?_)
  refine g_nrm C F [101, 10] 2 rfl rfl (fun C F => ?_)
  refine g_putPR C 3 229 hin rfl (by decide) (by decide) rfl rfl qf_X1_21 (fun _ => rfl) (fun _ => rfl) (by decide) rfl (by decide) dX1_init_23 (fun C => ?_)
  refine g_nrm C F [229, 10] 2 rfl rfl (fun C F => ?_)
  refine g_aload_n C 0 dX1_init_26 rfl ?_
  refine g_iconst C (5 : Int32) dX1_init_27 rfl ?_
  refine g_newa C F 0 10 5 rfl .int rfl qw_int ho_10 (by decide) (fun _ => rfl) raI (fun _ _ _ => rfl) (by decide) (by decide) (by decide) (by decide +kernel) rfl rfl (Nat.le_of_ble_eq_true rfl) (Nat.le_of_ble_eq_true rfl) dX1_init_28 (fun ad C F => ?_)
  refine g_nrm C F [229, 10, 10] 3 rfl rfl (fun C F => ?_)
  refine g_putPR C 4 485 hin rfl (by decide) (by decide) rfl rfl qf_X1_25 (fun _ => rfl) (fun _ => rfl) (by decide) rfl (by decide) dX1_init_30 (fun C => ?_)
  refine g_nrm C F [485, 10, 10] 3 rfl rfl (fun C F => ?_)
  refine g_recode C 0 1 (by decide) (g_full (c0 := 1) (ms := 24) (by decide) (by decide)) (fun C => ?_)
  refine g_nrm C F [1, 10, 10] 3 rfl rfl (fun C F => ?_)
  exact g_done C F rfl dX1_init_33
def rm_X3_init : Room := { frames := 1, cells := 1, slots := 60, locals := 40 }
def rho_X3_init : St := (clr (up1 (up1 (up1 zst 0 0 (0 : Int32)) 0 1 (0 : Int32)) 0 2 (0 : Int32)) 1)
set_option maxRecDepth 100000 in
set_option maxHeartbeats 4000000 in
theorem m_X3_init {l : Launch} {D : va_G} {ca : Nat → ClassId} (hw : Nat) : gMi l D ca yX3_init cX3_init 1 rm_X3_init 3 [] hw [3, 15] rho_X3_init 1 60 := by
  refine gMi_of (exa := []) (by decide) rfl (by decide) (Nat.le_of_ble_eq_true rfl) (fun _ _ => rfl) (fun h0 p e s m args below meth c ad C F hin => ?_)
  refine g_ent (ls' := [(0, .ref 0)]) rfl ?_
  refine g_nrm C F [103] 1 rfl rfl (fun C F => ?_)
  refine g_aload_n C 0 dX3_init_0 rfl ?_
  refine g_objI C qo_X3_3 (by decide) (Nat.le_of_ble_eq_true rfl) dX3_init_1 ?_
  refine g_aload_n C 0 dX3_init_4 rfl ?_
  refine g_iconst C (0 : Int32) dX3_init_5 rfl ?_
  refine g_putPZ C 0 rfl (by decide) rfl qp_X3_9 rfl nz0 rfl dX3_init_6 ?_
  refine g_aload_n C 0 dX3_init_9 rfl ?_
  refine g_iconst C (0 : Int32) dX3_init_10 rfl ?_
  refine g_putPI C 1 rfl (by decide) rfl qp_X3_15 rfl dX3_init_11 ?_
  refine g_aload_n C 0 dX3_init_14 rfl ?_
  refine g_iconst C (0 : Int32) dX3_init_15 rfl ?_
  refine g_putPI C 2 rfl (by decide) rfl qp_X3_19 rfl dX3_init_16 ?_
  refine g_aload_n C 0 dX3_init_19 rfl ?_
  refine g_bipush C (60 : Int32) dX3_init_20 rfl ?_
  refine g_newa C F 0 15 60 rfl .int rfl qw_int ho_15 (by decide) (fun _ => rfl) raI (fun _ _ _ => rfl) (by decide) (by decide) (by decide) (by decide +kernel) rfl rfl (Nat.le_of_ble_eq_true rfl) (Nat.le_of_ble_eq_true rfl) dX3_init_22 (fun ad C F => ?_)
  refine g_nrm C F [103, 15] 2 rfl rfl (fun C F => ?_)
  refine g_putPR C 3 231 hin rfl (by decide) (by decide) rfl rfl qf_X3_22 (fun _ => rfl) (fun _ => rfl) (by decide) rfl (by decide) dX3_init_24 (fun C => ?_)
  refine g_nrm C F [231, 15] 2 rfl rfl (fun C F => ?_)
  refine g_recode C 0 3 (by decide) (g_full (c0 := 3) (ms := 8) (by decide) (by decide)) (fun C => ?_)
  refine g_nrm C F [3, 15] 2 rfl rfl (fun C F => ?_)
  exact g_done C F rfl dX3_init_27
def rm_X4_init : Room := { frames := 2, cells := 4, slots := 216, locals := 60 }
def rho_X4_init : St := (jn (clr (up1 (up1 (up1 (up1 (clr zst 1) 0 1 (0 : Int32)) 0 2 (0 : Int32)) 0 3 (0 : Int32)) 0 4 (0 : Int32)) 2) 2 rho_X2_init)
set_option maxRecDepth 100000 in
set_option maxHeartbeats 4000000 in
theorem m_X4_init {l : Launch} {D : va_G} {ca : Nat → ClassId} (hw : Nat) : gMi l D ca yX4_init cX4_init 1 rm_X4_init 4 [] hw [4, 21, 2, 11, 11] rho_X4_init 4 216 := by
  refine gMi_of (exa := []) (by decide) rfl (by decide) (Nat.le_of_ble_eq_true rfl) (fun _ _ => rfl) (fun h0 p e s m args below meth c ad C F hin => ?_)
  refine g_ent (ls' := [(0, .ref 0)]) rfl ?_
  refine g_nrm C F [104] 1 rfl rfl (fun C F => ?_)
  refine g_aload_n C 0 dX4_init_0 rfl ?_
  refine g_objI C qo_X4_3 (by decide) (Nat.le_of_ble_eq_true rfl) dX4_init_1 ?_
  refine g_aload_n C 0 dX4_init_4 rfl ?_
  refine g_sipush C (200 : Int32) dX4_init_5 rfl ?_
  refine g_newa C F 2 21 200 rfl .byte rfl qw_byte ho_21 (by decide) (fun _ => rfl) raB (fun _ _ _ => rfl) (by decide) (by decide) (by decide) (by decide +kernel) rfl rfl (Nat.le_of_ble_eq_true rfl) (Nat.le_of_ble_eq_true rfl) dX4_init_8 (fun ad C F => ?_)
  refine g_nrm C F [104, 21] 2 rfl rfl (fun C F => ?_)
  refine g_putPR C 0 120 hin rfl (by decide) (by decide) rfl rfl qf_X4_9 (fun _ => rfl) (fun _ => rfl) (by decide) rfl (by decide) dX4_init_10 (fun C => ?_)
  refine g_nrm C F [120, 21] 2 rfl rfl (fun C F => ?_)
  refine g_aload_n C 0 dX4_init_13 rfl ?_
  refine g_iconst C (0 : Int32) dX4_init_14 rfl ?_
  refine g_putPI C 1 rfl (by decide) rfl qp_X4_15 rfl dX4_init_15 ?_
  refine g_aload_n C 0 dX4_init_18 rfl ?_
  refine g_iconst C (0 : Int32) dX4_init_19 rfl ?_
  refine g_putPI C 2 rfl (by decide) rfl qp_X4_19 rfl dX4_init_20 ?_
  refine g_aload_n C 0 dX4_init_23 rfl ?_
  refine g_iconst C (0 : Int32) dX4_init_24 rfl ?_
  refine g_putPI C 3 rfl (by decide) rfl qp_X4_22 rfl dX4_init_25 ?_
  refine g_aload_n C 0 dX4_init_28 rfl ?_
  refine g_iconst C (0 : Int32) dX4_init_29 rfl ?_
  refine g_putPI C 4 rfl (by decide) rfl qp_X4_25 rfl dX4_init_30 ?_
  refine g_aload_n C 0 dX4_init_33 rfl ?_
  refine g_new C F 2 2 rfl qn_X4_28 (by decide +kernel) rfl rfl (Nat.le_of_ble_eq_true rfl) (Nat.le_of_ble_eq_true rfl) dX4_init_34 (fun ad C F => ?_)
  refine g_nrm C F [120, 21, 102] 3 rfl rfl (fun C F => ?_)
  refine g_dup C rfl dX4_init_37 ?_
  refine g_lp C F (lp := [120, 21]) (cd := 102) (M := 2) rfl rfl (fun C F => ?_)
  refine g_init C F [] [2, 11, 11] rho_X2_init 2 14 0 rfl (by decide) qi_X4_30 (m_X2_init 0) (by decide) (by funext b; rfl) (by funext b; rfl) rfl rfl ⟨rfl, rfl⟩ ⟨by decide, by decide⟩ (Nat.le_of_ble_eq_true rfl) (by decide) (by decide +kernel) (by decide +kernel) (Or.inl (by decide)) rfl rfl (Nat.le_of_ble_eq_true rfl) (Nat.le_of_ble_eq_true rfl) dX4_init_38 (fun ad C F => ?_)
  refine g_nrm C F [120, 21, 2, 11, 11] 5 rfl rfl (fun C F => ?_)
  refine g_putPR C 5 632 hin rfl (by decide) (by decide) rfl rfl qf_X4_31 (fun _ => rfl) (fun _ => rfl) (by decide) rfl (by decide) dX4_init_41 (fun C => ?_)
  refine g_nrm C F [632, 21, 2, 11, 11] 5 rfl rfl (fun C F => ?_)
  refine g_recode C 0 4 (by decide) (g_full (c0 := 4) (ms := 33) (by decide) (by decide)) (fun C => ?_)
  refine g_nrm C F [4, 21, 2, 11, 11] 5 rfl rfl (fun C F => ?_)
  exact g_done C F rfl dX4_init_44
def rm_X6_init : Room := { frames := 2, cells := 6, slots := 310, locals := 60 }
def rho_X6_init : St := (jn (clr (clr (clr (clr (up1 (up1 (up1 zst 0 0 (0 : Int32)) 0 1 (0 : Int32)) 0 2 (0 : Int32)) 1) 2) 3) 4) 4 rho_X2_init)
set_option maxRecDepth 100000 in
set_option maxHeartbeats 4000000 in
theorem m_X6_init {l : Launch} {D : va_G} {ca : Nat → ClassId} (hw : Nat) : gMi l D ca yX6_init cX6_init 1 rm_X6_init 6 [] hw [6, 19, 11, 11, 2, 11, 11] rho_X6_init 6 310 := by
  refine gMi_of (exa := []) (by decide) rfl (by decide) (Nat.le_of_ble_eq_true rfl) (fun _ _ => rfl) (fun h0 p e s m args below meth c ad C F hin => ?_)
  refine g_ent (ls' := [(0, .ref 0)]) rfl ?_
  refine g_nrm C F [106] 1 rfl rfl (fun C F => ?_)
  refine g_aload_n C 0 dX6_init_0 rfl ?_
  refine g_objI C qo_X6_3 (by decide) (Nat.le_of_ble_eq_true rfl) dX6_init_1 ?_
  refine g_aload_n C 0 dX6_init_4 rfl ?_
  refine g_iconst C (0 : Int32) dX6_init_5 rfl ?_
  refine g_putPI C 0 rfl (by decide) rfl qp_X6_9 rfl dX6_init_6 ?_
  refine g_aload_n C 0 dX6_init_9 rfl ?_
  refine g_iconst C (0 : Int32) dX6_init_10 rfl ?_
  refine g_putPI C 1 rfl (by decide) rfl qp_X6_15 rfl dX6_init_11 ?_
  refine g_aload_n C 0 dX6_init_14 rfl ?_
  refine g_iconst C (0 : Int32) dX6_init_15 rfl ?_
  refine g_putPI C 2 rfl (by decide) rfl qp_X6_18 rfl dX6_init_16 ?_
  refine g_aload_n C 0 dX6_init_19 rfl ?_
  refine g_sipush C (280 : Int32) dX6_init_20 rfl ?_
  refine g_newa C F 1 19 280 rfl .long rfl qw_long ho_19 (by decide) (fun _ => rfl) raJ (fun _ _ _ => rfl) (by decide) (by decide) (by decide) (by decide +kernel) rfl rfl (Nat.le_of_ble_eq_true rfl) (Nat.le_of_ble_eq_true rfl) dX6_init_23 (fun ad C F => ?_)
  refine g_nrm C F [106, 19] 2 rfl rfl (fun C F => ?_)
  refine g_putPR C 3 234 hin rfl (by decide) (by decide) rfl rfl qf_X6_21 (fun _ => rfl) (fun _ => rfl) (by decide) rfl (by decide) dX6_init_25 (fun C => ?_)
  refine g_nrm C F [234, 19] 2 rfl rfl (fun C F => ?_)
  refine g_aload_n C 0 dX6_init_28 rfl ?_
  refine g_bipush C (7 : Int32) dX6_init_29 rfl ?_
  refine g_newa C F 0 11 7 rfl .int rfl qw_int ho_11 (by decide) (fun _ => rfl) raI (fun _ _ _ => rfl) (by decide) (by decide) (by decide) (by decide +kernel) rfl rfl (Nat.le_of_ble_eq_true rfl) (Nat.le_of_ble_eq_true rfl) dX6_init_31 (fun ad C F => ?_)
  refine g_nrm C F [234, 19, 11] 3 rfl rfl (fun C F => ?_)
  refine g_putPR C 4 490 hin rfl (by decide) (by decide) rfl rfl qf_X6_25 (fun _ => rfl) (fun _ => rfl) (by decide) rfl (by decide) dX6_init_33 (fun C => ?_)
  refine g_nrm C F [490, 19, 11] 3 rfl rfl (fun C F => ?_)
  refine g_aload_n C 0 dX6_init_36 rfl ?_
  refine g_bipush C (7 : Int32) dX6_init_37 rfl ?_
  refine g_newa C F 0 11 7 rfl .int rfl qw_int ho_11 (by decide) (fun _ => rfl) raI (fun _ _ _ => rfl) (by decide) (by decide) (by decide) (by decide +kernel) rfl rfl (Nat.le_of_ble_eq_true rfl) (Nat.le_of_ble_eq_true rfl) dX6_init_39 (fun ad C F => ?_)
  refine g_nrm C F [490, 19, 11, 11] 4 rfl rfl (fun C F => ?_)
  refine g_putPR C 5 1002 hin rfl (by decide) (by decide) rfl rfl qf_X6_29 (fun _ => rfl) (fun _ => rfl) (by decide) rfl (by decide) dX6_init_41 (fun C => ?_)
  refine g_nrm C F [1002, 19, 11, 11] 4 rfl rfl (fun C F => ?_)
  refine g_aload_n C 0 dX6_init_44 rfl ?_
  refine g_new C F 2 2 rfl qn_X6_32 (by decide +kernel) rfl rfl (Nat.le_of_ble_eq_true rfl) (Nat.le_of_ble_eq_true rfl) dX6_init_45 (fun ad C F => ?_)
  refine g_nrm C F [1002, 19, 11, 11, 102] 5 rfl rfl (fun C F => ?_)
  refine g_dup C rfl dX6_init_48 ?_
  refine g_lp C F (lp := [1002, 19, 11, 11]) (cd := 102) (M := 4) rfl rfl (fun C F => ?_)
  refine g_init C F [] [2, 11, 11] rho_X2_init 2 14 0 rfl (by decide) qi_X6_34 (m_X2_init 0) (by decide) (by funext b; rfl) (by funext b; rfl) rfl rfl ⟨rfl, rfl⟩ ⟨by decide, by decide⟩ (Nat.le_of_ble_eq_true rfl) (by decide) (by decide +kernel) (by decide +kernel) (Or.inl (by decide)) rfl rfl (Nat.le_of_ble_eq_true rfl) (Nat.le_of_ble_eq_true rfl) dX6_init_49 (fun ad C F => ?_)
  refine g_nrm C F [1002, 19, 11, 11, 2, 11, 11] 7 rfl rfl (fun C F => ?_)
  refine g_putPR C 6 2026 hin rfl (by decide) (by decide) rfl rfl qf_X6_35 (fun _ => rfl) (fun _ => rfl) (by decide) rfl (by decide) dX6_init_52 (fun C => ?_)
  refine g_nrm C F [2026, 19, 11, 11, 2, 11, 11] 7 rfl rfl (fun C F => ?_)
  refine g_recode C 0 6 (by decide) (g_full (c0 := 6) (ms := 120) (by decide) (by decide)) (fun C => ?_)
  refine g_nrm C F [6, 19, 11, 11, 2, 11, 11] 7 rfl rfl (fun C F => ?_)
  exact g_done C F rfl dX6_init_55
def rm_X0_init : Room := { frames := 1, cells := 10, slots := 5645, locals := 40 }
def rho_X0_init : St := (clr (clr (clr (clr (up1 (clr (clr (clr (clr (clr (up1 (clr zst 1) 0 2 (0 : Int32)) 2) 3) 4) 5) 6) 0 8 (0 : Int32)) 7) 8) 9) 10)
set_option maxRecDepth 100000 in
set_option maxHeartbeats 4000000 in
theorem m_X0_init {l : Launch} {D : va_G} {ca : Nat → ClassId} (hw : Nat) : gMi l D ca yX0_init cX0_init 2 rm_X0_init 0 [.ref hw] hw [0, 11, 11, 11, 14, 14, 16, 18, 18, 20, 17] rho_X0_init 10 5645 := by
  refine gMi_of (exa := [.ref 63]) (by decide) rfl (by decide) (Nat.le_of_ble_eq_true rfl) (fun ad h => by simp [tv, h]) (fun h0 p e s m args below meth c ad C F hin => ?_)
  refine g_ent (ls' := [(0, .ref 0), (1, .ref 63)]) rfl ?_
  refine g_nrm C F [100] 1 rfl rfl (fun C F => ?_)
  refine g_aload_n C 0 dX0_init_0 rfl ?_
  refine g_objI C qo_X0_3 (by decide) (Nat.le_of_ble_eq_true rfl) dX0_init_1 ?_
  refine g_aload_n C 0 dX0_init_4 rfl ?_
  refine g_bipush C (7 : Int32) dX0_init_5 rfl ?_
  refine g_newa C F 0 11 7 rfl .int rfl qw_int ho_11 (by decide) (fun _ => rfl) raI (fun _ _ _ => rfl) (by decide) (by decide) (by decide) (by decide +kernel) rfl rfl (Nat.le_of_ble_eq_true rfl) (Nat.le_of_ble_eq_true rfl) dX0_init_7 (fun ad C F => ?_)
  refine g_nrm C F [100, 11] 2 rfl rfl (fun C F => ?_)
  refine g_putPR C 1 132 hin rfl (by decide) (by decide) rfl rfl qf_X0_9 (fun _ => rfl) (fun _ => rfl) (by decide) rfl (by decide) dX0_init_9 (fun C => ?_)
  refine g_nrm C F [132, 11] 2 rfl rfl (fun C F => ?_)
  refine g_aload_n C 0 dX0_init_12 rfl ?_
  refine g_iconst C (0 : Int32) dX0_init_13 rfl ?_
  refine g_putPI C 2 rfl (by decide) rfl qp_X0_15 rfl dX0_init_14 ?_
  refine g_aload_n C 0 dX0_init_17 rfl ?_
  refine g_bipush C (7 : Int32) dX0_init_18 rfl ?_
  refine g_newa C F 0 11 7 rfl .int rfl qw_int ho_11 (by decide) (fun _ => rfl) raI (fun _ _ _ => rfl) (by decide) (by decide) (by decide) (by decide +kernel) rfl rfl (Nat.le_of_ble_eq_true rfl) (Nat.le_of_ble_eq_true rfl) dX0_init_20 (fun ad C F => ?_)
  refine g_nrm C F [132, 11, 11] 3 rfl rfl (fun C F => ?_)
  refine g_putPR C 3 260 hin rfl (by decide) (by decide) rfl rfl qf_X0_19 (fun _ => rfl) (fun _ => rfl) (by decide) rfl (by decide) dX0_init_22 (fun C => ?_)
  refine g_nrm C F [260, 11, 11] 3 rfl rfl (fun C F => ?_)
  refine g_aload_n C 0 dX0_init_25 rfl ?_
  refine g_bipush C (7 : Int32) dX0_init_26 rfl ?_
  refine g_newa C F 0 11 7 rfl .int rfl qw_int ho_11 (by decide) (fun _ => rfl) raI (fun _ _ _ => rfl) (by decide) (by decide) (by decide) (by decide +kernel) rfl rfl (Nat.le_of_ble_eq_true rfl) (Nat.le_of_ble_eq_true rfl) dX0_init_28 (fun ad C F => ?_)
  refine g_nrm C F [260, 11, 11, 11] 4 rfl rfl (fun C F => ?_)
  refine g_putPR C 4 516 hin rfl (by decide) (by decide) rfl rfl qf_X0_22 (fun _ => rfl) (fun _ => rfl) (by decide) rfl (by decide) dX0_init_30 (fun C => ?_)
  refine g_nrm C F [516, 11, 11, 11] 4 rfl rfl (fun C F => ?_)
  refine g_aload_n C 0 dX0_init_33 rfl ?_
  refine g_bipush C (40 : Int32) dX0_init_34 rfl ?_
  refine g_newa C F 0 14 40 rfl .int rfl qw_int ho_14 (by decide) (fun _ => rfl) raI (fun _ _ _ => rfl) (by decide) (by decide) (by decide) (by decide +kernel) rfl rfl (Nat.le_of_ble_eq_true rfl) (Nat.le_of_ble_eq_true rfl) dX0_init_36 (fun ad C F => ?_)
  refine g_nrm C F [516, 11, 11, 11, 14] 5 rfl rfl (fun C F => ?_)
  refine g_putPR C 5 1028 hin rfl (by decide) (by decide) rfl rfl qf_X0_25 (fun _ => rfl) (fun _ => rfl) (by decide) rfl (by decide) dX0_init_38 (fun C => ?_)
  refine g_nrm C F [1028, 11, 11, 11, 14] 5 rfl rfl (fun C F => ?_)
  refine g_aload_n C 0 dX0_init_41 rfl ?_
  refine g_bipush C (40 : Int32) dX0_init_42 rfl ?_
  refine g_newa C F 0 14 40 rfl .int rfl qw_int ho_14 (by decide) (fun _ => rfl) raI (fun _ _ _ => rfl) (by decide) (by decide) (by decide) (by decide +kernel) rfl rfl (Nat.le_of_ble_eq_true rfl) (Nat.le_of_ble_eq_true rfl) dX0_init_44 (fun ad C F => ?_)
  refine g_nrm C F [1028, 11, 11, 11, 14, 14] 6 rfl rfl (fun C F => ?_)
  refine g_putPR C 6 2052 hin rfl (by decide) (by decide) rfl rfl qf_X0_28 (fun _ => rfl) (fun _ => rfl) (by decide) rfl (by decide) dX0_init_46 (fun C => ?_)
  refine g_nrm C F [2052, 11, 11, 11, 14, 14] 6 rfl rfl (fun C F => ?_)
  refine g_aload_n C 0 dX0_init_49 rfl ?_
  refine g_sipush C (128 : Int32) dX0_init_50 rfl ?_
  refine g_newa C F 0 16 128 rfl .int rfl qw_int ho_16 (by decide) (fun _ => rfl) raI (fun _ _ _ => rfl) (by decide) (by decide) (by decide) (by decide +kernel) rfl rfl (Nat.le_of_ble_eq_true rfl) (Nat.le_of_ble_eq_true rfl) dX0_init_53 (fun ad C F => ?_)
  refine g_nrm C F [2052, 11, 11, 11, 14, 14, 16] 7 rfl rfl (fun C F => ?_)
  refine g_putPR C 7 4100 hin rfl (by decide) (by decide) rfl rfl qf_X0_31 (fun _ => rfl) (fun _ => rfl) (by decide) rfl (by decide) dX0_init_55 (fun C => ?_)
  refine g_nrm C F [4100, 11, 11, 11, 14, 14, 16] 7 rfl rfl (fun C F => ?_)
  refine g_aload_n C 0 dX0_init_58 rfl ?_
  refine g_iconst C (0 : Int32) dX0_init_59 rfl ?_
  refine g_putPI C 8 rfl (by decide) rfl qp_X0_34 rfl dX0_init_60 ?_
  refine g_aload_n C 0 dX0_init_63 rfl ?_
  refine g_sipush C (128 : Int32) dX0_init_64 rfl ?_
  refine g_newa C F 1 18 128 rfl .long rfl qw_long ho_18 (by decide) (fun _ => rfl) raJ (fun _ _ _ => rfl) (by decide) (by decide) (by decide) (by decide +kernel) rfl rfl (Nat.le_of_ble_eq_true rfl) (Nat.le_of_ble_eq_true rfl) dX0_init_67 (fun ad C F => ?_)
  refine g_nrm C F [4100, 11, 11, 11, 14, 14, 16, 18] 8 rfl rfl (fun C F => ?_)
  refine g_putPR C 9 12292 hin rfl (by decide) (by decide) rfl rfl qf_X0_37 (fun _ => rfl) (fun _ => rfl) (by decide) rfl (by decide) dX0_init_69 (fun C => ?_)
  refine g_nrm C F [12292, 11, 11, 11, 14, 14, 16, 18] 8 rfl rfl (fun C F => ?_)
  refine g_aload_n C 0 dX0_init_72 rfl ?_
  refine g_sipush C (128 : Int32) dX0_init_73 rfl ?_
  refine g_newa C F 1 18 128 rfl .long rfl qw_long ho_18 (by decide) (fun _ => rfl) raJ (fun _ _ _ => rfl) (by decide) (by decide) (by decide) (by decide +kernel) rfl rfl (Nat.le_of_ble_eq_true rfl) (Nat.le_of_ble_eq_true rfl) dX0_init_76 (fun ad C F => ?_)
  refine g_nrm C F [12292, 11, 11, 11, 14, 14, 16, 18, 18] 9 rfl rfl (fun C F => ?_)
  refine g_putPR C 10 28676 hin rfl (by decide) (by decide) rfl rfl qf_X0_41 (fun _ => rfl) (fun _ => rfl) (by decide) rfl (by decide) dX0_init_78 (fun C => ?_)
  refine g_nrm C F [28676, 11, 11, 11, 14, 14, 16, 18, 18] 9 rfl rfl (fun C F => ?_)
  refine g_aload_n C 0 dX0_init_81 rfl ?_
  refine g_sipush C (5120 : Int32) dX0_init_82 rfl ?_
  refine g_newa C F 1 20 5120 rfl .long rfl qw_long ho_20 (by decide) (fun _ => rfl) raJ (fun _ _ _ => rfl) (by decide) (by decide) (by decide) (by decide +kernel) rfl rfl (Nat.le_of_ble_eq_true rfl) (Nat.le_of_ble_eq_true rfl) dX0_init_85 (fun ad C F => ?_)
  refine g_nrm C F [28676, 11, 11, 11, 14, 14, 16, 18, 18, 20] 10 rfl rfl (fun C F => ?_)
  refine g_putPR C 11 61444 hin rfl (by decide) (by decide) rfl rfl qf_X0_44 (fun _ => rfl) (fun _ => rfl) (by decide) rfl (by decide) dX0_init_87 (fun C => ?_)
  refine g_nrm C F [61444, 11, 11, 11, 14, 14, 16, 18, 18, 20] 10 rfl rfl (fun C F => ?_)
  refine g_aload_n C 0 dX0_init_90 rfl ?_
  refine g_bipush C (40 : Int32) dX0_init_91 rfl ?_
  refine g_newa C F 1 17 40 rfl .long rfl qw_long ho_17 (by decide) (fun _ => rfl) raJ (fun _ _ _ => rfl) (by decide) (by decide) (by decide) (by decide +kernel) rfl rfl (Nat.le_of_ble_eq_true rfl) (Nat.le_of_ble_eq_true rfl) dX0_init_93 (fun ad C F => ?_)
  refine g_nrm C F [61444, 11, 11, 11, 14, 14, 16, 18, 18, 20, 17] 11 rfl rfl (fun C F => ?_)
  refine g_putPR C 12 126980 hin rfl (by decide) (by decide) rfl rfl qf_X0_47 (fun _ => rfl) (fun _ => rfl) (by decide) rfl (by decide) dX0_init_95 (fun C => ?_)
  refine g_nrm C F [126980, 11, 11, 11, 14, 14, 16, 18, 18, 20, 17] 11 rfl rfl (fun C F => ?_)
  refine g_aload_n C 0 dX0_init_98 rfl ?_
  refine g_aload_n C 1 dX0_init_99 rfl ?_
  refine g_putPR C 0 126996 hin rfl (by decide) (by decide) rfl rfl qf_X0_50 (fun _ => rfl) (fun _ => rfl) (by decide) rfl (by decide) dX0_init_100 (fun C => ?_)
  refine g_nrm C F [126996, 11, 11, 11, 14, 14, 16, 18, 18, 20, 17] 11 rfl rfl (fun C F => ?_)
  refine g_recode C 0 0 (by decide) (g_full (c0 := 0) (ms := 7931) (by decide) (by decide)) (fun C => ?_)
  refine g_nrm C F [0, 11, 11, 11, 14, 14, 16, 18, 18, 20, 17] 11 rfl rfl (fun C F => ?_)
  exact g_done C F rfl dX0_init_103
def rm_X5_init : Room := { frames := 2, cells := 27, slots := 189, locals := 60 }
def rho_X5_init : St := (jn (clr (jn (clr (jn (clr (jn (clr (jn (clr (jn (clr (jn (clr (up1 (up1 (up1 (up1 (up1 (up1 (up1 (up1 (up1 (up1 (up1 (up1 (up1 (up1 (up1 (up1 (up1 (up1 (up1 (up1 (up1 (up1 (up1 (up1 (up1 (up1 (up1 (up1 (up1 (up1 (up1 (up1 (up1 (up1 (up1 (up1 (up1 (up1 (up1 (up1 (up1 (up1 (up1 (up1 (up1 (up1 (up1 (up1 (up1 (up1 (up1 (up1 (up1 (up1 (up1 (up1 (up1 (up1 (up1 (up1 (up1 (jn (clr (clr (up1 (clr (clr (up1 zst 0 0 (30 : Int32)) 1) 2) 0 3 (0 : Int32)) 3) 4) 4 rho_X2_init) 1 ((0 : Int32)).toNatClampNeg ((500 : Int32) - ((5 : Int32) * (0 : Int32)))) 1 ((1 : Int32)).toNatClampNeg ((500 : Int32) - ((5 : Int32) * (1 : Int32)))) 1 ((2 : Int32)).toNatClampNeg ((500 : Int32) - ((5 : Int32) * (2 : Int32)))) 1 ((3 : Int32)).toNatClampNeg ((500 : Int32) - ((5 : Int32) * (3 : Int32)))) 1 ((4 : Int32)).toNatClampNeg ((500 : Int32) - ((5 : Int32) * (4 : Int32)))) 1 ((5 : Int32)).toNatClampNeg ((500 : Int32) - ((5 : Int32) * (5 : Int32)))) 1 ((6 : Int32)).toNatClampNeg ((500 : Int32) - ((5 : Int32) * (6 : Int32)))) 1 ((7 : Int32)).toNatClampNeg ((500 : Int32) - ((5 : Int32) * (7 : Int32)))) 1 ((8 : Int32)).toNatClampNeg ((500 : Int32) - ((5 : Int32) * (8 : Int32)))) 1 ((9 : Int32)).toNatClampNeg ((500 : Int32) - ((5 : Int32) * (9 : Int32)))) 1 ((10 : Int32)).toNatClampNeg ((500 : Int32) - ((5 : Int32) * (10 : Int32)))) 1 ((11 : Int32)).toNatClampNeg ((500 : Int32) - ((5 : Int32) * (11 : Int32)))) 1 ((12 : Int32)).toNatClampNeg ((500 : Int32) - ((5 : Int32) * (12 : Int32)))) 1 ((13 : Int32)).toNatClampNeg ((500 : Int32) - ((5 : Int32) * (13 : Int32)))) 1 ((14 : Int32)).toNatClampNeg ((500 : Int32) - ((5 : Int32) * (14 : Int32)))) 1 ((15 : Int32)).toNatClampNeg ((500 : Int32) - ((5 : Int32) * (15 : Int32)))) 1 ((16 : Int32)).toNatClampNeg ((500 : Int32) - ((5 : Int32) * (16 : Int32)))) 1 ((17 : Int32)).toNatClampNeg ((500 : Int32) - ((5 : Int32) * (17 : Int32)))) 1 ((18 : Int32)).toNatClampNeg ((500 : Int32) - ((5 : Int32) * (18 : Int32)))) 1 ((19 : Int32)).toNatClampNeg ((500 : Int32) - ((5 : Int32) * (19 : Int32)))) 1 ((20 : Int32)).toNatClampNeg ((500 : Int32) - ((5 : Int32) * (20 : Int32)))) 1 ((21 : Int32)).toNatClampNeg ((500 : Int32) - ((5 : Int32) * (21 : Int32)))) 1 ((22 : Int32)).toNatClampNeg ((500 : Int32) - ((5 : Int32) * (22 : Int32)))) 1 ((23 : Int32)).toNatClampNeg ((500 : Int32) - ((5 : Int32) * (23 : Int32)))) 1 ((24 : Int32)).toNatClampNeg ((500 : Int32) - ((5 : Int32) * (24 : Int32)))) 1 ((25 : Int32)).toNatClampNeg ((500 : Int32) - ((5 : Int32) * (25 : Int32)))) 1 ((26 : Int32)).toNatClampNeg ((500 : Int32) - ((5 : Int32) * (26 : Int32)))) 1 ((27 : Int32)).toNatClampNeg ((500 : Int32) - ((5 : Int32) * (27 : Int32)))) 1 ((28 : Int32)).toNatClampNeg ((500 : Int32) - ((5 : Int32) * (28 : Int32)))) 1 ((29 : Int32)).toNatClampNeg ((500 : Int32) - ((5 : Int32) * (29 : Int32)))) 1 ((30 : Int32)).toNatClampNeg ((500 : Int32) - ((5 : Int32) * (30 : Int32)))) 1 ((31 : Int32)).toNatClampNeg ((500 : Int32) - ((5 : Int32) * (31 : Int32)))) 1 ((32 : Int32)).toNatClampNeg ((500 : Int32) - ((5 : Int32) * (32 : Int32)))) 1 ((33 : Int32)).toNatClampNeg ((500 : Int32) - ((5 : Int32) * (33 : Int32)))) 1 ((34 : Int32)).toNatClampNeg ((500 : Int32) - ((5 : Int32) * (34 : Int32)))) 1 ((35 : Int32)).toNatClampNeg ((500 : Int32) - ((5 : Int32) * (35 : Int32)))) 1 ((36 : Int32)).toNatClampNeg ((500 : Int32) - ((5 : Int32) * (36 : Int32)))) 1 ((37 : Int32)).toNatClampNeg ((500 : Int32) - ((5 : Int32) * (37 : Int32)))) 1 ((38 : Int32)).toNatClampNeg ((500 : Int32) - ((5 : Int32) * (38 : Int32)))) 1 ((39 : Int32)).toNatClampNeg ((500 : Int32) - ((5 : Int32) * (39 : Int32)))) 2 ((0 : Int32)).toNatClampNeg (imax (0 : Int32) ((9 : Int32) - (0 : Int32)))) 2 ((1 : Int32)).toNatClampNeg (imax (0 : Int32) ((9 : Int32) - (1 : Int32)))) 2 ((2 : Int32)).toNatClampNeg (imax (0 : Int32) ((9 : Int32) - (2 : Int32)))) 2 ((3 : Int32)).toNatClampNeg (imax (0 : Int32) ((9 : Int32) - (3 : Int32)))) 2 ((4 : Int32)).toNatClampNeg (imax (0 : Int32) ((9 : Int32) - (4 : Int32)))) 2 ((5 : Int32)).toNatClampNeg (imax (0 : Int32) ((9 : Int32) - (5 : Int32)))) 2 ((6 : Int32)).toNatClampNeg (imax (0 : Int32) ((9 : Int32) - (6 : Int32)))) 2 ((7 : Int32)).toNatClampNeg (imax (0 : Int32) ((9 : Int32) - (7 : Int32)))) 2 ((8 : Int32)).toNatClampNeg (imax (0 : Int32) ((9 : Int32) - (8 : Int32)))) 2 ((9 : Int32)).toNatClampNeg (imax (0 : Int32) ((9 : Int32) - (9 : Int32)))) 2 ((10 : Int32)).toNatClampNeg (imax (0 : Int32) ((9 : Int32) - (10 : Int32)))) 2 ((11 : Int32)).toNatClampNeg (imax (0 : Int32) ((9 : Int32) - (11 : Int32)))) 2 ((12 : Int32)).toNatClampNeg (imax (0 : Int32) ((9 : Int32) - (12 : Int32)))) 2 ((13 : Int32)).toNatClampNeg (imax (0 : Int32) ((9 : Int32) - (13 : Int32)))) 2 ((14 : Int32)).toNatClampNeg (imax (0 : Int32) ((9 : Int32) - (14 : Int32)))) 2 ((15 : Int32)).toNatClampNeg (imax (0 : Int32) ((9 : Int32) - (15 : Int32)))) 2 ((16 : Int32)).toNatClampNeg (imax (0 : Int32) ((9 : Int32) - (16 : Int32)))) 2 ((17 : Int32)).toNatClampNeg (imax (0 : Int32) ((9 : Int32) - (17 : Int32)))) 2 ((18 : Int32)).toNatClampNeg (imax (0 : Int32) ((9 : Int32) - (18 : Int32)))) 2 ((19 : Int32)).toNatClampNeg (imax (0 : Int32) ((9 : Int32) - (19 : Int32)))) 2 ((20 : Int32)).toNatClampNeg (imax (0 : Int32) ((9 : Int32) - (20 : Int32)))) 7) 7 rho_X1_init) 10) 10 rho_X1_init) 13) 13 rho_X1_init) 16) 16 rho_X1_init) 19) 19 rho_X1_init) 22) 22 rho_X1_init) 25) 25 rho_X1_init)
set_option maxRecDepth 100000 in
set_option maxHeartbeats 4000000 in
theorem m_X5_init {l : Launch} {D : va_G} {ca : Nat → ClassId} (hw : Nat) : gMi l D ca yX5_init cX5_init 2 rm_X5_init 5 [] hw [5, 14, 13, 22, 2, 11, 11, 1, 10, 10, 1, 10, 10, 1, 10, 10, 1, 10, 10, 1, 10, 10, 1, 10, 10, 1, 10, 10] rho_X5_init 27 189 := by
  refine gMi_of (exa := []) (by decide) rfl (by decide) (Nat.le_of_ble_eq_true rfl) (fun _ _ => rfl) (fun h0 p e s m args below meth c ad C F hin => ?_)
  refine g_ent (ls' := [(0, .ref 0)]) rfl ?_
  refine g_nrm C F [105] 1 rfl rfl (fun C F => ?_)
  refine g_aload_n C 0 dX5_init_0 rfl ?_
  refine g_objI C qo_X5_3 (by decide) (Nat.le_of_ble_eq_true rfl) dX5_init_1 ?_
  refine g_aload_n C 0 dX5_init_4 rfl ?_
  refine g_bipush C (30 : Int32) dX5_init_5 rfl ?_
  refine g_putPI C 0 rfl (by decide) rfl qp_X5_9 rfl dX5_init_7 ?_
  refine g_aload_n C 0 dX5_init_10 rfl ?_
  refine g_bipush C (40 : Int32) dX5_init_11 rfl ?_
  refine g_newa C F 0 14 40 rfl .int rfl qw_int ho_14 (by decide) (fun _ => rfl) raI (fun _ _ _ => rfl) (by decide) (by decide) (by decide) (by decide +kernel) rfl rfl (Nat.le_of_ble_eq_true rfl) (Nat.le_of_ble_eq_true rfl) dX5_init_13 (fun ad C F => ?_)
  refine g_nrm C F [105, 14] 2 rfl rfl (fun C F => ?_)
  refine g_putPR C 1 137 hin rfl (by decide) (by decide) rfl rfl qf_X5_15 (fun _ => rfl) (fun _ => rfl) (by decide) rfl (by decide) dX5_init_15 (fun C => ?_)
  refine g_nrm C F [137, 14] 2 rfl rfl (fun C F => ?_)
  refine g_aload_n C 0 dX5_init_18 rfl ?_
  refine g_bipush C (21 : Int32) dX5_init_19 rfl ?_
  refine g_newa C F 0 13 21 rfl .int rfl qw_int ho_13 (by decide) (fun _ => rfl) raI (fun _ _ _ => rfl) (by decide) (by decide) (by decide) (by decide +kernel) rfl rfl (Nat.le_of_ble_eq_true rfl) (Nat.le_of_ble_eq_true rfl) dX5_init_21 (fun ad C F => ?_)
  refine g_nrm C F [137, 14, 13] 3 rfl rfl (fun C F => ?_)
  refine g_putPR C 2 201 hin rfl (by decide) (by decide) rfl rfl qf_X5_19 (fun _ => rfl) (fun _ => rfl) (by decide) rfl (by decide) dX5_init_23 (fun C => ?_)
  refine g_nrm C F [201, 14, 13] 3 rfl rfl (fun C F => ?_)
  refine g_aload_n C 0 dX5_init_26 rfl ?_
  refine g_iconst C (0 : Int32) dX5_init_27 rfl ?_
  refine g_putPI C 3 rfl (by decide) rfl qp_X5_22 rfl dX5_init_28 ?_
  refine g_aload_n C 0 dX5_init_31 rfl ?_
  refine g_bipush C (7 : Int32) dX5_init_32 rfl ?_
  refine g_newq C F 3 31 7 RX1 rfl C.2.2.2.2.2.1.2.2.1 qk_X5_25 (by decide) (by decide) rfl rfl (fun _ => rfl) raO (fun _ _ _ => rfl) (by decide) (by decide) (by decide) (by decide +kernel) rfl rfl (Nat.le_of_ble_eq_true rfl) (Nat.le_of_ble_eq_true rfl) dX5_init_34 (fun ad C F => ?_)
  refine g_nrm C F [201, 14, 13, 31] 4 rfl rfl (fun C F => ?_)
  refine g_putPR C 4 457 hin rfl (by decide) (by decide) rfl rfl qf_X5_27 (fun _ => rfl) (fun _ => rfl) (by decide) rfl (by decide) dX5_init_37 (fun C => ?_)
  refine g_nrm C F [457, 14, 13, 31] 4 rfl rfl (fun C F => ?_)
  refine g_aload_n C 0 dX5_init_40 rfl ?_
  refine g_new C F 2 2 rfl qn_X5_31 (by decide +kernel) rfl rfl (Nat.le_of_ble_eq_true rfl) (Nat.le_of_ble_eq_true rfl) dX5_init_41 (fun ad C F => ?_)
  refine g_nrm C F [457, 14, 13, 31, 102] 5 rfl rfl (fun C F => ?_)
  refine g_dup C rfl dX5_init_44 ?_
  refine g_lp C F (lp := [457, 14, 13, 31]) (cd := 102) (M := 4) rfl rfl (fun C F => ?_)
  refine g_init C F [] [2, 11, 11] rho_X2_init 2 14 0 rfl (by decide) qi_X5_33 (m_X2_init 0) (by decide) (by funext b; rfl) (by funext b; rfl) rfl rfl ⟨rfl, rfl⟩ ⟨by decide, by decide⟩ (Nat.le_of_ble_eq_true rfl) (by decide) (by decide +kernel) (by decide +kernel) (Or.inl (by decide)) rfl rfl (Nat.le_of_ble_eq_true rfl) (Nat.le_of_ble_eq_true rfl) dX5_init_45 (fun ad C F => ?_)
  refine g_nrm C F [457, 14, 13, 31, 2, 11, 11] 7 rfl rfl (fun C F => ?_)
  refine g_putPR C 5 969 hin rfl (by decide) (by decide) rfl rfl qf_X5_34 (fun _ => rfl) (fun _ => rfl) (by decide) rfl (by decide) dX5_init_48 (fun C => ?_)
  refine g_nrm C F [969, 14, 13, 31, 2, 11, 11] 7 rfl rfl (fun C F => ?_)
  refine g_recode C 0 5 (by decide) (g_full (c0 := 5) (ms := 54) (by decide) (by decide)) (fun C => ?_)
  refine g_nrm C F [5, 14, 13, 31, 2, 11, 11] 7 rfl rfl (fun C F => ?_)
  refine g_iconst C (0 : Int32) dX5_init_51 rfl ?_
  refine g_istore_n C [(1, .int (0 : Int32)), (0, .ref 0)] dX5_init_52 (by decide) rfl ?_
  refine g_iload_n C 0 dX5_init_53 rfl ?_
  refine g_bipush C (40 : Int32) dX5_init_54 rfl ?_
  refine g_icmp_ge C 78 dX5_init_56 (by decide) (fun hc => absurd hc (by decide)) (fun _ => ?_)
  refine g_aload_n C 1 dX5_init_59 rfl ?_
  refine g_getR C 1 1 rfl q_X5_15 rfl rfl dX5_init_60 ?_
  refine g_iload_n C 0 dX5_init_63 rfl ?_
  refine g_sipush C (500 : Int32) dX5_init_64 rfl ?_
  refine g_iconst C (5 : Int32) dX5_init_67 rfl ?_
  refine g_iload_n C 0 dX5_init_68 rfl ?_
  refine g_imul C dX5_init_69 ?_
  refine g_isub C dX5_init_70 ?_
  refine g_iast C 40 rfl ho_14 (by decide) dX5_init_71 ?_
  refine g_iinc C 0 [(1, .int (1 : Int32)), (0, .ref 0)] dX5_init_72 rfl (by decide) (by decide) rfl ?_
  refine g_goto C 53 dX5_init_75 (by decide) ?_
  refine g_iload_n C 0 dX5_init_53 rfl ?_
  refine g_bipush C (40 : Int32) dX5_init_54 rfl ?_
  refine g_icmp_ge C 78 dX5_init_56 (by decide) (fun hc => absurd hc (by decide)) (fun _ => ?_)
  refine g_aload_n C 1 dX5_init_59 rfl ?_
  refine g_getR C 1 1 rfl q_X5_15 rfl rfl dX5_init_60 ?_
  refine g_iload_n C 0 dX5_init_63 rfl ?_
  refine g_sipush C (500 : Int32) dX5_init_64 rfl ?_
  refine g_iconst C (5 : Int32) dX5_init_67 rfl ?_
  refine g_iload_n C 0 dX5_init_68 rfl ?_
  refine g_imul C dX5_init_69 ?_
  refine g_isub C dX5_init_70 ?_
  refine g_iast C 40 rfl ho_14 (by decide) dX5_init_71 ?_
  refine g_iinc C 0 [(1, .int (2 : Int32)), (0, .ref 0)] dX5_init_72 rfl (by decide) (by decide) rfl ?_
  refine g_goto C 53 dX5_init_75 (by decide) ?_
  refine g_iload_n C 0 dX5_init_53 rfl ?_
  refine g_bipush C (40 : Int32) dX5_init_54 rfl ?_
  refine g_icmp_ge C 78 dX5_init_56 (by decide) (fun hc => absurd hc (by decide)) (fun _ => ?_)
  refine g_aload_n C 1 dX5_init_59 rfl ?_
  refine g_getR C 1 1 rfl q_X5_15 rfl rfl dX5_init_60 ?_
  refine g_iload_n C 0 dX5_init_63 rfl ?_
  refine g_sipush C (500 : Int32) dX5_init_64 rfl ?_
  refine g_iconst C (5 : Int32) dX5_init_67 rfl ?_
  refine g_iload_n C 0 dX5_init_68 rfl ?_
  refine g_imul C dX5_init_69 ?_
  refine g_isub C dX5_init_70 ?_
  refine g_iast C 40 rfl ho_14 (by decide) dX5_init_71 ?_
  refine g_iinc C 0 [(1, .int (3 : Int32)), (0, .ref 0)] dX5_init_72 rfl (by decide) (by decide) rfl ?_
  refine g_goto C 53 dX5_init_75 (by decide) ?_
  refine g_iload_n C 0 dX5_init_53 rfl ?_
  refine g_bipush C (40 : Int32) dX5_init_54 rfl ?_
  refine g_icmp_ge C 78 dX5_init_56 (by decide) (fun hc => absurd hc (by decide)) (fun _ => ?_)
  refine g_aload_n C 1 dX5_init_59 rfl ?_
  refine g_getR C 1 1 rfl q_X5_15 rfl rfl dX5_init_60 ?_
  refine g_iload_n C 0 dX5_init_63 rfl ?_
  refine g_sipush C (500 : Int32) dX5_init_64 rfl ?_
  refine g_iconst C (5 : Int32) dX5_init_67 rfl ?_
  refine g_iload_n C 0 dX5_init_68 rfl ?_
  refine g_imul C dX5_init_69 ?_
  refine g_isub C dX5_init_70 ?_
  refine g_iast C 40 rfl ho_14 (by decide) dX5_init_71 ?_
  refine g_iinc C 0 [(1, .int (4 : Int32)), (0, .ref 0)] dX5_init_72 rfl (by decide) (by decide) rfl ?_
  refine g_goto C 53 dX5_init_75 (by decide) ?_
  refine g_iload_n C 0 dX5_init_53 rfl ?_
  refine g_bipush C (40 : Int32) dX5_init_54 rfl ?_
  refine g_icmp_ge C 78 dX5_init_56 (by decide) (fun hc => absurd hc (by decide)) (fun _ => ?_)
  refine g_aload_n C 1 dX5_init_59 rfl ?_
  refine g_getR C 1 1 rfl q_X5_15 rfl rfl dX5_init_60 ?_
  refine g_iload_n C 0 dX5_init_63 rfl ?_
  refine g_sipush C (500 : Int32) dX5_init_64 rfl ?_
  refine g_iconst C (5 : Int32) dX5_init_67 rfl ?_
  refine g_iload_n C 0 dX5_init_68 rfl ?_
  refine g_imul C dX5_init_69 ?_
  refine g_isub C dX5_init_70 ?_
  refine g_iast C 40 rfl ho_14 (by decide) dX5_init_71 ?_
  refine g_iinc C 0 [(1, .int (5 : Int32)), (0, .ref 0)] dX5_init_72 rfl (by decide) (by decide) rfl ?_
  refine g_goto C 53 dX5_init_75 (by decide) ?_
  refine g_iload_n C 0 dX5_init_53 rfl ?_
  refine g_bipush C (40 : Int32) dX5_init_54 rfl ?_
  refine g_icmp_ge C 78 dX5_init_56 (by decide) (fun hc => absurd hc (by decide)) (fun _ => ?_)
  refine g_aload_n C 1 dX5_init_59 rfl ?_
  refine g_getR C 1 1 rfl q_X5_15 rfl rfl dX5_init_60 ?_
  refine g_iload_n C 0 dX5_init_63 rfl ?_
  refine g_sipush C (500 : Int32) dX5_init_64 rfl ?_
  refine g_iconst C (5 : Int32) dX5_init_67 rfl ?_
  refine g_iload_n C 0 dX5_init_68 rfl ?_
  refine g_imul C dX5_init_69 ?_
  refine g_isub C dX5_init_70 ?_
  refine g_iast C 40 rfl ho_14 (by decide) dX5_init_71 ?_
  refine g_iinc C 0 [(1, .int (6 : Int32)), (0, .ref 0)] dX5_init_72 rfl (by decide) (by decide) rfl ?_
  refine g_goto C 53 dX5_init_75 (by decide) ?_
  refine g_iload_n C 0 dX5_init_53 rfl ?_
  refine g_bipush C (40 : Int32) dX5_init_54 rfl ?_
  refine g_icmp_ge C 78 dX5_init_56 (by decide) (fun hc => absurd hc (by decide)) (fun _ => ?_)
  refine g_aload_n C 1 dX5_init_59 rfl ?_
  refine g_getR C 1 1 rfl q_X5_15 rfl rfl dX5_init_60 ?_
  refine g_iload_n C 0 dX5_init_63 rfl ?_
  refine g_sipush C (500 : Int32) dX5_init_64 rfl ?_
  refine g_iconst C (5 : Int32) dX5_init_67 rfl ?_
  refine g_iload_n C 0 dX5_init_68 rfl ?_
  refine g_imul C dX5_init_69 ?_
  refine g_isub C dX5_init_70 ?_
  refine g_iast C 40 rfl ho_14 (by decide) dX5_init_71 ?_
  refine g_iinc C 0 [(1, .int (7 : Int32)), (0, .ref 0)] dX5_init_72 rfl (by decide) (by decide) rfl ?_
  refine g_goto C 53 dX5_init_75 (by decide) ?_
  refine g_iload_n C 0 dX5_init_53 rfl ?_
  refine g_bipush C (40 : Int32) dX5_init_54 rfl ?_
  refine g_icmp_ge C 78 dX5_init_56 (by decide) (fun hc => absurd hc (by decide)) (fun _ => ?_)
  refine g_aload_n C 1 dX5_init_59 rfl ?_
  refine g_getR C 1 1 rfl q_X5_15 rfl rfl dX5_init_60 ?_
  refine g_iload_n C 0 dX5_init_63 rfl ?_
  refine g_sipush C (500 : Int32) dX5_init_64 rfl ?_
  refine g_iconst C (5 : Int32) dX5_init_67 rfl ?_
  refine g_iload_n C 0 dX5_init_68 rfl ?_
  refine g_imul C dX5_init_69 ?_
  refine g_isub C dX5_init_70 ?_
  refine g_iast C 40 rfl ho_14 (by decide) dX5_init_71 ?_
  refine g_iinc C 0 [(1, .int (8 : Int32)), (0, .ref 0)] dX5_init_72 rfl (by decide) (by decide) rfl ?_
  refine g_goto C 53 dX5_init_75 (by decide) ?_
  refine g_iload_n C 0 dX5_init_53 rfl ?_
  refine g_bipush C (40 : Int32) dX5_init_54 rfl ?_
  refine g_icmp_ge C 78 dX5_init_56 (by decide) (fun hc => absurd hc (by decide)) (fun _ => ?_)
  refine g_aload_n C 1 dX5_init_59 rfl ?_
  refine g_getR C 1 1 rfl q_X5_15 rfl rfl dX5_init_60 ?_
  refine g_iload_n C 0 dX5_init_63 rfl ?_
  refine g_sipush C (500 : Int32) dX5_init_64 rfl ?_
  refine g_iconst C (5 : Int32) dX5_init_67 rfl ?_
  refine g_iload_n C 0 dX5_init_68 rfl ?_
  refine g_imul C dX5_init_69 ?_
  refine g_isub C dX5_init_70 ?_
  refine g_iast C 40 rfl ho_14 (by decide) dX5_init_71 ?_
  refine g_iinc C 0 [(1, .int (9 : Int32)), (0, .ref 0)] dX5_init_72 rfl (by decide) (by decide) rfl ?_
  refine g_goto C 53 dX5_init_75 (by decide) ?_
  refine g_iload_n C 0 dX5_init_53 rfl ?_
  refine g_bipush C (40 : Int32) dX5_init_54 rfl ?_
  refine g_icmp_ge C 78 dX5_init_56 (by decide) (fun hc => absurd hc (by decide)) (fun _ => ?_)
  refine g_aload_n C 1 dX5_init_59 rfl ?_
  refine g_getR C 1 1 rfl q_X5_15 rfl rfl dX5_init_60 ?_
  refine g_iload_n C 0 dX5_init_63 rfl ?_
  refine g_sipush C (500 : Int32) dX5_init_64 rfl ?_
  refine g_iconst C (5 : Int32) dX5_init_67 rfl ?_
  refine g_iload_n C 0 dX5_init_68 rfl ?_
  refine g_imul C dX5_init_69 ?_
  refine g_isub C dX5_init_70 ?_
  refine g_iast C 40 rfl ho_14 (by decide) dX5_init_71 ?_
  refine g_iinc C 0 [(1, .int (10 : Int32)), (0, .ref 0)] dX5_init_72 rfl (by decide) (by decide) rfl ?_
  refine g_goto C 53 dX5_init_75 (by decide) ?_
  refine g_iload_n C 0 dX5_init_53 rfl ?_
  refine g_bipush C (40 : Int32) dX5_init_54 rfl ?_
  refine g_icmp_ge C 78 dX5_init_56 (by decide) (fun hc => absurd hc (by decide)) (fun _ => ?_)
  refine g_aload_n C 1 dX5_init_59 rfl ?_
  refine g_getR C 1 1 rfl q_X5_15 rfl rfl dX5_init_60 ?_
  refine g_iload_n C 0 dX5_init_63 rfl ?_
  refine g_sipush C (500 : Int32) dX5_init_64 rfl ?_
  refine g_iconst C (5 : Int32) dX5_init_67 rfl ?_
  refine g_iload_n C 0 dX5_init_68 rfl ?_
  refine g_imul C dX5_init_69 ?_
  refine g_isub C dX5_init_70 ?_
  refine g_iast C 40 rfl ho_14 (by decide) dX5_init_71 ?_
  refine g_iinc C 0 [(1, .int (11 : Int32)), (0, .ref 0)] dX5_init_72 rfl (by decide) (by decide) rfl ?_
  refine g_goto C 53 dX5_init_75 (by decide) ?_
  refine g_iload_n C 0 dX5_init_53 rfl ?_
  refine g_bipush C (40 : Int32) dX5_init_54 rfl ?_
  refine g_icmp_ge C 78 dX5_init_56 (by decide) (fun hc => absurd hc (by decide)) (fun _ => ?_)
  refine g_aload_n C 1 dX5_init_59 rfl ?_
  refine g_getR C 1 1 rfl q_X5_15 rfl rfl dX5_init_60 ?_
  refine g_iload_n C 0 dX5_init_63 rfl ?_
  refine g_sipush C (500 : Int32) dX5_init_64 rfl ?_
  refine g_iconst C (5 : Int32) dX5_init_67 rfl ?_
  refine g_iload_n C 0 dX5_init_68 rfl ?_
  refine g_imul C dX5_init_69 ?_
  refine g_isub C dX5_init_70 ?_
  refine g_iast C 40 rfl ho_14 (by decide) dX5_init_71 ?_
  refine g_iinc C 0 [(1, .int (12 : Int32)), (0, .ref 0)] dX5_init_72 rfl (by decide) (by decide) rfl ?_
  refine g_goto C 53 dX5_init_75 (by decide) ?_
  refine g_iload_n C 0 dX5_init_53 rfl ?_
  refine g_bipush C (40 : Int32) dX5_init_54 rfl ?_
  refine g_icmp_ge C 78 dX5_init_56 (by decide) (fun hc => absurd hc (by decide)) (fun _ => ?_)
  refine g_aload_n C 1 dX5_init_59 rfl ?_
  refine g_getR C 1 1 rfl q_X5_15 rfl rfl dX5_init_60 ?_
  refine g_iload_n C 0 dX5_init_63 rfl ?_
  refine g_sipush C (500 : Int32) dX5_init_64 rfl ?_
  refine g_iconst C (5 : Int32) dX5_init_67 rfl ?_
  refine g_iload_n C 0 dX5_init_68 rfl ?_
  refine g_imul C dX5_init_69 ?_
  refine g_isub C dX5_init_70 ?_
  refine g_iast C 40 rfl ho_14 (by decide) dX5_init_71 ?_
  refine g_iinc C 0 [(1, .int (13 : Int32)), (0, .ref 0)] dX5_init_72 rfl (by decide) (by decide) rfl ?_
  refine g_goto C 53 dX5_init_75 (by decide) ?_
  refine g_iload_n C 0 dX5_init_53 rfl ?_
  refine g_bipush C (40 : Int32) dX5_init_54 rfl ?_
  refine g_icmp_ge C 78 dX5_init_56 (by decide) (fun hc => absurd hc (by decide)) (fun _ => ?_)
  refine g_aload_n C 1 dX5_init_59 rfl ?_
  refine g_getR C 1 1 rfl q_X5_15 rfl rfl dX5_init_60 ?_
  refine g_iload_n C 0 dX5_init_63 rfl ?_
  refine g_sipush C (500 : Int32) dX5_init_64 rfl ?_
  refine g_iconst C (5 : Int32) dX5_init_67 rfl ?_
  refine g_iload_n C 0 dX5_init_68 rfl ?_
  refine g_imul C dX5_init_69 ?_
  refine g_isub C dX5_init_70 ?_
  refine g_iast C 40 rfl ho_14 (by decide) dX5_init_71 ?_
  refine g_iinc C 0 [(1, .int (14 : Int32)), (0, .ref 0)] dX5_init_72 rfl (by decide) (by decide) rfl ?_
  refine g_goto C 53 dX5_init_75 (by decide) ?_
  refine g_iload_n C 0 dX5_init_53 rfl ?_
  refine g_bipush C (40 : Int32) dX5_init_54 rfl ?_
  refine g_icmp_ge C 78 dX5_init_56 (by decide) (fun hc => absurd hc (by decide)) (fun _ => ?_)
  refine g_aload_n C 1 dX5_init_59 rfl ?_
  refine g_getR C 1 1 rfl q_X5_15 rfl rfl dX5_init_60 ?_
  refine g_iload_n C 0 dX5_init_63 rfl ?_
  refine g_sipush C (500 : Int32) dX5_init_64 rfl ?_
  refine g_iconst C (5 : Int32) dX5_init_67 rfl ?_
  refine g_iload_n C 0 dX5_init_68 rfl ?_
  refine g_imul C dX5_init_69 ?_
  refine g_isub C dX5_init_70 ?_
  refine g_iast C 40 rfl ho_14 (by decide) dX5_init_71 ?_
  refine g_iinc C 0 [(1, .int (15 : Int32)), (0, .ref 0)] dX5_init_72 rfl (by decide) (by decide) rfl ?_
  refine g_goto C 53 dX5_init_75 (by decide) ?_
  refine g_iload_n C 0 dX5_init_53 rfl ?_
  refine g_bipush C (40 : Int32) dX5_init_54 rfl ?_
  refine g_icmp_ge C 78 dX5_init_56 (by decide) (fun hc => absurd hc (by decide)) (fun _ => ?_)
  refine g_aload_n C 1 dX5_init_59 rfl ?_
  refine g_getR C 1 1 rfl q_X5_15 rfl rfl dX5_init_60 ?_
  refine g_iload_n C 0 dX5_init_63 rfl ?_
  refine g_sipush C (500 : Int32) dX5_init_64 rfl ?_
  refine g_iconst C (5 : Int32) dX5_init_67 rfl ?_
  refine g_iload_n C 0 dX5_init_68 rfl ?_
  refine g_imul C dX5_init_69 ?_
  refine g_isub C dX5_init_70 ?_
  refine g_iast C 40 rfl ho_14 (by decide) dX5_init_71 ?_
  refine g_iinc C 0 [(1, .int (16 : Int32)), (0, .ref 0)] dX5_init_72 rfl (by decide) (by decide) rfl ?_
  refine g_goto C 53 dX5_init_75 (by decide) ?_
  refine g_iload_n C 0 dX5_init_53 rfl ?_
  refine g_bipush C (40 : Int32) dX5_init_54 rfl ?_
  refine g_icmp_ge C 78 dX5_init_56 (by decide) (fun hc => absurd hc (by decide)) (fun _ => ?_)
  refine g_aload_n C 1 dX5_init_59 rfl ?_
  refine g_getR C 1 1 rfl q_X5_15 rfl rfl dX5_init_60 ?_
  refine g_iload_n C 0 dX5_init_63 rfl ?_
  refine g_sipush C (500 : Int32) dX5_init_64 rfl ?_
  refine g_iconst C (5 : Int32) dX5_init_67 rfl ?_
  refine g_iload_n C 0 dX5_init_68 rfl ?_
  refine g_imul C dX5_init_69 ?_
  refine g_isub C dX5_init_70 ?_
  refine g_iast C 40 rfl ho_14 (by decide) dX5_init_71 ?_
  refine g_iinc C 0 [(1, .int (17 : Int32)), (0, .ref 0)] dX5_init_72 rfl (by decide) (by decide) rfl ?_
  refine g_goto C 53 dX5_init_75 (by decide) ?_
  refine g_iload_n C 0 dX5_init_53 rfl ?_
  refine g_bipush C (40 : Int32) dX5_init_54 rfl ?_
  refine g_icmp_ge C 78 dX5_init_56 (by decide) (fun hc => absurd hc (by decide)) (fun _ => ?_)
  refine g_aload_n C 1 dX5_init_59 rfl ?_
  refine g_getR C 1 1 rfl q_X5_15 rfl rfl dX5_init_60 ?_
  refine g_iload_n C 0 dX5_init_63 rfl ?_
  refine g_sipush C (500 : Int32) dX5_init_64 rfl ?_
  refine g_iconst C (5 : Int32) dX5_init_67 rfl ?_
  refine g_iload_n C 0 dX5_init_68 rfl ?_
  refine g_imul C dX5_init_69 ?_
  refine g_isub C dX5_init_70 ?_
  refine g_iast C 40 rfl ho_14 (by decide) dX5_init_71 ?_
  refine g_iinc C 0 [(1, .int (18 : Int32)), (0, .ref 0)] dX5_init_72 rfl (by decide) (by decide) rfl ?_
  refine g_goto C 53 dX5_init_75 (by decide) ?_
  refine g_iload_n C 0 dX5_init_53 rfl ?_
  refine g_bipush C (40 : Int32) dX5_init_54 rfl ?_
  refine g_icmp_ge C 78 dX5_init_56 (by decide) (fun hc => absurd hc (by decide)) (fun _ => ?_)
  refine g_aload_n C 1 dX5_init_59 rfl ?_
  refine g_getR C 1 1 rfl q_X5_15 rfl rfl dX5_init_60 ?_
  refine g_iload_n C 0 dX5_init_63 rfl ?_
  refine g_sipush C (500 : Int32) dX5_init_64 rfl ?_
  refine g_iconst C (5 : Int32) dX5_init_67 rfl ?_
  refine g_iload_n C 0 dX5_init_68 rfl ?_
  refine g_imul C dX5_init_69 ?_
  refine g_isub C dX5_init_70 ?_
  refine g_iast C 40 rfl ho_14 (by decide) dX5_init_71 ?_
  refine g_iinc C 0 [(1, .int (19 : Int32)), (0, .ref 0)] dX5_init_72 rfl (by decide) (by decide) rfl ?_
  refine g_goto C 53 dX5_init_75 (by decide) ?_
  refine g_iload_n C 0 dX5_init_53 rfl ?_
  refine g_bipush C (40 : Int32) dX5_init_54 rfl ?_
  refine g_icmp_ge C 78 dX5_init_56 (by decide) (fun hc => absurd hc (by decide)) (fun _ => ?_)
  refine g_aload_n C 1 dX5_init_59 rfl ?_
  refine g_getR C 1 1 rfl q_X5_15 rfl rfl dX5_init_60 ?_
  refine g_iload_n C 0 dX5_init_63 rfl ?_
  refine g_sipush C (500 : Int32) dX5_init_64 rfl ?_
  refine g_iconst C (5 : Int32) dX5_init_67 rfl ?_
  refine g_iload_n C 0 dX5_init_68 rfl ?_
  refine g_imul C dX5_init_69 ?_
  refine g_isub C dX5_init_70 ?_
  refine g_iast C 40 rfl ho_14 (by decide) dX5_init_71 ?_
  refine g_iinc C 0 [(1, .int (20 : Int32)), (0, .ref 0)] dX5_init_72 rfl (by decide) (by decide) rfl ?_
  refine g_goto C 53 dX5_init_75 (by decide) ?_
  refine g_iload_n C 0 dX5_init_53 rfl ?_
  refine g_bipush C (40 : Int32) dX5_init_54 rfl ?_
  refine g_icmp_ge C 78 dX5_init_56 (by decide) (fun hc => absurd hc (by decide)) (fun _ => ?_)
  refine g_aload_n C 1 dX5_init_59 rfl ?_
  refine g_getR C 1 1 rfl q_X5_15 rfl rfl dX5_init_60 ?_
  refine g_iload_n C 0 dX5_init_63 rfl ?_
  refine g_sipush C (500 : Int32) dX5_init_64 rfl ?_
  refine g_iconst C (5 : Int32) dX5_init_67 rfl ?_
  refine g_iload_n C 0 dX5_init_68 rfl ?_
  refine g_imul C dX5_init_69 ?_
  refine g_isub C dX5_init_70 ?_
  refine g_iast C 40 rfl ho_14 (by decide) dX5_init_71 ?_
  refine g_iinc C 0 [(1, .int (21 : Int32)), (0, .ref 0)] dX5_init_72 rfl (by decide) (by decide) rfl ?_
  refine g_goto C 53 dX5_init_75 (by decide) ?_
  refine g_iload_n C 0 dX5_init_53 rfl ?_
  refine g_bipush C (40 : Int32) dX5_init_54 rfl ?_
  refine g_icmp_ge C 78 dX5_init_56 (by decide) (fun hc => absurd hc (by decide)) (fun _ => ?_)
  refine g_aload_n C 1 dX5_init_59 rfl ?_
  refine g_getR C 1 1 rfl q_X5_15 rfl rfl dX5_init_60 ?_
  refine g_iload_n C 0 dX5_init_63 rfl ?_
  refine g_sipush C (500 : Int32) dX5_init_64 rfl ?_
  refine g_iconst C (5 : Int32) dX5_init_67 rfl ?_
  refine g_iload_n C 0 dX5_init_68 rfl ?_
  refine g_imul C dX5_init_69 ?_
  refine g_isub C dX5_init_70 ?_
  refine g_iast C 40 rfl ho_14 (by decide) dX5_init_71 ?_
  refine g_iinc C 0 [(1, .int (22 : Int32)), (0, .ref 0)] dX5_init_72 rfl (by decide) (by decide) rfl ?_
  refine g_goto C 53 dX5_init_75 (by decide) ?_
  refine g_iload_n C 0 dX5_init_53 rfl ?_
  refine g_bipush C (40 : Int32) dX5_init_54 rfl ?_
  refine g_icmp_ge C 78 dX5_init_56 (by decide) (fun hc => absurd hc (by decide)) (fun _ => ?_)
  refine g_aload_n C 1 dX5_init_59 rfl ?_
  refine g_getR C 1 1 rfl q_X5_15 rfl rfl dX5_init_60 ?_
  refine g_iload_n C 0 dX5_init_63 rfl ?_
  refine g_sipush C (500 : Int32) dX5_init_64 rfl ?_
  refine g_iconst C (5 : Int32) dX5_init_67 rfl ?_
  refine g_iload_n C 0 dX5_init_68 rfl ?_
  refine g_imul C dX5_init_69 ?_
  refine g_isub C dX5_init_70 ?_
  refine g_iast C 40 rfl ho_14 (by decide) dX5_init_71 ?_
  refine g_iinc C 0 [(1, .int (23 : Int32)), (0, .ref 0)] dX5_init_72 rfl (by decide) (by decide) rfl ?_
  refine g_goto C 53 dX5_init_75 (by decide) ?_
  refine g_iload_n C 0 dX5_init_53 rfl ?_
  refine g_bipush C (40 : Int32) dX5_init_54 rfl ?_
  refine g_icmp_ge C 78 dX5_init_56 (by decide) (fun hc => absurd hc (by decide)) (fun _ => ?_)
  refine g_aload_n C 1 dX5_init_59 rfl ?_
  refine g_getR C 1 1 rfl q_X5_15 rfl rfl dX5_init_60 ?_
  refine g_iload_n C 0 dX5_init_63 rfl ?_
  refine g_sipush C (500 : Int32) dX5_init_64 rfl ?_
  refine g_iconst C (5 : Int32) dX5_init_67 rfl ?_
  refine g_iload_n C 0 dX5_init_68 rfl ?_
  refine g_imul C dX5_init_69 ?_
  refine g_isub C dX5_init_70 ?_
  refine g_iast C 40 rfl ho_14 (by decide) dX5_init_71 ?_
  refine g_iinc C 0 [(1, .int (24 : Int32)), (0, .ref 0)] dX5_init_72 rfl (by decide) (by decide) rfl ?_
  refine g_goto C 53 dX5_init_75 (by decide) ?_
  refine g_iload_n C 0 dX5_init_53 rfl ?_
  refine g_bipush C (40 : Int32) dX5_init_54 rfl ?_
  refine g_icmp_ge C 78 dX5_init_56 (by decide) (fun hc => absurd hc (by decide)) (fun _ => ?_)
  refine g_aload_n C 1 dX5_init_59 rfl ?_
  refine g_getR C 1 1 rfl q_X5_15 rfl rfl dX5_init_60 ?_
  refine g_iload_n C 0 dX5_init_63 rfl ?_
  refine g_sipush C (500 : Int32) dX5_init_64 rfl ?_
  refine g_iconst C (5 : Int32) dX5_init_67 rfl ?_
  refine g_iload_n C 0 dX5_init_68 rfl ?_
  refine g_imul C dX5_init_69 ?_
  refine g_isub C dX5_init_70 ?_
  refine g_iast C 40 rfl ho_14 (by decide) dX5_init_71 ?_
  refine g_iinc C 0 [(1, .int (25 : Int32)), (0, .ref 0)] dX5_init_72 rfl (by decide) (by decide) rfl ?_
  refine g_goto C 53 dX5_init_75 (by decide) ?_
  refine g_iload_n C 0 dX5_init_53 rfl ?_
  refine g_bipush C (40 : Int32) dX5_init_54 rfl ?_
  refine g_icmp_ge C 78 dX5_init_56 (by decide) (fun hc => absurd hc (by decide)) (fun _ => ?_)
  refine g_aload_n C 1 dX5_init_59 rfl ?_
  refine g_getR C 1 1 rfl q_X5_15 rfl rfl dX5_init_60 ?_
  refine g_iload_n C 0 dX5_init_63 rfl ?_
  refine g_sipush C (500 : Int32) dX5_init_64 rfl ?_
  refine g_iconst C (5 : Int32) dX5_init_67 rfl ?_
  refine g_iload_n C 0 dX5_init_68 rfl ?_
  refine g_imul C dX5_init_69 ?_
  refine g_isub C dX5_init_70 ?_
  refine g_iast C 40 rfl ho_14 (by decide) dX5_init_71 ?_
  refine g_iinc C 0 [(1, .int (26 : Int32)), (0, .ref 0)] dX5_init_72 rfl (by decide) (by decide) rfl ?_
  refine g_goto C 53 dX5_init_75 (by decide) ?_
  refine g_iload_n C 0 dX5_init_53 rfl ?_
  refine g_bipush C (40 : Int32) dX5_init_54 rfl ?_
  refine g_icmp_ge C 78 dX5_init_56 (by decide) (fun hc => absurd hc (by decide)) (fun _ => ?_)
  refine g_aload_n C 1 dX5_init_59 rfl ?_
  refine g_getR C 1 1 rfl q_X5_15 rfl rfl dX5_init_60 ?_
  refine g_iload_n C 0 dX5_init_63 rfl ?_
  refine g_sipush C (500 : Int32) dX5_init_64 rfl ?_
  refine g_iconst C (5 : Int32) dX5_init_67 rfl ?_
  refine g_iload_n C 0 dX5_init_68 rfl ?_
  refine g_imul C dX5_init_69 ?_
  refine g_isub C dX5_init_70 ?_
  refine g_iast C 40 rfl ho_14 (by decide) dX5_init_71 ?_
  refine g_iinc C 0 [(1, .int (27 : Int32)), (0, .ref 0)] dX5_init_72 rfl (by decide) (by decide) rfl ?_
  refine g_goto C 53 dX5_init_75 (by decide) ?_
  refine g_iload_n C 0 dX5_init_53 rfl ?_
  refine g_bipush C (40 : Int32) dX5_init_54 rfl ?_
  refine g_icmp_ge C 78 dX5_init_56 (by decide) (fun hc => absurd hc (by decide)) (fun _ => ?_)
  refine g_aload_n C 1 dX5_init_59 rfl ?_
  refine g_getR C 1 1 rfl q_X5_15 rfl rfl dX5_init_60 ?_
  refine g_iload_n C 0 dX5_init_63 rfl ?_
  refine g_sipush C (500 : Int32) dX5_init_64 rfl ?_
  refine g_iconst C (5 : Int32) dX5_init_67 rfl ?_
  refine g_iload_n C 0 dX5_init_68 rfl ?_
  refine g_imul C dX5_init_69 ?_
  refine g_isub C dX5_init_70 ?_
  refine g_iast C 40 rfl ho_14 (by decide) dX5_init_71 ?_
  refine g_iinc C 0 [(1, .int (28 : Int32)), (0, .ref 0)] dX5_init_72 rfl (by decide) (by decide) rfl ?_
  refine g_goto C 53 dX5_init_75 (by decide) ?_
  refine g_iload_n C 0 dX5_init_53 rfl ?_
  refine g_bipush C (40 : Int32) dX5_init_54 rfl ?_
  refine g_icmp_ge C 78 dX5_init_56 (by decide) (fun hc => absurd hc (by decide)) (fun _ => ?_)
  refine g_aload_n C 1 dX5_init_59 rfl ?_
  refine g_getR C 1 1 rfl q_X5_15 rfl rfl dX5_init_60 ?_
  refine g_iload_n C 0 dX5_init_63 rfl ?_
  refine g_sipush C (500 : Int32) dX5_init_64 rfl ?_
  refine g_iconst C (5 : Int32) dX5_init_67 rfl ?_
  refine g_iload_n C 0 dX5_init_68 rfl ?_
  refine g_imul C dX5_init_69 ?_
  refine g_isub C dX5_init_70 ?_
  refine g_iast C 40 rfl ho_14 (by decide) dX5_init_71 ?_
  refine g_iinc C 0 [(1, .int (29 : Int32)), (0, .ref 0)] dX5_init_72 rfl (by decide) (by decide) rfl ?_
  refine g_goto C 53 dX5_init_75 (by decide) ?_
  refine g_iload_n C 0 dX5_init_53 rfl ?_
  refine g_bipush C (40 : Int32) dX5_init_54 rfl ?_
  refine g_icmp_ge C 78 dX5_init_56 (by decide) (fun hc => absurd hc (by decide)) (fun _ => ?_)
  refine g_aload_n C 1 dX5_init_59 rfl ?_
  refine g_getR C 1 1 rfl q_X5_15 rfl rfl dX5_init_60 ?_
  refine g_iload_n C 0 dX5_init_63 rfl ?_
  refine g_sipush C (500 : Int32) dX5_init_64 rfl ?_
  refine g_iconst C (5 : Int32) dX5_init_67 rfl ?_
  refine g_iload_n C 0 dX5_init_68 rfl ?_
  refine g_imul C dX5_init_69 ?_
  refine g_isub C dX5_init_70 ?_
  refine g_iast C 40 rfl ho_14 (by decide) dX5_init_71 ?_
  refine g_iinc C 0 [(1, .int (30 : Int32)), (0, .ref 0)] dX5_init_72 rfl (by decide) (by decide) rfl ?_
  refine g_goto C 53 dX5_init_75 (by decide) ?_
  refine g_iload_n C 0 dX5_init_53 rfl ?_
  refine g_bipush C (40 : Int32) dX5_init_54 rfl ?_
  refine g_icmp_ge C 78 dX5_init_56 (by decide) (fun hc => absurd hc (by decide)) (fun _ => ?_)
  refine g_aload_n C 1 dX5_init_59 rfl ?_
  refine g_getR C 1 1 rfl q_X5_15 rfl rfl dX5_init_60 ?_
  refine g_iload_n C 0 dX5_init_63 rfl ?_
  refine g_sipush C (500 : Int32) dX5_init_64 rfl ?_
  refine g_iconst C (5 : Int32) dX5_init_67 rfl ?_
  refine g_iload_n C 0 dX5_init_68 rfl ?_
  refine g_imul C dX5_init_69 ?_
  refine g_isub C dX5_init_70 ?_
  refine g_iast C 40 rfl ho_14 (by decide) dX5_init_71 ?_
  refine g_iinc C 0 [(1, .int (31 : Int32)), (0, .ref 0)] dX5_init_72 rfl (by decide) (by decide) rfl ?_
  refine g_goto C 53 dX5_init_75 (by decide) ?_
  refine g_iload_n C 0 dX5_init_53 rfl ?_
  refine g_bipush C (40 : Int32) dX5_init_54 rfl ?_
  refine g_icmp_ge C 78 dX5_init_56 (by decide) (fun hc => absurd hc (by decide)) (fun _ => ?_)
  refine g_aload_n C 1 dX5_init_59 rfl ?_
  refine g_getR C 1 1 rfl q_X5_15 rfl rfl dX5_init_60 ?_
  refine g_iload_n C 0 dX5_init_63 rfl ?_
  refine g_sipush C (500 : Int32) dX5_init_64 rfl ?_
  refine g_iconst C (5 : Int32) dX5_init_67 rfl ?_
  refine g_iload_n C 0 dX5_init_68 rfl ?_
  refine g_imul C dX5_init_69 ?_
  refine g_isub C dX5_init_70 ?_
  refine g_iast C 40 rfl ho_14 (by decide) dX5_init_71 ?_
  refine g_iinc C 0 [(1, .int (32 : Int32)), (0, .ref 0)] dX5_init_72 rfl (by decide) (by decide) rfl ?_
  refine g_goto C 53 dX5_init_75 (by decide) ?_
  refine g_iload_n C 0 dX5_init_53 rfl ?_
  refine g_bipush C (40 : Int32) dX5_init_54 rfl ?_
  refine g_icmp_ge C 78 dX5_init_56 (by decide) (fun hc => absurd hc (by decide)) (fun _ => ?_)
  refine g_aload_n C 1 dX5_init_59 rfl ?_
  refine g_getR C 1 1 rfl q_X5_15 rfl rfl dX5_init_60 ?_
  refine g_iload_n C 0 dX5_init_63 rfl ?_
  refine g_sipush C (500 : Int32) dX5_init_64 rfl ?_
  refine g_iconst C (5 : Int32) dX5_init_67 rfl ?_
  refine g_iload_n C 0 dX5_init_68 rfl ?_
  refine g_imul C dX5_init_69 ?_
  refine g_isub C dX5_init_70 ?_
  refine g_iast C 40 rfl ho_14 (by decide) dX5_init_71 ?_
  refine g_iinc C 0 [(1, .int (33 : Int32)), (0, .ref 0)] dX5_init_72 rfl (by decide) (by decide) rfl ?_
  refine g_goto C 53 dX5_init_75 (by decide) ?_
  refine g_iload_n C 0 dX5_init_53 rfl ?_
  refine g_bipush C (40 : Int32) dX5_init_54 rfl ?_
  refine g_icmp_ge C 78 dX5_init_56 (by decide) (fun hc => absurd hc (by decide)) (fun _ => ?_)
  refine g_aload_n C 1 dX5_init_59 rfl ?_
  refine g_getR C 1 1 rfl q_X5_15 rfl rfl dX5_init_60 ?_
  refine g_iload_n C 0 dX5_init_63 rfl ?_
  refine g_sipush C (500 : Int32) dX5_init_64 rfl ?_
  refine g_iconst C (5 : Int32) dX5_init_67 rfl ?_
  refine g_iload_n C 0 dX5_init_68 rfl ?_
  refine g_imul C dX5_init_69 ?_
  refine g_isub C dX5_init_70 ?_
  refine g_iast C 40 rfl ho_14 (by decide) dX5_init_71 ?_
  refine g_iinc C 0 [(1, .int (34 : Int32)), (0, .ref 0)] dX5_init_72 rfl (by decide) (by decide) rfl ?_
  refine g_goto C 53 dX5_init_75 (by decide) ?_
  refine g_iload_n C 0 dX5_init_53 rfl ?_
  refine g_bipush C (40 : Int32) dX5_init_54 rfl ?_
  refine g_icmp_ge C 78 dX5_init_56 (by decide) (fun hc => absurd hc (by decide)) (fun _ => ?_)
  refine g_aload_n C 1 dX5_init_59 rfl ?_
  refine g_getR C 1 1 rfl q_X5_15 rfl rfl dX5_init_60 ?_
  refine g_iload_n C 0 dX5_init_63 rfl ?_
  refine g_sipush C (500 : Int32) dX5_init_64 rfl ?_
  refine g_iconst C (5 : Int32) dX5_init_67 rfl ?_
  refine g_iload_n C 0 dX5_init_68 rfl ?_
  refine g_imul C dX5_init_69 ?_
  refine g_isub C dX5_init_70 ?_
  refine g_iast C 40 rfl ho_14 (by decide) dX5_init_71 ?_
  refine g_iinc C 0 [(1, .int (35 : Int32)), (0, .ref 0)] dX5_init_72 rfl (by decide) (by decide) rfl ?_
  refine g_goto C 53 dX5_init_75 (by decide) ?_
  refine g_iload_n C 0 dX5_init_53 rfl ?_
  refine g_bipush C (40 : Int32) dX5_init_54 rfl ?_
  refine g_icmp_ge C 78 dX5_init_56 (by decide) (fun hc => absurd hc (by decide)) (fun _ => ?_)
  refine g_aload_n C 1 dX5_init_59 rfl ?_
  refine g_getR C 1 1 rfl q_X5_15 rfl rfl dX5_init_60 ?_
  refine g_iload_n C 0 dX5_init_63 rfl ?_
  refine g_sipush C (500 : Int32) dX5_init_64 rfl ?_
  refine g_iconst C (5 : Int32) dX5_init_67 rfl ?_
  refine g_iload_n C 0 dX5_init_68 rfl ?_
  refine g_imul C dX5_init_69 ?_
  refine g_isub C dX5_init_70 ?_
  refine g_iast C 40 rfl ho_14 (by decide) dX5_init_71 ?_
  refine g_iinc C 0 [(1, .int (36 : Int32)), (0, .ref 0)] dX5_init_72 rfl (by decide) (by decide) rfl ?_
  refine g_goto C 53 dX5_init_75 (by decide) ?_
  refine g_iload_n C 0 dX5_init_53 rfl ?_
  refine g_bipush C (40 : Int32) dX5_init_54 rfl ?_
  refine g_icmp_ge C 78 dX5_init_56 (by decide) (fun hc => absurd hc (by decide)) (fun _ => ?_)
  refine g_aload_n C 1 dX5_init_59 rfl ?_
  refine g_getR C 1 1 rfl q_X5_15 rfl rfl dX5_init_60 ?_
  refine g_iload_n C 0 dX5_init_63 rfl ?_
  refine g_sipush C (500 : Int32) dX5_init_64 rfl ?_
  refine g_iconst C (5 : Int32) dX5_init_67 rfl ?_
  refine g_iload_n C 0 dX5_init_68 rfl ?_
  refine g_imul C dX5_init_69 ?_
  refine g_isub C dX5_init_70 ?_
  refine g_iast C 40 rfl ho_14 (by decide) dX5_init_71 ?_
  refine g_iinc C 0 [(1, .int (37 : Int32)), (0, .ref 0)] dX5_init_72 rfl (by decide) (by decide) rfl ?_
  refine g_goto C 53 dX5_init_75 (by decide) ?_
  refine g_iload_n C 0 dX5_init_53 rfl ?_
  refine g_bipush C (40 : Int32) dX5_init_54 rfl ?_
  refine g_icmp_ge C 78 dX5_init_56 (by decide) (fun hc => absurd hc (by decide)) (fun _ => ?_)
  refine g_aload_n C 1 dX5_init_59 rfl ?_
  refine g_getR C 1 1 rfl q_X5_15 rfl rfl dX5_init_60 ?_
  refine g_iload_n C 0 dX5_init_63 rfl ?_
  refine g_sipush C (500 : Int32) dX5_init_64 rfl ?_
  refine g_iconst C (5 : Int32) dX5_init_67 rfl ?_
  refine g_iload_n C 0 dX5_init_68 rfl ?_
  refine g_imul C dX5_init_69 ?_
  refine g_isub C dX5_init_70 ?_
  refine g_iast C 40 rfl ho_14 (by decide) dX5_init_71 ?_
  refine g_iinc C 0 [(1, .int (38 : Int32)), (0, .ref 0)] dX5_init_72 rfl (by decide) (by decide) rfl ?_
  refine g_goto C 53 dX5_init_75 (by decide) ?_
  refine g_iload_n C 0 dX5_init_53 rfl ?_
  refine g_bipush C (40 : Int32) dX5_init_54 rfl ?_
  refine g_icmp_ge C 78 dX5_init_56 (by decide) (fun hc => absurd hc (by decide)) (fun _ => ?_)
  refine g_aload_n C 1 dX5_init_59 rfl ?_
  refine g_getR C 1 1 rfl q_X5_15 rfl rfl dX5_init_60 ?_
  refine g_iload_n C 0 dX5_init_63 rfl ?_
  refine g_sipush C (500 : Int32) dX5_init_64 rfl ?_
  refine g_iconst C (5 : Int32) dX5_init_67 rfl ?_
  refine g_iload_n C 0 dX5_init_68 rfl ?_
  refine g_imul C dX5_init_69 ?_
  refine g_isub C dX5_init_70 ?_
  refine g_iast C 40 rfl ho_14 (by decide) dX5_init_71 ?_
  refine g_iinc C 0 [(1, .int (39 : Int32)), (0, .ref 0)] dX5_init_72 rfl (by decide) (by decide) rfl ?_
  refine g_goto C 53 dX5_init_75 (by decide) ?_
  refine g_iload_n C 0 dX5_init_53 rfl ?_
  refine g_bipush C (40 : Int32) dX5_init_54 rfl ?_
  refine g_icmp_ge C 78 dX5_init_56 (by decide) (fun hc => absurd hc (by decide)) (fun _ => ?_)
  refine g_aload_n C 1 dX5_init_59 rfl ?_
  refine g_getR C 1 1 rfl q_X5_15 rfl rfl dX5_init_60 ?_
  refine g_iload_n C 0 dX5_init_63 rfl ?_
  refine g_sipush C (500 : Int32) dX5_init_64 rfl ?_
  refine g_iconst C (5 : Int32) dX5_init_67 rfl ?_
  refine g_iload_n C 0 dX5_init_68 rfl ?_
  refine g_imul C dX5_init_69 ?_
  refine g_isub C dX5_init_70 ?_
  refine g_iast C 40 rfl ho_14 (by decide) dX5_init_71 ?_
  refine g_iinc C 0 [(1, .int (40 : Int32)), (0, .ref 0)] dX5_init_72 rfl (by decide) (by decide) rfl ?_
  refine g_goto C 53 dX5_init_75 (by decide) ?_
  refine g_iload_n C 0 dX5_init_53 rfl ?_
  refine g_bipush C (40 : Int32) dX5_init_54 rfl ?_
  refine g_icmp_ge C 78 dX5_init_56 (by decide) (fun _ => ?_) (fun hc => absurd (by decide) hc)
  refine g_iconst C (0 : Int32) dX5_init_78 rfl ?_
  refine g_istore_n C [(1, .int (0 : Int32)), (0, .ref 0)] dX5_init_79 (by decide) rfl ?_
  refine g_iload_n C 0 dX5_init_80 rfl ?_
  refine g_bipush C (20 : Int32) dX5_init_81 rfl ?_
  refine g_icmp_gt C 106 dX5_init_83 (by decide) (fun hc => absurd hc (by decide)) (fun _ => ?_)
  refine g_aload_n C 1 dX5_init_86 rfl ?_
  refine g_getR C 2 2 rfl q_X5_19 rfl rfl dX5_init_87 ?_
  refine g_iload_n C 0 dX5_init_90 rfl ?_
  refine g_iconst C (0 : Int32) dX5_init_91 rfl ?_
  refine g_bipush C (9 : Int32) dX5_init_92 rfl ?_
  refine g_iload_n C 0 dX5_init_94 rfl ?_
  refine g_isub C dX5_init_95 ?_
  refine g_max C qx_X5_38 (by decide) (Nat.le_of_ble_eq_true rfl) (Nat.le_of_ble_eq_true rfl) (Nat.le_of_ble_eq_true rfl) dX5_init_96 ?_
  refine g_iast C 21 rfl ho_13 (by decide) dX5_init_99 ?_
  refine g_iinc C 0 [(1, .int (1 : Int32)), (0, .ref 0)] dX5_init_100 rfl (by decide) (by decide) rfl ?_
  refine g_goto C 80 dX5_init_103 (by decide) ?_
  refine g_iload_n C 0 dX5_init_80 rfl ?_
  refine g_bipush C (20 : Int32) dX5_init_81 rfl ?_
  refine g_icmp_gt C 106 dX5_init_83 (by decide) (fun hc => absurd hc (by decide)) (fun _ => ?_)
  refine g_aload_n C 1 dX5_init_86 rfl ?_
  refine g_getR C 2 2 rfl q_X5_19 rfl rfl dX5_init_87 ?_
  refine g_iload_n C 0 dX5_init_90 rfl ?_
  refine g_iconst C (0 : Int32) dX5_init_91 rfl ?_
  refine g_bipush C (9 : Int32) dX5_init_92 rfl ?_
  refine g_iload_n C 0 dX5_init_94 rfl ?_
  refine g_isub C dX5_init_95 ?_
  refine g_max C qx_X5_38 (by decide) (Nat.le_of_ble_eq_true rfl) (Nat.le_of_ble_eq_true rfl) (Nat.le_of_ble_eq_true rfl) dX5_init_96 ?_
  refine g_iast C 21 rfl ho_13 (by decide) dX5_init_99 ?_
  refine g_iinc C 0 [(1, .int (2 : Int32)), (0, .ref 0)] dX5_init_100 rfl (by decide) (by decide) rfl ?_
  refine g_goto C 80 dX5_init_103 (by decide) ?_
  refine g_iload_n C 0 dX5_init_80 rfl ?_
  refine g_bipush C (20 : Int32) dX5_init_81 rfl ?_
  refine g_icmp_gt C 106 dX5_init_83 (by decide) (fun hc => absurd hc (by decide)) (fun _ => ?_)
  refine g_aload_n C 1 dX5_init_86 rfl ?_
  refine g_getR C 2 2 rfl q_X5_19 rfl rfl dX5_init_87 ?_
  refine g_iload_n C 0 dX5_init_90 rfl ?_
  refine g_iconst C (0 : Int32) dX5_init_91 rfl ?_
  refine g_bipush C (9 : Int32) dX5_init_92 rfl ?_
  refine g_iload_n C 0 dX5_init_94 rfl ?_
  refine g_isub C dX5_init_95 ?_
  refine g_max C qx_X5_38 (by decide) (Nat.le_of_ble_eq_true rfl) (Nat.le_of_ble_eq_true rfl) (Nat.le_of_ble_eq_true rfl) dX5_init_96 ?_
  refine g_iast C 21 rfl ho_13 (by decide) dX5_init_99 ?_
  refine g_iinc C 0 [(1, .int (3 : Int32)), (0, .ref 0)] dX5_init_100 rfl (by decide) (by decide) rfl ?_
  refine g_goto C 80 dX5_init_103 (by decide) ?_
  refine g_iload_n C 0 dX5_init_80 rfl ?_
  refine g_bipush C (20 : Int32) dX5_init_81 rfl ?_
  refine g_icmp_gt C 106 dX5_init_83 (by decide) (fun hc => absurd hc (by decide)) (fun _ => ?_)
  refine g_aload_n C 1 dX5_init_86 rfl ?_
  refine g_getR C 2 2 rfl q_X5_19 rfl rfl dX5_init_87 ?_
  refine g_iload_n C 0 dX5_init_90 rfl ?_
  refine g_iconst C (0 : Int32) dX5_init_91 rfl ?_
  refine g_bipush C (9 : Int32) dX5_init_92 rfl ?_
  refine g_iload_n C 0 dX5_init_94 rfl ?_
  refine g_isub C dX5_init_95 ?_
  refine g_max C qx_X5_38 (by decide) (Nat.le_of_ble_eq_true rfl) (Nat.le_of_ble_eq_true rfl) (Nat.le_of_ble_eq_true rfl) dX5_init_96 ?_
  refine g_iast C 21 rfl ho_13 (by decide) dX5_init_99 ?_
  refine g_iinc C 0 [(1, .int (4 : Int32)), (0, .ref 0)] dX5_init_100 rfl (by decide) (by decide) rfl ?_
  refine g_goto C 80 dX5_init_103 (by decide) ?_
  refine g_iload_n C 0 dX5_init_80 rfl ?_
  refine g_bipush C (20 : Int32) dX5_init_81 rfl ?_
  refine g_icmp_gt C 106 dX5_init_83 (by decide) (fun hc => absurd hc (by decide)) (fun _ => ?_)
  refine g_aload_n C 1 dX5_init_86 rfl ?_
  refine g_getR C 2 2 rfl q_X5_19 rfl rfl dX5_init_87 ?_
  refine g_iload_n C 0 dX5_init_90 rfl ?_
  refine g_iconst C (0 : Int32) dX5_init_91 rfl ?_
  refine g_bipush C (9 : Int32) dX5_init_92 rfl ?_
  refine g_iload_n C 0 dX5_init_94 rfl ?_
  refine g_isub C dX5_init_95 ?_
  refine g_max C qx_X5_38 (by decide) (Nat.le_of_ble_eq_true rfl) (Nat.le_of_ble_eq_true rfl) (Nat.le_of_ble_eq_true rfl) dX5_init_96 ?_
  refine g_iast C 21 rfl ho_13 (by decide) dX5_init_99 ?_
  refine g_iinc C 0 [(1, .int (5 : Int32)), (0, .ref 0)] dX5_init_100 rfl (by decide) (by decide) rfl ?_
  refine g_goto C 80 dX5_init_103 (by decide) ?_
  refine g_iload_n C 0 dX5_init_80 rfl ?_
  refine g_bipush C (20 : Int32) dX5_init_81 rfl ?_
  refine g_icmp_gt C 106 dX5_init_83 (by decide) (fun hc => absurd hc (by decide)) (fun _ => ?_)
  refine g_aload_n C 1 dX5_init_86 rfl ?_
  refine g_getR C 2 2 rfl q_X5_19 rfl rfl dX5_init_87 ?_
  refine g_iload_n C 0 dX5_init_90 rfl ?_
  refine g_iconst C (0 : Int32) dX5_init_91 rfl ?_
  refine g_bipush C (9 : Int32) dX5_init_92 rfl ?_
  refine g_iload_n C 0 dX5_init_94 rfl ?_
  refine g_isub C dX5_init_95 ?_
  refine g_max C qx_X5_38 (by decide) (Nat.le_of_ble_eq_true rfl) (Nat.le_of_ble_eq_true rfl) (Nat.le_of_ble_eq_true rfl) dX5_init_96 ?_
  refine g_iast C 21 rfl ho_13 (by decide) dX5_init_99 ?_
  refine g_iinc C 0 [(1, .int (6 : Int32)), (0, .ref 0)] dX5_init_100 rfl (by decide) (by decide) rfl ?_
  refine g_goto C 80 dX5_init_103 (by decide) ?_
  refine g_iload_n C 0 dX5_init_80 rfl ?_
  refine g_bipush C (20 : Int32) dX5_init_81 rfl ?_
  refine g_icmp_gt C 106 dX5_init_83 (by decide) (fun hc => absurd hc (by decide)) (fun _ => ?_)
  refine g_aload_n C 1 dX5_init_86 rfl ?_
  refine g_getR C 2 2 rfl q_X5_19 rfl rfl dX5_init_87 ?_
  refine g_iload_n C 0 dX5_init_90 rfl ?_
  refine g_iconst C (0 : Int32) dX5_init_91 rfl ?_
  refine g_bipush C (9 : Int32) dX5_init_92 rfl ?_
  refine g_iload_n C 0 dX5_init_94 rfl ?_
  refine g_isub C dX5_init_95 ?_
  refine g_max C qx_X5_38 (by decide) (Nat.le_of_ble_eq_true rfl) (Nat.le_of_ble_eq_true rfl) (Nat.le_of_ble_eq_true rfl) dX5_init_96 ?_
  refine g_iast C 21 rfl ho_13 (by decide) dX5_init_99 ?_
  refine g_iinc C 0 [(1, .int (7 : Int32)), (0, .ref 0)] dX5_init_100 rfl (by decide) (by decide) rfl ?_
  refine g_goto C 80 dX5_init_103 (by decide) ?_
  refine g_iload_n C 0 dX5_init_80 rfl ?_
  refine g_bipush C (20 : Int32) dX5_init_81 rfl ?_
  refine g_icmp_gt C 106 dX5_init_83 (by decide) (fun hc => absurd hc (by decide)) (fun _ => ?_)
  refine g_aload_n C 1 dX5_init_86 rfl ?_
  refine g_getR C 2 2 rfl q_X5_19 rfl rfl dX5_init_87 ?_
  refine g_iload_n C 0 dX5_init_90 rfl ?_
  refine g_iconst C (0 : Int32) dX5_init_91 rfl ?_
  refine g_bipush C (9 : Int32) dX5_init_92 rfl ?_
  refine g_iload_n C 0 dX5_init_94 rfl ?_
  refine g_isub C dX5_init_95 ?_
  refine g_max C qx_X5_38 (by decide) (Nat.le_of_ble_eq_true rfl) (Nat.le_of_ble_eq_true rfl) (Nat.le_of_ble_eq_true rfl) dX5_init_96 ?_
  refine g_iast C 21 rfl ho_13 (by decide) dX5_init_99 ?_
  refine g_iinc C 0 [(1, .int (8 : Int32)), (0, .ref 0)] dX5_init_100 rfl (by decide) (by decide) rfl ?_
  refine g_goto C 80 dX5_init_103 (by decide) ?_
  refine g_iload_n C 0 dX5_init_80 rfl ?_
  refine g_bipush C (20 : Int32) dX5_init_81 rfl ?_
  refine g_icmp_gt C 106 dX5_init_83 (by decide) (fun hc => absurd hc (by decide)) (fun _ => ?_)
  refine g_aload_n C 1 dX5_init_86 rfl ?_
  refine g_getR C 2 2 rfl q_X5_19 rfl rfl dX5_init_87 ?_
  refine g_iload_n C 0 dX5_init_90 rfl ?_
  refine g_iconst C (0 : Int32) dX5_init_91 rfl ?_
  refine g_bipush C (9 : Int32) dX5_init_92 rfl ?_
  refine g_iload_n C 0 dX5_init_94 rfl ?_
  refine g_isub C dX5_init_95 ?_
  refine g_max C qx_X5_38 (by decide) (Nat.le_of_ble_eq_true rfl) (Nat.le_of_ble_eq_true rfl) (Nat.le_of_ble_eq_true rfl) dX5_init_96 ?_
  refine g_iast C 21 rfl ho_13 (by decide) dX5_init_99 ?_
  refine g_iinc C 0 [(1, .int (9 : Int32)), (0, .ref 0)] dX5_init_100 rfl (by decide) (by decide) rfl ?_
  refine g_goto C 80 dX5_init_103 (by decide) ?_
  refine g_iload_n C 0 dX5_init_80 rfl ?_
  refine g_bipush C (20 : Int32) dX5_init_81 rfl ?_
  refine g_icmp_gt C 106 dX5_init_83 (by decide) (fun hc => absurd hc (by decide)) (fun _ => ?_)
  refine g_aload_n C 1 dX5_init_86 rfl ?_
  refine g_getR C 2 2 rfl q_X5_19 rfl rfl dX5_init_87 ?_
  refine g_iload_n C 0 dX5_init_90 rfl ?_
  refine g_iconst C (0 : Int32) dX5_init_91 rfl ?_
  refine g_bipush C (9 : Int32) dX5_init_92 rfl ?_
  refine g_iload_n C 0 dX5_init_94 rfl ?_
  refine g_isub C dX5_init_95 ?_
  refine g_max C qx_X5_38 (by decide) (Nat.le_of_ble_eq_true rfl) (Nat.le_of_ble_eq_true rfl) (Nat.le_of_ble_eq_true rfl) dX5_init_96 ?_
  refine g_iast C 21 rfl ho_13 (by decide) dX5_init_99 ?_
  refine g_iinc C 0 [(1, .int (10 : Int32)), (0, .ref 0)] dX5_init_100 rfl (by decide) (by decide) rfl ?_
  refine g_goto C 80 dX5_init_103 (by decide) ?_
  refine g_iload_n C 0 dX5_init_80 rfl ?_
  refine g_bipush C (20 : Int32) dX5_init_81 rfl ?_
  refine g_icmp_gt C 106 dX5_init_83 (by decide) (fun hc => absurd hc (by decide)) (fun _ => ?_)
  refine g_aload_n C 1 dX5_init_86 rfl ?_
  refine g_getR C 2 2 rfl q_X5_19 rfl rfl dX5_init_87 ?_
  refine g_iload_n C 0 dX5_init_90 rfl ?_
  refine g_iconst C (0 : Int32) dX5_init_91 rfl ?_
  refine g_bipush C (9 : Int32) dX5_init_92 rfl ?_
  refine g_iload_n C 0 dX5_init_94 rfl ?_
  refine g_isub C dX5_init_95 ?_
  refine g_max C qx_X5_38 (by decide) (Nat.le_of_ble_eq_true rfl) (Nat.le_of_ble_eq_true rfl) (Nat.le_of_ble_eq_true rfl) dX5_init_96 ?_
  refine g_iast C 21 rfl ho_13 (by decide) dX5_init_99 ?_
  refine g_iinc C 0 [(1, .int (11 : Int32)), (0, .ref 0)] dX5_init_100 rfl (by decide) (by decide) rfl ?_
  refine g_goto C 80 dX5_init_103 (by decide) ?_
  refine g_iload_n C 0 dX5_init_80 rfl ?_
  refine g_bipush C (20 : Int32) dX5_init_81 rfl ?_
  refine g_icmp_gt C 106 dX5_init_83 (by decide) (fun hc => absurd hc (by decide)) (fun _ => ?_)
  refine g_aload_n C 1 dX5_init_86 rfl ?_
  refine g_getR C 2 2 rfl q_X5_19 rfl rfl dX5_init_87 ?_
  refine g_iload_n C 0 dX5_init_90 rfl ?_
  refine g_iconst C (0 : Int32) dX5_init_91 rfl ?_
  refine g_bipush C (9 : Int32) dX5_init_92 rfl ?_
  refine g_iload_n C 0 dX5_init_94 rfl ?_
  refine g_isub C dX5_init_95 ?_
  refine g_max C qx_X5_38 (by decide) (Nat.le_of_ble_eq_true rfl) (Nat.le_of_ble_eq_true rfl) (Nat.le_of_ble_eq_true rfl) dX5_init_96 ?_
  refine g_iast C 21 rfl ho_13 (by decide) dX5_init_99 ?_
  refine g_iinc C 0 [(1, .int (12 : Int32)), (0, .ref 0)] dX5_init_100 rfl (by decide) (by decide) rfl ?_
  refine g_goto C 80 dX5_init_103 (by decide) ?_
  refine g_iload_n C 0 dX5_init_80 rfl ?_
  refine g_bipush C (20 : Int32) dX5_init_81 rfl ?_
  refine g_icmp_gt C 106 dX5_init_83 (by decide) (fun hc => absurd hc (by decide)) (fun _ => ?_)
  refine g_aload_n C 1 dX5_init_86 rfl ?_
  refine g_getR C 2 2 rfl q_X5_19 rfl rfl dX5_init_87 ?_
  refine g_iload_n C 0 dX5_init_90 rfl ?_
  refine g_iconst C (0 : Int32) dX5_init_91 rfl ?_
  refine g_bipush C (9 : Int32) dX5_init_92 rfl ?_
  refine g_iload_n C 0 dX5_init_94 rfl ?_
  refine g_isub C dX5_init_95 ?_
  refine g_max C qx_X5_38 (by decide) (Nat.le_of_ble_eq_true rfl) (Nat.le_of_ble_eq_true rfl) (Nat.le_of_ble_eq_true rfl) dX5_init_96 ?_
  refine g_iast C 21 rfl ho_13 (by decide) dX5_init_99 ?_
  refine g_iinc C 0 [(1, .int (13 : Int32)), (0, .ref 0)] dX5_init_100 rfl (by decide) (by decide) rfl ?_
  refine g_goto C 80 dX5_init_103 (by decide) ?_
  refine g_iload_n C 0 dX5_init_80 rfl ?_
  refine g_bipush C (20 : Int32) dX5_init_81 rfl ?_
  refine g_icmp_gt C 106 dX5_init_83 (by decide) (fun hc => absurd hc (by decide)) (fun _ => ?_)
  refine g_aload_n C 1 dX5_init_86 rfl ?_
  refine g_getR C 2 2 rfl q_X5_19 rfl rfl dX5_init_87 ?_
  refine g_iload_n C 0 dX5_init_90 rfl ?_
  refine g_iconst C (0 : Int32) dX5_init_91 rfl ?_
  refine g_bipush C (9 : Int32) dX5_init_92 rfl ?_
  refine g_iload_n C 0 dX5_init_94 rfl ?_
  refine g_isub C dX5_init_95 ?_
  refine g_max C qx_X5_38 (by decide) (Nat.le_of_ble_eq_true rfl) (Nat.le_of_ble_eq_true rfl) (Nat.le_of_ble_eq_true rfl) dX5_init_96 ?_
  refine g_iast C 21 rfl ho_13 (by decide) dX5_init_99 ?_
  refine g_iinc C 0 [(1, .int (14 : Int32)), (0, .ref 0)] dX5_init_100 rfl (by decide) (by decide) rfl ?_
  refine g_goto C 80 dX5_init_103 (by decide) ?_
  refine g_iload_n C 0 dX5_init_80 rfl ?_
  refine g_bipush C (20 : Int32) dX5_init_81 rfl ?_
  refine g_icmp_gt C 106 dX5_init_83 (by decide) (fun hc => absurd hc (by decide)) (fun _ => ?_)
  refine g_aload_n C 1 dX5_init_86 rfl ?_
  refine g_getR C 2 2 rfl q_X5_19 rfl rfl dX5_init_87 ?_
  refine g_iload_n C 0 dX5_init_90 rfl ?_
  refine g_iconst C (0 : Int32) dX5_init_91 rfl ?_
  refine g_bipush C (9 : Int32) dX5_init_92 rfl ?_
  refine g_iload_n C 0 dX5_init_94 rfl ?_
  refine g_isub C dX5_init_95 ?_
  refine g_max C qx_X5_38 (by decide) (Nat.le_of_ble_eq_true rfl) (Nat.le_of_ble_eq_true rfl) (Nat.le_of_ble_eq_true rfl) dX5_init_96 ?_
  refine g_iast C 21 rfl ho_13 (by decide) dX5_init_99 ?_
  refine g_iinc C 0 [(1, .int (15 : Int32)), (0, .ref 0)] dX5_init_100 rfl (by decide) (by decide) rfl ?_
  refine g_goto C 80 dX5_init_103 (by decide) ?_
  refine g_iload_n C 0 dX5_init_80 rfl ?_
  refine g_bipush C (20 : Int32) dX5_init_81 rfl ?_
  refine g_icmp_gt C 106 dX5_init_83 (by decide) (fun hc => absurd hc (by decide)) (fun _ => ?_)
  refine g_aload_n C 1 dX5_init_86 rfl ?_
  refine g_getR C 2 2 rfl q_X5_19 rfl rfl dX5_init_87 ?_
  refine g_iload_n C 0 dX5_init_90 rfl ?_
  refine g_iconst C (0 : Int32) dX5_init_91 rfl ?_
  refine g_bipush C (9 : Int32) dX5_init_92 rfl ?_
  refine g_iload_n C 0 dX5_init_94 rfl ?_
  refine g_isub C dX5_init_95 ?_
  refine g_max C qx_X5_38 (by decide) (Nat.le_of_ble_eq_true rfl) (Nat.le_of_ble_eq_true rfl) (Nat.le_of_ble_eq_true rfl) dX5_init_96 ?_
  refine g_iast C 21 rfl ho_13 (by decide) dX5_init_99 ?_
  refine g_iinc C 0 [(1, .int (16 : Int32)), (0, .ref 0)] dX5_init_100 rfl (by decide) (by decide) rfl ?_
  refine g_goto C 80 dX5_init_103 (by decide) ?_
  refine g_iload_n C 0 dX5_init_80 rfl ?_
  refine g_bipush C (20 : Int32) dX5_init_81 rfl ?_
  refine g_icmp_gt C 106 dX5_init_83 (by decide) (fun hc => absurd hc (by decide)) (fun _ => ?_)
  refine g_aload_n C 1 dX5_init_86 rfl ?_
  refine g_getR C 2 2 rfl q_X5_19 rfl rfl dX5_init_87 ?_
  refine g_iload_n C 0 dX5_init_90 rfl ?_
  refine g_iconst C (0 : Int32) dX5_init_91 rfl ?_
  refine g_bipush C (9 : Int32) dX5_init_92 rfl ?_
  refine g_iload_n C 0 dX5_init_94 rfl ?_
  refine g_isub C dX5_init_95 ?_
  refine g_max C qx_X5_38 (by decide) (Nat.le_of_ble_eq_true rfl) (Nat.le_of_ble_eq_true rfl) (Nat.le_of_ble_eq_true rfl) dX5_init_96 ?_
  refine g_iast C 21 rfl ho_13 (by decide) dX5_init_99 ?_
  refine g_iinc C 0 [(1, .int (17 : Int32)), (0, .ref 0)] dX5_init_100 rfl (by decide) (by decide) rfl ?_
  refine g_goto C 80 dX5_init_103 (by decide) ?_
  refine g_iload_n C 0 dX5_init_80 rfl ?_
  refine g_bipush C (20 : Int32) dX5_init_81 rfl ?_
  refine g_icmp_gt C 106 dX5_init_83 (by decide) (fun hc => absurd hc (by decide)) (fun _ => ?_)
  refine g_aload_n C 1 dX5_init_86 rfl ?_
  refine g_getR C 2 2 rfl q_X5_19 rfl rfl dX5_init_87 ?_
  refine g_iload_n C 0 dX5_init_90 rfl ?_
  refine g_iconst C (0 : Int32) dX5_init_91 rfl ?_
  refine g_bipush C (9 : Int32) dX5_init_92 rfl ?_
  refine g_iload_n C 0 dX5_init_94 rfl ?_
  refine g_isub C dX5_init_95 ?_
  refine g_max C qx_X5_38 (by decide) (Nat.le_of_ble_eq_true rfl) (Nat.le_of_ble_eq_true rfl) (Nat.le_of_ble_eq_true rfl) dX5_init_96 ?_
  refine g_iast C 21 rfl ho_13 (by decide) dX5_init_99 ?_
  refine g_iinc C 0 [(1, .int (18 : Int32)), (0, .ref 0)] dX5_init_100 rfl (by decide) (by decide) rfl ?_
  refine g_goto C 80 dX5_init_103 (by decide) ?_
  refine g_iload_n C 0 dX5_init_80 rfl ?_
  refine g_bipush C (20 : Int32) dX5_init_81 rfl ?_
  refine g_icmp_gt C 106 dX5_init_83 (by decide) (fun hc => absurd hc (by decide)) (fun _ => ?_)
  refine g_aload_n C 1 dX5_init_86 rfl ?_
  refine g_getR C 2 2 rfl q_X5_19 rfl rfl dX5_init_87 ?_
  refine g_iload_n C 0 dX5_init_90 rfl ?_
  refine g_iconst C (0 : Int32) dX5_init_91 rfl ?_
  refine g_bipush C (9 : Int32) dX5_init_92 rfl ?_
  refine g_iload_n C 0 dX5_init_94 rfl ?_
  refine g_isub C dX5_init_95 ?_
  refine g_max C qx_X5_38 (by decide) (Nat.le_of_ble_eq_true rfl) (Nat.le_of_ble_eq_true rfl) (Nat.le_of_ble_eq_true rfl) dX5_init_96 ?_
  refine g_iast C 21 rfl ho_13 (by decide) dX5_init_99 ?_
  refine g_iinc C 0 [(1, .int (19 : Int32)), (0, .ref 0)] dX5_init_100 rfl (by decide) (by decide) rfl ?_
  refine g_goto C 80 dX5_init_103 (by decide) ?_
  refine g_iload_n C 0 dX5_init_80 rfl ?_
  refine g_bipush C (20 : Int32) dX5_init_81 rfl ?_
  refine g_icmp_gt C 106 dX5_init_83 (by decide) (fun hc => absurd hc (by decide)) (fun _ => ?_)
  refine g_aload_n C 1 dX5_init_86 rfl ?_
  refine g_getR C 2 2 rfl q_X5_19 rfl rfl dX5_init_87 ?_
  refine g_iload_n C 0 dX5_init_90 rfl ?_
  refine g_iconst C (0 : Int32) dX5_init_91 rfl ?_
  refine g_bipush C (9 : Int32) dX5_init_92 rfl ?_
  refine g_iload_n C 0 dX5_init_94 rfl ?_
  refine g_isub C dX5_init_95 ?_
  refine g_max C qx_X5_38 (by decide) (Nat.le_of_ble_eq_true rfl) (Nat.le_of_ble_eq_true rfl) (Nat.le_of_ble_eq_true rfl) dX5_init_96 ?_
  refine g_iast C 21 rfl ho_13 (by decide) dX5_init_99 ?_
  refine g_iinc C 0 [(1, .int (20 : Int32)), (0, .ref 0)] dX5_init_100 rfl (by decide) (by decide) rfl ?_
  refine g_goto C 80 dX5_init_103 (by decide) ?_
  refine g_iload_n C 0 dX5_init_80 rfl ?_
  refine g_bipush C (20 : Int32) dX5_init_81 rfl ?_
  refine g_icmp_gt C 106 dX5_init_83 (by decide) (fun hc => absurd hc (by decide)) (fun _ => ?_)
  refine g_aload_n C 1 dX5_init_86 rfl ?_
  refine g_getR C 2 2 rfl q_X5_19 rfl rfl dX5_init_87 ?_
  refine g_iload_n C 0 dX5_init_90 rfl ?_
  refine g_iconst C (0 : Int32) dX5_init_91 rfl ?_
  refine g_bipush C (9 : Int32) dX5_init_92 rfl ?_
  refine g_iload_n C 0 dX5_init_94 rfl ?_
  refine g_isub C dX5_init_95 ?_
  refine g_max C qx_X5_38 (by decide) (Nat.le_of_ble_eq_true rfl) (Nat.le_of_ble_eq_true rfl) (Nat.le_of_ble_eq_true rfl) dX5_init_96 ?_
  refine g_iast C 21 rfl ho_13 (by decide) dX5_init_99 ?_
  refine g_iinc C 0 [(1, .int (21 : Int32)), (0, .ref 0)] dX5_init_100 rfl (by decide) (by decide) rfl ?_
  refine g_goto C 80 dX5_init_103 (by decide) ?_
  refine g_iload_n C 0 dX5_init_80 rfl ?_
  refine g_bipush C (20 : Int32) dX5_init_81 rfl ?_
  refine g_icmp_gt C 106 dX5_init_83 (by decide) (fun _ => ?_) (fun hc => absurd (by decide) hc)
  refine g_iconst C (0 : Int32) dX5_init_106 rfl ?_
  refine g_istore_n C [(1, .int (0 : Int32)), (0, .ref 0)] dX5_init_107 (by decide) rfl ?_
  refine g_iload_n C 0 dX5_init_108 rfl ?_
  refine g_bipush C (7 : Int32) dX5_init_109 rfl ?_
  refine g_icmp_ge C 133 dX5_init_111 (by decide) (fun hc => absurd hc (by decide)) (fun _ => ?_)
  refine g_aload_n C 1 dX5_init_114 rfl ?_
  refine g_getR C 4 3 rfl q_X5_27 rfl rfl dX5_init_115 ?_
  refine g_iload_n C 0 dX5_init_118 rfl ?_
  refine g_new C F 1 5 rfl qn_X5_25 (by decide +kernel) rfl rfl (Nat.le_of_ble_eq_true rfl) (Nat.le_of_ble_eq_true rfl) dX5_init_119 (fun ad C F => ?_)
  refine g_nrm C F [5, 14, 13, 31, 2, 11, 11, 101] 8 rfl rfl (fun C F => ?_)
  refine g_dup C rfl dX5_init_122 ?_
  refine g_lp C F (lp := [5, 14, 13, 31, 2, 11, 11]) (cd := 101) (M := 7) rfl rfl (fun C F => ?_)
  refine g_init C F [] [1, 10, 10] rho_X1_init 2 10 0 rfl (by decide) qi_X5_44 (m_X1_init 0) (by decide) (by funext b; rfl) (by funext b; rfl) rfl rfl ⟨rfl, rfl⟩ ⟨by decide, by decide⟩ (Nat.le_of_ble_eq_true rfl) (by decide) (by decide +kernel) (by decide +kernel) (Or.inl (by decide)) rfl rfl (Nat.le_of_ble_eq_true rfl) (Nat.le_of_ble_eq_true rfl) dX5_init_123 (fun ad C F => ?_)
  refine g_nrm C F [5, 14, 13, 31, 2, 11, 11, 1, 10, 10] 10 rfl rfl (fun C F => ?_)
  refine g_aast C 3 7 0 32 1 rfl (by decide) (by decide) (by decide) (by decide) rfl rfl rfl rfl (fun ad _ => ⟨fun x => if x < 0 then some (ad (3 + 4 + 3 * x)) else none, rfl, congrArg (fun f => Sum.inr (Sum.inr (Sum.inr (Sum.inr f)))) (va_up_lt (g := fun x => ad (3 + 4 + 3 * x)) (j := 0)).symm⟩) (T := TX1) (Nf := 5) (Cn := RX1) rfl (fun _ => rfl) rfl (by decide) (by decide) (ix_in (by decide)) dX5_init_126 (fun C => ?_)
  refine g_nrm C F [5, 14, 13, 32, 2, 11, 11, 1, 10, 10] 10 rfl rfl (fun C F => ?_)
  refine g_iinc C 0 [(1, .int (1 : Int32)), (0, .ref 0)] dX5_init_127 rfl (by decide) (by decide) rfl ?_
  refine g_goto C 108 dX5_init_130 (by decide) ?_
  refine g_iload_n C 0 dX5_init_108 rfl ?_
  refine g_bipush C (7 : Int32) dX5_init_109 rfl ?_
  refine g_icmp_ge C 133 dX5_init_111 (by decide) (fun hc => absurd hc (by decide)) (fun _ => ?_)
  refine g_aload_n C 1 dX5_init_114 rfl ?_
  refine g_getR C 4 3 rfl q_X5_27 rfl rfl dX5_init_115 ?_
  refine g_iload_n C 0 dX5_init_118 rfl ?_
  refine g_new C F 1 5 rfl qn_X5_25 (by decide +kernel) rfl rfl (Nat.le_of_ble_eq_true rfl) (Nat.le_of_ble_eq_true rfl) dX5_init_119 (fun ad C F => ?_)
  refine g_nrm C F [5, 14, 13, 32, 2, 11, 11, 1, 10, 10, 101] 11 rfl rfl (fun C F => ?_)
  refine g_dup C rfl dX5_init_122 ?_
  refine g_lp C F (lp := [5, 14, 13, 32, 2, 11, 11, 1, 10, 10]) (cd := 101) (M := 10) rfl rfl (fun C F => ?_)
  refine g_init C F [] [1, 10, 10] rho_X1_init 2 10 0 rfl (by decide) qi_X5_44 (m_X1_init 0) (by decide) (by funext b; rfl) (by funext b; rfl) rfl rfl ⟨rfl, rfl⟩ ⟨by decide, by decide⟩ (Nat.le_of_ble_eq_true rfl) (by decide) (by decide +kernel) (by decide +kernel) (Or.inl (by decide)) rfl rfl (Nat.le_of_ble_eq_true rfl) (Nat.le_of_ble_eq_true rfl) dX5_init_123 (fun ad C F => ?_)
  refine g_nrm C F [5, 14, 13, 32, 2, 11, 11, 1, 10, 10, 1, 10, 10] 13 rfl rfl (fun C F => ?_)
  refine g_aast C 3 7 1 33 1 rfl (by decide) (by decide) (by decide) (by decide) rfl rfl rfl rfl (fun ad _ => ⟨fun x => if x < 1 then some (ad (3 + 4 + 3 * x)) else none, rfl, congrArg (fun f => Sum.inr (Sum.inr (Sum.inr (Sum.inr f)))) (va_up_lt (g := fun x => ad (3 + 4 + 3 * x)) (j := 1)).symm⟩) (T := TX1) (Nf := 5) (Cn := RX1) rfl (fun _ => rfl) rfl (by decide) (by decide) (ix_in (by decide)) dX5_init_126 (fun C => ?_)
  refine g_nrm C F [5, 14, 13, 33, 2, 11, 11, 1, 10, 10, 1, 10, 10] 13 rfl rfl (fun C F => ?_)
  refine g_iinc C 0 [(1, .int (2 : Int32)), (0, .ref 0)] dX5_init_127 rfl (by decide) (by decide) rfl ?_
  refine g_goto C 108 dX5_init_130 (by decide) ?_
  refine g_iload_n C 0 dX5_init_108 rfl ?_
  refine g_bipush C (7 : Int32) dX5_init_109 rfl ?_
  refine g_icmp_ge C 133 dX5_init_111 (by decide) (fun hc => absurd hc (by decide)) (fun _ => ?_)
  refine g_aload_n C 1 dX5_init_114 rfl ?_
  refine g_getR C 4 3 rfl q_X5_27 rfl rfl dX5_init_115 ?_
  refine g_iload_n C 0 dX5_init_118 rfl ?_
  refine g_new C F 1 5 rfl qn_X5_25 (by decide +kernel) rfl rfl (Nat.le_of_ble_eq_true rfl) (Nat.le_of_ble_eq_true rfl) dX5_init_119 (fun ad C F => ?_)
  refine g_nrm C F [5, 14, 13, 33, 2, 11, 11, 1, 10, 10, 1, 10, 10, 101] 14 rfl rfl (fun C F => ?_)
  refine g_dup C rfl dX5_init_122 ?_
  refine g_lp C F (lp := [5, 14, 13, 33, 2, 11, 11, 1, 10, 10, 1, 10, 10]) (cd := 101) (M := 13) rfl rfl (fun C F => ?_)
  refine g_init C F [] [1, 10, 10] rho_X1_init 2 10 0 rfl (by decide) qi_X5_44 (m_X1_init 0) (by decide) (by funext b; rfl) (by funext b; rfl) rfl rfl ⟨rfl, rfl⟩ ⟨by decide, by decide⟩ (Nat.le_of_ble_eq_true rfl) (by decide) (by decide +kernel) (by decide +kernel) (Or.inl (by decide)) rfl rfl (Nat.le_of_ble_eq_true rfl) (Nat.le_of_ble_eq_true rfl) dX5_init_123 (fun ad C F => ?_)
  refine g_nrm C F [5, 14, 13, 33, 2, 11, 11, 1, 10, 10, 1, 10, 10, 1, 10, 10] 16 rfl rfl (fun C F => ?_)
  refine g_aast C 3 7 2 34 1 rfl (by decide) (by decide) (by decide) (by decide) rfl rfl rfl rfl (fun ad _ => ⟨fun x => if x < 2 then some (ad (3 + 4 + 3 * x)) else none, rfl, congrArg (fun f => Sum.inr (Sum.inr (Sum.inr (Sum.inr f)))) (va_up_lt (g := fun x => ad (3 + 4 + 3 * x)) (j := 2)).symm⟩) (T := TX1) (Nf := 5) (Cn := RX1) rfl (fun _ => rfl) rfl (by decide) (by decide) (ix_in (by decide)) dX5_init_126 (fun C => ?_)
  refine g_nrm C F [5, 14, 13, 34, 2, 11, 11, 1, 10, 10, 1, 10, 10, 1, 10, 10] 16 rfl rfl (fun C F => ?_)
  refine g_iinc C 0 [(1, .int (3 : Int32)), (0, .ref 0)] dX5_init_127 rfl (by decide) (by decide) rfl ?_
  refine g_goto C 108 dX5_init_130 (by decide) ?_
  refine g_iload_n C 0 dX5_init_108 rfl ?_
  refine g_bipush C (7 : Int32) dX5_init_109 rfl ?_
  refine g_icmp_ge C 133 dX5_init_111 (by decide) (fun hc => absurd hc (by decide)) (fun _ => ?_)
  refine g_aload_n C 1 dX5_init_114 rfl ?_
  refine g_getR C 4 3 rfl q_X5_27 rfl rfl dX5_init_115 ?_
  refine g_iload_n C 0 dX5_init_118 rfl ?_
  refine g_new C F 1 5 rfl qn_X5_25 (by decide +kernel) rfl rfl (Nat.le_of_ble_eq_true rfl) (Nat.le_of_ble_eq_true rfl) dX5_init_119 (fun ad C F => ?_)
  refine g_nrm C F [5, 14, 13, 34, 2, 11, 11, 1, 10, 10, 1, 10, 10, 1, 10, 10, 101] 17 rfl rfl (fun C F => ?_)
  refine g_dup C rfl dX5_init_122 ?_
  refine g_lp C F (lp := [5, 14, 13, 34, 2, 11, 11, 1, 10, 10, 1, 10, 10, 1, 10, 10]) (cd := 101) (M := 16) rfl rfl (fun C F => ?_)
  refine g_init C F [] [1, 10, 10] rho_X1_init 2 10 0 rfl (by decide) qi_X5_44 (m_X1_init 0) (by decide) (by funext b; rfl) (by funext b; rfl) rfl rfl ⟨rfl, rfl⟩ ⟨by decide, by decide⟩ (Nat.le_of_ble_eq_true rfl) (by decide) (by decide +kernel) (by decide +kernel) (Or.inl (by decide)) rfl rfl (Nat.le_of_ble_eq_true rfl) (Nat.le_of_ble_eq_true rfl) dX5_init_123 (fun ad C F => ?_)
  refine g_nrm C F [5, 14, 13, 34, 2, 11, 11, 1, 10, 10, 1, 10, 10, 1, 10, 10, 1, 10, 10] 19 rfl rfl (fun C F => ?_)
  refine g_aast C 3 7 3 35 1 rfl (by decide) (by decide) (by decide) (by decide) rfl rfl rfl rfl (fun ad _ => ⟨fun x => if x < 3 then some (ad (3 + 4 + 3 * x)) else none, rfl, congrArg (fun f => Sum.inr (Sum.inr (Sum.inr (Sum.inr f)))) (va_up_lt (g := fun x => ad (3 + 4 + 3 * x)) (j := 3)).symm⟩) (T := TX1) (Nf := 5) (Cn := RX1) rfl (fun _ => rfl) rfl (by decide) (by decide) (ix_in (by decide)) dX5_init_126 (fun C => ?_)
  refine g_nrm C F [5, 14, 13, 35, 2, 11, 11, 1, 10, 10, 1, 10, 10, 1, 10, 10, 1, 10, 10] 19 rfl rfl (fun C F => ?_)
  refine g_iinc C 0 [(1, .int (4 : Int32)), (0, .ref 0)] dX5_init_127 rfl (by decide) (by decide) rfl ?_
  refine g_goto C 108 dX5_init_130 (by decide) ?_
  refine g_iload_n C 0 dX5_init_108 rfl ?_
  refine g_bipush C (7 : Int32) dX5_init_109 rfl ?_
  refine g_icmp_ge C 133 dX5_init_111 (by decide) (fun hc => absurd hc (by decide)) (fun _ => ?_)
  refine g_aload_n C 1 dX5_init_114 rfl ?_
  refine g_getR C 4 3 rfl q_X5_27 rfl rfl dX5_init_115 ?_
  refine g_iload_n C 0 dX5_init_118 rfl ?_
  refine g_new C F 1 5 rfl qn_X5_25 (by decide +kernel) rfl rfl (Nat.le_of_ble_eq_true rfl) (Nat.le_of_ble_eq_true rfl) dX5_init_119 (fun ad C F => ?_)
  refine g_nrm C F [5, 14, 13, 35, 2, 11, 11, 1, 10, 10, 1, 10, 10, 1, 10, 10, 1, 10, 10, 101] 20 rfl rfl (fun C F => ?_)
  refine g_dup C rfl dX5_init_122 ?_
  refine g_lp C F (lp := [5, 14, 13, 35, 2, 11, 11, 1, 10, 10, 1, 10, 10, 1, 10, 10, 1, 10, 10]) (cd := 101) (M := 19) rfl rfl (fun C F => ?_)
  refine g_init C F [] [1, 10, 10] rho_X1_init 2 10 0 rfl (by decide) qi_X5_44 (m_X1_init 0) (by decide) (by funext b; rfl) (by funext b; rfl) rfl rfl ⟨rfl, rfl⟩ ⟨by decide, by decide⟩ (Nat.le_of_ble_eq_true rfl) (by decide) (by decide +kernel) (by decide +kernel) (Or.inl (by decide)) rfl rfl (Nat.le_of_ble_eq_true rfl) (Nat.le_of_ble_eq_true rfl) dX5_init_123 (fun ad C F => ?_)
  refine g_nrm C F [5, 14, 13, 35, 2, 11, 11, 1, 10, 10, 1, 10, 10, 1, 10, 10, 1, 10, 10, 1, 10, 10] 22 rfl rfl (fun C F => ?_)
  refine g_aast C 3 7 4 36 1 rfl (by decide) (by decide) (by decide) (by decide) rfl rfl rfl rfl (fun ad _ => ⟨fun x => if x < 4 then some (ad (3 + 4 + 3 * x)) else none, rfl, congrArg (fun f => Sum.inr (Sum.inr (Sum.inr (Sum.inr f)))) (va_up_lt (g := fun x => ad (3 + 4 + 3 * x)) (j := 4)).symm⟩) (T := TX1) (Nf := 5) (Cn := RX1) rfl (fun _ => rfl) rfl (by decide) (by decide) (ix_in (by decide)) dX5_init_126 (fun C => ?_)
  refine g_nrm C F [5, 14, 13, 36, 2, 11, 11, 1, 10, 10, 1, 10, 10, 1, 10, 10, 1, 10, 10, 1, 10, 10] 22 rfl rfl (fun C F => ?_)
  refine g_iinc C 0 [(1, .int (5 : Int32)), (0, .ref 0)] dX5_init_127 rfl (by decide) (by decide) rfl ?_
  refine g_goto C 108 dX5_init_130 (by decide) ?_
  refine g_iload_n C 0 dX5_init_108 rfl ?_
  refine g_bipush C (7 : Int32) dX5_init_109 rfl ?_
  refine g_icmp_ge C 133 dX5_init_111 (by decide) (fun hc => absurd hc (by decide)) (fun _ => ?_)
  refine g_aload_n C 1 dX5_init_114 rfl ?_
  refine g_getR C 4 3 rfl q_X5_27 rfl rfl dX5_init_115 ?_
  refine g_iload_n C 0 dX5_init_118 rfl ?_
  refine g_new C F 1 5 rfl qn_X5_25 (by decide +kernel) rfl rfl (Nat.le_of_ble_eq_true rfl) (Nat.le_of_ble_eq_true rfl) dX5_init_119 (fun ad C F => ?_)
  refine g_nrm C F [5, 14, 13, 36, 2, 11, 11, 1, 10, 10, 1, 10, 10, 1, 10, 10, 1, 10, 10, 1, 10, 10, 101] 23 rfl rfl (fun C F => ?_)
  refine g_dup C rfl dX5_init_122 ?_
  refine g_lp C F (lp := [5, 14, 13, 36, 2, 11, 11, 1, 10, 10, 1, 10, 10, 1, 10, 10, 1, 10, 10, 1, 10, 10]) (cd := 101) (M := 22) rfl rfl (fun C F => ?_)
  refine g_init C F [] [1, 10, 10] rho_X1_init 2 10 0 rfl (by decide) qi_X5_44 (m_X1_init 0) (by decide) (by funext b; rfl) (by funext b; rfl) rfl rfl ⟨rfl, rfl⟩ ⟨by decide, by decide⟩ (Nat.le_of_ble_eq_true rfl) (by decide) (by decide +kernel) (by decide +kernel) (Or.inl (by decide)) rfl rfl (Nat.le_of_ble_eq_true rfl) (Nat.le_of_ble_eq_true rfl) dX5_init_123 (fun ad C F => ?_)
  refine g_nrm C F [5, 14, 13, 36, 2, 11, 11, 1, 10, 10, 1, 10, 10, 1, 10, 10, 1, 10, 10, 1, 10, 10, 1, 10, 10] 25 rfl rfl (fun C F => ?_)
  refine g_aast C 3 7 5 37 1 rfl (by decide) (by decide) (by decide) (by decide) rfl rfl rfl rfl (fun ad _ => ⟨fun x => if x < 5 then some (ad (3 + 4 + 3 * x)) else none, rfl, congrArg (fun f => Sum.inr (Sum.inr (Sum.inr (Sum.inr f)))) (va_up_lt (g := fun x => ad (3 + 4 + 3 * x)) (j := 5)).symm⟩) (T := TX1) (Nf := 5) (Cn := RX1) rfl (fun _ => rfl) rfl (by decide) (by decide) (ix_in (by decide)) dX5_init_126 (fun C => ?_)
  refine g_nrm C F [5, 14, 13, 37, 2, 11, 11, 1, 10, 10, 1, 10, 10, 1, 10, 10, 1, 10, 10, 1, 10, 10, 1, 10, 10] 25 rfl rfl (fun C F => ?_)
  refine g_iinc C 0 [(1, .int (6 : Int32)), (0, .ref 0)] dX5_init_127 rfl (by decide) (by decide) rfl ?_
  refine g_goto C 108 dX5_init_130 (by decide) ?_
  refine g_iload_n C 0 dX5_init_108 rfl ?_
  refine g_bipush C (7 : Int32) dX5_init_109 rfl ?_
  refine g_icmp_ge C 133 dX5_init_111 (by decide) (fun hc => absurd hc (by decide)) (fun _ => ?_)
  refine g_aload_n C 1 dX5_init_114 rfl ?_
  refine g_getR C 4 3 rfl q_X5_27 rfl rfl dX5_init_115 ?_
  refine g_iload_n C 0 dX5_init_118 rfl ?_
  refine g_new C F 1 5 rfl qn_X5_25 (by decide +kernel) rfl rfl (Nat.le_of_ble_eq_true rfl) (Nat.le_of_ble_eq_true rfl) dX5_init_119 (fun ad C F => ?_)
  refine g_nrm C F [5, 14, 13, 37, 2, 11, 11, 1, 10, 10, 1, 10, 10, 1, 10, 10, 1, 10, 10, 1, 10, 10, 1, 10, 10, 101] 26 rfl rfl (fun C F => ?_)
  refine g_dup C rfl dX5_init_122 ?_
  refine g_lp C F (lp := [5, 14, 13, 37, 2, 11, 11, 1, 10, 10, 1, 10, 10, 1, 10, 10, 1, 10, 10, 1, 10, 10, 1, 10, 10]) (cd := 101) (M := 25) rfl rfl (fun C F => ?_)
  refine g_init C F [] [1, 10, 10] rho_X1_init 2 10 0 rfl (by decide) qi_X5_44 (m_X1_init 0) (by decide) (by funext b; rfl) (by funext b; rfl) rfl rfl ⟨rfl, rfl⟩ ⟨by decide, by decide⟩ (Nat.le_of_ble_eq_true rfl) (by decide) (by decide +kernel) (by decide +kernel) (Or.inl (by decide)) rfl rfl (Nat.le_of_ble_eq_true rfl) (Nat.le_of_ble_eq_true rfl) dX5_init_123 (fun ad C F => ?_)
  refine g_nrm C F [5, 14, 13, 37, 2, 11, 11, 1, 10, 10, 1, 10, 10, 1, 10, 10, 1, 10, 10, 1, 10, 10, 1, 10, 10, 1, 10, 10] 28 rfl rfl (fun C F => ?_)
  refine g_aast C 3 7 6 38 1 rfl (by decide) (by decide) (by decide) (by decide) rfl rfl rfl rfl (fun ad _ => ⟨fun x => if x < 6 then some (ad (3 + 4 + 3 * x)) else none, rfl, congrArg (fun f => Sum.inr (Sum.inr (Sum.inr (Sum.inr f)))) (va_up_lt (g := fun x => ad (3 + 4 + 3 * x)) (j := 6)).symm⟩) (T := TX1) (Nf := 5) (Cn := RX1) rfl (fun _ => rfl) rfl (by decide) (by decide) (ix_in (by decide)) dX5_init_126 (fun C => ?_)
  refine g_nrm C F [5, 14, 13, 38, 2, 11, 11, 1, 10, 10, 1, 10, 10, 1, 10, 10, 1, 10, 10, 1, 10, 10, 1, 10, 10, 1, 10, 10] 28 rfl rfl (fun C F => ?_)
  refine g_recode C 3 22 (by decide) (fun _ _ _ => rfl) (fun C => ?_)
  refine g_nrm C F [5, 14, 13, 22, 2, 11, 11, 1, 10, 10, 1, 10, 10, 1, 10, 10, 1, 10, 10, 1, 10, 10, 1, 10, 10, 1, 10, 10] 28 rfl rfl (fun C F => ?_)
  refine g_iinc C 0 [(1, .int (7 : Int32)), (0, .ref 0)] dX5_init_127 rfl (by decide) (by decide) rfl ?_
  refine g_goto C 108 dX5_init_130 (by decide) ?_
  refine g_iload_n C 0 dX5_init_108 rfl ?_
  refine g_bipush C (7 : Int32) dX5_init_109 rfl ?_
  refine g_icmp_ge C 133 dX5_init_111 (by decide) (fun _ => ?_) (fun hc => absurd (by decide) hc)
  exact g_done C F rfl dX5_init_133
def rm_X7_init : Room := { frames := 3, cells := 90, slots := 6874, locals := 81 }
def rho_X7_init : St := (jn (clr (jn (clr (jn (clr (jn (clr (up1 (up2 (up1 (clr (up1 (clr (jn (clr (jn (clr (jn (clr (clr (up1 (jn (clr (jn (clr zst 1) 1 rho_X5_init) 29) 29 rho_X5_init) 0 2 (0 : Int32)) 57) 58) 58 rho_X4_init) 63) 63 rho_X6_init) 70) 70 rho_X0_init) 81) 0 8 (0 : Int32)) 82) 0 10 (0 : Int32)) 0 11 (1 : Int64)) 0 12 (0 : Int32)) 83) 83 rho_X3_init) 85) 85 rho_X3_init) 87) 87 rho_X3_init) 89) 89 rho_X3_init)
set_option maxRecDepth 100000 in
set_option maxHeartbeats 4000000 in
theorem m_X7_init {l : Launch} {D : va_G} {ca : Nat → ClassId} (hw : Nat) : gMi l D ca yX7_init cX7_init 2 rm_X7_init 7 [] hw [7, 5, 14, 13, 22, 2, 11, 11, 1, 10, 10, 1, 10, 10, 1, 10, 10, 1, 10, 10, 1, 10, 10, 1, 10, 10, 1, 10, 10, 5, 14, 13, 22, 2, 11, 11, 1, 10, 10, 1, 10, 10, 1, 10, 10, 1, 10, 10, 1, 10, 10, 1, 10, 10, 1, 10, 10, 23, 4, 21, 2, 11, 11, 6, 19, 11, 11, 2, 11, 11, 0, 11, 11, 11, 14, 14, 16, 18, 18, 20, 17, 12, 11, 3, 15, 3, 15, 3, 15, 3, 15] rho_X7_init 90 6874 := by
  refine gMi_of (exa := []) (by decide) rfl (by decide) (Nat.le_of_ble_eq_true rfl) (fun _ _ => rfl) (fun h0 p e s m args below meth c ad C F hin => ?_)
  refine g_ent (ls' := [(0, .ref 0)]) rfl ?_
  refine g_nrm C F [107] 1 rfl rfl (fun C F => ?_)
  refine g_aload_n C 0 dX7_init_0 rfl ?_
  refine g_objI C qo_X7_1 (by decide) (Nat.le_of_ble_eq_true rfl) dX7_init_1 ?_
  refine g_aload_n C 0 dX7_init_4 rfl ?_
  refine g_new C F 5 6 rfl qn_X7_7 (by decide +kernel) rfl rfl (Nat.le_of_ble_eq_true rfl) (Nat.le_of_ble_eq_true rfl) dX7_init_5 (fun ad C F => ?_)
  refine g_nrm C F [107, 105] 2 rfl rfl (fun C F => ?_)
  refine g_dup C rfl dX7_init_8 ?_
  refine g_lp C F (lp := [107]) (cd := 105) (M := 1) rfl rfl (fun C F => ?_)
  refine g_init C F [] [5, 14, 13, 22, 2, 11, 11, 1, 10, 10, 1, 10, 10, 1, 10, 10, 1, 10, 10, 1, 10, 10, 1, 10, 10, 1, 10, 10] rho_X5_init 27 189 0 rfl (by decide) qi_X7_9 (m_X5_init 0) (by decide) (by funext b; rfl) (by funext b; rfl) rfl rfl ⟨rfl, rfl⟩ ⟨by decide, by decide⟩ (Nat.le_of_ble_eq_true rfl) (by decide) (by decide +kernel) (by decide +kernel) (Or.inl (by decide)) rfl rfl (Nat.le_of_ble_eq_true rfl) (Nat.le_of_ble_eq_true rfl) dX7_init_9 (fun ad C F => ?_)
  refine g_nrm C F [107, 5, 14, 13, 22, 2, 11, 11, 1, 10, 10, 1, 10, 10, 1, 10, 10, 1, 10, 10, 1, 10, 10, 1, 10, 10, 1, 10, 10] 29 rfl rfl (fun C F => ?_)
  refine g_putPR C 0 123 hin rfl (by decide) (by decide) rfl rfl qf_X7_10 (fun _ => rfl) (fun _ => rfl) (by decide) rfl (by decide) dX7_init_12 (fun C => ?_)
  refine g_nrm C F [123, 5, 14, 13, 22, 2, 11, 11, 1, 10, 10, 1, 10, 10, 1, 10, 10, 1, 10, 10, 1, 10, 10, 1, 10, 10, 1, 10, 10] 29 rfl rfl (fun C F => ?_)
  refine g_aload_n C 0 dX7_init_15 rfl ?_
  refine g_new C F 5 6 rfl qn_X7_7 (by decide +kernel) rfl rfl (Nat.le_of_ble_eq_true rfl) (Nat.le_of_ble_eq_true rfl) dX7_init_16 (fun ad C F => ?_)
  refine g_nrm C F [123, 5, 14, 13, 22, 2, 11, 11, 1, 10, 10, 1, 10, 10, 1, 10, 10, 1, 10, 10, 1, 10, 10, 1, 10, 10, 1, 10, 10, 105] 30 rfl rfl (fun C F => ?_)
  refine g_dup C rfl dX7_init_19 ?_
  refine g_lp C F (lp := [123, 5, 14, 13, 22, 2, 11, 11, 1, 10, 10, 1, 10, 10, 1, 10, 10, 1, 10, 10, 1, 10, 10, 1, 10, 10, 1, 10, 10]) (cd := 105) (M := 29) rfl rfl (fun C F => ?_)
  refine g_init C F [] [5, 14, 13, 22, 2, 11, 11, 1, 10, 10, 1, 10, 10, 1, 10, 10, 1, 10, 10, 1, 10, 10, 1, 10, 10, 1, 10, 10] rho_X5_init 27 189 0 rfl (by decide) qi_X7_9 (m_X5_init 0) (by decide) (by funext b; rfl) (by funext b; rfl) rfl rfl ⟨rfl, rfl⟩ ⟨by decide, by decide⟩ (Nat.le_of_ble_eq_true rfl) (by decide) (by decide +kernel) (by decide +kernel) (Or.inl (by decide)) rfl rfl (Nat.le_of_ble_eq_true rfl) (Nat.le_of_ble_eq_true rfl) dX7_init_20 (fun ad C F => ?_)
  refine g_nrm C F [123, 5, 14, 13, 22, 2, 11, 11, 1, 10, 10, 1, 10, 10, 1, 10, 10, 1, 10, 10, 1, 10, 10, 1, 10, 10, 1, 10, 10, 5, 14, 13, 22, 2, 11, 11, 1, 10, 10, 1, 10, 10, 1, 10, 10, 1, 10, 10, 1, 10, 10, 1, 10, 10, 1, 10, 10] 57 rfl rfl (fun C F => ?_)
  refine g_putPR C 1 155 hin rfl (by decide) (by decide) rfl rfl qf_X7_16 (fun _ => rfl) (fun _ => rfl) (by decide) rfl (by decide) dX7_init_23 (fun C => ?_)
  refine g_nrm C F [155, 5, 14, 13, 22, 2, 11, 11, 1, 10, 10, 1, 10, 10, 1, 10, 10, 1, 10, 10, 1, 10, 10, 1, 10, 10, 1, 10, 10, 5, 14, 13, 22, 2, 11, 11, 1, 10, 10, 1, 10, 10, 1, 10, 10, 1, 10, 10, 1, 10, 10, 1, 10, 10, 1, 10, 10] 57 rfl rfl (fun C F => ?_)
  refine g_aload_n C 0 dX7_init_26 rfl ?_
  refine g_iconst C (0 : Int32) dX7_init_27 rfl ?_
  refine g_putPZ C 2 rfl (by decide) rfl qp_X7_19 rfl nz0 rfl dX7_init_28 ?_
  refine g_aload_n C 0 dX7_init_31 rfl ?_
  refine g_iconst C (4 : Int32) dX7_init_32 rfl ?_
  refine g_newq C F 4 39 4 RX3 rfl C.2.2.2.2.2.1.2.2.2 qk_X7_23 (by decide) (by decide) rfl rfl (fun _ => rfl) raO (fun _ _ _ => rfl) (by decide) (by decide) (by decide) (by decide +kernel) rfl rfl (Nat.le_of_ble_eq_true rfl) (Nat.le_of_ble_eq_true rfl) dX7_init_33 (fun ad C F => ?_)
  refine g_nrm C F [155, 5, 14, 13, 22, 2, 11, 11, 1, 10, 10, 1, 10, 10, 1, 10, 10, 1, 10, 10, 1, 10, 10, 1, 10, 10, 1, 10, 10, 5, 14, 13, 22, 2, 11, 11, 1, 10, 10, 1, 10, 10, 1, 10, 10, 1, 10, 10, 1, 10, 10, 1, 10, 10, 1, 10, 10, 39] 58 rfl rfl (fun C F => ?_)
  refine g_putPR C 3 283 hin rfl (by decide) (by decide) rfl rfl qf_X7_25 (fun _ => rfl) (fun _ => rfl) (by decide) rfl (by decide) dX7_init_36 (fun C => ?_)
  refine g_nrm C F [283, 5, 14, 13, 22, 2, 11, 11, 1, 10, 10, 1, 10, 10, 1, 10, 10, 1, 10, 10, 1, 10, 10, 1, 10, 10, 1, 10, 10, 5, 14, 13, 22, 2, 11, 11, 1, 10, 10, 1, 10, 10, 1, 10, 10, 1, 10, 10, 1, 10, 10, 1, 10, 10, 1, 10, 10, 39] 58 rfl rfl (fun C F => ?_)
  refine g_aload_n C 0 dX7_init_39 rfl ?_
  refine g_new C F 4 6 rfl qn_X7_29 (by decide +kernel) rfl rfl (Nat.le_of_ble_eq_true rfl) (Nat.le_of_ble_eq_true rfl) dX7_init_40 (fun ad C F => ?_)
  refine g_nrm C F [283, 5, 14, 13, 22, 2, 11, 11, 1, 10, 10, 1, 10, 10, 1, 10, 10, 1, 10, 10, 1, 10, 10, 1, 10, 10, 1, 10, 10, 5, 14, 13, 22, 2, 11, 11, 1, 10, 10, 1, 10, 10, 1, 10, 10, 1, 10, 10, 1, 10, 10, 1, 10, 10, 1, 10, 10, 39, 104] 59 rfl rfl (fun C F => ?_)
  refine g_dup C rfl dX7_init_43 ?_
  refine g_lp C F (lp := [283, 5, 14, 13, 22, 2, 11, 11, 1, 10, 10, 1, 10, 10, 1, 10, 10, 1, 10, 10, 1, 10, 10, 1, 10, 10, 1, 10, 10, 5, 14, 13, 22, 2, 11, 11, 1, 10, 10, 1, 10, 10, 1, 10, 10, 1, 10, 10, 1, 10, 10, 1, 10, 10, 1, 10, 10, 39]) (cd := 104) (M := 58) rfl rfl (fun C F => ?_)
  refine g_init C F [] [4, 21, 2, 11, 11] rho_X4_init 4 216 0 rfl (by decide) qi_X7_31 (m_X4_init 0) (by decide) (by funext b; rfl) (by funext b; rfl) rfl rfl ⟨rfl, rfl⟩ ⟨by decide, by decide⟩ (Nat.le_of_ble_eq_true rfl) (by decide) (by decide +kernel) (by decide +kernel) (Or.inl (by decide)) rfl rfl (Nat.le_of_ble_eq_true rfl) (Nat.le_of_ble_eq_true rfl) dX7_init_44 (fun ad C F => ?_)
  refine g_nrm C F [283, 5, 14, 13, 22, 2, 11, 11, 1, 10, 10, 1, 10, 10, 1, 10, 10, 1, 10, 10, 1, 10, 10, 1, 10, 10, 1, 10, 10, 5, 14, 13, 22, 2, 11, 11, 1, 10, 10, 1, 10, 10, 1, 10, 10, 1, 10, 10, 1, 10, 10, 1, 10, 10, 1, 10, 10, 39, 4, 21, 2, 11, 11] 63 rfl rfl (fun C F => ?_)
  refine g_putPR C 4 539 hin rfl (by decide) (by decide) rfl rfl qf_X7_32 (fun _ => rfl) (fun _ => rfl) (by decide) rfl (by decide) dX7_init_47 (fun C => ?_)
  refine g_nrm C F [539, 5, 14, 13, 22, 2, 11, 11, 1, 10, 10, 1, 10, 10, 1, 10, 10, 1, 10, 10, 1, 10, 10, 1, 10, 10, 1, 10, 10, 5, 14, 13, 22, 2, 11, 11, 1, 10, 10, 1, 10, 10, 1, 10, 10, 1, 10, 10, 1, 10, 10, 1, 10, 10, 1, 10, 10, 39, 4, 21, 2, 11, 11] 63 rfl rfl (fun C F => ?_)
  refine g_aload_n C 0 dX7_init_50 rfl ?_
  refine g_new C F 6 7 rfl qn_X7_36 (by decide +kernel) rfl rfl (Nat.le_of_ble_eq_true rfl) (Nat.le_of_ble_eq_true rfl) dX7_init_51 (fun ad C F => ?_)
  refine g_nrm C F [539, 5, 14, 13, 22, 2, 11, 11, 1, 10, 10, 1, 10, 10, 1, 10, 10, 1, 10, 10, 1, 10, 10, 1, 10, 10, 1, 10, 10, 5, 14, 13, 22, 2, 11, 11, 1, 10, 10, 1, 10, 10, 1, 10, 10, 1, 10, 10, 1, 10, 10, 1, 10, 10, 1, 10, 10, 39, 4, 21, 2, 11, 11, 106] 64 rfl rfl (fun C F => ?_)
  refine g_dup C rfl dX7_init_54 ?_
  refine g_lp C F (lp := [539, 5, 14, 13, 22, 2, 11, 11, 1, 10, 10, 1, 10, 10, 1, 10, 10, 1, 10, 10, 1, 10, 10, 1, 10, 10, 1, 10, 10, 5, 14, 13, 22, 2, 11, 11, 1, 10, 10, 1, 10, 10, 1, 10, 10, 1, 10, 10, 1, 10, 10, 1, 10, 10, 1, 10, 10, 39, 4, 21, 2, 11, 11]) (cd := 106) (M := 63) rfl rfl (fun C F => ?_)
  refine g_init C F [] [6, 19, 11, 11, 2, 11, 11] rho_X6_init 6 310 0 rfl (by decide) qi_X7_38 (m_X6_init 0) (by decide) (by funext b; rfl) (by funext b; rfl) rfl rfl ⟨rfl, rfl⟩ ⟨by decide, by decide⟩ (Nat.le_of_ble_eq_true rfl) (by decide) (by decide +kernel) (by decide +kernel) (Or.inl (by decide)) rfl rfl (Nat.le_of_ble_eq_true rfl) (Nat.le_of_ble_eq_true rfl) dX7_init_55 (fun ad C F => ?_)
  refine g_nrm C F [539, 5, 14, 13, 22, 2, 11, 11, 1, 10, 10, 1, 10, 10, 1, 10, 10, 1, 10, 10, 1, 10, 10, 1, 10, 10, 1, 10, 10, 5, 14, 13, 22, 2, 11, 11, 1, 10, 10, 1, 10, 10, 1, 10, 10, 1, 10, 10, 1, 10, 10, 1, 10, 10, 1, 10, 10, 39, 4, 21, 2, 11, 11, 6, 19, 11, 11, 2, 11, 11] 70 rfl rfl (fun C F => ?_)
  refine g_putPR C 5 1051 hin rfl (by decide) (by decide) rfl rfl qf_X7_39 (fun _ => rfl) (fun _ => rfl) (by decide) rfl (by decide) dX7_init_58 (fun C => ?_)
  refine g_nrm C F [1051, 5, 14, 13, 22, 2, 11, 11, 1, 10, 10, 1, 10, 10, 1, 10, 10, 1, 10, 10, 1, 10, 10, 1, 10, 10, 1, 10, 10, 5, 14, 13, 22, 2, 11, 11, 1, 10, 10, 1, 10, 10, 1, 10, 10, 1, 10, 10, 1, 10, 10, 1, 10, 10, 1, 10, 10, 39, 4, 21, 2, 11, 11, 6, 19, 11, 11, 2, 11, 11] 70 rfl rfl (fun C F => ?_)
  refine g_aload_n C 0 dX7_init_61 rfl ?_
  refine g_new C F 0 13 rfl qn_X7_43 (by decide +kernel) rfl rfl (Nat.le_of_ble_eq_true rfl) (Nat.le_of_ble_eq_true rfl) dX7_init_62 (fun ad C F => ?_)
  refine g_nrm C F [1051, 5, 14, 13, 22, 2, 11, 11, 1, 10, 10, 1, 10, 10, 1, 10, 10, 1, 10, 10, 1, 10, 10, 1, 10, 10, 1, 10, 10, 5, 14, 13, 22, 2, 11, 11, 1, 10, 10, 1, 10, 10, 1, 10, 10, 1, 10, 10, 1, 10, 10, 1, 10, 10, 1, 10, 10, 39, 4, 21, 2, 11, 11, 6, 19, 11, 11, 2, 11, 11, 100] 71 rfl rfl (fun C F => ?_)
  refine g_dup C rfl dX7_init_65 ?_
  refine g_aload_n C 0 dX7_init_66 rfl ?_
  refine g_getP C 5 63 rfl (by decide) rfl q_X7_39 rfl (by decide) rfl dX7_init_67 ?_
  refine g_lp C F (lp := [1051, 5, 14, 13, 22, 2, 11, 11, 1, 10, 10, 1, 10, 10, 1, 10, 10, 1, 10, 10, 1, 10, 10, 1, 10, 10, 1, 10, 10, 5, 14, 13, 22, 2, 11, 11, 1, 10, 10, 1, 10, 10, 1, 10, 10, 1, 10, 10, 1, 10, 10, 1, 10, 10, 1, 10, 10, 39, 4, 21, 2, 11, 11, 6, 19, 11, 11, 2, 11, 11]) (cd := 100) (M := 70) rfl rfl (fun C F => ?_)
  refine g_init C F [.ref 63] [0, 11, 11, 11, 14, 14, 16, 18, 18, 20, 17] rho_X0_init 10 5645 (ad 63) rfl (by decide) qi_X7_45 (m_X0_init (ad 63)) (by decide) (by funext b; rfl) (by funext b; rfl) rfl rfl ⟨rfl, rfl⟩ ⟨by decide, by decide⟩ (Nat.le_of_ble_eq_true rfl) (by decide) (by decide +kernel) (by decide +kernel) (Or.inr ⟨by decide, by decide, rfl, by decide⟩) rfl rfl (Nat.le_of_ble_eq_true rfl) (Nat.le_of_ble_eq_true rfl) dX7_init_70 (fun ad C F => ?_)
  refine g_nrm C F [1051, 5, 14, 13, 22, 2, 11, 11, 1, 10, 10, 1, 10, 10, 1, 10, 10, 1, 10, 10, 1, 10, 10, 1, 10, 10, 1, 10, 10, 5, 14, 13, 22, 2, 11, 11, 1, 10, 10, 1, 10, 10, 1, 10, 10, 1, 10, 10, 1, 10, 10, 1, 10, 10, 1, 10, 10, 39, 4, 21, 2, 11, 11, 6, 19, 11, 11, 2, 11, 11, 0, 11, 11, 11, 14, 14, 16, 18, 18, 20, 17] 81 rfl rfl (fun C F => ?_)
  refine g_putPR C 6 2075 hin rfl (by decide) (by decide) rfl rfl qf_X7_48 (fun _ => rfl) (fun _ => rfl) (by decide) rfl (by decide) dX7_init_73 (fun C => ?_)
  refine g_nrm C F [2075, 5, 14, 13, 22, 2, 11, 11, 1, 10, 10, 1, 10, 10, 1, 10, 10, 1, 10, 10, 1, 10, 10, 1, 10, 10, 1, 10, 10, 5, 14, 13, 22, 2, 11, 11, 1, 10, 10, 1, 10, 10, 1, 10, 10, 1, 10, 10, 1, 10, 10, 1, 10, 10, 1, 10, 10, 39, 4, 21, 2, 11, 11, 6, 19, 11, 11, 2, 11, 11, 0, 11, 11, 11, 14, 14, 16, 18, 18, 20, 17] 81 rfl rfl (fun C F => ?_)
  refine g_aload_n C 0 dX7_init_76 rfl ?_
  refine g_bipush C (20 : Int32) dX7_init_77 rfl ?_
  refine g_newa C F 0 12 20 rfl .int rfl qw_int ho_12 (by decide) (fun _ => rfl) raI (fun _ _ _ => rfl) (by decide) (by decide) (by decide) (by decide +kernel) rfl rfl (Nat.le_of_ble_eq_true rfl) (Nat.le_of_ble_eq_true rfl) dX7_init_79 (fun ad C F => ?_)
  refine g_nrm C F [2075, 5, 14, 13, 22, 2, 11, 11, 1, 10, 10, 1, 10, 10, 1, 10, 10, 1, 10, 10, 1, 10, 10, 1, 10, 10, 1, 10, 10, 5, 14, 13, 22, 2, 11, 11, 1, 10, 10, 1, 10, 10, 1, 10, 10, 1, 10, 10, 1, 10, 10, 1, 10, 10, 1, 10, 10, 39, 4, 21, 2, 11, 11, 6, 19, 11, 11, 2, 11, 11, 0, 11, 11, 11, 14, 14, 16, 18, 18, 20, 17, 12] 82 rfl rfl (fun C F => ?_)
  refine g_putPR C 7 4123 hin rfl (by decide) (by decide) rfl rfl qf_X7_52 (fun _ => rfl) (fun _ => rfl) (by decide) rfl (by decide) dX7_init_81 (fun C => ?_)
  refine g_nrm C F [4123, 5, 14, 13, 22, 2, 11, 11, 1, 10, 10, 1, 10, 10, 1, 10, 10, 1, 10, 10, 1, 10, 10, 1, 10, 10, 1, 10, 10, 5, 14, 13, 22, 2, 11, 11, 1, 10, 10, 1, 10, 10, 1, 10, 10, 1, 10, 10, 1, 10, 10, 1, 10, 10, 1, 10, 10, 39, 4, 21, 2, 11, 11, 6, 19, 11, 11, 2, 11, 11, 0, 11, 11, 11, 14, 14, 16, 18, 18, 20, 17, 12] 82 rfl rfl (fun C F => ?_)
  refine g_aload_n C 0 dX7_init_84 rfl ?_
  refine g_iconst C (0 : Int32) dX7_init_85 rfl ?_
  refine g_putPI C 8 rfl (by decide) rfl qp_X7_56 rfl dX7_init_86 ?_
  refine g_aload_n C 0 dX7_init_89 rfl ?_
  refine g_bipush C (7 : Int32) dX7_init_90 rfl ?_
  refine g_newa C F 0 11 7 rfl .int rfl qw_int ho_11 (by decide) (fun _ => rfl) raI (fun _ _ _ => rfl) (by decide) (by decide) (by decide) (by decide +kernel) rfl rfl (Nat.le_of_ble_eq_true rfl) (Nat.le_of_ble_eq_true rfl) dX7_init_92 (fun ad C F => ?_)
  refine g_nrm C F [4123, 5, 14, 13, 22, 2, 11, 11, 1, 10, 10, 1, 10, 10, 1, 10, 10, 1, 10, 10, 1, 10, 10, 1, 10, 10, 1, 10, 10, 5, 14, 13, 22, 2, 11, 11, 1, 10, 10, 1, 10, 10, 1, 10, 10, 1, 10, 10, 1, 10, 10, 1, 10, 10, 1, 10, 10, 39, 4, 21, 2, 11, 11, 6, 19, 11, 11, 2, 11, 11, 0, 11, 11, 11, 14, 14, 16, 18, 18, 20, 17, 12, 11] 83 rfl rfl (fun C F => ?_)
  refine g_putPR C 9 12315 hin rfl (by decide) (by decide) rfl rfl qf_X7_60 (fun _ => rfl) (fun _ => rfl) (by decide) rfl (by decide) dX7_init_94 (fun C => ?_)
  refine g_nrm C F [12315, 5, 14, 13, 22, 2, 11, 11, 1, 10, 10, 1, 10, 10, 1, 10, 10, 1, 10, 10, 1, 10, 10, 1, 10, 10, 1, 10, 10, 5, 14, 13, 22, 2, 11, 11, 1, 10, 10, 1, 10, 10, 1, 10, 10, 1, 10, 10, 1, 10, 10, 1, 10, 10, 1, 10, 10, 39, 4, 21, 2, 11, 11, 6, 19, 11, 11, 2, 11, 11, 0, 11, 11, 11, 14, 14, 16, 18, 18, 20, 17, 12, 11] 83 rfl rfl (fun C F => ?_)
  refine g_recode C 0 7 (by decide) (g_full (c0 := 7) (ms := 763) (by decide) (by decide)) (fun C => ?_)
  refine g_nrm C F [7, 5, 14, 13, 22, 2, 11, 11, 1, 10, 10, 1, 10, 10, 1, 10, 10, 1, 10, 10, 1, 10, 10, 1, 10, 10, 1, 10, 10, 5, 14, 13, 22, 2, 11, 11, 1, 10, 10, 1, 10, 10, 1, 10, 10, 1, 10, 10, 1, 10, 10, 1, 10, 10, 1, 10, 10, 39, 4, 21, 2, 11, 11, 6, 19, 11, 11, 2, 11, 11, 0, 11, 11, 11, 14, 14, 16, 18, 18, 20, 17, 12, 11] 83 rfl rfl (fun C F => ?_)
  refine g_aload_n C 0 dX7_init_97 rfl ?_
  refine g_iconst C (0 : Int32) dX7_init_98 rfl ?_
  refine g_putZ C 10 rfl qp_X7_63 rfl nz0 rfl dX7_init_99 ?_
  refine g_aload_n C 0 dX7_init_102 rfl ?_
  refine g_lconst C (1 : Int64) dX7_init_103 rfl ?_
  refine g_putL C 11 rfl qp_X7_66 rfl dX7_init_104 ?_
  refine g_aload_n C 0 dX7_init_107 rfl ?_
  refine g_iconst C (0 : Int32) dX7_init_108 rfl ?_
  refine g_putI C 12 rfl qp_X7_70 rfl dX7_init_109 ?_
  refine g_iconst C (0 : Int32) dX7_init_112 rfl ?_
  refine g_istore_n C [(1, .int (0 : Int32)), (0, .ref 0)] dX7_init_113 (by decide) rfl ?_
  refine g_iload_n C 0 dX7_init_114 rfl ?_
  refine g_iconst C (4 : Int32) dX7_init_115 rfl ?_
  refine g_icmp_ge C 138 dX7_init_116 (by decide) (fun hc => absurd hc (by decide)) (fun _ => ?_)
  refine g_aload_n C 1 dX7_init_119 rfl ?_
  refine g_getR C 3 57 rfl q_X7_25 rfl rfl dX7_init_120 ?_
  refine g_iload_n C 0 dX7_init_123 rfl ?_
  refine g_new C F 3 4 rfl qn_X7_23 (by decide +kernel) rfl rfl (Nat.le_of_ble_eq_true rfl) (Nat.le_of_ble_eq_true rfl) dX7_init_124 (fun ad C F => ?_)
  refine g_nrm C F [7, 5, 14, 13, 22, 2, 11, 11, 1, 10, 10, 1, 10, 10, 1, 10, 10, 1, 10, 10, 1, 10, 10, 1, 10, 10, 1, 10, 10, 5, 14, 13, 22, 2, 11, 11, 1, 10, 10, 1, 10, 10, 1, 10, 10, 1, 10, 10, 1, 10, 10, 1, 10, 10, 1, 10, 10, 39, 4, 21, 2, 11, 11, 6, 19, 11, 11, 2, 11, 11, 0, 11, 11, 11, 14, 14, 16, 18, 18, 20, 17, 12, 11, 103] 84 rfl rfl (fun C F => ?_)
  refine g_dup C rfl dX7_init_127 ?_
  refine g_lp C F (lp := [7, 5, 14, 13, 22, 2, 11, 11, 1, 10, 10, 1, 10, 10, 1, 10, 10, 1, 10, 10, 1, 10, 10, 1, 10, 10, 1, 10, 10, 5, 14, 13, 22, 2, 11, 11, 1, 10, 10, 1, 10, 10, 1, 10, 10, 1, 10, 10, 1, 10, 10, 1, 10, 10, 1, 10, 10, 39, 4, 21, 2, 11, 11, 6, 19, 11, 11, 2, 11, 11, 0, 11, 11, 11, 14, 14, 16, 18, 18, 20, 17, 12, 11]) (cd := 103) (M := 83) rfl rfl (fun C F => ?_)
  refine g_init C F [] [3, 15] rho_X3_init 1 60 0 rfl (by decide) qi_X7_73 (m_X3_init 0) (by decide) (by funext b; rfl) (by funext b; rfl) rfl rfl ⟨rfl, rfl⟩ ⟨by decide, by decide⟩ (Nat.le_of_ble_eq_true rfl) (by decide) (by decide +kernel) (by decide +kernel) (Or.inl (by decide)) rfl rfl (Nat.le_of_ble_eq_true rfl) (Nat.le_of_ble_eq_true rfl) dX7_init_128 (fun ad C F => ?_)
  refine g_nrm C F [7, 5, 14, 13, 22, 2, 11, 11, 1, 10, 10, 1, 10, 10, 1, 10, 10, 1, 10, 10, 1, 10, 10, 1, 10, 10, 1, 10, 10, 5, 14, 13, 22, 2, 11, 11, 1, 10, 10, 1, 10, 10, 1, 10, 10, 1, 10, 10, 1, 10, 10, 1, 10, 10, 1, 10, 10, 39, 4, 21, 2, 11, 11, 6, 19, 11, 11, 2, 11, 11, 0, 11, 11, 11, 14, 14, 16, 18, 18, 20, 17, 12, 11, 3, 15] 85 rfl rfl (fun C F => ?_)
  refine g_aast C 4 4 0 40 3 rfl (by decide) (by decide) (by decide) (by decide) rfl rfl rfl rfl (fun ad _ => ⟨fun x => if x < 0 then some (ad (57 + 26 + 2 * x)) else none, rfl, congrArg (fun f => Sum.inr (Sum.inr (Sum.inr (Sum.inr f)))) (va_up_lt (g := fun x => ad (57 + 26 + 2 * x)) (j := 0)).symm⟩) (T := TX3) (Nf := 4) (Cn := RX3) rfl (fun _ => rfl) rfl (by decide) (by decide) (ix_in (by decide)) dX7_init_131 (fun C => ?_)
  refine g_nrm C F [7, 5, 14, 13, 22, 2, 11, 11, 1, 10, 10, 1, 10, 10, 1, 10, 10, 1, 10, 10, 1, 10, 10, 1, 10, 10, 1, 10, 10, 5, 14, 13, 22, 2, 11, 11, 1, 10, 10, 1, 10, 10, 1, 10, 10, 1, 10, 10, 1, 10, 10, 1, 10, 10, 1, 10, 10, 40, 4, 21, 2, 11, 11, 6, 19, 11, 11, 2, 11, 11, 0, 11, 11, 11, 14, 14, 16, 18, 18, 20, 17, 12, 11, 3, 15] 85 rfl rfl (fun C F => ?_)
  refine g_iinc C 0 [(1, .int (1 : Int32)), (0, .ref 0)] dX7_init_132 rfl (by decide) (by decide) rfl ?_
  refine g_goto C 114 dX7_init_135 (by decide) ?_
  refine g_iload_n C 0 dX7_init_114 rfl ?_
  refine g_iconst C (4 : Int32) dX7_init_115 rfl ?_
  refine g_icmp_ge C 138 dX7_init_116 (by decide) (fun hc => absurd hc (by decide)) (fun _ => ?_)
  refine g_aload_n C 1 dX7_init_119 rfl ?_
  refine g_getR C 3 57 rfl q_X7_25 rfl rfl dX7_init_120 ?_
  refine g_iload_n C 0 dX7_init_123 rfl ?_
  refine g_new C F 3 4 rfl qn_X7_23 (by decide +kernel) rfl rfl (Nat.le_of_ble_eq_true rfl) (Nat.le_of_ble_eq_true rfl) dX7_init_124 (fun ad C F => ?_)
  refine g_nrm C F [7, 5, 14, 13, 22, 2, 11, 11, 1, 10, 10, 1, 10, 10, 1, 10, 10, 1, 10, 10, 1, 10, 10, 1, 10, 10, 1, 10, 10, 5, 14, 13, 22, 2, 11, 11, 1, 10, 10, 1, 10, 10, 1, 10, 10, 1, 10, 10, 1, 10, 10, 1, 10, 10, 1, 10, 10, 40, 4, 21, 2, 11, 11, 6, 19, 11, 11, 2, 11, 11, 0, 11, 11, 11, 14, 14, 16, 18, 18, 20, 17, 12, 11, 3, 15, 103] 86 rfl rfl (fun C F => ?_)
  refine g_dup C rfl dX7_init_127 ?_
  refine g_lp C F (lp := [7, 5, 14, 13, 22, 2, 11, 11, 1, 10, 10, 1, 10, 10, 1, 10, 10, 1, 10, 10, 1, 10, 10, 1, 10, 10, 1, 10, 10, 5, 14, 13, 22, 2, 11, 11, 1, 10, 10, 1, 10, 10, 1, 10, 10, 1, 10, 10, 1, 10, 10, 1, 10, 10, 1, 10, 10, 40, 4, 21, 2, 11, 11, 6, 19, 11, 11, 2, 11, 11, 0, 11, 11, 11, 14, 14, 16, 18, 18, 20, 17, 12, 11, 3, 15]) (cd := 103) (M := 85) rfl rfl (fun C F => ?_)
  refine g_init C F [] [3, 15] rho_X3_init 1 60 0 rfl (by decide) qi_X7_73 (m_X3_init 0) (by decide) (by funext b; rfl) (by funext b; rfl) rfl rfl ⟨rfl, rfl⟩ ⟨by decide, by decide⟩ (Nat.le_of_ble_eq_true rfl) (by decide) (by decide +kernel) (by decide +kernel) (Or.inl (by decide)) rfl rfl (Nat.le_of_ble_eq_true rfl) (Nat.le_of_ble_eq_true rfl) dX7_init_128 (fun ad C F => ?_)
  refine g_nrm C F [7, 5, 14, 13, 22, 2, 11, 11, 1, 10, 10, 1, 10, 10, 1, 10, 10, 1, 10, 10, 1, 10, 10, 1, 10, 10, 1, 10, 10, 5, 14, 13, 22, 2, 11, 11, 1, 10, 10, 1, 10, 10, 1, 10, 10, 1, 10, 10, 1, 10, 10, 1, 10, 10, 1, 10, 10, 40, 4, 21, 2, 11, 11, 6, 19, 11, 11, 2, 11, 11, 0, 11, 11, 11, 14, 14, 16, 18, 18, 20, 17, 12, 11, 3, 15, 3, 15] 87 rfl rfl (fun C F => ?_)
  refine g_aast C 4 4 1 41 3 rfl (by decide) (by decide) (by decide) (by decide) rfl rfl rfl rfl (fun ad _ => ⟨fun x => if x < 1 then some (ad (57 + 26 + 2 * x)) else none, rfl, congrArg (fun f => Sum.inr (Sum.inr (Sum.inr (Sum.inr f)))) (va_up_lt (g := fun x => ad (57 + 26 + 2 * x)) (j := 1)).symm⟩) (T := TX3) (Nf := 4) (Cn := RX3) rfl (fun _ => rfl) rfl (by decide) (by decide) (ix_in (by decide)) dX7_init_131 (fun C => ?_)
  refine g_nrm C F [7, 5, 14, 13, 22, 2, 11, 11, 1, 10, 10, 1, 10, 10, 1, 10, 10, 1, 10, 10, 1, 10, 10, 1, 10, 10, 1, 10, 10, 5, 14, 13, 22, 2, 11, 11, 1, 10, 10, 1, 10, 10, 1, 10, 10, 1, 10, 10, 1, 10, 10, 1, 10, 10, 1, 10, 10, 41, 4, 21, 2, 11, 11, 6, 19, 11, 11, 2, 11, 11, 0, 11, 11, 11, 14, 14, 16, 18, 18, 20, 17, 12, 11, 3, 15, 3, 15] 87 rfl rfl (fun C F => ?_)
  refine g_iinc C 0 [(1, .int (2 : Int32)), (0, .ref 0)] dX7_init_132 rfl (by decide) (by decide) rfl ?_
  refine g_goto C 114 dX7_init_135 (by decide) ?_
  refine g_iload_n C 0 dX7_init_114 rfl ?_
  refine g_iconst C (4 : Int32) dX7_init_115 rfl ?_
  refine g_icmp_ge C 138 dX7_init_116 (by decide) (fun hc => absurd hc (by decide)) (fun _ => ?_)
  refine g_aload_n C 1 dX7_init_119 rfl ?_
  refine g_getR C 3 57 rfl q_X7_25 rfl rfl dX7_init_120 ?_
  refine g_iload_n C 0 dX7_init_123 rfl ?_
  refine g_new C F 3 4 rfl qn_X7_23 (by decide +kernel) rfl rfl (Nat.le_of_ble_eq_true rfl) (Nat.le_of_ble_eq_true rfl) dX7_init_124 (fun ad C F => ?_)
  refine g_nrm C F [7, 5, 14, 13, 22, 2, 11, 11, 1, 10, 10, 1, 10, 10, 1, 10, 10, 1, 10, 10, 1, 10, 10, 1, 10, 10, 1, 10, 10, 5, 14, 13, 22, 2, 11, 11, 1, 10, 10, 1, 10, 10, 1, 10, 10, 1, 10, 10, 1, 10, 10, 1, 10, 10, 1, 10, 10, 41, 4, 21, 2, 11, 11, 6, 19, 11, 11, 2, 11, 11, 0, 11, 11, 11, 14, 14, 16, 18, 18, 20, 17, 12, 11, 3, 15, 3, 15, 103] 88 rfl rfl (fun C F => ?_)
  refine g_dup C rfl dX7_init_127 ?_
  refine g_lp C F (lp := [7, 5, 14, 13, 22, 2, 11, 11, 1, 10, 10, 1, 10, 10, 1, 10, 10, 1, 10, 10, 1, 10, 10, 1, 10, 10, 1, 10, 10, 5, 14, 13, 22, 2, 11, 11, 1, 10, 10, 1, 10, 10, 1, 10, 10, 1, 10, 10, 1, 10, 10, 1, 10, 10, 1, 10, 10, 41, 4, 21, 2, 11, 11, 6, 19, 11, 11, 2, 11, 11, 0, 11, 11, 11, 14, 14, 16, 18, 18, 20, 17, 12, 11, 3, 15, 3, 15]) (cd := 103) (M := 87) rfl rfl (fun C F => ?_)
  refine g_init C F [] [3, 15] rho_X3_init 1 60 0 rfl (by decide) qi_X7_73 (m_X3_init 0) (by decide) (by funext b; rfl) (by funext b; rfl) rfl rfl ⟨rfl, rfl⟩ ⟨by decide, by decide⟩ (Nat.le_of_ble_eq_true rfl) (by decide) (by decide +kernel) (by decide +kernel) (Or.inl (by decide)) rfl rfl (Nat.le_of_ble_eq_true rfl) (Nat.le_of_ble_eq_true rfl) dX7_init_128 (fun ad C F => ?_)
  refine g_nrm C F [7, 5, 14, 13, 22, 2, 11, 11, 1, 10, 10, 1, 10, 10, 1, 10, 10, 1, 10, 10, 1, 10, 10, 1, 10, 10, 1, 10, 10, 5, 14, 13, 22, 2, 11, 11, 1, 10, 10, 1, 10, 10, 1, 10, 10, 1, 10, 10, 1, 10, 10, 1, 10, 10, 1, 10, 10, 41, 4, 21, 2, 11, 11, 6, 19, 11, 11, 2, 11, 11, 0, 11, 11, 11, 14, 14, 16, 18, 18, 20, 17, 12, 11, 3, 15, 3, 15, 3, 15] 89 rfl rfl (fun C F => ?_)
  refine g_aast C 4 4 2 42 3 rfl (by decide) (by decide) (by decide) (by decide) rfl rfl rfl rfl (fun ad _ => ⟨fun x => if x < 2 then some (ad (57 + 26 + 2 * x)) else none, rfl, congrArg (fun f => Sum.inr (Sum.inr (Sum.inr (Sum.inr f)))) (va_up_lt (g := fun x => ad (57 + 26 + 2 * x)) (j := 2)).symm⟩) (T := TX3) (Nf := 4) (Cn := RX3) rfl (fun _ => rfl) rfl (by decide) (by decide) (ix_in (by decide)) dX7_init_131 (fun C => ?_)
  refine g_nrm C F [7, 5, 14, 13, 22, 2, 11, 11, 1, 10, 10, 1, 10, 10, 1, 10, 10, 1, 10, 10, 1, 10, 10, 1, 10, 10, 1, 10, 10, 5, 14, 13, 22, 2, 11, 11, 1, 10, 10, 1, 10, 10, 1, 10, 10, 1, 10, 10, 1, 10, 10, 1, 10, 10, 1, 10, 10, 42, 4, 21, 2, 11, 11, 6, 19, 11, 11, 2, 11, 11, 0, 11, 11, 11, 14, 14, 16, 18, 18, 20, 17, 12, 11, 3, 15, 3, 15, 3, 15] 89 rfl rfl (fun C F => ?_)
  refine g_iinc C 0 [(1, .int (3 : Int32)), (0, .ref 0)] dX7_init_132 rfl (by decide) (by decide) rfl ?_
  refine g_goto C 114 dX7_init_135 (by decide) ?_
  refine g_iload_n C 0 dX7_init_114 rfl ?_
  refine g_iconst C (4 : Int32) dX7_init_115 rfl ?_
  refine g_icmp_ge C 138 dX7_init_116 (by decide) (fun hc => absurd hc (by decide)) (fun _ => ?_)
  refine g_aload_n C 1 dX7_init_119 rfl ?_
  refine g_getR C 3 57 rfl q_X7_25 rfl rfl dX7_init_120 ?_
  refine g_iload_n C 0 dX7_init_123 rfl ?_
  refine g_new C F 3 4 rfl qn_X7_23 (by decide +kernel) rfl rfl (Nat.le_of_ble_eq_true rfl) (Nat.le_of_ble_eq_true rfl) dX7_init_124 (fun ad C F => ?_)
  refine g_nrm C F [7, 5, 14, 13, 22, 2, 11, 11, 1, 10, 10, 1, 10, 10, 1, 10, 10, 1, 10, 10, 1, 10, 10, 1, 10, 10, 1, 10, 10, 5, 14, 13, 22, 2, 11, 11, 1, 10, 10, 1, 10, 10, 1, 10, 10, 1, 10, 10, 1, 10, 10, 1, 10, 10, 1, 10, 10, 42, 4, 21, 2, 11, 11, 6, 19, 11, 11, 2, 11, 11, 0, 11, 11, 11, 14, 14, 16, 18, 18, 20, 17, 12, 11, 3, 15, 3, 15, 3, 15, 103] 90 rfl rfl (fun C F => ?_)
  refine g_dup C rfl dX7_init_127 ?_
  refine g_lp C F (lp := [7, 5, 14, 13, 22, 2, 11, 11, 1, 10, 10, 1, 10, 10, 1, 10, 10, 1, 10, 10, 1, 10, 10, 1, 10, 10, 1, 10, 10, 5, 14, 13, 22, 2, 11, 11, 1, 10, 10, 1, 10, 10, 1, 10, 10, 1, 10, 10, 1, 10, 10, 1, 10, 10, 1, 10, 10, 42, 4, 21, 2, 11, 11, 6, 19, 11, 11, 2, 11, 11, 0, 11, 11, 11, 14, 14, 16, 18, 18, 20, 17, 12, 11, 3, 15, 3, 15, 3, 15]) (cd := 103) (M := 89) rfl rfl (fun C F => ?_)
  refine g_init C F [] [3, 15] rho_X3_init 1 60 0 rfl (by decide) qi_X7_73 (m_X3_init 0) (by decide) (by funext b; rfl) (by funext b; rfl) rfl rfl ⟨rfl, rfl⟩ ⟨by decide, by decide⟩ (Nat.le_of_ble_eq_true rfl) (by decide) (by decide +kernel) (by decide +kernel) (Or.inl (by decide)) rfl rfl (Nat.le_of_ble_eq_true rfl) (Nat.le_of_ble_eq_true rfl) dX7_init_128 (fun ad C F => ?_)
  refine g_nrm C F [7, 5, 14, 13, 22, 2, 11, 11, 1, 10, 10, 1, 10, 10, 1, 10, 10, 1, 10, 10, 1, 10, 10, 1, 10, 10, 1, 10, 10, 5, 14, 13, 22, 2, 11, 11, 1, 10, 10, 1, 10, 10, 1, 10, 10, 1, 10, 10, 1, 10, 10, 1, 10, 10, 1, 10, 10, 42, 4, 21, 2, 11, 11, 6, 19, 11, 11, 2, 11, 11, 0, 11, 11, 11, 14, 14, 16, 18, 18, 20, 17, 12, 11, 3, 15, 3, 15, 3, 15, 3, 15] 91 rfl rfl (fun C F => ?_)
  refine g_aast C 4 4 3 43 3 rfl (by decide) (by decide) (by decide) (by decide) rfl rfl rfl rfl (fun ad _ => ⟨fun x => if x < 3 then some (ad (57 + 26 + 2 * x)) else none, rfl, congrArg (fun f => Sum.inr (Sum.inr (Sum.inr (Sum.inr f)))) (va_up_lt (g := fun x => ad (57 + 26 + 2 * x)) (j := 3)).symm⟩) (T := TX3) (Nf := 4) (Cn := RX3) rfl (fun _ => rfl) rfl (by decide) (by decide) (ix_in (by decide)) dX7_init_131 (fun C => ?_)
  refine g_nrm C F [7, 5, 14, 13, 22, 2, 11, 11, 1, 10, 10, 1, 10, 10, 1, 10, 10, 1, 10, 10, 1, 10, 10, 1, 10, 10, 1, 10, 10, 5, 14, 13, 22, 2, 11, 11, 1, 10, 10, 1, 10, 10, 1, 10, 10, 1, 10, 10, 1, 10, 10, 1, 10, 10, 1, 10, 10, 43, 4, 21, 2, 11, 11, 6, 19, 11, 11, 2, 11, 11, 0, 11, 11, 11, 14, 14, 16, 18, 18, 20, 17, 12, 11, 3, 15, 3, 15, 3, 15, 3, 15] 91 rfl rfl (fun C F => ?_)
  refine g_recode C 57 23 (by decide) (fun _ _ _ => rfl) (fun C => ?_)
  refine g_nrm C F [7, 5, 14, 13, 22, 2, 11, 11, 1, 10, 10, 1, 10, 10, 1, 10, 10, 1, 10, 10, 1, 10, 10, 1, 10, 10, 1, 10, 10, 5, 14, 13, 22, 2, 11, 11, 1, 10, 10, 1, 10, 10, 1, 10, 10, 1, 10, 10, 1, 10, 10, 1, 10, 10, 1, 10, 10, 23, 4, 21, 2, 11, 11, 6, 19, 11, 11, 2, 11, 11, 0, 11, 11, 11, 14, 14, 16, 18, 18, 20, 17, 12, 11, 3, 15, 3, 15, 3, 15, 3, 15] 91 rfl rfl (fun C F => ?_)
  refine g_iinc C 0 [(1, .int (4 : Int32)), (0, .ref 0)] dX7_init_132 rfl (by decide) (by decide) rfl ?_
  refine g_goto C 114 dX7_init_135 (by decide) ?_
  refine g_iload_n C 0 dX7_init_114 rfl ?_
  refine g_iconst C (4 : Int32) dX7_init_115 rfl ?_
  refine g_icmp_ge C 138 dX7_init_116 (by decide) (fun _ => ?_) (fun hc => absurd (by decide) hc)
  exact g_done C F rfl dX7_init_138
