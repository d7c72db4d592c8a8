theorem inX0 : ∀ w ∈ u_ws RX0 TX0 13, w ∈ gtb := fun w hw => gi ((by decide +kernel : ∀ w ∈ u_ws RX0 TX0 13, w ∈ lw_tbl) w hw) (List.all_eq_true.mp (by decide +kernel : (u_ws RX0 TX0 13).all goodWord = true) w hw)
theorem inX1 : ∀ w ∈ u_ws RX1 TX1 5, w ∈ gtb := fun w hw => gi ((by decide +kernel : ∀ w ∈ u_ws RX1 TX1 5, w ∈ lw_tbl) w hw) (List.all_eq_true.mp (by decide +kernel : (u_ws RX1 TX1 5).all goodWord = true) w hw)
theorem inX2 : ∀ w ∈ u_ws RX2 TX2 2, w ∈ gtb := fun w hw => gi ((by decide +kernel : ∀ w ∈ u_ws RX2 TX2 2, w ∈ lw_tbl) w hw) (List.all_eq_true.mp (by decide +kernel : (u_ws RX2 TX2 2).all goodWord = true) w hw)
theorem inX3 : ∀ w ∈ u_ws RX3 TX3 4, w ∈ gtb := fun w hw => gi ((by decide +kernel : ∀ w ∈ u_ws RX3 TX3 4, w ∈ lw_tbl) w hw) (List.all_eq_true.mp (by decide +kernel : (u_ws RX3 TX3 4).all goodWord = true) w hw)
theorem inX4 : ∀ w ∈ u_ws RX4 TX4 6, w ∈ gtb := fun w hw => gi ((by decide +kernel : ∀ w ∈ u_ws RX4 TX4 6, w ∈ lw_tbl) w hw) (List.all_eq_true.mp (by decide +kernel : (u_ws RX4 TX4 6).all goodWord = true) w hw)
theorem inX5 : ∀ w ∈ u_ws RX5 TX5 6, w ∈ gtb := fun w hw => gi ((by decide +kernel : ∀ w ∈ u_ws RX5 TX5 6, w ∈ lw_tbl) w hw) (List.all_eq_true.mp (by decide +kernel : (u_ws RX5 TX5 6).all goodWord = true) w hw)
theorem inX6 : ∀ w ∈ u_ws RX6 TX6 7, w ∈ gtb := fun w hw => gi ((by decide +kernel : ∀ w ∈ u_ws RX6 TX6 7, w ∈ lw_tbl) w hw) (List.all_eq_true.mp (by decide +kernel : (u_ws RX6 TX6 7).all goodWord = true) w hw)
theorem inX7 : ∀ w ∈ u_ws RX7 TX7 13, w ∈ gtb := fun w hw => gi ((by decide +kernel : ∀ w ∈ u_ws RX7 TX7 13, w ∈ lw_tbl) w hw) (List.all_eq_true.mp (by decide +kernel : (u_ws RX7 TX7 13).all goodWord = true) w hw)
theorem inX8 : ∀ w ∈ u_ws RX8 TX8 37, w ∈ gtb := fun w hw => gi ((by decide +kernel : ∀ w ∈ u_ws RX8 TX8 37, w ∈ lw_tbl) w hw) (List.all_eq_true.mp (by decide +kernel : (u_ws RX8 TX8 37).all goodWord = true) w hw)
theorem ho_10 : gok 10 0 5 := ⟨by decide, by decide, rfl, rfl⟩
theorem ho_11 : gok 11 0 7 := ⟨by decide, by decide, rfl, rfl⟩
theorem ho_12 : gok 12 0 20 := ⟨by decide, by decide, rfl, rfl⟩
theorem ho_13 : gok 13 0 21 := ⟨by decide, by decide, rfl, rfl⟩
theorem ho_14 : gok 14 0 40 := ⟨by decide, by decide, rfl, rfl⟩
theorem ho_15 : gok 15 0 60 := ⟨by decide, by decide, rfl, rfl⟩
theorem ho_16 : gok 16 0 128 := ⟨by decide, by decide, rfl, rfl⟩
theorem ho_17 : gok 17 1 40 := ⟨by decide, by decide, rfl, rfl⟩
theorem ho_18 : gok 18 1 128 := ⟨by decide, by decide, rfl, rfl⟩
theorem ho_19 : gok 19 1 280 := ⟨by decide, by decide, rfl, rfl⟩
theorem ho_20 : gok 20 1 5120 := ⟨by decide, by decide, rfl, rfl⟩
theorem ho_21 : gok 21 2 200 := ⟨by decide, by decide, rfl, rfl⟩
theorem ho_22 : gok 22 3 7 := ⟨by decide, by decide, rfl, rfl⟩
theorem ho_23 : gok 23 4 4 := ⟨by decide, by decide, rfl, rfl⟩
theorem ho_24 : gok 24 0 35 := ⟨by decide, by decide, rfl, rfl⟩
theorem ho_25 : gok 25 0 49 := ⟨by decide, by decide, rfl, rfl⟩
theorem ho_26 : gok 26 0 260 := ⟨by decide, by decide, rfl, rfl⟩
theorem ho_27 : gok 27 0 4 := ⟨by decide, by decide, rfl, rfl⟩
theorem ho_28 : gok 28 0 240 := ⟨by decide, by decide, rfl, rfl⟩
theorem ho_29 : gok 29 0 200 := ⟨by decide, by decide, rfl, rfl⟩
theorem ho_30 : gok 30 0 2 := ⟨by decide, by decide, rfl, rfl⟩
theorem sc_1_3 {k : Nat} (h : LC k = 1) : LC (k + 1) = 10 := sh_fin (P := fun k _ => LC (k + 1) = 10) (c := 1) (by decide +kernel) (by decide) h
theorem sc_1_4 {k : Nat} (h : LC k = 1) : LC (k + 2) = 10 := sh_fin (P := fun k _ => LC (k + 2) = 10) (c := 1) (by decide +kernel) (by decide) h
theorem sc_2_0 {k : Nat} (h : LC k = 2) : LC (k + 1) = 11 := sh_fin (P := fun k _ => LC (k + 1) = 11) (c := 2) (by decide +kernel) (by decide) h
theorem sc_2_1 {k : Nat} (h : LC k = 2) : LC (k + 2) = 11 := sh_fin (P := fun k _ => LC (k + 2) = 11) (c := 2) (by decide +kernel) (by decide) h
theorem sc_3_3 {k : Nat} (h : LC k = 3) : LC (k + 1) = 15 := sh_fin (P := fun k _ => LC (k + 1) = 15) (c := 3) (by decide +kernel) (by decide) h
theorem sc_5_1 {k : Nat} (h : LC k = 5) : LC (k + 1) = 14 := sh_fin (P := fun k _ => LC (k + 1) = 14) (c := 5) (by decide +kernel) (by decide) h
theorem sc_5_2 {k : Nat} (h : LC k = 5) : LC (k + 2) = 13 := sh_fin (P := fun k _ => LC (k + 2) = 13) (c := 5) (by decide +kernel) (by decide) h
theorem sc_5_4 {k : Nat} (h : LC k = 5) : LC (k + 3) = 22 := sh_fin (P := fun k _ => LC (k + 3) = 22) (c := 5) (by decide +kernel) (by decide) h
theorem sc_5_5 {k : Nat} (h : LC k = 5) : LC (k + 4) = 2 := sh_fin (P := fun k _ => LC (k + 4) = 2) (c := 5) (by decide +kernel) (by decide) h
theorem sc_f {k i : Nat} (h : LC k = 22) (hi : i < 7) : LC (k + 4 + 3 * i) = 1 := sh_fin (P := fun k _ => ∀ i, i < 7 → LC (k + 4 + 3 * i) = 1) (c := 22) (by decide +kernel) (by decide) h i hi
theorem sc_s {k i : Nat} (h : LC k = 23) (hi : i < 4) : LC (k + 26 + 2 * i) = 3 := sh_fin (P := fun k _ => ∀ i, i < 4 → LC (k + 26 + 2 * i) = 3) (c := 23) (by decide +kernel) (by decide) h i hi
def rm_J7_fill_d0a16 : Room := { frames := 0, cells := 0, slots := 0, locals := 0 }
def rm_X0_clearOpenSets : Room := { frames := 0, cells := 0, slots := 0, locals := 0 }
def rm_X0_leastBefore : Room := { frames := 0, cells := 0, slots := 0, locals := 0 }
def rm_X0_nextSubset : Room := { frames := 0, cells := 0, slots := 0, locals := 0 }
def rm_X6_weightAt : Room := { frames := 0, cells := 0, slots := 0, locals := 0 }
def rm_X0_place : Room := { frames := 1, cells := 0, slots := 0, locals := 22 }
def rm_X0_goForward : Room := { frames := 2, cells := 0, slots := 0, locals := 51 }
def rm_X6_isMember : Room := { frames := 0, cells := 0, slots := 0, locals := 0 }
def rm_X0_findYearsThatWeigh : Room := { frames := 1, cells := 0, slots := 0, locals := 26 }
def rm_X0_listOpenSets : Room := { frames := 0, cells := 0, slots := 0, locals := 0 }
def rm_X0_rankFinds : Room := { frames := 1, cells := 0, slots := 0, locals := 21 }
def rm_X0_prepare : Room := { frames := 2, cells := 0, slots := 0, locals := 48 }
def rm_X0_countAll : Room := { frames := 3, cells := 0, slots := 0, locals := 75 }
def rm_X0_meet : Room := { frames := 1, cells := 0, slots := 0, locals := 22 }
def rm_X0_takeUp : Room := { frames := 1, cells := 0, slots := 0, locals := 22 }
def rm_X0_goBackward : Room := { frames := 2, cells := 0, slots := 0, locals := 53 }
def rm_X0_countEachYear : Room := { frames := 3, cells := 0, slots := 0, locals := 77 }
def rm_X1_become : Room := { frames := 0, cells := 0, slots := 0, locals := 0 }
def rm_X1_addAge : Room := { frames := 0, cells := 0, slots := 0, locals := 0 }
def rm_X1_copyFrom : Room := { frames := 1, cells := 0, slots := 0, locals := 26 }
def rm_X1_weightFrom : Room := { frames := 0, cells := 0, slots := 0, locals := 0 }
def rm_X2_howOf : Room := { frames := 0, cells := 0, slots := 0, locals := 0 }
def rm_X2_put : Room := { frames := 0, cells := 0, slots := 0, locals := 0 }
def rm_X2_forget : Room := { frames := 1, cells := 0, slots := 0, locals := 24 }
def rm_J7_fill_53178 : Room := { frames := 0, cells := 0, slots := 0, locals := 0 }
def rm_X2_clear : Room := { frames := 1, cells := 0, slots := 0, locals := 23 }
def rm_X2_copyFrom : Room := { frames := 1, cells := 0, slots := 0, locals := 26 }
def rm_J6_bitCount_0f7a4 : Room := { frames := 0, cells := 0, slots := 0, locals := 0 }
def rm_X2_howMany : Room := { frames := 1, cells := 0, slots := 0, locals := 20 }
def rm_X3_become : Room := { frames := 1, cells := 0, slots := 0, locals := 23 }
def rm_X3_hasFrom : Room := { frames := 0, cells := 0, slots := 0, locals := 0 }
def rm_X3_narrowed : Room := { frames := 0, cells := 0, slots := 0, locals := 0 }
def rm_X4_append : Room := { frames := 0, cells := 0, slots := 0, locals := 0 }
def rm_X4_readName : Room := { frames := 0, cells := 0, slots := 0, locals := 0 }
def rm_X4_skip : Room := { frames := 0, cells := 0, slots := 0, locals := 0 }
def rm_X4_readGroup : Room := { frames := 1, cells := 0, slots := 0, locals := 21 }
def rm_X4_relate : Room := { frames := 1, cells := 0, slots := 0, locals := 24 }
def rm_X4_readNextGroup : Room := { frames := 2, cells := 0, slots := 0, locals := 48 }
def rm_X4_readAll : Room := { frames := 3, cells := 0, slots := 0, locals := 70 }
def rm_X5_copyFrom : Room := { frames := 2, cells := 0, slots := 0, locals := 47 }
def rm_X5_plainOfAges : Room := { frames := 1, cells := 0, slots := 0, locals := 26 }
def rm_X5_plainAt : Room := { frames := 2, cells := 0, slots := 0, locals := 52 }
def rm_X5_meanPlain : Room := { frames := 3, cells := 0, slots := 0, locals := 74 }
def rm_X5_yearsThatWeigh : Room := { frames := 4, cells := 0, slots := 0, locals := 97 }
def rm_X6_limit : Room := { frames := 0, cells := 0, slots := 0, locals := 0 }
def rm_X6_load : Room := { frames := 4, cells := 0, slots := 0, locals := 97 }
def rm_X6_leaveOut : Room := { frames := 2, cells := 0, slots := 0, locals := 46 }
def rm_X6_level : Room := { frames := 0, cells := 0, slots := 0, locals := 0 }
def rm_X6_multiplyByYears : Room := { frames := 0, cells := 0, slots := 0, locals := 0 }
def rm_X6_sumOfWeights : Room := { frames := 0, cells := 0, slots := 0, locals := 0 }
def rm_X6_isBig : Room := { frames := 1, cells := 0, slots := 0, locals := 24 }
def rm_X7_years : Room := { frames := 0, cells := 0, slots := 0, locals := 0 }
def rm_X7_isAge : Room := { frames := 0, cells := 0, slots := 0, locals := 0 }
def rm_X7_curve : Room := { frames := 1, cells := 0, slots := 0, locals := 20 }
def rm_X7_isDigit : Room := { frames := 0, cells := 0, slots := 0, locals := 0 }
def rm_X7_miss : Room := { frames := 1, cells := 0, slots := 0, locals := 20 }
def rm_X7_hostFinding : Room := { frames := 0, cells := 0, slots := 0, locals := 0 }
def rm_X7_isSheet : Room := { frames := 0, cells := 0, slots := 0, locals := 0 }
def rm_X7_isSort : Room := { frames := 0, cells := 0, slots := 0, locals := 0 }
def rm_X7_sheet : Room := { frames := 2, cells := 0, slots := 0, locals := 45 }
def rm_X7_write : Room := { frames := 1, cells := 0, slots := 0, locals := 22 }
def rm_X7_lose : Room := { frames := 1, cells := 0, slots := 0, locals := 20 }
def rm_X7_lay : Room := { frames := 1, cells := 0, slots := 0, locals := 26 }
def rm_X7_isOfKind : Room := { frames := 1, cells := 0, slots := 0, locals := 20 }
def rm_X7_find : Room := { frames := 2, cells := 0, slots := 0, locals := 41 }
def rm_X7_isFind : Room := { frames := 0, cells := 0, slots := 0, locals := 0 }
def rm_X7_ring : Room := { frames := 1, cells := 0, slots := 0, locals := 22 }
def rm_X7_odd : Room := { frames := 1, cells := 0, slots := 0, locals := 21 }
def rm_X7_pair : Room := { frames := 1, cells := 0, slots := 0, locals := 24 }
def rm_X7_of : Room := { frames := 5, cells := 0, slots := 0, locals := 121 }
def rm_X7_isYear : Room := { frames := 0, cells := 0, slots := 0, locals := 0 }
def rm_X7_weight : Room := { frames := 4, cells := 0, slots := 0, locals := 97 }
def rm_X7_drop : Room := { frames := 2, cells := 0, slots := 0, locals := 46 }
def rm_X7_feed : Room := { frames := 1, cells := 0, slots := 0, locals := 24 }
def rm_X7_text : Room := { frames := 4, cells := 0, slots := 0, locals := 93 }
def rm_X7_weigh : Room := { frames := 5, cells := 0, slots := 0, locals := 122 }
def rm_X7_total : Room := { frames := 6, cells := 0, slots := 0, locals := 143 }
def rm_X7_greatestDivisor : Room := { frames := 0, cells := 0, slots := 0, locals := 0 }
def rm_X7_fraction : Room := { frames := 1, cells := 0, slots := 0, locals := 30 }
def rm_X7_shareWithin : Room := { frames := 4, cells := 0, slots := 0, locals := 96 }
def rm_X7_weighForShare : Room := { frames := 6, cells := 0, slots := 0, locals := 143 }
def rm_X7_share : Room := { frames := 7, cells := 0, slots := 0, locals := 165 }
def rm_X7_below : Room := { frames := 0, cells := 0, slots := 0, locals := 0 }
def rm_X7_until : Room := { frames := 7, cells := 0, slots := 0, locals := 165 }
def rm_X7_order : Room := { frames := 7, cells := 0, slots := 0, locals := 165 }
def rm_X7_apart : Room := { frames := 7, cells := 0, slots := 0, locals := 165 }
def rm_X7_mean : Room := { frames := 7, cells := 0, slots := 0, locals := 165 }
def rm_X7_best : Room := { frames := 7, cells := 0, slots := 0, locals := 165 }
def rm_X7_shortestRow : Room := { frames := 0, cells := 0, slots := 0, locals := 0 }
def rm_X7_span : Room := { frames := 7, cells := 0, slots := 0, locals := 165 }
def rm_X7_strange : Room := { frames := 7, cells := 0, slots := 0, locals := 165 }
def rm_X7_without : Room := { frames := 6, cells := 0, slots := 0, locals := 143 }
def rm_X7_settleYears : Room := { frames := 4, cells := 0, slots := 0, locals := 99 }
def rm_X7_draw : Room := { frames := 6, cells := 0, slots := 0, locals := 143 }
def rm_X7_drawn : Room := { frames := 1, cells := 0, slots := 0, locals := 21 }
def rm_X7_tell : Room := { frames := 0, cells := 0, slots := 0, locals := 0 }
def rm_X7_countAheadOfWaiting : Room := { frames := 4, cells := 0, slots := 0, locals := 96 }
def rm_X7_number : Room := { frames := 6, cells := 0, slots := 0, locals := 143 }
def rm_X7_keep : Room := { frames := 3, cells := 0, slots := 0, locals := 69 }
def rm_X7_back : Room := { frames := 3, cells := 0, slots := 0, locals := 69 }
def rm_X7_bears : Room := { frames := 6, cells := 0, slots := 0, locals := 143 }
def rm_X7_count : Room := { frames := 2, cells := 0, slots := 0, locals := 42 }
def rm_X8_meet : Room := { frames := 0, cells := 0, slots := 0, locals := 0 }
def rm_X8_isIn : Room := { frames := 0, cells := 0, slots := 0, locals := 0 }
def rm_X8_isFind : Room := { frames := 0, cells := 0, slots := 0, locals := 0 }
def rm_X8_isYear : Room := { frames := 0, cells := 0, slots := 0, locals := 0 }
def rm_X8_years : Room := { frames := 1, cells := 0, slots := 0, locals := 22 }
def rm_X8_curve : Room := { frames := 1, cells := 0, slots := 0, locals := 22 }
def rm_X8_miss : Room := { frames := 1, cells := 0, slots := 0, locals := 22 }
def rm_X8_isSheet : Room := { frames := 0, cells := 0, slots := 0, locals := 0 }
def rm_X8_sheet : Room := { frames := 1, cells := 0, slots := 0, locals := 22 }
def rm_X8_write : Room := { frames := 1, cells := 0, slots := 0, locals := 21 }
def rm_X8_lose : Room := { frames := 1, cells := 0, slots := 0, locals := 20 }
def rm_X8_lay : Room := { frames := 1, cells := 0, slots := 0, locals := 22 }
def rm_X8_find : Room := { frames := 1, cells := 0, slots := 0, locals := 22 }
def rm_X8_ring : Room := { frames := 1, cells := 0, slots := 0, locals := 22 }
def rm_X8_odd : Room := { frames := 1, cells := 0, slots := 0, locals := 22 }
def rm_X8_pair : Room := { frames := 1, cells := 0, slots := 0, locals := 22 }
def rm_X8_missOf : Room := { frames := 0, cells := 0, slots := 0, locals := 0 }
def rm_X8_plain : Room := { frames := 1, cells := 0, slots := 0, locals := 23 }
def rm_X8_meanOf : Room := { frames := 2, cells := 0, slots := 0, locals := 49 }
def rm_X8_weightOf : Room := { frames := 3, cells := 0, slots := 0, locals := 73 }
def rm_X8_of : Room := { frames := 4, cells := 0, slots := 0, locals := 96 }
def rm_X8_weight : Room := { frames := 4, cells := 0, slots := 0, locals := 96 }
def rm_X8_drop : Room := { frames := 1, cells := 0, slots := 0, locals := 21 }
def rm_X8_feed : Room := { frames := 1, cells := 0, slots := 0, locals := 22 }
def rm_X8_here : Room := { frames := 0, cells := 0, slots := 0, locals := 0 }
def rm_X8_name : Room := { frames := 1, cells := 0, slots := 0, locals := 21 }
def rm_X8_group : Room := { frames := 2, cells := 0, slots := 0, locals := 42 }
def rm_X8_chain : Room := { frames := 3, cells := 0, slots := 0, locals := 63 }
def rm_X8_pairMany : Room := { frames := 0, cells := 0, slots := 0, locals := 0 }
def rm_X8_text : Room := { frames := 4, cells := 0, slots := 0, locals := 88 }
def rm_X8_in : Room := { frames := 0, cells := 0, slots := 0, locals := 0 }
def rm_X8_lay_ : Room := { frames := 4, cells := 0, slots := 0, locals := 96 }
def rm_X8_count : Room := { frames := 1, cells := 0, slots := 0, locals := 21 }
def rm_X8_isBig : Room := { frames := 4, cells := 0, slots := 0, locals := 96 }
def rm_X8_all : Room := { frames := 0, cells := 0, slots := 0, locals := 0 }
def rm_X8_askTotal : Room := { frames := 5, cells := 0, slots := 0, locals := 125 }
def rm_X8_total : Room := { frames := 5, cells := 0, slots := 0, locals := 125 }
def rm_X8_common : Room := { frames := 0, cells := 0, slots := 0, locals := 0 }
def rm_X8_fraction : Room := { frames := 1, cells := 0, slots := 0, locals := 29 }
def rm_X8_below : Room := { frames := 0, cells := 0, slots := 0, locals := 0 }
def rm_X8_only : Room := { frames := 4, cells := 0, slots := 0, locals := 96 }
def rm_X8_countIn : Room := { frames := 5, cells := 0, slots := 0, locals := 120 }
def rm_X8_share : Room := { frames := 6, cells := 0, slots := 0, locals := 145 }
def rm_X8_until : Room := { frames := 6, cells := 0, slots := 0, locals := 145 }
def rm_X8_together : Room := { frames := 5, cells := 0, slots := 0, locals := 120 }
def rm_X8_order : Room := { frames := 6, cells := 0, slots := 0, locals := 147 }
def rm_X8_apart : Room := { frames := 6, cells := 0, slots := 0, locals := 145 }
def rm_X8_mean : Room := { frames := 6, cells := 0, slots := 0, locals := 145 }
def rm_X8_tellYears : Room := { frames := 6, cells := 0, slots := 0, locals := 145 }
def rm_X8_best : Room := { frames := 7, cells := 0, slots := 0, locals := 167 }
def rm_X8_span : Room := { frames := 7, cells := 0, slots := 0, locals := 167 }
def rm_X8_strange : Room := { frames := 6, cells := 0, slots := 0, locals := 145 }
def rm_X8_without : Room := { frames := 5, cells := 0, slots := 0, locals := 125 }
def rm_X8_draw : Room := { frames := 6, cells := 0, slots := 0, locals := 145 }
def rm_X8_drawn : Room := { frames := 1, cells := 0, slots := 0, locals := 21 }
def rm_X8_tell : Room := { frames := 0, cells := 0, slots := 0, locals := 0 }
def rm_X8_lessThan : Room := { frames := 5, cells := 0, slots := 0, locals := 120 }
def rm_X8_number : Room := { frames := 6, cells := 0, slots := 0, locals := 142 }
def rm_X8_carry : Room := { frames := 0, cells := 0, slots := 0, locals := 0 }
def rm_X8_carryAll : Room := { frames := 1, cells := 0, slots := 0, locals := 25 }
def rm_X8_keep : Room := { frames := 2, cells := 0, slots := 0, locals := 47 }
def rm_X8_back : Room := { frames := 2, cells := 0, slots := 0, locals := 47 }
def rm_X8_change : Room := { frames := 2, cells := 0, slots := 0, locals := 47 }
def rm_X8_bears : Room := { frames := 6, cells := 0, slots := 0, locals := 145 }
def rm_X8_count_ : Room := { frames := 1, cells := 0, slots := 0, locals := 23 }
theorem q_X0_105 : gL RX0 105 6 6 := ⟨RX6, TX6, 7, rfl, by decide, rfl, by decide, inX6, Or.inr ⟨"DatingTable", gin (List.mem_of_getElem? (i := 212) (by decide +kernel)) rfl⟩⟩
theorem q_X0_109 : gL RX0 109 2 0 := ⟨RX2, TX2, 2, rfl, by decide, rfl, by decide, inX2, Or.inr ⟨"DatingTable", gin (List.mem_of_getElem? (i := 91) (by decide +kernel)) rfl⟩⟩
theorem q_X0_114 : gL RX0 114 2 1 := ⟨RX2, TX2, 2, rfl, by decide, rfl, by decide, inX2, Or.inr ⟨"DatingTable", gin (List.mem_of_getElem? (i := 93) (by decide +kernel)) rfl⟩⟩
theorem q_X0_15 : gL RX0 15 0 2 := ⟨RX0, TX0, 13, rfl, by decide, rfl, by decide, inX0, Or.inl (gi (List.mem_of_getElem? (i := 238) (by decide +kernel)) rfl)⟩
theorem q_X0_19 : gL RX0 19 0 3 := ⟨RX0, TX0, 13, rfl, by decide, rfl, by decide, inX0, Or.inl (gi (List.mem_of_getElem? (i := 239) (by decide +kernel)) rfl)⟩
theorem q_X0_22 : gL RX0 22 0 4 := ⟨RX0, TX0, 13, rfl, by decide, rfl, by decide, inX0, Or.inl (gi (List.mem_of_getElem? (i := 240) (by decide +kernel)) rfl)⟩
theorem q_X0_25 : gL RX0 25 0 5 := ⟨RX0, TX0, 13, rfl, by decide, rfl, by decide, inX0, Or.inl (gi (List.mem_of_getElem? (i := 241) (by decide +kernel)) rfl)⟩
theorem q_X0_28 : gL RX0 28 0 6 := ⟨RX0, TX0, 13, rfl, by decide, rfl, by decide, inX0, Or.inl (gi (List.mem_of_getElem? (i := 242) (by decide +kernel)) rfl)⟩
theorem q_X0_31 : gL RX0 31 0 7 := ⟨RX0, TX0, 13, rfl, by decide, rfl, by decide, inX0, Or.inl (gi (List.mem_of_getElem? (i := 243) (by decide +kernel)) rfl)⟩
theorem q_X0_34 : gL RX0 34 0 8 := ⟨RX0, TX0, 13, rfl, by decide, rfl, by decide, inX0, Or.inl (gi (List.mem_of_getElem? (i := 244) (by decide +kernel)) rfl)⟩
theorem q_X0_37 : gL RX0 37 0 9 := ⟨RX0, TX0, 13, rfl, by decide, rfl, by decide, inX0, Or.inl (gi (List.mem_of_getElem? (i := 245) (by decide +kernel)) rfl)⟩
theorem q_X0_41 : gL RX0 41 0 10 := ⟨RX0, TX0, 13, rfl, by decide, rfl, by decide, inX0, Or.inl (gi (List.mem_of_getElem? (i := 246) (by decide +kernel)) rfl)⟩
theorem q_X0_44 : gL RX0 44 0 11 := ⟨RX0, TX0, 13, rfl, by decide, rfl, by decide, inX0, Or.inl (gi (List.mem_of_getElem? (i := 247) (by decide +kernel)) rfl)⟩
theorem q_X0_47 : gL RX0 47 0 12 := ⟨RX0, TX0, 13, rfl, by decide, rfl, by decide, inX0, Or.inl (gi (List.mem_of_getElem? (i := 248) (by decide +kernel)) rfl)⟩
theorem q_X0_50 : gL RX0 50 0 0 := ⟨RX0, TX0, 13, rfl, by decide, rfl, by decide, inX0, Or.inl (gi (List.mem_of_getElem? (i := 236) (by decide +kernel)) rfl)⟩
theorem q_X0_64 : gL RX0 64 6 0 := ⟨RX6, TX6, 7, rfl, by decide, rfl, by decide, inX6, Or.inr ⟨"DatingTable", gin (List.mem_of_getElem? (i := 203) (by decide +kernel)) rfl⟩⟩
theorem q_X0_73 : gL RX0 73 6 2 := ⟨RX6, TX6, 7, rfl, by decide, rfl, by decide, inX6, Or.inr ⟨"DatingTable", gin (List.mem_of_getElem? (i := 207) (by decide +kernel)) rfl⟩⟩
theorem q_X0_88 : gL RX0 88 6 1 := ⟨RX6, TX6, 7, rfl, by decide, rfl, by decide, inX6, Or.inr ⟨"DatingTable", gin (List.mem_of_getElem? (i := 205) (by decide +kernel)) rfl⟩⟩
theorem q_X0_9 : gL RX0 9 0 1 := ⟨RX0, TX0, 13, rfl, by decide, rfl, by decide, inX0, Or.inl (gi (List.mem_of_getElem? (i := 237) (by decide +kernel)) rfl)⟩
theorem q_X1_15 : gL RX1 15 1 1 := ⟨RX1, TX1, 5, rfl, by decide, rfl, by decide, inX1, Or.inl (gi (List.mem_of_getElem? (i := 111) (by decide +kernel)) rfl)⟩
theorem q_X1_18 : gL RX1 18 1 2 := ⟨RX1, TX1, 5, rfl, by decide, rfl, by decide, inX1, Or.inl (gi (List.mem_of_getElem? (i := 113) (by decide +kernel)) rfl)⟩
theorem q_X1_21 : gL RX1 21 1 3 := ⟨RX1, TX1, 5, rfl, by decide, rfl, by decide, inX1, Or.inl (gi (List.mem_of_getElem? (i := 116) (by decide +kernel)) rfl)⟩
theorem q_X1_25 : gL RX1 25 1 4 := ⟨RX1, TX1, 5, rfl, by decide, rfl, by decide, inX1, Or.inl (gi (List.mem_of_getElem? (i := 119) (by decide +kernel)) rfl)⟩
theorem q_X1_9 : gL RX1 9 1 0 := ⟨RX1, TX1, 5, rfl, by decide, rfl, by decide, inX1, Or.inl (gi (List.mem_of_getElem? (i := 108) (by decide +kernel)) rfl)⟩
theorem q_X2_15 : gL RX2 15 2 1 := ⟨RX2, TX2, 2, rfl, by decide, rfl, by decide, inX2, Or.inl (gi (List.mem_of_getElem? (i := 92) (by decide +kernel)) rfl)⟩
theorem q_X2_9 : gL RX2 9 2 0 := ⟨RX2, TX2, 2, rfl, by decide, rfl, by decide, inX2, Or.inl (gi (List.mem_of_getElem? (i := 90) (by decide +kernel)) rfl)⟩
theorem q_X3_15 : gL RX3 15 3 1 := ⟨RX3, TX3, 4, rfl, by decide, rfl, by decide, inX3, Or.inl (gi (List.mem_of_getElem? (i := 284) (by decide +kernel)) rfl)⟩
theorem q_X3_19 : gL RX3 19 3 2 := ⟨RX3, TX3, 4, rfl, by decide, rfl, by decide, inX3, Or.inl (gi (List.mem_of_getElem? (i := 286) (by decide +kernel)) rfl)⟩
theorem q_X3_22 : gL RX3 22 3 3 := ⟨RX3, TX3, 4, rfl, by decide, rfl, by decide, inX3, Or.inl (gi (List.mem_of_getElem? (i := 287) (by decide +kernel)) rfl)⟩
theorem q_X4_15 : gL RX4 15 4 1 := ⟨RX4, TX4, 6, rfl, by decide, rfl, by decide, inX4, Or.inl (gi (List.mem_of_getElem? (i := 172) (by decide +kernel)) rfl)⟩
theorem q_X4_19 : gL RX4 19 4 2 := ⟨RX4, TX4, 6, rfl, by decide, rfl, by decide, inX4, Or.inl (gi (List.mem_of_getElem? (i := 174) (by decide +kernel)) rfl)⟩
theorem q_X4_22 : gL RX4 22 4 3 := ⟨RX4, TX4, 6, rfl, by decide, rfl, by decide, inX4, Or.inl (gi (List.mem_of_getElem? (i := 176) (by decide +kernel)) rfl)⟩
theorem q_X4_25 : gL RX4 25 4 4 := ⟨RX4, TX4, 6, rfl, by decide, rfl, by decide, inX4, Or.inl (gi (List.mem_of_getElem? (i := 177) (by decide +kernel)) rfl)⟩
theorem q_X4_31 : gL RX4 31 4 5 := ⟨RX4, TX4, 6, rfl, by decide, rfl, by decide, inX4, Or.inl (gi (List.mem_of_getElem? (i := 178) (by decide +kernel)) rfl)⟩
theorem q_X4_9 : gL RX4 9 4 0 := ⟨RX4, TX4, 6, rfl, by decide, rfl, by decide, inX4, Or.inl (gi (List.mem_of_getElem? (i := 171) (by decide +kernel)) rfl)⟩
theorem q_X5_15 : gL RX5 15 5 1 := ⟨RX5, TX5, 6, rfl, by decide, rfl, by decide, inX5, Or.inl (gi (List.mem_of_getElem? (i := 135) (by decide +kernel)) rfl)⟩
theorem q_X5_19 : gL RX5 19 5 2 := ⟨RX5, TX5, 6, rfl, by decide, rfl, by decide, inX5, Or.inl (gi (List.mem_of_getElem? (i := 137) (by decide +kernel)) rfl)⟩
theorem q_X5_22 : gL RX5 22 5 3 := ⟨RX5, TX5, 6, rfl, by decide, rfl, by decide, inX5, Or.inl (gi (List.mem_of_getElem? (i := 139) (by decide +kernel)) rfl)⟩
theorem q_X5_27 : gL RX5 27 5 4 := ⟨RX5, TX5, 6, rfl, by decide, rfl, by decide, inX5, Or.inl (gi (List.mem_of_getElem? (i := 142) (by decide +kernel)) rfl)⟩
theorem q_X5_34 : gL RX5 34 5 5 := ⟨RX5, TX5, 6, rfl, by decide, rfl, by decide, inX5, Or.inl (gi (List.mem_of_getElem? (i := 145) (by decide +kernel)) rfl)⟩
theorem q_X5_58 : gL RX5 58 1 0 := ⟨RX1, TX1, 5, rfl, by decide, rfl, by decide, inX1, Or.inr ⟨"DatingTable", gin (List.mem_of_getElem? (i := 109) (by decide +kernel)) rfl⟩⟩
theorem q_X5_61 : gL RX5 61 1 3 := ⟨RX1, TX1, 5, rfl, by decide, rfl, by decide, inX1, Or.inr ⟨"DatingTable", gin (List.mem_of_getElem? (i := 117) (by decide +kernel)) rfl⟩⟩
theorem q_X5_68 : gL RX5 68 1 2 := ⟨RX1, TX1, 5, rfl, by decide, rfl, by decide, inX1, Or.inr ⟨"DatingTable", gin (List.mem_of_getElem? (i := 114) (by decide +kernel)) rfl⟩⟩
theorem q_X5_71 : gL RX5 71 1 4 := ⟨RX1, TX1, 5, rfl, by decide, rfl, by decide, inX1, Or.inr ⟨"DatingTable", gin (List.mem_of_getElem? (i := 120) (by decide +kernel)) rfl⟩⟩
theorem q_X5_9 : gL RX5 9 5 0 := ⟨RX5, TX5, 6, rfl, by decide, rfl, by decide, inX5, Or.inl (gi (List.mem_of_getElem? (i := 132) (by decide +kernel)) rfl)⟩
theorem q_X6_15 : gL RX6 15 6 1 := ⟨RX6, TX6, 7, rfl, by decide, rfl, by decide, inX6, Or.inl (gi (List.mem_of_getElem? (i := 204) (by decide +kernel)) rfl)⟩
theorem q_X6_18 : gL RX6 18 6 2 := ⟨RX6, TX6, 7, rfl, by decide, rfl, by decide, inX6, Or.inl (gi (List.mem_of_getElem? (i := 206) (by decide +kernel)) rfl)⟩
theorem q_X6_21 : gL RX6 21 6 3 := ⟨RX6, TX6, 7, rfl, by decide, rfl, by decide, inX6, Or.inl (gi (List.mem_of_getElem? (i := 208) (by decide +kernel)) rfl)⟩
theorem q_X6_25 : gL RX6 25 6 4 := ⟨RX6, TX6, 7, rfl, by decide, rfl, by decide, inX6, Or.inl (gi (List.mem_of_getElem? (i := 209) (by decide +kernel)) rfl)⟩
theorem q_X6_29 : gL RX6 29 6 5 := ⟨RX6, TX6, 7, rfl, by decide, rfl, by decide, inX6, Or.inl (gi (List.mem_of_getElem? (i := 210) (by decide +kernel)) rfl)⟩
theorem q_X6_35 : gL RX6 35 6 6 := ⟨RX6, TX6, 7, rfl, by decide, rfl, by decide, inX6, Or.inl (gi (List.mem_of_getElem? (i := 211) (by decide +kernel)) rfl)⟩
theorem q_X6_39 : gL RX6 39 5 0 := ⟨RX5, TX5, 6, rfl, by decide, rfl, by decide, inX5, Or.inr ⟨"DatingTable", gin (List.mem_of_getElem? (i := 133) (by decide +kernel)) rfl⟩⟩
theorem q_X6_42 : gL RX6 42 5 3 := ⟨RX5, TX5, 6, rfl, by decide, rfl, by decide, inX5, Or.inr ⟨"DatingTable", gin (List.mem_of_getElem? (i := 140) (by decide +kernel)) rfl⟩⟩
theorem q_X6_43 : gL RX6 43 5 5 := ⟨RX5, TX5, 6, rfl, by decide, rfl, by decide, inX5, Or.inr ⟨"DatingTable", gin (List.mem_of_getElem? (i := 146) (by decide +kernel)) rfl⟩⟩
theorem q_X6_48 : gL RX6 48 5 4 := ⟨RX5, TX5, 6, rfl, by decide, rfl, by decide, inX5, Or.inr ⟨"DatingTable", gin (List.mem_of_getElem? (i := 143) (by decide +kernel)) rfl⟩⟩
theorem q_X6_9 : gL RX6 9 6 0 := ⟨RX6, TX6, 7, rfl, by decide, rfl, by decide, inX6, Or.inl (gi (List.mem_of_getElem? (i := 202) (by decide +kernel)) rfl)⟩
theorem q_X7_10 : gL RX7 10 7 0 := ⟨RX7, TX7, 13, rfl, by decide, rfl, by decide, inX7, Or.inl (gi (List.mem_of_getElem? (i := 298) (by decide +kernel)) rfl)⟩
theorem q_X7_104 : gL RX7 104 3 0 := ⟨RX3, TX3, 4, rfl, by decide, rfl, by decide, inX3, Or.inr ⟨"DatingTable", gin (List.mem_of_getElem? (i := 283) (by decide +kernel)) rfl⟩⟩
theorem q_X7_111 : gL RX7 111 3 3 := ⟨RX3, TX3, 4, rfl, by decide, rfl, by decide, inX3, Or.inr ⟨"DatingTable", gin (List.mem_of_getElem? (i := 288) (by decide +kernel)) rfl⟩⟩
theorem q_X7_117 : gL RX7 117 3 1 := ⟨RX3, TX3, 4, rfl, by decide, rfl, by decide, inX3, Or.inr ⟨"DatingTable", gin (List.mem_of_getElem? (i := 285) (by decide +kernel)) rfl⟩⟩
theorem q_X7_132 : gL RX7 132 5 3 := ⟨RX5, TX5, 6, rfl, by decide, rfl, by decide, inX5, Or.inr ⟨"DatingTable", gin (List.mem_of_getElem? (i := 141) (by decide +kernel)) rfl⟩⟩
theorem q_X7_135 : gL RX7 135 5 4 := ⟨RX5, TX5, 6, rfl, by decide, rfl, by decide, inX5, Or.inr ⟨"DatingTable", gin (List.mem_of_getElem? (i := 144) (by decide +kernel)) rfl⟩⟩
theorem q_X7_145 : gL RX7 145 1 0 := ⟨RX1, TX1, 5, rfl, by decide, rfl, by decide, inX1, Or.inr ⟨"DatingTable", gin (List.mem_of_getElem? (i := 110) (by decide +kernel)) rfl⟩⟩
theorem q_X7_148 : gL RX7 148 1 2 := ⟨RX1, TX1, 5, rfl, by decide, rfl, by decide, inX1, Or.inr ⟨"DatingTable", gin (List.mem_of_getElem? (i := 115) (by decide +kernel)) rfl⟩⟩
theorem q_X7_154 : gL RX7 154 1 1 := ⟨RX1, TX1, 5, rfl, by decide, rfl, by decide, inX1, Or.inr ⟨"DatingTable", gin (List.mem_of_getElem? (i := 112) (by decide +kernel)) rfl⟩⟩
theorem q_X7_157 : gL RX7 157 5 5 := ⟨RX5, TX5, 6, rfl, by decide, rfl, by decide, inX5, Or.inr ⟨"DatingTable", gin (List.mem_of_getElem? (i := 147) (by decide +kernel)) rfl⟩⟩
theorem q_X7_16 : gL RX7 16 7 1 := ⟨RX7, TX7, 13, rfl, by decide, rfl, by decide, inX7, Or.inl (gi (List.mem_of_getElem? (i := 299) (by decide +kernel)) rfl)⟩
theorem q_X7_170 : gL RX7 170 1 3 := ⟨RX1, TX1, 5, rfl, by decide, rfl, by decide, inX1, Or.inr ⟨"DatingTable", gin (List.mem_of_getElem? (i := 118) (by decide +kernel)) rfl⟩⟩
theorem q_X7_19 : gL RX7 19 7 2 := ⟨RX7, TX7, 13, rfl, by decide, rfl, by decide, inX7, Or.inl (gi (List.mem_of_getElem? (i := 300) (by decide +kernel)) rfl)⟩
theorem q_X7_194 : gL RX7 194 4 1 := ⟨RX4, TX4, 6, rfl, by decide, rfl, by decide, inX4, Or.inr ⟨"DatingTable", gin (List.mem_of_getElem? (i := 173) (by decide +kernel)) rfl⟩⟩
theorem q_X7_204 : gL RX7 204 4 2 := ⟨RX4, TX4, 6, rfl, by decide, rfl, by decide, inX4, Or.inr ⟨"DatingTable", gin (List.mem_of_getElem? (i := 175) (by decide +kernel)) rfl⟩⟩
theorem q_X7_207 : gL RX7 207 4 5 := ⟨RX4, TX4, 6, rfl, by decide, rfl, by decide, inX4, Or.inr ⟨"DatingTable", gin (List.mem_of_getElem? (i := 179) (by decide +kernel)) rfl⟩⟩
theorem q_X7_236 : gL RX7 236 6 6 := ⟨RX6, TX6, 7, rfl, by decide, rfl, by decide, inX6, Or.inr ⟨"DatingTable", gin (List.mem_of_getElem? (i := 213) (by decide +kernel)) rfl⟩⟩
theorem q_X7_249 : gL RX7 249 0 12 := ⟨RX0, TX0, 13, rfl, by decide, rfl, by decide, inX0, Or.inr ⟨"DatingTable", gin (List.mem_of_getElem? (i := 249) (by decide +kernel)) rfl⟩⟩
theorem q_X7_25 : gL RX7 25 7 3 := ⟨RX7, TX7, 13, rfl, by decide, rfl, by decide, inX7, Or.inl (gi (List.mem_of_getElem? (i := 301) (by decide +kernel)) rfl)⟩
theorem q_X7_32 : gL RX7 32 7 4 := ⟨RX7, TX7, 13, rfl, by decide, rfl, by decide, inX7, Or.inl (gi (List.mem_of_getElem? (i := 302) (by decide +kernel)) rfl)⟩
theorem q_X7_39 : gL RX7 39 7 5 := ⟨RX7, TX7, 13, rfl, by decide, rfl, by decide, inX7, Or.inl (gi (List.mem_of_getElem? (i := 303) (by decide +kernel)) rfl)⟩
theorem q_X7_48 : gL RX7 48 7 6 := ⟨RX7, TX7, 13, rfl, by decide, rfl, by decide, inX7, Or.inl (gi (List.mem_of_getElem? (i := 304) (by decide +kernel)) rfl)⟩
theorem q_X7_52 : gL RX7 52 7 7 := ⟨RX7, TX7, 13, rfl, by decide, rfl, by decide, inX7, Or.inl (gi (List.mem_of_getElem? (i := 305) (by decide +kernel)) rfl)⟩
theorem q_X7_56 : gL RX7 56 7 8 := ⟨RX7, TX7, 13, rfl, by decide, rfl, by decide, inX7, Or.inl (gi (List.mem_of_getElem? (i := 306) (by decide +kernel)) rfl)⟩
theorem q_X7_60 : gL RX7 60 7 9 := ⟨RX7, TX7, 13, rfl, by decide, rfl, by decide, inX7, Or.inl (gi (List.mem_of_getElem? (i := 307) (by decide +kernel)) rfl)⟩
theorem q_X7_63 : gL RX7 63 7 10 := ⟨RX7, TX7, 13, rfl, by decide, rfl, by decide, inX7, Or.inl (gi (List.mem_of_getElem? (i := 308) (by decide +kernel)) rfl)⟩
theorem q_X7_66 : gL RX7 66 7 11 := ⟨RX7, TX7, 13, rfl, by decide, rfl, by decide, inX7, Or.inl (gi (List.mem_of_getElem? (i := 309) (by decide +kernel)) rfl)⟩
theorem q_X7_70 : gL RX7 70 7 12 := ⟨RX7, TX7, 13, rfl, by decide, rfl, by decide, inX7, Or.inl (gi (List.mem_of_getElem? (i := 310) (by decide +kernel)) rfl)⟩
theorem q_X7_74 : gL RX7 74 5 0 := ⟨RX5, TX5, 6, rfl, by decide, rfl, by decide, inX5, Or.inr ⟨"DatingTable", gin (List.mem_of_getElem? (i := 134) (by decide +kernel)) rfl⟩⟩
theorem q_X7_81 : gL RX7 81 5 1 := ⟨RX5, TX5, 6, rfl, by decide, rfl, by decide, inX5, Or.inr ⟨"DatingTable", gin (List.mem_of_getElem? (i := 136) (by decide +kernel)) rfl⟩⟩
theorem q_X7_87 : gL RX7 87 5 2 := ⟨RX5, TX5, 6, rfl, by decide, rfl, by decide, inX5, Or.inr ⟨"DatingTable", gin (List.mem_of_getElem? (i := 138) (by decide +kernel)) rfl⟩⟩
theorem q_X8_113 : gL RX8 113 8 10 := ⟨RX8, TX8, 37, rfl, by decide, rfl, by decide, inX8, Or.inl (gi (List.mem_of_getElem? (i := 788) (by decide +kernel)) rfl)⟩
theorem q_X8_13 : gL RX8 13 8 1 := ⟨RX8, TX8, 37, rfl, by decide, rfl, by decide, inX8, Or.inl (gi (List.mem_of_getElem? (i := 779) (by decide +kernel)) rfl)⟩
theorem q_X8_138 : gL RX8 138 8 19 := ⟨RX8, TX8, 37, rfl, by decide, rfl, by decide, inX8, Or.inl (gi (List.mem_of_getElem? (i := 797) (by decide +kernel)) rfl)⟩
theorem q_X8_141 : gL RX8 141 8 23 := ⟨RX8, TX8, 37, rfl, by decide, rfl, by decide, inX8, Or.inl (gi (List.mem_of_getElem? (i := 801) (by decide +kernel)) rfl)⟩
theorem q_X8_148 : gL RX8 148 8 24 := ⟨RX8, TX8, 37, rfl, by decide, rfl, by decide, inX8, Or.inl (gi (List.mem_of_getElem? (i := 802) (by decide +kernel)) rfl)⟩
theorem q_X8_163 : gL RX8 163 8 27 := ⟨RX8, TX8, 37, rfl, by decide, rfl, by decide, inX8, Or.inl (gi (List.mem_of_getElem? (i := 805) (by decide +kernel)) rfl)⟩
theorem q_X8_17 : gL RX8 17 8 2 := ⟨RX8, TX8, 37, rfl, by decide, rfl, by decide, inX8, Or.inl (gi (List.mem_of_getElem? (i := 780) (by decide +kernel)) rfl)⟩
theorem q_X8_186 : gL RX8 186 8 33 := ⟨RX8, TX8, 37, rfl, by decide, rfl, by decide, inX8, Or.inl (gi (List.mem_of_getElem? (i := 811) (by decide +kernel)) rfl)⟩
theorem q_X8_20 : gL RX8 20 8 4 := ⟨RX8, TX8, 37, rfl, by decide, rfl, by decide, inX8, Or.inl (gi (List.mem_of_getElem? (i := 782) (by decide +kernel)) rfl)⟩
theorem q_X8_222 : gL RX8 222 8 20 := ⟨RX8, TX8, 37, rfl, by decide, rfl, by decide, inX8, Or.inl (gi (List.mem_of_getElem? (i := 798) (by decide +kernel)) rfl)⟩
theorem q_X8_23 : gL RX8 23 8 5 := ⟨RX8, TX8, 37, rfl, by decide, rfl, by decide, inX8, Or.inl (gi (List.mem_of_getElem? (i := 783) (by decide +kernel)) rfl)⟩
theorem q_X8_236 : gL RX8 236 8 13 := ⟨RX8, TX8, 37, rfl, by decide, rfl, by decide, inX8, Or.inl (gi (List.mem_of_getElem? (i := 791) (by decide +kernel)) rfl)⟩
theorem q_X8_26 : gL RX8 26 8 6 := ⟨RX8, TX8, 37, rfl, by decide, rfl, by decide, inX8, Or.inl (gi (List.mem_of_getElem? (i := 784) (by decide +kernel)) rfl)⟩
theorem q_X8_29 : gL RX8 29 8 7 := ⟨RX8, TX8, 37, rfl, by decide, rfl, by decide, inX8, Or.inl (gi (List.mem_of_getElem? (i := 785) (by decide +kernel)) rfl)⟩
theorem q_X8_32 : gL RX8 32 8 8 := ⟨RX8, TX8, 37, rfl, by decide, rfl, by decide, inX8, Or.inl (gi (List.mem_of_getElem? (i := 786) (by decide +kernel)) rfl)⟩
theorem q_X8_35 : gL RX8 35 8 9 := ⟨RX8, TX8, 37, rfl, by decide, rfl, by decide, inX8, Or.inl (gi (List.mem_of_getElem? (i := 787) (by decide +kernel)) rfl)⟩
theorem q_X8_38 : gL RX8 38 8 11 := ⟨RX8, TX8, 37, rfl, by decide, rfl, by decide, inX8, Or.inl (gi (List.mem_of_getElem? (i := 789) (by decide +kernel)) rfl)⟩
theorem q_X8_41 : gL RX8 41 8 12 := ⟨RX8, TX8, 37, rfl, by decide, rfl, by decide, inX8, Or.inl (gi (List.mem_of_getElem? (i := 790) (by decide +kernel)) rfl)⟩
theorem q_X8_45 : gL RX8 45 8 14 := ⟨RX8, TX8, 37, rfl, by decide, rfl, by decide, inX8, Or.inl (gi (List.mem_of_getElem? (i := 792) (by decide +kernel)) rfl)⟩
theorem q_X8_48 : gL RX8 48 8 15 := ⟨RX8, TX8, 37, rfl, by decide, rfl, by decide, inX8, Or.inl (gi (List.mem_of_getElem? (i := 793) (by decide +kernel)) rfl)⟩
theorem q_X8_51 : gL RX8 51 8 16 := ⟨RX8, TX8, 37, rfl, by decide, rfl, by decide, inX8, Or.inl (gi (List.mem_of_getElem? (i := 794) (by decide +kernel)) rfl)⟩
theorem q_X8_54 : gL RX8 54 8 17 := ⟨RX8, TX8, 37, rfl, by decide, rfl, by decide, inX8, Or.inl (gi (List.mem_of_getElem? (i := 795) (by decide +kernel)) rfl)⟩
theorem q_X8_57 : gL RX8 57 8 18 := ⟨RX8, TX8, 37, rfl, by decide, rfl, by decide, inX8, Or.inl (gi (List.mem_of_getElem? (i := 796) (by decide +kernel)) rfl)⟩
theorem q_X8_60 : gL RX8 60 8 21 := ⟨RX8, TX8, 37, rfl, by decide, rfl, by decide, inX8, Or.inl (gi (List.mem_of_getElem? (i := 799) (by decide +kernel)) rfl)⟩
theorem q_X8_63 : gL RX8 63 8 25 := ⟨RX8, TX8, 37, rfl, by decide, rfl, by decide, inX8, Or.inl (gi (List.mem_of_getElem? (i := 803) (by decide +kernel)) rfl)⟩
theorem q_X8_66 : gL RX8 66 8 26 := ⟨RX8, TX8, 37, rfl, by decide, rfl, by decide, inX8, Or.inl (gi (List.mem_of_getElem? (i := 804) (by decide +kernel)) rfl)⟩
theorem q_X8_7 : gL RX8 7 8 0 := ⟨RX8, TX8, 37, rfl, by decide, rfl, by decide, inX8, Or.inl (gi (List.mem_of_getElem? (i := 778) (by decide +kernel)) rfl)⟩
theorem q_X8_70 : gL RX8 70 8 28 := ⟨RX8, TX8, 37, rfl, by decide, rfl, by decide, inX8, Or.inl (gi (List.mem_of_getElem? (i := 806) (by decide +kernel)) rfl)⟩
theorem q_X8_73 : gL RX8 73 8 29 := ⟨RX8, TX8, 37, rfl, by decide, rfl, by decide, inX8, Or.inl (gi (List.mem_of_getElem? (i := 807) (by decide +kernel)) rfl)⟩
theorem q_X8_76 : gL RX8 76 8 30 := ⟨RX8, TX8, 37, rfl, by decide, rfl, by decide, inX8, Or.inl (gi (List.mem_of_getElem? (i := 808) (by decide +kernel)) rfl)⟩
theorem q_X8_79 : gL RX8 79 8 31 := ⟨RX8, TX8, 37, rfl, by decide, rfl, by decide, inX8, Or.inl (gi (List.mem_of_getElem? (i := 809) (by decide +kernel)) rfl)⟩
theorem q_X8_82 : gL RX8 82 8 32 := ⟨RX8, TX8, 37, rfl, by decide, rfl, by decide, inX8, Or.inl (gi (List.mem_of_getElem? (i := 810) (by decide +kernel)) rfl)⟩
theorem q_X8_85 : gL RX8 85 8 34 := ⟨RX8, TX8, 37, rfl, by decide, rfl, by decide, inX8, Or.inl (gi (List.mem_of_getElem? (i := 812) (by decide +kernel)) rfl)⟩
theorem q_X8_88 : gL RX8 88 8 35 := ⟨RX8, TX8, 37, rfl, by decide, rfl, by decide, inX8, Or.inl (gi (List.mem_of_getElem? (i := 813) (by decide +kernel)) rfl)⟩
theorem q_X8_91 : gL RX8 91 8 36 := ⟨RX8, TX8, 37, rfl, by decide, rfl, by decide, inX8, Or.inl (gi (List.mem_of_getElem? (i := 814) (by decide +kernel)) rfl)⟩
theorem q_X8_94 : gL RX8 94 8 22 := ⟨RX8, TX8, 37, rfl, by decide, rfl, by decide, inX8, Or.inl (gi (List.mem_of_getElem? (i := 800) (by decide +kernel)) rfl)⟩
theorem q_X8_97 : gL RX8 97 8 3 := ⟨RX8, TX8, 37, rfl, by decide, rfl, by decide, inX8, Or.inl (gi (List.mem_of_getElem? (i := 781) (by decide +kernel)) rfl)⟩
theorem qa_X0_117 : okA RX0 117 := ⟨gi (List.mem_of_getElem? (i := 613) (by decide +kernel)) rfl, gi (List.mem_of_getElem? (i := 535) (by decide +kernel)) rfl, gi (List.mem_of_getElem? (i := 534) (by decide +kernel)) rfl, gi (List.mem_of_getElem? (i := 66) (by decide +kernel)) rfl⟩
theorem qa_X1_28 : okA RX1 28 := ⟨gi (List.mem_of_getElem? (i := 758) (by decide +kernel)) rfl, gi (List.mem_of_getElem? (i := 535) (by decide +kernel)) rfl, gi (List.mem_of_getElem? (i := 534) (by decide +kernel)) rfl, gi (List.mem_of_getElem? (i := 66) (by decide +kernel)) rfl⟩
theorem qa_X2_28 : okA RX2 28 := ⟨gi (List.mem_of_getElem? (i := 533) (by decide +kernel)) rfl, gi (List.mem_of_getElem? (i := 535) (by decide +kernel)) rfl, gi (List.mem_of_getElem? (i := 534) (by decide +kernel)) rfl, gi (List.mem_of_getElem? (i := 66) (by decide +kernel)) rfl⟩
theorem qa_X5_45 : okA RX5 45 := ⟨gi (List.mem_of_getElem? (i := 753) (by decide +kernel)) rfl, gi (List.mem_of_getElem? (i := 535) (by decide +kernel)) rfl, gi (List.mem_of_getElem? (i := 534) (by decide +kernel)) rfl, gi (List.mem_of_getElem? (i := 66) (by decide +kernel)) rfl⟩
theorem qc_J6_265 : Cond.constant RJ6 265 (1431655765 : Int32) ∈ gtb := gi (List.mem_of_getElem? (i := 543) (by decide +kernel)) rfl
theorem qc_J6_266 : Cond.constant RJ6 266 (858993459 : Int32) ∈ gtb := gi (List.mem_of_getElem? (i := 544) (by decide +kernel)) rfl
theorem qc_J6_267 : Cond.constant RJ6 267 (252645135 : Int32) ∈ gtb := gi (List.mem_of_getElem? (i := 545) (by decide +kernel)) rfl
theorem qc_X6_82 : Cond.constantLong RX6 82 (4000000000000000 : Int64) ∈ gtb := gi (List.mem_of_getElem? (i := 578) (by decide +kernel)) rfl
theorem qc_X7_222 : Cond.constantLong RX7 222 (-2 : Int64) ∈ gtb := gi (List.mem_of_getElem? (i := 633) (by decide +kernel)) rfl
theorem qc_X7_261 : Cond.constantLong RX7 261 (-5 : Int64) ∈ gtb := gi (List.mem_of_getElem? (i := 579) (by decide +kernel)) rfl
theorem qc_X7_270 : Cond.constantLong RX7 270 (-4 : Int64) ∈ gtb := gi (List.mem_of_getElem? (i := 638) (by decide +kernel)) rfl
theorem qc_X7_289 : Cond.constantLong RX7 289 (1000 : Int64) ∈ gtb := gi (List.mem_of_getElem? (i := 703) (by decide +kernel)) rfl
theorem qc_X8_112 : Cond.constant RX8 112 (65535 : Int32) ∈ gtb := gi (List.mem_of_getElem? (i := 920) (by decide +kernel)) rfl
theorem qc_X8_170 : Cond.constantLong RX8 170 (4000000000000000 : Int64) ∈ gtb := gi (List.mem_of_getElem? (i := 1024) (by decide +kernel)) rfl
theorem qc_X8_189 : Cond.constantLong RX8 189 (-5 : Int64) ∈ gtb := gi (List.mem_of_getElem? (i := 1025) (by decide +kernel)) rfl
theorem qc_X8_199 : Cond.constantLong RX8 199 (-2 : Int64) ∈ gtb := gi (List.mem_of_getElem? (i := 1042) (by decide +kernel)) rfl
theorem qc_X8_218 : Cond.constantLong RX8 218 (1000 : Int64) ∈ gtb := gi (List.mem_of_getElem? (i := 1094) (by decide +kernel)) rfl
theorem qc_X8_220 : Cond.constantLong RX8 220 (-4 : Int64) ∈ gtb := gi (List.mem_of_getElem? (i := 1103) (by decide +kernel)) rfl
theorem qp_X0_15 : gLp RX0 15 0 2 .int := ⟨RX0, TX0, 13, tyX0, rfl, by decide, rfl, by decide, inX0, Or.inl (gi (List.mem_of_getElem? (i := 238) (by decide +kernel)) rfl), tyX0_ok, nmX0, by decide, by decide +kernel⟩
theorem qp_X0_34 : gLp RX0 34 0 8 .int := ⟨RX0, TX0, 13, tyX0, rfl, by decide, rfl, by decide, inX0, Or.inl (gi (List.mem_of_getElem? (i := 244) (by decide +kernel)) rfl), tyX0_ok, nmX0, by decide, by decide +kernel⟩
theorem qp_X1_15 : gLp RX1 15 1 1 .int := ⟨RX1, TX1, 5, tyX1, rfl, by decide, rfl, by decide, inX1, Or.inl (gi (List.mem_of_getElem? (i := 111) (by decide +kernel)) rfl), tyX1_ok, nmX1, by decide, by decide +kernel⟩
theorem qp_X1_18 : gLp RX1 18 1 2 .int := ⟨RX1, TX1, 5, tyX1, rfl, by decide, rfl, by decide, inX1, Or.inl (gi (List.mem_of_getElem? (i := 113) (by decide +kernel)) rfl), tyX1_ok, nmX1, by decide, by decide +kernel⟩
theorem qp_X1_9 : gLp RX1 9 1 0 .int := ⟨RX1, TX1, 5, tyX1, rfl, by decide, rfl, by decide, inX1, Or.inl (gi (List.mem_of_getElem? (i := 108) (by decide +kernel)) rfl), tyX1_ok, nmX1, by decide, by decide +kernel⟩
theorem qp_X3_15 : gLp RX3 15 3 1 .int := ⟨RX3, TX3, 4, tyX3, rfl, by decide, rfl, by decide, inX3, Or.inl (gi (List.mem_of_getElem? (i := 284) (by decide +kernel)) rfl), tyX3_ok, nmX3, by decide, by decide +kernel⟩
theorem qp_X3_19 : gLp RX3 19 3 2 .int := ⟨RX3, TX3, 4, tyX3, rfl, by decide, rfl, by decide, inX3, Or.inl (gi (List.mem_of_getElem? (i := 286) (by decide +kernel)) rfl), tyX3_ok, nmX3, by decide, by decide +kernel⟩
theorem qp_X3_9 : gLp RX3 9 3 0 .boolean := ⟨RX3, TX3, 4, tyX3, rfl, by decide, rfl, by decide, inX3, Or.inl (gi (List.mem_of_getElem? (i := 282) (by decide +kernel)) rfl), tyX3_ok, nmX3, by decide, by decide +kernel⟩
theorem qp_X4_15 : gLp RX4 15 4 1 .int := ⟨RX4, TX4, 6, tyX4, rfl, by decide, rfl, by decide, inX4, Or.inl (gi (List.mem_of_getElem? (i := 172) (by decide +kernel)) rfl), tyX4_ok, nmX4, by decide, by decide +kernel⟩
theorem qp_X4_19 : gLp RX4 19 4 2 .int := ⟨RX4, TX4, 6, tyX4, rfl, by decide, rfl, by decide, inX4, Or.inl (gi (List.mem_of_getElem? (i := 174) (by decide +kernel)) rfl), tyX4_ok, nmX4, by decide, by decide +kernel⟩
theorem qp_X4_22 : gLp RX4 22 4 3 .int := ⟨RX4, TX4, 6, tyX4, rfl, by decide, rfl, by decide, inX4, Or.inl (gi (List.mem_of_getElem? (i := 176) (by decide +kernel)) rfl), tyX4_ok, nmX4, by decide, by decide +kernel⟩
theorem qp_X4_25 : gLp RX4 25 4 4 .int := ⟨RX4, TX4, 6, tyX4, rfl, by decide, rfl, by decide, inX4, Or.inl (gi (List.mem_of_getElem? (i := 177) (by decide +kernel)) rfl), tyX4_ok, nmX4, by decide, by decide +kernel⟩
theorem qp_X5_22 : gLp RX5 22 5 3 .int := ⟨RX5, TX5, 6, tyX5, rfl, by decide, rfl, by decide, inX5, Or.inl (gi (List.mem_of_getElem? (i := 139) (by decide +kernel)) rfl), tyX5_ok, nmX5, by decide, by decide +kernel⟩
theorem qp_X5_9 : gLp RX5 9 5 0 .int := ⟨RX5, TX5, 6, tyX5, rfl, by decide, rfl, by decide, inX5, Or.inl (gi (List.mem_of_getElem? (i := 132) (by decide +kernel)) rfl), tyX5_ok, nmX5, by decide, by decide +kernel⟩
theorem qp_X6_15 : gLp RX6 15 6 1 .int := ⟨RX6, TX6, 7, tyX6, rfl, by decide, rfl, by decide, inX6, Or.inl (gi (List.mem_of_getElem? (i := 204) (by decide +kernel)) rfl), tyX6_ok, nmX6, by decide, by decide +kernel⟩
theorem qp_X6_18 : gLp RX6 18 6 2 .int := ⟨RX6, TX6, 7, tyX6, rfl, by decide, rfl, by decide, inX6, Or.inl (gi (List.mem_of_getElem? (i := 206) (by decide +kernel)) rfl), tyX6_ok, nmX6, by decide, by decide +kernel⟩
theorem qp_X6_9 : gLp RX6 9 6 0 .int := ⟨RX6, TX6, 7, tyX6, rfl, by decide, rfl, by decide, inX6, Or.inl (gi (List.mem_of_getElem? (i := 202) (by decide +kernel)) rfl), tyX6_ok, nmX6, by decide, by decide +kernel⟩
theorem qp_X7_104 : gLp RX7 104 3 0 .boolean := ⟨RX3, TX3, 4, tyX3, rfl, by decide, rfl, by decide, inX3, Or.inr ⟨"DatingTable", gin (List.mem_of_getElem? (i := 283) (by decide +kernel)) rfl⟩, tyX3_ok, nmX3, by decide, by decide +kernel⟩
theorem qp_X7_132 : gLp RX7 132 5 3 .int := ⟨RX5, TX5, 6, tyX5, rfl, by decide, rfl, by decide, inX5, Or.inr ⟨"DatingTable", gin (List.mem_of_getElem? (i := 141) (by decide +kernel)) rfl⟩, tyX5_ok, nmX5, by decide, by decide +kernel⟩
theorem qp_X7_154 : gLp RX7 154 1 1 .int := ⟨RX1, TX1, 5, tyX1, rfl, by decide, rfl, by decide, inX1, Or.inr ⟨"DatingTable", gin (List.mem_of_getElem? (i := 112) (by decide +kernel)) rfl⟩, tyX1_ok, nmX1, by decide, by decide +kernel⟩
theorem qp_X7_19 : gLp RX7 19 7 2 .boolean := ⟨RX7, TX7, 13, tyX7, rfl, by decide, rfl, by decide, inX7, Or.inl (gi (List.mem_of_getElem? (i := 300) (by decide +kernel)) rfl), tyX7_ok, nmX7, by decide, by decide +kernel⟩
theorem qp_X7_194 : gLp RX7 194 4 1 .int := ⟨RX4, TX4, 6, tyX4, rfl, by decide, rfl, by decide, inX4, Or.inr ⟨"DatingTable", gin (List.mem_of_getElem? (i := 173) (by decide +kernel)) rfl⟩, tyX4_ok, nmX4, by decide, by decide +kernel⟩
theorem qp_X7_56 : gLp RX7 56 7 8 .int := ⟨RX7, TX7, 13, tyX7, rfl, by decide, rfl, by decide, inX7, Or.inl (gi (List.mem_of_getElem? (i := 306) (by decide +kernel)) rfl), tyX7_ok, nmX7, by decide, by decide +kernel⟩
theorem qp_X7_63 : gLp RX7 63 7 10 .boolean := ⟨RX7, TX7, 13, tyX7, rfl, by decide, rfl, by decide, inX7, Or.inl (gi (List.mem_of_getElem? (i := 308) (by decide +kernel)) rfl), tyX7_ok, nmX7, by decide, by decide +kernel⟩
theorem qp_X7_66 : gLp RX7 66 7 11 .long := ⟨RX7, TX7, 13, tyX7, rfl, by decide, rfl, by decide, inX7, Or.inl (gi (List.mem_of_getElem? (i := 309) (by decide +kernel)) rfl), tyX7_ok, nmX7, by decide, by decide +kernel⟩
theorem qp_X7_70 : gLp RX7 70 7 12 .int := ⟨RX7, TX7, 13, tyX7, rfl, by decide, rfl, by decide, inX7, Or.inl (gi (List.mem_of_getElem? (i := 310) (by decide +kernel)) rfl), tyX7_ok, nmX7, by decide, by decide +kernel⟩
theorem qp_X7_74 : gLp RX7 74 5 0 .int := ⟨RX5, TX5, 6, tyX5, rfl, by decide, rfl, by decide, inX5, Or.inr ⟨"DatingTable", gin (List.mem_of_getElem? (i := 134) (by decide +kernel)) rfl⟩, tyX5_ok, nmX5, by decide, by decide +kernel⟩
theorem qp_X8_113 : gLp RX8 113 8 10 .boolean := ⟨RX8, TX8, 37, tyX8, rfl, by decide, rfl, by decide, inX8, Or.inl (gi (List.mem_of_getElem? (i := 788) (by decide +kernel)) rfl), tyX8_ok, nmX8, by decide, by decide +kernel⟩
theorem qp_X8_138 : gLp RX8 138 8 19 .int := ⟨RX8, TX8, 37, tyX8, rfl, by decide, rfl, by decide, inX8, Or.inl (gi (List.mem_of_getElem? (i := 797) (by decide +kernel)) rfl), tyX8_ok, nmX8, by decide, by decide +kernel⟩
theorem qp_X8_141 : gLp RX8 141 8 23 .int := ⟨RX8, TX8, 37, tyX8, rfl, by decide, rfl, by decide, inX8, Or.inl (gi (List.mem_of_getElem? (i := 801) (by decide +kernel)) rfl), tyX8_ok, nmX8, by decide, by decide +kernel⟩
theorem qp_X8_148 : gLp RX8 148 8 24 .boolean := ⟨RX8, TX8, 37, tyX8, rfl, by decide, rfl, by decide, inX8, Or.inl (gi (List.mem_of_getElem? (i := 802) (by decide +kernel)) rfl), tyX8_ok, nmX8, by decide, by decide +kernel⟩
theorem qp_X8_163 : gLp RX8 163 8 27 .int := ⟨RX8, TX8, 37, tyX8, rfl, by decide, rfl, by decide, inX8, Or.inl (gi (List.mem_of_getElem? (i := 805) (by decide +kernel)) rfl), tyX8_ok, nmX8, by decide, by decide +kernel⟩
theorem qp_X8_186 : gLp RX8 186 8 33 .long := ⟨RX8, TX8, 37, tyX8, rfl, by decide, rfl, by decide, inX8, Or.inl (gi (List.mem_of_getElem? (i := 811) (by decide +kernel)) rfl), tyX8_ok, nmX8, by decide, by decide +kernel⟩
theorem qp_X8_222 : gLp RX8 222 8 20 .int := ⟨RX8, TX8, 37, tyX8, rfl, by decide, rfl, by decide, inX8, Or.inl (gi (List.mem_of_getElem? (i := 798) (by decide +kernel)) rfl), tyX8_ok, nmX8, by decide, by decide +kernel⟩
theorem qp_X8_236 : gLp RX8 236 8 13 .boolean := ⟨RX8, TX8, 37, tyX8, rfl, by decide, rfl, by decide, inX8, Or.inl (gi (List.mem_of_getElem? (i := 791) (by decide +kernel)) rfl), tyX8_ok, nmX8, by decide, by decide +kernel⟩
theorem qp_X8_41 : gLp RX8 41 8 12 .long := ⟨RX8, TX8, 37, tyX8, rfl, by decide, rfl, by decide, inX8, Or.inl (gi (List.mem_of_getElem? (i := 790) (by decide +kernel)) rfl), tyX8_ok, nmX8, by decide, by decide +kernel⟩
theorem qp_X8_7 : gLp RX8 7 8 0 .int := ⟨RX8, TX8, 37, tyX8, rfl, by decide, rfl, by decide, inX8, Or.inl (gi (List.mem_of_getElem? (i := 778) (by decide +kernel)) rfl), tyX8_ok, nmX8, by decide, by decide +kernel⟩
theorem qp_X8_94 : gLp RX8 94 8 22 .int := ⟨RX8, TX8, 37, tyX8, rfl, by decide, rfl, by decide, inX8, Or.inl (gi (List.mem_of_getElem? (i := 800) (by decide +kernel)) rfl), tyX8_ok, nmX8, by decide, by decide +kernel⟩
theorem qp_X8_97 : gLp RX8 97 8 3 .int := ⟨RX8, TX8, 37, tyX8, rfl, by decide, rfl, by decide, inX8, Or.inl (gi (List.mem_of_getElem? (i := 781) (by decide +kernel)) rfl), tyX8_ok, nmX8, by decide, by decide +kernel⟩
theorem qs_X0_139 : okS RX0 139 yX0_nextSubset cX0_nextSubset 2 (some .int) 2 := ⟨gi (List.mem_of_getElem? (i := 622) (by decide +kernel)) rfl, gi (List.mem_of_getElem? (i := 623) (by decide +kernel)) rfl, gi (List.mem_of_getElem? (i := 62) (by decide +kernel)) rfl, gi (List.mem_of_getElem? (i := 624) (by decide +kernel)) rfl, by decide, by decide, by decide +kernel⟩
theorem qs_X0_58 : okS RX0 58 yJ7_fill_d0a16 cJ7_fill_d0a16 5 none 2 := ⟨gi (List.mem_of_getElem? (i := 606) (by decide +kernel)) rfl, gi (List.mem_of_getElem? (i := 607) (by decide +kernel)) rfl, gi (List.mem_of_getElem? (i := 65) (by decide +kernel)) rfl, gi (List.mem_of_getElem? (i := 608) (by decide +kernel)) rfl, by decide, by decide, by decide +kernel⟩
theorem qs_X2_22 : okS RX2 22 yJ7_fill_53178 cJ7_fill_53178 4 none 2 := ⟨gi (List.mem_of_getElem? (i := 507) (by decide +kernel)) rfl, gi (List.mem_of_getElem? (i := 375) (by decide +kernel)) rfl, gi (List.mem_of_getElem? (i := 65) (by decide +kernel)) rfl, gi (List.mem_of_getElem? (i := 376) (by decide +kernel)) rfl, by decide, by decide, by decide +kernel⟩
theorem qs_X2_34 : okS RX2 34 yJ6_bitCount_0f7a4 cJ6_bitCount_0f7a4 1 (some .int) 1 := ⟨gi (List.mem_of_getElem? (i := 540) (by decide +kernel)) rfl, gi (List.mem_of_getElem? (i := 541) (by decide +kernel)) rfl, gi (List.mem_of_getElem? (i := 67) (by decide +kernel)) rfl, gi (List.mem_of_getElem? (i := 542) (by decide +kernel)) rfl, by decide, by decide, by decide +kernel⟩
theorem qs_X3_26 : okS RX3 26 yJ7_fill_53178 cJ7_fill_53178 4 none 2 := ⟨gi (List.mem_of_getElem? (i := 374) (by decide +kernel)) rfl, gi (List.mem_of_getElem? (i := 375) (by decide +kernel)) rfl, gi (List.mem_of_getElem? (i := 65) (by decide +kernel)) rfl, gi (List.mem_of_getElem? (i := 376) (by decide +kernel)) rfl, by decide, by decide, by decide +kernel⟩
theorem qs_X7_129 : okS RX7 129 yX7_isOfKind cX7_isOfKind 2 (some .boolean) 2 := ⟨gi (List.mem_of_getElem? (i := 405) (by decide +kernel)) rfl, gi (List.mem_of_getElem? (i := 406) (by decide +kernel)) rfl, gi (List.mem_of_getElem? (i := 55) (by decide +kernel)) rfl, gi (List.mem_of_getElem? (i := 407) (by decide +kernel)) rfl, by decide, by decide, by decide +kernel⟩
theorem qs_X7_286 : okS RX7 286 yX7_greatestDivisor cX7_greatestDivisor 11 (some .long) 2 := ⟨gi (List.mem_of_getElem? (i := 648) (by decide +kernel)) rfl, gi (List.mem_of_getElem? (i := 649) (by decide +kernel)) rfl, gi (List.mem_of_getElem? (i := 55) (by decide +kernel)) rfl, gi (List.mem_of_getElem? (i := 650) (by decide +kernel)) rfl, by decide, by decide, by decide +kernel⟩
theorem qs_X7_77 : okS RX7 77 yX7_isAge cX7_isAge 1 (some .boolean) 1 := ⟨gi (List.mem_of_getElem? (i := 346) (by decide +kernel)) rfl, gi (List.mem_of_getElem? (i := 347) (by decide +kernel)) rfl, gi (List.mem_of_getElem? (i := 55) (by decide +kernel)) rfl, gi (List.mem_of_getElem? (i := 348) (by decide +kernel)) rfl, by decide, by decide, by decide +kernel⟩
theorem qs_X7_84 : okS RX7 84 yX7_isDigit cX7_isDigit 1 (some .boolean) 1 := ⟨gi (List.mem_of_getElem? (i := 353) (by decide +kernel)) rfl, gi (List.mem_of_getElem? (i := 354) (by decide +kernel)) rfl, gi (List.mem_of_getElem? (i := 55) (by decide +kernel)) rfl, gi (List.mem_of_getElem? (i := 355) (by decide +kernel)) rfl, by decide, by decide, by decide +kernel⟩
theorem qs_X7_90 : okS RX7 90 yX7_isSheet cX7_isSheet 1 (some .boolean) 1 := ⟨gi (List.mem_of_getElem? (i := 360) (by decide +kernel)) rfl, gi (List.mem_of_getElem? (i := 361) (by decide +kernel)) rfl, gi (List.mem_of_getElem? (i := 55) (by decide +kernel)) rfl, gi (List.mem_of_getElem? (i := 362) (by decide +kernel)) rfl, by decide, by decide, by decide +kernel⟩
theorem qs_X7_93 : okS RX7 93 yX7_isSort cX7_isSort 1 (some .boolean) 1 := ⟨gi (List.mem_of_getElem? (i := 363) (by decide +kernel)) rfl, gi (List.mem_of_getElem? (i := 364) (by decide +kernel)) rfl, gi (List.mem_of_getElem? (i := 55) (by decide +kernel)) rfl, gi (List.mem_of_getElem? (i := 365) (by decide +kernel)) rfl, by decide, by decide, by decide +kernel⟩
theorem qs_X8_100 : okS RX8 100 yX8_isIn cX8_isIn 3 (some .boolean) 3 := ⟨gi (List.mem_of_getElem? (i := 894) (by decide +kernel)) rfl, gi (List.mem_of_getElem? (i := 895) (by decide +kernel)) rfl, gi (List.mem_of_getElem? (i := 64) (by decide +kernel)) rfl, gi (List.mem_of_getElem? (i := 896) (by decide +kernel)) rfl, by decide, by decide, by decide +kernel⟩
theorem qs_X8_104 : okS RX8 104 yX8_isSheet cX8_isSheet 1 (some .boolean) 1 := ⟨gi (List.mem_of_getElem? (i := 909) (by decide +kernel)) rfl, gi (List.mem_of_getElem? (i := 910) (by decide +kernel)) rfl, gi (List.mem_of_getElem? (i := 64) (by decide +kernel)) rfl, gi (List.mem_of_getElem? (i := 911) (by decide +kernel)) rfl, by decide, by decide, by decide +kernel⟩
theorem qs_X8_166 : okS RX8 166 yX8_in cX8_in 2 (some .boolean) 2 := ⟨gi (List.mem_of_getElem? (i := 1021) (by decide +kernel)) rfl, gi (List.mem_of_getElem? (i := 1022) (by decide +kernel)) rfl, gi (List.mem_of_getElem? (i := 64) (by decide +kernel)) rfl, gi (List.mem_of_getElem? (i := 1023) (by decide +kernel)) rfl, by decide, by decide, by decide +kernel⟩
theorem qs_X8_191 : okS RX8 191 yX8_common cX8_common 10 (some .long) 2 := ⟨gi (List.mem_of_getElem? (i := 1059) (by decide +kernel)) rfl, gi (List.mem_of_getElem? (i := 1060) (by decide +kernel)) rfl, gi (List.mem_of_getElem? (i := 64) (by decide +kernel)) rfl, gi (List.mem_of_getElem? (i := 1061) (by decide +kernel)) rfl, by decide, by decide, by decide +kernel⟩
theorem qv_X0_101 : okV RX0 101 RX6 yX6_isMember cX6_isMember 2 (some .boolean) 1 := ⟨gi (List.mem_of_getElem? (i := 597) (by decide +kernel)) rfl, gi (List.mem_of_getElem? (i := 571) (by decide +kernel)) rfl, gi (List.mem_of_getElem? (i := 572) (by decide +kernel)) rfl, gi (List.mem_of_getElem? (i := 61) (by decide +kernel)) rfl, gi (List.mem_of_getElem? (i := 573) (by decide +kernel)) rfl, by decide, by decide, by decide +kernel⟩
theorem qv_X0_123 : okV RX0 123 RX0 yX0_place cX0_place 10 none 2 := ⟨gi (List.mem_of_getElem? (i := 614) (by decide +kernel)) rfl, gi (List.mem_of_getElem? (i := 616) (by decide +kernel)) rfl, gi (List.mem_of_getElem? (i := 16) (by decide +kernel)) rfl, gi (List.mem_of_getElem? (i := 62) (by decide +kernel)) rfl, gi (List.mem_of_getElem? (i := 617) (by decide +kernel)) rfl, by decide, by decide, by decide +kernel⟩
theorem qv_X0_126 : okV RX0 126 RX0 yX0_clearOpenSets cX0_clearOpenSets 3 none 1 := ⟨gi (List.mem_of_getElem? (i := 625) (by decide +kernel)) rfl, gi (List.mem_of_getElem? (i := 627) (by decide +kernel)) rfl, gi (List.mem_of_getElem? (i := 18) (by decide +kernel)) rfl, gi (List.mem_of_getElem? (i := 62) (by decide +kernel)) rfl, gi (List.mem_of_getElem? (i := 628) (by decide +kernel)) rfl, by decide, by decide, by decide +kernel⟩
theorem qv_X0_130 : okV RX0 130 RX0 yX0_meet cX0_meet 12 (some .long) 2 := ⟨gi (List.mem_of_getElem? (i := 687) (by decide +kernel)) rfl, gi (List.mem_of_getElem? (i := 689) (by decide +kernel)) rfl, gi (List.mem_of_getElem? (i := 23) (by decide +kernel)) rfl, gi (List.mem_of_getElem? (i := 62) (by decide +kernel)) rfl, gi (List.mem_of_getElem? (i := 690) (by decide +kernel)) rfl, by decide, by decide, by decide +kernel⟩
theorem qv_X0_133 : okV RX0 133 RX0 yX0_takeUp cX0_takeUp 10 none 2 := ⟨gi (List.mem_of_getElem? (i := 691) (by decide +kernel)) rfl, gi (List.mem_of_getElem? (i := 693) (by decide +kernel)) rfl, gi (List.mem_of_getElem? (i := 24) (by decide +kernel)) rfl, gi (List.mem_of_getElem? (i := 62) (by decide +kernel)) rfl, gi (List.mem_of_getElem? (i := 694) (by decide +kernel)) rfl, by decide, by decide, by decide +kernel⟩
theorem qv_X0_136 : okV RX0 136 RX0 yX0_leastBefore cX0_leastBefore 3 (some .int) 2 := ⟨gi (List.mem_of_getElem? (i := 618) (by decide +kernel)) rfl, gi (List.mem_of_getElem? (i := 620) (by decide +kernel)) rfl, gi (List.mem_of_getElem? (i := 17) (by decide +kernel)) rfl, gi (List.mem_of_getElem? (i := 62) (by decide +kernel)) rfl, gi (List.mem_of_getElem? (i := 621) (by decide +kernel)) rfl, by decide, by decide, by decide +kernel⟩
theorem qv_X0_54 : okV RX0 54 RX0 yX0_prepare cX0_prepare 4 (some .boolean) 0 := ⟨gi (List.mem_of_getElem? (i := 584) (by decide +kernel)) rfl, gi (List.mem_of_getElem? (i := 586) (by decide +kernel)) rfl, gi (List.mem_of_getElem? (i := 11) (by decide +kernel)) rfl, gi (List.mem_of_getElem? (i := 62) (by decide +kernel)) rfl, gi (List.mem_of_getElem? (i := 587) (by decide +kernel)) rfl, by decide, by decide, by decide +kernel⟩
theorem qv_X0_69 : okV RX0 69 RX0 yX0_goForward cX0_goForward 5 none 2 := ⟨gi (List.mem_of_getElem? (i := 609) (by decide +kernel)) rfl, gi (List.mem_of_getElem? (i := 611) (by decide +kernel)) rfl, gi (List.mem_of_getElem? (i := 15) (by decide +kernel)) rfl, gi (List.mem_of_getElem? (i := 62) (by decide +kernel)) rfl, gi (List.mem_of_getElem? (i := 612) (by decide +kernel)) rfl, by decide, by decide, by decide +kernel⟩
theorem qv_X0_76 : okV RX0 76 RX0 yX0_goBackward cX0_goBackward 5 none 2 := ⟨gi (List.mem_of_getElem? (i := 683) (by decide +kernel)) rfl, gi (List.mem_of_getElem? (i := 685) (by decide +kernel)) rfl, gi (List.mem_of_getElem? (i := 22) (by decide +kernel)) rfl, gi (List.mem_of_getElem? (i := 62) (by decide +kernel)) rfl, gi (List.mem_of_getElem? (i := 686) (by decide +kernel)) rfl, by decide, by decide, by decide +kernel⟩
theorem qv_X0_79 : okV RX0 79 RX0 yX0_findYearsThatWeigh cX0_findYearsThatWeigh 3 (some .boolean) 0 := ⟨gi (List.mem_of_getElem? (i := 588) (by decide +kernel)) rfl, gi (List.mem_of_getElem? (i := 590) (by decide +kernel)) rfl, gi (List.mem_of_getElem? (i := 12) (by decide +kernel)) rfl, gi (List.mem_of_getElem? (i := 62) (by decide +kernel)) rfl, gi (List.mem_of_getElem? (i := 591) (by decide +kernel)) rfl, by decide, by decide, by decide +kernel⟩
theorem qv_X0_82 : okV RX0 82 RX0 yX0_rankFinds cX0_rankFinds 6 (some .boolean) 0 := ⟨gi (List.mem_of_getElem? (i := 598) (by decide +kernel)) rfl, gi (List.mem_of_getElem? (i := 600) (by decide +kernel)) rfl, gi (List.mem_of_getElem? (i := 13) (by decide +kernel)) rfl, gi (List.mem_of_getElem? (i := 62) (by decide +kernel)) rfl, gi (List.mem_of_getElem? (i := 601) (by decide +kernel)) rfl, by decide, by decide, by decide +kernel⟩
theorem qv_X0_85 : okV RX0 85 RX0 yX0_listOpenSets cX0_listOpenSets 5 none 0 := ⟨gi (List.mem_of_getElem? (i := 602) (by decide +kernel)) rfl, gi (List.mem_of_getElem? (i := 604) (by decide +kernel)) rfl, gi (List.mem_of_getElem? (i := 14) (by decide +kernel)) rfl, gi (List.mem_of_getElem? (i := 62) (by decide +kernel)) rfl, gi (List.mem_of_getElem? (i := 605) (by decide +kernel)) rfl, by decide, by decide, by decide +kernel⟩
theorem qv_X0_91 : okV RX0 91 RX6 yX6_weightAt cX6_weightAt 3 (some .long) 2 := ⟨gi (List.mem_of_getElem? (i := 592) (by decide +kernel)) rfl, gi (List.mem_of_getElem? (i := 593) (by decide +kernel)) rfl, gi (List.mem_of_getElem? (i := 594) (by decide +kernel)) rfl, gi (List.mem_of_getElem? (i := 61) (by decide +kernel)) rfl, gi (List.mem_of_getElem? (i := 595) (by decide +kernel)) rfl, by decide, by decide, by decide +kernel⟩
theorem qv_X2_18 : okV RX2 18 RX2 yX2_put cX2_put 5 none 3 := ⟨gi (List.mem_of_getElem? (i := 486) (by decide +kernel)) rfl, gi (List.mem_of_getElem? (i := 437) (by decide +kernel)) rfl, gi (List.mem_of_getElem? (i := 438) (by decide +kernel)) rfl, gi (List.mem_of_getElem? (i := 57) (by decide +kernel)) rfl, gi (List.mem_of_getElem? (i := 439) (by decide +kernel)) rfl, by decide, by decide, by decide +kernel⟩
theorem qv_X4_35 : okV RX4 35 RX2 yX2_clear cX2_clear 1 none 0 := ⟨gi (List.mem_of_getElem? (i := 503) (by decide +kernel)) rfl, gi (List.mem_of_getElem? (i := 504) (by decide +kernel)) rfl, gi (List.mem_of_getElem? (i := 505) (by decide +kernel)) rfl, gi (List.mem_of_getElem? (i := 57) (by decide +kernel)) rfl, gi (List.mem_of_getElem? (i := 506) (by decide +kernel)) rfl, by decide, by decide, by decide +kernel⟩
theorem qv_X4_38 : okV RX4 38 RX4 yX4_readGroup cX4_readGroup 3 (some .boolean) 0 := ⟨gi (List.mem_of_getElem? (i := 508) (by decide +kernel)) rfl, gi (List.mem_of_getElem? (i := 510) (by decide +kernel)) rfl, gi (List.mem_of_getElem? (i := 4) (by decide +kernel)) rfl, gi (List.mem_of_getElem? (i := 60) (by decide +kernel)) rfl, gi (List.mem_of_getElem? (i := 511) (by decide +kernel)) rfl, by decide, by decide, by decide +kernel⟩
theorem qv_X4_42 : okV RX4 42 RX4 yX4_readNextGroup cX4_readNextGroup 3 (some .boolean) 0 := ⟨gi (List.mem_of_getElem? (i := 520) (by decide +kernel)) rfl, gi (List.mem_of_getElem? (i := 522) (by decide +kernel)) rfl, gi (List.mem_of_getElem? (i := 7) (by decide +kernel)) rfl, gi (List.mem_of_getElem? (i := 60) (by decide +kernel)) rfl, gi (List.mem_of_getElem? (i := 523) (by decide +kernel)) rfl, by decide, by decide, by decide +kernel⟩
theorem qv_X4_45 : okV RX4 45 RX4 yX4_skip cX4_skip 2 (some .boolean) 1 := ⟨gi (List.mem_of_getElem? (i := 512) (by decide +kernel)) rfl, gi (List.mem_of_getElem? (i := 514) (by decide +kernel)) rfl, gi (List.mem_of_getElem? (i := 5) (by decide +kernel)) rfl, gi (List.mem_of_getElem? (i := 60) (by decide +kernel)) rfl, gi (List.mem_of_getElem? (i := 515) (by decide +kernel)) rfl, by decide, by decide, by decide +kernel⟩
theorem qv_X4_49 : okV RX4 49 RX4 yX4_relate cX4_relate 5 none 2 := ⟨gi (List.mem_of_getElem? (i := 524) (by decide +kernel)) rfl, gi (List.mem_of_getElem? (i := 526) (by decide +kernel)) rfl, gi (List.mem_of_getElem? (i := 8) (by decide +kernel)) rfl, gi (List.mem_of_getElem? (i := 60) (by decide +kernel)) rfl, gi (List.mem_of_getElem? (i := 527) (by decide +kernel)) rfl, by decide, by decide, by decide +kernel⟩
theorem qv_X4_53 : okV RX4 53 RX4 yX4_readName cX4_readName 2 (some .boolean) 0 := ⟨gi (List.mem_of_getElem? (i := 516) (by decide +kernel)) rfl, gi (List.mem_of_getElem? (i := 518) (by decide +kernel)) rfl, gi (List.mem_of_getElem? (i := 6) (by decide +kernel)) rfl, gi (List.mem_of_getElem? (i := 60) (by decide +kernel)) rfl, gi (List.mem_of_getElem? (i := 519) (by decide +kernel)) rfl, by decide, by decide, by decide +kernel⟩
theorem qv_X4_56 : okV RX4 56 RX2 yX2_put cX2_put 5 none 3 := ⟨gi (List.mem_of_getElem? (i := 528) (by decide +kernel)) rfl, gi (List.mem_of_getElem? (i := 437) (by decide +kernel)) rfl, gi (List.mem_of_getElem? (i := 438) (by decide +kernel)) rfl, gi (List.mem_of_getElem? (i := 57) (by decide +kernel)) rfl, gi (List.mem_of_getElem? (i := 439) (by decide +kernel)) rfl, by decide, by decide, by decide +kernel⟩
theorem qv_X5_51 : okV RX5 51 RX1 yX1_copyFrom cX1_copyFrom 2 none 1 := ⟨gi (List.mem_of_getElem? (i := 754) (by decide +kernel)) rfl, gi (List.mem_of_getElem? (i := 755) (by decide +kernel)) rfl, gi (List.mem_of_getElem? (i := 756) (by decide +kernel)) rfl, gi (List.mem_of_getElem? (i := 59) (by decide +kernel)) rfl, gi (List.mem_of_getElem? (i := 757) (by decide +kernel)) rfl, by decide, by decide, by decide +kernel⟩
theorem qv_X5_55 : okV RX5 55 RX2 yX2_copyFrom cX2_copyFrom 2 none 1 := ⟨gi (List.mem_of_getElem? (i := 759) (by decide +kernel)) rfl, gi (List.mem_of_getElem? (i := 530) (by decide +kernel)) rfl, gi (List.mem_of_getElem? (i := 531) (by decide +kernel)) rfl, gi (List.mem_of_getElem? (i := 57) (by decide +kernel)) rfl, gi (List.mem_of_getElem? (i := 532) (by decide +kernel)) rfl, by decide, by decide, by decide +kernel⟩
theorem qv_X5_64 : okV RX5 64 RX5 yX5_plainOfAges cX5_plainOfAges 7 (some .int) 2 := ⟨gi (List.mem_of_getElem? (i := 452) (by decide +kernel)) rfl, gi (List.mem_of_getElem? (i := 454) (by decide +kernel)) rfl, gi (List.mem_of_getElem? (i := 2) (by decide +kernel)) rfl, gi (List.mem_of_getElem? (i := 56) (by decide +kernel)) rfl, gi (List.mem_of_getElem? (i := 455) (by decide +kernel)) rfl, by decide, by decide, by decide +kernel⟩
theorem qv_X5_78 : okV RX5 78 RX5 yX5_plainAt cX5_plainAt 3 (some .int) 2 := ⟨gi (List.mem_of_getElem? (i := 448) (by decide +kernel)) rfl, gi (List.mem_of_getElem? (i := 449) (by decide +kernel)) rfl, gi (List.mem_of_getElem? (i := 450) (by decide +kernel)) rfl, gi (List.mem_of_getElem? (i := 56) (by decide +kernel)) rfl, gi (List.mem_of_getElem? (i := 451) (by decide +kernel)) rfl, by decide, by decide, by decide +kernel⟩
theorem qv_X5_81 : okV RX5 81 RX5 yX5_meanPlain cX5_meanPlain 4 (some .int) 1 := ⟨gi (List.mem_of_getElem? (i := 463) (by decide +kernel)) rfl, gi (List.mem_of_getElem? (i := 445) (by decide +kernel)) rfl, gi (List.mem_of_getElem? (i := 446) (by decide +kernel)) rfl, gi (List.mem_of_getElem? (i := 56) (by decide +kernel)) rfl, gi (List.mem_of_getElem? (i := 447) (by decide +kernel)) rfl, by decide, by decide, by decide +kernel⟩
theorem qv_X5_85 : okV RX5 85 RX1 yX1_weightFrom cX1_weightFrom 3 (some .int) 2 := ⟨gi (List.mem_of_getElem? (i := 464) (by decide +kernel)) rfl, gi (List.mem_of_getElem? (i := 465) (by decide +kernel)) rfl, gi (List.mem_of_getElem? (i := 466) (by decide +kernel)) rfl, gi (List.mem_of_getElem? (i := 59) (by decide +kernel)) rfl, gi (List.mem_of_getElem? (i := 467) (by decide +kernel)) rfl, by decide, by decide, by decide +kernel⟩
theorem qv_X6_44 : okV RX6 44 RX2 yX2_copyFrom cX2_copyFrom 2 none 1 := ⟨gi (List.mem_of_getElem? (i := 558) (by decide +kernel)) rfl, gi (List.mem_of_getElem? (i := 530) (by decide +kernel)) rfl, gi (List.mem_of_getElem? (i := 531) (by decide +kernel)) rfl, gi (List.mem_of_getElem? (i := 57) (by decide +kernel)) rfl, gi (List.mem_of_getElem? (i := 532) (by decide +kernel)) rfl, by decide, by decide, by decide +kernel⟩
theorem qv_X6_52 : okV RX6 52 RX5 yX5_meanPlain cX5_meanPlain 4 (some .int) 1 := ⟨gi (List.mem_of_getElem? (i := 559) (by decide +kernel)) rfl, gi (List.mem_of_getElem? (i := 445) (by decide +kernel)) rfl, gi (List.mem_of_getElem? (i := 446) (by decide +kernel)) rfl, gi (List.mem_of_getElem? (i := 56) (by decide +kernel)) rfl, gi (List.mem_of_getElem? (i := 447) (by decide +kernel)) rfl, by decide, by decide, by decide +kernel⟩
theorem qv_X6_56 : okV RX6 56 RX5 yX5_plainAt cX5_plainAt 3 (some .int) 2 := ⟨gi (List.mem_of_getElem? (i := 560) (by decide +kernel)) rfl, gi (List.mem_of_getElem? (i := 449) (by decide +kernel)) rfl, gi (List.mem_of_getElem? (i := 450) (by decide +kernel)) rfl, gi (List.mem_of_getElem? (i := 56) (by decide +kernel)) rfl, gi (List.mem_of_getElem? (i := 451) (by decide +kernel)) rfl, by decide, by decide, by decide +kernel⟩
theorem qv_X6_60 : okV RX6 60 RX1 yX1_weightFrom cX1_weightFrom 3 (some .int) 2 := ⟨gi (List.mem_of_getElem? (i := 561) (by decide +kernel)) rfl, gi (List.mem_of_getElem? (i := 465) (by decide +kernel)) rfl, gi (List.mem_of_getElem? (i := 466) (by decide +kernel)) rfl, gi (List.mem_of_getElem? (i := 59) (by decide +kernel)) rfl, gi (List.mem_of_getElem? (i := 467) (by decide +kernel)) rfl, by decide, by decide, by decide +kernel⟩
theorem qv_X6_66 : okV RX6 66 RX6 yX6_limit cX6_limit 4 none 3 := ⟨gi (List.mem_of_getElem? (i := 562) (by decide +kernel)) rfl, gi (List.mem_of_getElem? (i := 563) (by decide +kernel)) rfl, gi (List.mem_of_getElem? (i := 564) (by decide +kernel)) rfl, gi (List.mem_of_getElem? (i := 61) (by decide +kernel)) rfl, gi (List.mem_of_getElem? (i := 565) (by decide +kernel)) rfl, by decide, by decide, by decide +kernel⟩
theorem qv_X6_70 : okV RX6 70 RX2 yX2_forget cX2_forget 3 none 1 := ⟨gi (List.mem_of_getElem? (i := 720) (by decide +kernel)) rfl, gi (List.mem_of_getElem? (i := 483) (by decide +kernel)) rfl, gi (List.mem_of_getElem? (i := 484) (by decide +kernel)) rfl, gi (List.mem_of_getElem? (i := 57) (by decide +kernel)) rfl, gi (List.mem_of_getElem? (i := 485) (by decide +kernel)) rfl, by decide, by decide, by decide +kernel⟩
theorem qv_X6_74 : okV RX6 74 RX6 yX6_isMember cX6_isMember 2 (some .boolean) 1 := ⟨gi (List.mem_of_getElem? (i := 570) (by decide +kernel)) rfl, gi (List.mem_of_getElem? (i := 571) (by decide +kernel)) rfl, gi (List.mem_of_getElem? (i := 572) (by decide +kernel)) rfl, gi (List.mem_of_getElem? (i := 61) (by decide +kernel)) rfl, gi (List.mem_of_getElem? (i := 573) (by decide +kernel)) rfl, by decide, by decide, by decide +kernel⟩
theorem qv_X6_78 : okV RX6 78 RX6 yX6_sumOfWeights cX6_sumOfWeights 5 (some .long) 1 := ⟨gi (List.mem_of_getElem? (i := 574) (by decide +kernel)) rfl, gi (List.mem_of_getElem? (i := 576) (by decide +kernel)) rfl, gi (List.mem_of_getElem? (i := 10) (by decide +kernel)) rfl, gi (List.mem_of_getElem? (i := 61) (by decide +kernel)) rfl, gi (List.mem_of_getElem? (i := 577) (by decide +kernel)) rfl, by decide, by decide, by decide +kernel⟩
theorem qv_X7_100 : okV RX7 100 RX3 yX3_become cX3_become 3 none 2 := ⟨gi (List.mem_of_getElem? (i := 370) (by decide +kernel)) rfl, gi (List.mem_of_getElem? (i := 371) (by decide +kernel)) rfl, gi (List.mem_of_getElem? (i := 372) (by decide +kernel)) rfl, gi (List.mem_of_getElem? (i := 63) (by decide +kernel)) rfl, gi (List.mem_of_getElem? (i := 373) (by decide +kernel)) rfl, by decide, by decide, by decide +kernel⟩
theorem qv_X7_107 : okV RX7 107 RX3 yX3_hasFrom cX3_hasFrom 3 (some .boolean) 2 := ⟨gi (List.mem_of_getElem? (i := 381) (by decide +kernel)) rfl, gi (List.mem_of_getElem? (i := 382) (by decide +kernel)) rfl, gi (List.mem_of_getElem? (i := 383) (by decide +kernel)) rfl, gi (List.mem_of_getElem? (i := 63) (by decide +kernel)) rfl, gi (List.mem_of_getElem? (i := 384) (by decide +kernel)) rfl, by decide, by decide, by decide +kernel⟩
theorem qv_X7_114 : okV RX7 114 RX3 yX3_narrowed cX3_narrowed 2 (some .int) 1 := ⟨gi (List.mem_of_getElem? (i := 385) (by decide +kernel)) rfl, gi (List.mem_of_getElem? (i := 386) (by decide +kernel)) rfl, gi (List.mem_of_getElem? (i := 387) (by decide +kernel)) rfl, gi (List.mem_of_getElem? (i := 63) (by decide +kernel)) rfl, gi (List.mem_of_getElem? (i := 388) (by decide +kernel)) rfl, by decide, by decide, by decide +kernel⟩
theorem qv_X7_139 : okV RX7 139 RX1 yX1_become cX1_become 3 none 2 := ⟨gi (List.mem_of_getElem? (i := 408) (by decide +kernel)) rfl, gi (List.mem_of_getElem? (i := 409) (by decide +kernel)) rfl, gi (List.mem_of_getElem? (i := 410) (by decide +kernel)) rfl, gi (List.mem_of_getElem? (i := 59) (by decide +kernel)) rfl, gi (List.mem_of_getElem? (i := 411) (by decide +kernel)) rfl, by decide, by decide, by decide +kernel⟩
theorem qv_X7_142 : okV RX7 142 RX7 yX7_isFind cX7_isFind 2 (some .boolean) 1 := ⟨gi (List.mem_of_getElem? (i := 416) (by decide +kernel)) rfl, gi (List.mem_of_getElem? (i := 418) (by decide +kernel)) rfl, gi (List.mem_of_getElem? (i := 1) (by decide +kernel)) rfl, gi (List.mem_of_getElem? (i := 55) (by decide +kernel)) rfl, gi (List.mem_of_getElem? (i := 419) (by decide +kernel)) rfl, by decide, by decide, by decide +kernel⟩
theorem qv_X7_151 : okV RX7 151 RX1 yX1_addAge cX1_addAge 3 none 2 := ⟨gi (List.mem_of_getElem? (i := 420) (by decide +kernel)) rfl, gi (List.mem_of_getElem? (i := 421) (by decide +kernel)) rfl, gi (List.mem_of_getElem? (i := 422) (by decide +kernel)) rfl, gi (List.mem_of_getElem? (i := 59) (by decide +kernel)) rfl, gi (List.mem_of_getElem? (i := 423) (by decide +kernel)) rfl, by decide, by decide, by decide +kernel⟩
theorem qv_X7_161 : okV RX7 161 RX2 yX2_howOf cX2_howOf 3 (some .int) 2 := ⟨gi (List.mem_of_getElem? (i := 432) (by decide +kernel)) rfl, gi (List.mem_of_getElem? (i := 433) (by decide +kernel)) rfl, gi (List.mem_of_getElem? (i := 434) (by decide +kernel)) rfl, gi (List.mem_of_getElem? (i := 57) (by decide +kernel)) rfl, gi (List.mem_of_getElem? (i := 435) (by decide +kernel)) rfl, by decide, by decide, by decide +kernel⟩
theorem qv_X7_166 : okV RX7 166 RX2 yX2_put cX2_put 5 none 3 := ⟨gi (List.mem_of_getElem? (i := 436) (by decide +kernel)) rfl, gi (List.mem_of_getElem? (i := 437) (by decide +kernel)) rfl, gi (List.mem_of_getElem? (i := 438) (by decide +kernel)) rfl, gi (List.mem_of_getElem? (i := 57) (by decide +kernel)) rfl, gi (List.mem_of_getElem? (i := 439) (by decide +kernel)) rfl, by decide, by decide, by decide +kernel⟩
theorem qv_X7_173 : okV RX7 173 RX5 yX5_meanPlain cX5_meanPlain 4 (some .int) 1 := ⟨gi (List.mem_of_getElem? (i := 444) (by decide +kernel)) rfl, gi (List.mem_of_getElem? (i := 445) (by decide +kernel)) rfl, gi (List.mem_of_getElem? (i := 446) (by decide +kernel)) rfl, gi (List.mem_of_getElem? (i := 56) (by decide +kernel)) rfl, gi (List.mem_of_getElem? (i := 447) (by decide +kernel)) rfl, by decide, by decide, by decide +kernel⟩
theorem qv_X7_177 : okV RX7 177 RX5 yX5_yearsThatWeigh cX5_yearsThatWeigh 5 (some .int) 1 := ⟨gi (List.mem_of_getElem? (i := 459) (by decide +kernel)) rfl, gi (List.mem_of_getElem? (i := 460) (by decide +kernel)) rfl, gi (List.mem_of_getElem? (i := 461) (by decide +kernel)) rfl, gi (List.mem_of_getElem? (i := 56) (by decide +kernel)) rfl, gi (List.mem_of_getElem? (i := 462) (by decide +kernel)) rfl, by decide, by decide, by decide +kernel⟩
theorem qv_X7_180 : okV RX7 180 RX7 yX7_isYear cX7_isYear 2 (some .boolean) 1 := ⟨gi (List.mem_of_getElem? (i := 472) (by decide +kernel)) rfl, gi (List.mem_of_getElem? (i := 474) (by decide +kernel)) rfl, gi (List.mem_of_getElem? (i := 3) (by decide +kernel)) rfl, gi (List.mem_of_getElem? (i := 55) (by decide +kernel)) rfl, gi (List.mem_of_getElem? (i := 475) (by decide +kernel)) rfl, by decide, by decide, by decide +kernel⟩
theorem qv_X7_183 : okV RX7 183 RX5 yX5_plainAt cX5_plainAt 3 (some .int) 2 := ⟨gi (List.mem_of_getElem? (i := 476) (by decide +kernel)) rfl, gi (List.mem_of_getElem? (i := 449) (by decide +kernel)) rfl, gi (List.mem_of_getElem? (i := 450) (by decide +kernel)) rfl, gi (List.mem_of_getElem? (i := 56) (by decide +kernel)) rfl, gi (List.mem_of_getElem? (i := 451) (by decide +kernel)) rfl, by decide, by decide, by decide +kernel⟩
theorem qv_X7_187 : okV RX7 187 RX1 yX1_weightFrom cX1_weightFrom 3 (some .int) 2 := ⟨gi (List.mem_of_getElem? (i := 477) (by decide +kernel)) rfl, gi (List.mem_of_getElem? (i := 465) (by decide +kernel)) rfl, gi (List.mem_of_getElem? (i := 466) (by decide +kernel)) rfl, gi (List.mem_of_getElem? (i := 59) (by decide +kernel)) rfl, gi (List.mem_of_getElem? (i := 467) (by decide +kernel)) rfl, by decide, by decide, by decide +kernel⟩
theorem qv_X7_190 : okV RX7 190 RX2 yX2_forget cX2_forget 3 none 1 := ⟨gi (List.mem_of_getElem? (i := 482) (by decide +kernel)) rfl, gi (List.mem_of_getElem? (i := 483) (by decide +kernel)) rfl, gi (List.mem_of_getElem? (i := 484) (by decide +kernel)) rfl, gi (List.mem_of_getElem? (i := 57) (by decide +kernel)) rfl, gi (List.mem_of_getElem? (i := 485) (by decide +kernel)) rfl, by decide, by decide, by decide +kernel⟩
theorem qv_X7_197 : okV RX7 197 RX4 yX4_append cX4_append 5 none 2 := ⟨gi (List.mem_of_getElem? (i := 491) (by decide +kernel)) rfl, gi (List.mem_of_getElem? (i := 492) (by decide +kernel)) rfl, gi (List.mem_of_getElem? (i := 493) (by decide +kernel)) rfl, gi (List.mem_of_getElem? (i := 60) (by decide +kernel)) rfl, gi (List.mem_of_getElem? (i := 494) (by decide +kernel)) rfl, by decide, by decide, by decide +kernel⟩
theorem qv_X7_201 : okV RX7 201 RX4 yX4_readAll cX4_readAll 4 (some .boolean) 1 := ⟨gi (List.mem_of_getElem? (i := 499) (by decide +kernel)) rfl, gi (List.mem_of_getElem? (i := 500) (by decide +kernel)) rfl, gi (List.mem_of_getElem? (i := 501) (by decide +kernel)) rfl, gi (List.mem_of_getElem? (i := 60) (by decide +kernel)) rfl, gi (List.mem_of_getElem? (i := 502) (by decide +kernel)) rfl, by decide, by decide, by decide +kernel⟩
theorem qv_X7_210 : okV RX7 210 RX2 yX2_copyFrom cX2_copyFrom 2 none 1 := ⟨gi (List.mem_of_getElem? (i := 529) (by decide +kernel)) rfl, gi (List.mem_of_getElem? (i := 530) (by decide +kernel)) rfl, gi (List.mem_of_getElem? (i := 531) (by decide +kernel)) rfl, gi (List.mem_of_getElem? (i := 57) (by decide +kernel)) rfl, gi (List.mem_of_getElem? (i := 532) (by decide +kernel)) rfl, by decide, by decide, by decide +kernel⟩
theorem qv_X7_214 : okV RX7 214 RX2 yX2_howMany cX2_howMany 3 (some .int) 0 := ⟨gi (List.mem_of_getElem? (i := 536) (by decide +kernel)) rfl, gi (List.mem_of_getElem? (i := 537) (by decide +kernel)) rfl, gi (List.mem_of_getElem? (i := 538) (by decide +kernel)) rfl, gi (List.mem_of_getElem? (i := 57) (by decide +kernel)) rfl, gi (List.mem_of_getElem? (i := 539) (by decide +kernel)) rfl, by decide, by decide, by decide +kernel⟩
theorem qv_X7_218 : okV RX7 218 RX7 yX7_weigh cX7_weigh 2 (some .long) 1 := ⟨gi (List.mem_of_getElem? (i := 550) (by decide +kernel)) rfl, gi (List.mem_of_getElem? (i := 552) (by decide +kernel)) rfl, gi (List.mem_of_getElem? (i := 9) (by decide +kernel)) rfl, gi (List.mem_of_getElem? (i := 55) (by decide +kernel)) rfl, gi (List.mem_of_getElem? (i := 553) (by decide +kernel)) rfl, by decide, by decide, by decide +kernel⟩
theorem qv_X7_224 : okV RX7 224 RX7 yX7_weighForShare cX7_weighForShare 3 (some .long) 0 := ⟨gi (List.mem_of_getElem? (i := 634) (by decide +kernel)) rfl, gi (List.mem_of_getElem? (i := 636) (by decide +kernel)) rfl, gi (List.mem_of_getElem? (i := 19) (by decide +kernel)) rfl, gi (List.mem_of_getElem? (i := 55) (by decide +kernel)) rfl, gi (List.mem_of_getElem? (i := 637) (by decide +kernel)) rfl, by decide, by decide, by decide +kernel⟩
theorem qv_X7_228 : okV RX7 228 RX7 yX7_shareWithin cX7_shareWithin 6 (some .long) 4 := ⟨gi (List.mem_of_getElem? (i := 639) (by decide +kernel)) rfl, gi (List.mem_of_getElem? (i := 641) (by decide +kernel)) rfl, gi (List.mem_of_getElem? (i := 20) (by decide +kernel)) rfl, gi (List.mem_of_getElem? (i := 55) (by decide +kernel)) rfl, gi (List.mem_of_getElem? (i := 642) (by decide +kernel)) rfl, by decide, by decide, by decide +kernel⟩
theorem qv_X7_232 : okV RX7 232 RX7 yX7_fraction cX7_fraction 7 (some .long) 2 := ⟨gi (List.mem_of_getElem? (i := 644) (by decide +kernel)) rfl, gi (List.mem_of_getElem? (i := 646) (by decide +kernel)) rfl, gi (List.mem_of_getElem? (i := 21) (by decide +kernel)) rfl, gi (List.mem_of_getElem? (i := 55) (by decide +kernel)) rfl, gi (List.mem_of_getElem? (i := 647) (by decide +kernel)) rfl, by decide, by decide, by decide +kernel⟩
theorem qv_X7_237 : okV RX7 237 RX0 yX0_countAll cX0_countAll 2 (some .long) 0 := ⟨gi (List.mem_of_getElem? (i := 580) (by decide +kernel)) rfl, gi (List.mem_of_getElem? (i := 581) (by decide +kernel)) rfl, gi (List.mem_of_getElem? (i := 582) (by decide +kernel)) rfl, gi (List.mem_of_getElem? (i := 62) (by decide +kernel)) rfl, gi (List.mem_of_getElem? (i := 583) (by decide +kernel)) rfl, by decide, by decide, by decide +kernel⟩
theorem qv_X7_240 : okV RX7 240 RX6 yX6_limit cX6_limit 4 none 3 := ⟨gi (List.mem_of_getElem? (i := 643) (by decide +kernel)) rfl, gi (List.mem_of_getElem? (i := 563) (by decide +kernel)) rfl, gi (List.mem_of_getElem? (i := 564) (by decide +kernel)) rfl, gi (List.mem_of_getElem? (i := 61) (by decide +kernel)) rfl, gi (List.mem_of_getElem? (i := 565) (by decide +kernel)) rfl, by decide, by decide, by decide +kernel⟩
theorem qv_X7_243 : okV RX7 243 RX6 yX6_multiplyByYears cX6_multiplyByYears 3 none 1 := ⟨gi (List.mem_of_getElem? (i := 671) (by decide +kernel)) rfl, gi (List.mem_of_getElem? (i := 672) (by decide +kernel)) rfl, gi (List.mem_of_getElem? (i := 673) (by decide +kernel)) rfl, gi (List.mem_of_getElem? (i := 61) (by decide +kernel)) rfl, gi (List.mem_of_getElem? (i := 674) (by decide +kernel)) rfl, by decide, by decide, by decide +kernel⟩
theorem qv_X7_246 : okV RX7 246 RX0 yX0_countEachYear cX0_countEachYear 3 none 1 := ⟨gi (List.mem_of_getElem? (i := 679) (by decide +kernel)) rfl, gi (List.mem_of_getElem? (i := 680) (by decide +kernel)) rfl, gi (List.mem_of_getElem? (i := 681) (by decide +kernel)) rfl, gi (List.mem_of_getElem? (i := 62) (by decide +kernel)) rfl, gi (List.mem_of_getElem? (i := 682) (by decide +kernel)) rfl, by decide, by decide, by decide +kernel⟩
theorem qv_X7_253 : okV RX7 253 RX7 yX7_shortestRow cX7_shortestRow 8 (some .int) 1 := ⟨gi (List.mem_of_getElem? (i := 699) (by decide +kernel)) rfl, gi (List.mem_of_getElem? (i := 701) (by decide +kernel)) rfl, gi (List.mem_of_getElem? (i := 25) (by decide +kernel)) rfl, gi (List.mem_of_getElem? (i := 55) (by decide +kernel)) rfl, gi (List.mem_of_getElem? (i := 702) (by decide +kernel)) rfl, by decide, by decide, by decide +kernel⟩
theorem qv_X7_257 : okV RX7 257 RX6 yX6_level cX6_level 5 none 2 := ⟨gi (List.mem_of_getElem? (i := 708) (by decide +kernel)) rfl, gi (List.mem_of_getElem? (i := 709) (by decide +kernel)) rfl, gi (List.mem_of_getElem? (i := 710) (by decide +kernel)) rfl, gi (List.mem_of_getElem? (i := 61) (by decide +kernel)) rfl, gi (List.mem_of_getElem? (i := 711) (by decide +kernel)) rfl, by decide, by decide, by decide +kernel⟩
theorem qv_X7_263 : okV RX7 263 RX6 yX6_leaveOut cX6_leaveOut 2 none 1 := ⟨gi (List.mem_of_getElem? (i := 716) (by decide +kernel)) rfl, gi (List.mem_of_getElem? (i := 717) (by decide +kernel)) rfl, gi (List.mem_of_getElem? (i := 718) (by decide +kernel)) rfl, gi (List.mem_of_getElem? (i := 61) (by decide +kernel)) rfl, gi (List.mem_of_getElem? (i := 719) (by decide +kernel)) rfl, by decide, by decide, by decide +kernel⟩
theorem qv_X7_266 : okV RX7 266 RX6 yX6_isBig cX6_isBig 7 (some .boolean) 0 := ⟨gi (List.mem_of_getElem? (i := 566) (by decide +kernel)) rfl, gi (List.mem_of_getElem? (i := 567) (by decide +kernel)) rfl, gi (List.mem_of_getElem? (i := 568) (by decide +kernel)) rfl, gi (List.mem_of_getElem? (i := 61) (by decide +kernel)) rfl, gi (List.mem_of_getElem? (i := 569) (by decide +kernel)) rfl, by decide, by decide, by decide +kernel⟩
theorem qv_X7_272 : okV RX7 272 RX7 yX7_settleYears cX7_settleYears 9 (some .long) 1 := ⟨gi (List.mem_of_getElem? (i := 725) (by decide +kernel)) rfl, gi (List.mem_of_getElem? (i := 727) (by decide +kernel)) rfl, gi (List.mem_of_getElem? (i := 26) (by decide +kernel)) rfl, gi (List.mem_of_getElem? (i := 55) (by decide +kernel)) rfl, gi (List.mem_of_getElem? (i := 728) (by decide +kernel)) rfl, by decide, by decide, by decide +kernel⟩
theorem qv_X7_276 : okV RX7 276 RX7 yX7_countAheadOfWaiting cX7_countAheadOfWaiting 5 (some .long) 1 := ⟨gi (List.mem_of_getElem? (i := 741) (by decide +kernel)) rfl, gi (List.mem_of_getElem? (i := 743) (by decide +kernel)) rfl, gi (List.mem_of_getElem? (i := 27) (by decide +kernel)) rfl, gi (List.mem_of_getElem? (i := 55) (by decide +kernel)) rfl, gi (List.mem_of_getElem? (i := 744) (by decide +kernel)) rfl, by decide, by decide, by decide +kernel⟩
theorem qv_X7_280 : okV RX7 280 RX5 yX5_copyFrom cX5_copyFrom 3 none 1 := ⟨gi (List.mem_of_getElem? (i := 749) (by decide +kernel)) rfl, gi (List.mem_of_getElem? (i := 750) (by decide +kernel)) rfl, gi (List.mem_of_getElem? (i := 751) (by decide +kernel)) rfl, gi (List.mem_of_getElem? (i := 56) (by decide +kernel)) rfl, gi (List.mem_of_getElem? (i := 752) (by decide +kernel)) rfl, by decide, by decide, by decide +kernel⟩
theorem qv_X7_283 : okV RX7 283 RX6 yX6_load cX6_load 6 none 1 := ⟨gi (List.mem_of_getElem? (i := 554) (by decide +kernel)) rfl, gi (List.mem_of_getElem? (i := 555) (by decide +kernel)) rfl, gi (List.mem_of_getElem? (i := 556) (by decide +kernel)) rfl, gi (List.mem_of_getElem? (i := 61) (by decide +kernel)) rfl, gi (List.mem_of_getElem? (i := 557) (by decide +kernel)) rfl, by decide, by decide, by decide +kernel⟩
theorem qv_X7_96 : okV RX7 96 RX7 yX7_hostFinding cX7_hostFinding 2 (some .int) 1 := ⟨gi (List.mem_of_getElem? (i := 366) (by decide +kernel)) rfl, gi (List.mem_of_getElem? (i := 368) (by decide +kernel)) rfl, gi (List.mem_of_getElem? (i := 0) (by decide +kernel)) rfl, gi (List.mem_of_getElem? (i := 55) (by decide +kernel)) rfl, gi (List.mem_of_getElem? (i := 369) (by decide +kernel)) rfl, by decide, by decide, by decide +kernel⟩
theorem qv_X8_108 : okV RX8 108 RX8 yX8_meet cX8_meet 2 (some .int) 1 := ⟨gi (List.mem_of_getElem? (i := 912) (by decide +kernel)) rfl, gi (List.mem_of_getElem? (i := 914) (by decide +kernel)) rfl, gi (List.mem_of_getElem? (i := 28) (by decide +kernel)) rfl, gi (List.mem_of_getElem? (i := 64) (by decide +kernel)) rfl, gi (List.mem_of_getElem? (i := 915) (by decide +kernel)) rfl, by decide, by decide, by decide +kernel⟩
theorem qv_X8_117 : okV RX8 117 RX8 yX8_isFind cX8_isFind 2 (some .boolean) 1 := ⟨gi (List.mem_of_getElem? (i := 937) (by decide +kernel)) rfl, gi (List.mem_of_getElem? (i := 939) (by decide +kernel)) rfl, gi (List.mem_of_getElem? (i := 29) (by decide +kernel)) rfl, gi (List.mem_of_getElem? (i := 64) (by decide +kernel)) rfl, gi (List.mem_of_getElem? (i := 940) (by decide +kernel)) rfl, by decide, by decide, by decide +kernel⟩
theorem qv_X8_120 : okV RX8 120 RX8 yX8_missOf cX8_missOf 4 (some .int) 2 := ⟨gi (List.mem_of_getElem? (i := 961) (by decide +kernel)) rfl, gi (List.mem_of_getElem? (i := 963) (by decide +kernel)) rfl, gi (List.mem_of_getElem? (i := 32) (by decide +kernel)) rfl, gi (List.mem_of_getElem? (i := 64) (by decide +kernel)) rfl, gi (List.mem_of_getElem? (i := 964) (by decide +kernel)) rfl, by decide, by decide, by decide +kernel⟩
theorem qv_X8_124 : okV RX8 124 RX8 yX8_plain cX8_plain 7 (some .long) 2 := ⟨gi (List.mem_of_getElem? (i := 957) (by decide +kernel)) rfl, gi (List.mem_of_getElem? (i := 959) (by decide +kernel)) rfl, gi (List.mem_of_getElem? (i := 31) (by decide +kernel)) rfl, gi (List.mem_of_getElem? (i := 64) (by decide +kernel)) rfl, gi (List.mem_of_getElem? (i := 960) (by decide +kernel)) rfl, by decide, by decide, by decide +kernel⟩
theorem qv_X8_128 : okV RX8 128 RX8 yX8_meanOf cX8_meanOf 5 (some .long) 1 := ⟨gi (List.mem_of_getElem? (i := 953) (by decide +kernel)) rfl, gi (List.mem_of_getElem? (i := 955) (by decide +kernel)) rfl, gi (List.mem_of_getElem? (i := 30) (by decide +kernel)) rfl, gi (List.mem_of_getElem? (i := 64) (by decide +kernel)) rfl, gi (List.mem_of_getElem? (i := 956) (by decide +kernel)) rfl, by decide, by decide, by decide +kernel⟩
theorem qv_X8_132 : okV RX8 132 RX8 yX8_weightOf cX8_weightOf 4 (some .long) 2 := ⟨gi (List.mem_of_getElem? (i := 965) (by decide +kernel)) rfl, gi (List.mem_of_getElem? (i := 967) (by decide +kernel)) rfl, gi (List.mem_of_getElem? (i := 33) (by decide +kernel)) rfl, gi (List.mem_of_getElem? (i := 64) (by decide +kernel)) rfl, gi (List.mem_of_getElem? (i := 968) (by decide +kernel)) rfl, by decide, by decide, by decide +kernel⟩
theorem qv_X8_135 : okV RX8 135 RX8 yX8_isYear cX8_isYear 2 (some .boolean) 1 := ⟨gi (List.mem_of_getElem? (i := 973) (by decide +kernel)) rfl, gi (List.mem_of_getElem? (i := 975) (by decide +kernel)) rfl, gi (List.mem_of_getElem? (i := 34) (by decide +kernel)) rfl, gi (List.mem_of_getElem? (i := 64) (by decide +kernel)) rfl, gi (List.mem_of_getElem? (i := 976) (by decide +kernel)) rfl, by decide, by decide, by decide +kernel⟩
theorem qv_X8_144 : okV RX8 144 RX8 yX8_here cX8_here 1 (some .int) 0 := ⟨gi (List.mem_of_getElem? (i := 997) (by decide +kernel)) rfl, gi (List.mem_of_getElem? (i := 999) (by decide +kernel)) rfl, gi (List.mem_of_getElem? (i := 37) (by decide +kernel)) rfl, gi (List.mem_of_getElem? (i := 64) (by decide +kernel)) rfl, gi (List.mem_of_getElem? (i := 1000) (by decide +kernel)) rfl, by decide, by decide, by decide +kernel⟩
theorem qv_X8_151 : okV RX8 151 RX8 yX8_name cX8_name 2 (some .int) 0 := ⟨gi (List.mem_of_getElem? (i := 1001) (by decide +kernel)) rfl, gi (List.mem_of_getElem? (i := 1003) (by decide +kernel)) rfl, gi (List.mem_of_getElem? (i := 38) (by decide +kernel)) rfl, gi (List.mem_of_getElem? (i := 64) (by decide +kernel)) rfl, gi (List.mem_of_getElem? (i := 1004) (by decide +kernel)) rfl, by decide, by decide, by decide +kernel⟩
theorem qv_X8_154 : okV RX8 154 RX8 yX8_group cX8_group 2 (some .int) 0 := ⟨gi (List.mem_of_getElem? (i := 993) (by decide +kernel)) rfl, gi (List.mem_of_getElem? (i := 995) (by decide +kernel)) rfl, gi (List.mem_of_getElem? (i := 36) (by decide +kernel)) rfl, gi (List.mem_of_getElem? (i := 64) (by decide +kernel)) rfl, gi (List.mem_of_getElem? (i := 996) (by decide +kernel)) rfl, by decide, by decide, by decide +kernel⟩
theorem qv_X8_157 : okV RX8 157 RX8 yX8_chain cX8_chain 6 none 0 := ⟨gi (List.mem_of_getElem? (i := 989) (by decide +kernel)) rfl, gi (List.mem_of_getElem? (i := 991) (by decide +kernel)) rfl, gi (List.mem_of_getElem? (i := 35) (by decide +kernel)) rfl, gi (List.mem_of_getElem? (i := 64) (by decide +kernel)) rfl, gi (List.mem_of_getElem? (i := 992) (by decide +kernel)) rfl, by decide, by decide, by decide +kernel⟩
theorem qv_X8_160 : okV RX8 160 RX8 yX8_pairMany cX8_pairMany 4 (some .int) 0 := ⟨gi (List.mem_of_getElem? (i := 1005) (by decide +kernel)) rfl, gi (List.mem_of_getElem? (i := 1007) (by decide +kernel)) rfl, gi (List.mem_of_getElem? (i := 39) (by decide +kernel)) rfl, gi (List.mem_of_getElem? (i := 64) (by decide +kernel)) rfl, gi (List.mem_of_getElem? (i := 1008) (by decide +kernel)) rfl, by decide, by decide, by decide +kernel⟩
theorem qv_X8_172 : okV RX8 172 RX8 yX8_all cX8_all 1 (some .int) 0 := ⟨gi (List.mem_of_getElem? (i := 1013) (by decide +kernel)) rfl, gi (List.mem_of_getElem? (i := 1015) (by decide +kernel)) rfl, gi (List.mem_of_getElem? (i := 40) (by decide +kernel)) rfl, gi (List.mem_of_getElem? (i := 64) (by decide +kernel)) rfl, gi (List.mem_of_getElem? (i := 1016) (by decide +kernel)) rfl, by decide, by decide, by decide +kernel⟩
theorem qv_X8_175 : okV RX8 175 RX8 yX8_isBig cX8_isBig 10 (some .boolean) 1 := ⟨gi (List.mem_of_getElem? (i := 1017) (by decide +kernel)) rfl, gi (List.mem_of_getElem? (i := 1019) (by decide +kernel)) rfl, gi (List.mem_of_getElem? (i := 41) (by decide +kernel)) rfl, gi (List.mem_of_getElem? (i := 64) (by decide +kernel)) rfl, gi (List.mem_of_getElem? (i := 1020) (by decide +kernel)) rfl, by decide, by decide, by decide +kernel⟩
theorem qv_X8_178 : okV RX8 178 RX8 yX8_lay_ cX8_lay_ 5 none 1 := ⟨gi (List.mem_of_getElem? (i := 1026) (by decide +kernel)) rfl, gi (List.mem_of_getElem? (i := 1028) (by decide +kernel)) rfl, gi (List.mem_of_getElem? (i := 42) (by decide +kernel)) rfl, gi (List.mem_of_getElem? (i := 64) (by decide +kernel)) rfl, gi (List.mem_of_getElem? (i := 1029) (by decide +kernel)) rfl, by decide, by decide, by decide +kernel⟩
theorem qv_X8_182 : okV RX8 182 RX8 yX8_count cX8_count 5 (some .long) 0 := ⟨gi (List.mem_of_getElem? (i := 1030) (by decide +kernel)) rfl, gi (List.mem_of_getElem? (i := 1032) (by decide +kernel)) rfl, gi (List.mem_of_getElem? (i := 43) (by decide +kernel)) rfl, gi (List.mem_of_getElem? (i := 64) (by decide +kernel)) rfl, gi (List.mem_of_getElem? (i := 1033) (by decide +kernel)) rfl, by decide, by decide, by decide +kernel⟩
theorem qv_X8_195 : okV RX8 195 RX8 yX8_only cX8_only 5 none 3 := ⟨gi (List.mem_of_getElem? (i := 1051) (by decide +kernel)) rfl, gi (List.mem_of_getElem? (i := 1053) (by decide +kernel)) rfl, gi (List.mem_of_getElem? (i := 46) (by decide +kernel)) rfl, gi (List.mem_of_getElem? (i := 64) (by decide +kernel)) rfl, gi (List.mem_of_getElem? (i := 1054) (by decide +kernel)) rfl, by decide, by decide, by decide +kernel⟩
theorem qv_X8_201 : okV RX8 201 RX8 yX8_askTotal cX8_askTotal 1 (some .int) 0 := ⟨gi (List.mem_of_getElem? (i := 1043) (by decide +kernel)) rfl, gi (List.mem_of_getElem? (i := 1045) (by decide +kernel)) rfl, gi (List.mem_of_getElem? (i := 44) (by decide +kernel)) rfl, gi (List.mem_of_getElem? (i := 64) (by decide +kernel)) rfl, gi (List.mem_of_getElem? (i := 1046) (by decide +kernel)) rfl, by decide, by decide, by decide +kernel⟩
theorem qv_X8_204 : okV RX8 204 RX8 yX8_countIn cX8_countIn 6 (some .long) 3 := ⟨gi (List.mem_of_getElem? (i := 1047) (by decide +kernel)) rfl, gi (List.mem_of_getElem? (i := 1049) (by decide +kernel)) rfl, gi (List.mem_of_getElem? (i := 45) (by decide +kernel)) rfl, gi (List.mem_of_getElem? (i := 64) (by decide +kernel)) rfl, gi (List.mem_of_getElem? (i := 1050) (by decide +kernel)) rfl, by decide, by decide, by decide +kernel⟩
theorem qv_X8_208 : okV RX8 208 RX8 yX8_fraction cX8_fraction 7 (some .long) 2 := ⟨gi (List.mem_of_getElem? (i := 1055) (by decide +kernel)) rfl, gi (List.mem_of_getElem? (i := 1057) (by decide +kernel)) rfl, gi (List.mem_of_getElem? (i := 47) (by decide +kernel)) rfl, gi (List.mem_of_getElem? (i := 64) (by decide +kernel)) rfl, gi (List.mem_of_getElem? (i := 1058) (by decide +kernel)) rfl, by decide, by decide, by decide +kernel⟩
theorem qv_X8_211 : okV RX8 211 RX8 yX8_together cX8_together 8 (some .long) 4 := ⟨gi (List.mem_of_getElem? (i := 1070) (by decide +kernel)) rfl, gi (List.mem_of_getElem? (i := 1072) (by decide +kernel)) rfl, gi (List.mem_of_getElem? (i := 48) (by decide +kernel)) rfl, gi (List.mem_of_getElem? (i := 64) (by decide +kernel)) rfl, gi (List.mem_of_getElem? (i := 1073) (by decide +kernel)) rfl, by decide, by decide, by decide +kernel⟩
theorem qv_X8_215 : okV RX8 215 RX8 yX8_tellYears cX8_tellYears 3 none 1 := ⟨gi (List.mem_of_getElem? (i := 1086) (by decide +kernel)) rfl, gi (List.mem_of_getElem? (i := 1088) (by decide +kernel)) rfl, gi (List.mem_of_getElem? (i := 49) (by decide +kernel)) rfl, gi (List.mem_of_getElem? (i := 64) (by decide +kernel)) rfl, gi (List.mem_of_getElem? (i := 1089) (by decide +kernel)) rfl, by decide, by decide, by decide +kernel⟩
theorem qv_X8_225 : okV RX8 225 RX8 yX8_lessThan cX8_lessThan 3 (some .long) 2 := ⟨gi (List.mem_of_getElem? (i := 1120) (by decide +kernel)) rfl, gi (List.mem_of_getElem? (i := 1122) (by decide +kernel)) rfl, gi (List.mem_of_getElem? (i := 50) (by decide +kernel)) rfl, gi (List.mem_of_getElem? (i := 64) (by decide +kernel)) rfl, gi (List.mem_of_getElem? (i := 1123) (by decide +kernel)) rfl, by decide, by decide, by decide +kernel⟩
theorem qv_X8_228 : okV RX8 228 RX8 yX8_carry cX8_carry 6 (some .int) 4 := ⟨gi (List.mem_of_getElem? (i := 1132) (by decide +kernel)) rfl, gi (List.mem_of_getElem? (i := 1134) (by decide +kernel)) rfl, gi (List.mem_of_getElem? (i := 52) (by decide +kernel)) rfl, gi (List.mem_of_getElem? (i := 64) (by decide +kernel)) rfl, gi (List.mem_of_getElem? (i := 1135) (by decide +kernel)) rfl, by decide, by decide, by decide +kernel⟩
theorem qv_X8_232 : okV RX8 232 RX8 yX8_carryAll cX8_carryAll 3 none 1 := ⟨gi (List.mem_of_getElem? (i := 1128) (by decide +kernel)) rfl, gi (List.mem_of_getElem? (i := 1130) (by decide +kernel)) rfl, gi (List.mem_of_getElem? (i := 51) (by decide +kernel)) rfl, gi (List.mem_of_getElem? (i := 64) (by decide +kernel)) rfl, gi (List.mem_of_getElem? (i := 1131) (by decide +kernel)) rfl, by decide, by decide, by decide +kernel⟩
theorem qv_X8_239 : okV RX8 239 RX8 yX8_total cX8_total 1 (some .long) 0 := ⟨gi (List.mem_of_getElem? (i := 1144) (by decide +kernel)) rfl, gi (List.mem_of_getElem? (i := 1010) (by decide +kernel)) rfl, gi (List.mem_of_getElem? (i := 1011) (by decide +kernel)) rfl, gi (List.mem_of_getElem? (i := 64) (by decide +kernel)) rfl, gi (List.mem_of_getElem? (i := 1012) (by decide +kernel)) rfl, by decide, by decide, by decide +kernel⟩
theorem qv_X8_242 : okV RX8 242 RX8 yX8_change cX8_change 3 none 0 := ⟨gi (List.mem_of_getElem? (i := 1145) (by decide +kernel)) rfl, gi (List.mem_of_getElem? (i := 1147) (by decide +kernel)) rfl, gi (List.mem_of_getElem? (i := 53) (by decide +kernel)) rfl, gi (List.mem_of_getElem? (i := 64) (by decide +kernel)) rfl, gi (List.mem_of_getElem? (i := 1148) (by decide +kernel)) rfl, by decide, by decide, by decide +kernel⟩
theorem qx_X0_95 : okX RX0 95 Lib.Math.min.name Lib.Math.min.code 2 := ⟨gi (List.mem_of_getElem? (i := 596) (by decide +kernel)) rfl, gi (List.mem_of_getElem? (i := 398) (by decide +kernel)) rfl, gi (List.mem_of_getElem? (i := 58) (by decide +kernel)) rfl, gi (List.mem_of_getElem? (i := 399) (by decide +kernel)) rfl⟩
theorem qx_X5_74 : okX RX5 74 Lib.Math.abs.name Lib.Math.abs.code 1 := ⟨gi (List.mem_of_getElem? (i := 456) (by decide +kernel)) rfl, gi (List.mem_of_getElem? (i := 457) (by decide +kernel)) rfl, gi (List.mem_of_getElem? (i := 58) (by decide +kernel)) rfl, gi (List.mem_of_getElem? (i := 458) (by decide +kernel)) rfl⟩
theorem qx_X7_120 : okX RX7 120 Lib.Math.min.name Lib.Math.min.code 2 := ⟨gi (List.mem_of_getElem? (i := 397) (by decide +kernel)) rfl, gi (List.mem_of_getElem? (i := 398) (by decide +kernel)) rfl, gi (List.mem_of_getElem? (i := 58) (by decide +kernel)) rfl, gi (List.mem_of_getElem? (i := 399) (by decide +kernel)) rfl⟩
theorem qx_X7_126 : okX RX7 126 Lib.Math.max.name Lib.Math.max.code 2 := ⟨gi (List.mem_of_getElem? (i := 400) (by decide +kernel)) rfl, gi (List.mem_of_getElem? (i := 101) (by decide +kernel)) rfl, gi (List.mem_of_getElem? (i := 58) (by decide +kernel)) rfl, gi (List.mem_of_getElem? (i := 102) (by decide +kernel)) rfl⟩
