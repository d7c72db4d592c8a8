theorem ql_c74 : Cond.constantLong RL 74 (4294967295 : Int64) ∈ lw_tbl := List.mem_of_getElem? (i := 1153) (by decide +kernel)
theorem ql_m102 : okV RL 102 RX8 yX8_until cX8_until 4 (some .long) 2 := ⟨gi (List.mem_of_getElem? (i := 1062) (by decide +kernel)) rfl, gi (List.mem_of_getElem? (i := 1063) (by decide +kernel)) rfl, gi (List.mem_of_getElem? (i := 1064) (by decide +kernel)) rfl, gi (List.mem_of_getElem? (i := 64) (by decide +kernel)) rfl, gi (List.mem_of_getElem? (i := 1065) (by decide +kernel)) rfl, by decide, by decide, by decide +kernel⟩
theorem ql_m103 : okV RL 103 RX7 yX7_order cX7_order 5 (some .long) 2 := ⟨gi (List.mem_of_getElem? (i := 659) (by decide +kernel)) rfl, gi (List.mem_of_getElem? (i := 660) (by decide +kernel)) rfl, gi (List.mem_of_getElem? (i := 661) (by decide +kernel)) rfl, gi (List.mem_of_getElem? (i := 55) (by decide +kernel)) rfl, gi (List.mem_of_getElem? (i := 662) (by decide +kernel)) rfl, by decide, by decide, by decide +kernel⟩
theorem ql_m106 : okV RL 106 RX8 yX8_order cX8_order 4 (some .long) 2 := ⟨gi (List.mem_of_getElem? (i := 1066) (by decide +kernel)) rfl, gi (List.mem_of_getElem? (i := 1067) (by decide +kernel)) rfl, gi (List.mem_of_getElem? (i := 1068) (by decide +kernel)) rfl, gi (List.mem_of_getElem? (i := 64) (by decide +kernel)) rfl, gi (List.mem_of_getElem? (i := 1069) (by decide +kernel)) rfl, by decide, by decide, by decide +kernel⟩
theorem ql_m107 : okV RL 107 RX7 yX7_apart cX7_apart 9 (some .long) 3 := ⟨gi (List.mem_of_getElem? (i := 663) (by decide +kernel)) rfl, gi (List.mem_of_getElem? (i := 664) (by decide +kernel)) rfl, gi (List.mem_of_getElem? (i := 665) (by decide +kernel)) rfl, gi (List.mem_of_getElem? (i := 55) (by decide +kernel)) rfl, gi (List.mem_of_getElem? (i := 666) (by decide +kernel)) rfl, by decide, by decide, by decide +kernel⟩
theorem ql_m111 : okV RL 111 RX8 yX8_apart cX8_apart 8 (some .long) 3 := ⟨gi (List.mem_of_getElem? (i := 1074) (by decide +kernel)) rfl, gi (List.mem_of_getElem? (i := 1075) (by decide +kernel)) rfl, gi (List.mem_of_getElem? (i := 1076) (by decide +kernel)) rfl, gi (List.mem_of_getElem? (i := 64) (by decide +kernel)) rfl, gi (List.mem_of_getElem? (i := 1077) (by decide +kernel)) rfl, by decide, by decide, by decide +kernel⟩
theorem ql_m112 : okV RL 112 RX7 yX7_mean cX7_mean 4 (some .long) 1 := ⟨gi (List.mem_of_getElem? (i := 667) (by decide +kernel)) rfl, gi (List.mem_of_getElem? (i := 668) (by decide +kernel)) rfl, gi (List.mem_of_getElem? (i := 669) (by decide +kernel)) rfl, gi (List.mem_of_getElem? (i := 55) (by decide +kernel)) rfl, gi (List.mem_of_getElem? (i := 670) (by decide +kernel)) rfl, by decide, by decide, by decide +kernel⟩
theorem ql_m116 : okV RL 116 RX8 yX8_mean cX8_mean 6 (some .long) 1 := ⟨gi (List.mem_of_getElem? (i := 1078) (by decide +kernel)) rfl, gi (List.mem_of_getElem? (i := 1079) (by decide +kernel)) rfl, gi (List.mem_of_getElem? (i := 1080) (by decide +kernel)) rfl, gi (List.mem_of_getElem? (i := 64) (by decide +kernel)) rfl, gi (List.mem_of_getElem? (i := 1081) (by decide +kernel)) rfl, by decide, by decide, by decide +kernel⟩
theorem ql_m117 : okV RL 117 RX7 yX7_best cX7_best 6 (some .int) 1 := ⟨gi (List.mem_of_getElem? (i := 675) (by decide +kernel)) rfl, gi (List.mem_of_getElem? (i := 676) (by decide +kernel)) rfl, gi (List.mem_of_getElem? (i := 677) (by decide +kernel)) rfl, gi (List.mem_of_getElem? (i := 55) (by decide +kernel)) rfl, gi (List.mem_of_getElem? (i := 678) (by decide +kernel)) rfl, by decide, by decide, by decide +kernel⟩
theorem ql_m120 : okV RL 120 RX8 yX8_best cX8_best 5 (some .int) 1 := ⟨gi (List.mem_of_getElem? (i := 1082) (by decide +kernel)) rfl, gi (List.mem_of_getElem? (i := 1083) (by decide +kernel)) rfl, gi (List.mem_of_getElem? (i := 1084) (by decide +kernel)) rfl, gi (List.mem_of_getElem? (i := 64) (by decide +kernel)) rfl, gi (List.mem_of_getElem? (i := 1085) (by decide +kernel)) rfl, by decide, by decide, by decide +kernel⟩
theorem ql_m121 : okV RL 121 RX7 yX7_span cX7_span 5 (some .int) 2 := ⟨gi (List.mem_of_getElem? (i := 695) (by decide +kernel)) rfl, gi (List.mem_of_getElem? (i := 696) (by decide +kernel)) rfl, gi (List.mem_of_getElem? (i := 697) (by decide +kernel)) rfl, gi (List.mem_of_getElem? (i := 55) (by decide +kernel)) rfl, gi (List.mem_of_getElem? (i := 698) (by decide +kernel)) rfl, by decide, by decide, by decide +kernel⟩
theorem ql_m124 : okV RL 124 RX8 yX8_span cX8_span 9 (some .int) 2 := ⟨gi (List.mem_of_getElem? (i := 1090) (by decide +kernel)) rfl, gi (List.mem_of_getElem? (i := 1091) (by decide +kernel)) rfl, gi (List.mem_of_getElem? (i := 1092) (by decide +kernel)) rfl, gi (List.mem_of_getElem? (i := 64) (by decide +kernel)) rfl, gi (List.mem_of_getElem? (i := 1093) (by decide +kernel)) rfl, by decide, by decide, by decide +kernel⟩
theorem ql_m125 : okV RL 125 RX7 yX7_strange cX7_strange 5 (some .long) 1 := ⟨gi (List.mem_of_getElem? (i := 704) (by decide +kernel)) rfl, gi (List.mem_of_getElem? (i := 705) (by decide +kernel)) rfl, gi (List.mem_of_getElem? (i := 706) (by decide +kernel)) rfl, gi (List.mem_of_getElem? (i := 55) (by decide +kernel)) rfl, gi (List.mem_of_getElem? (i := 707) (by decide +kernel)) rfl, by decide, by decide, by decide +kernel⟩
theorem ql_m128 : okV RL 128 RX8 yX8_strange cX8_strange 4 (some .long) 1 := ⟨gi (List.mem_of_getElem? (i := 1095) (by decide +kernel)) rfl, gi (List.mem_of_getElem? (i := 1096) (by decide +kernel)) rfl, gi (List.mem_of_getElem? (i := 1097) (by decide +kernel)) rfl, gi (List.mem_of_getElem? (i := 64) (by decide +kernel)) rfl, gi (List.mem_of_getElem? (i := 1098) (by decide +kernel)) rfl, by decide, by decide, by decide +kernel⟩
theorem ql_m129 : okV RL 129 RX7 yX7_without cX7_without 6 (some .long) 1 := ⟨gi (List.mem_of_getElem? (i := 712) (by decide +kernel)) rfl, gi (List.mem_of_getElem? (i := 713) (by decide +kernel)) rfl, gi (List.mem_of_getElem? (i := 714) (by decide +kernel)) rfl, gi (List.mem_of_getElem? (i := 55) (by decide +kernel)) rfl, gi (List.mem_of_getElem? (i := 715) (by decide +kernel)) rfl, by decide, by decide, by decide +kernel⟩
theorem ql_m13 : okV RL 13 RX7 yX7_years cX7_years 3 (some .int) 1 := ⟨gi (List.mem_of_getElem? (i := 338) (by decide +kernel)) rfl, gi (List.mem_of_getElem? (i := 339) (by decide +kernel)) rfl, gi (List.mem_of_getElem? (i := 340) (by decide +kernel)) rfl, gi (List.mem_of_getElem? (i := 55) (by decide +kernel)) rfl, gi (List.mem_of_getElem? (i := 341) (by decide +kernel)) rfl, by decide, by decide, by decide +kernel⟩
theorem ql_m132 : okV RL 132 RX8 yX8_without cX8_without 7 (some .long) 1 := ⟨gi (List.mem_of_getElem? (i := 1099) (by decide +kernel)) rfl, gi (List.mem_of_getElem? (i := 1100) (by decide +kernel)) rfl, gi (List.mem_of_getElem? (i := 1101) (by decide +kernel)) rfl, gi (List.mem_of_getElem? (i := 64) (by decide +kernel)) rfl, gi (List.mem_of_getElem? (i := 1102) (by decide +kernel)) rfl, by decide, by decide, by decide +kernel⟩
theorem ql_m133 : okV RL 133 RX7 yX7_draw cX7_draw 5 (some .long) 1 := ⟨gi (List.mem_of_getElem? (i := 721) (by decide +kernel)) rfl, gi (List.mem_of_getElem? (i := 722) (by decide +kernel)) rfl, gi (List.mem_of_getElem? (i := 723) (by decide +kernel)) rfl, gi (List.mem_of_getElem? (i := 55) (by decide +kernel)) rfl, gi (List.mem_of_getElem? (i := 724) (by decide +kernel)) rfl, by decide, by decide, by decide +kernel⟩
theorem ql_m137 : okV RL 137 RX8 yX8_draw cX8_draw 12 (some .long) 1 := ⟨gi (List.mem_of_getElem? (i := 1104) (by decide +kernel)) rfl, gi (List.mem_of_getElem? (i := 1105) (by decide +kernel)) rfl, gi (List.mem_of_getElem? (i := 1106) (by decide +kernel)) rfl, gi (List.mem_of_getElem? (i := 64) (by decide +kernel)) rfl, gi (List.mem_of_getElem? (i := 1107) (by decide +kernel)) rfl, by decide, by decide, by decide +kernel⟩
theorem ql_m138 : okV RL 138 RX7 yX7_drawn cX7_drawn 2 (some .int) 1 := ⟨gi (List.mem_of_getElem? (i := 729) (by decide +kernel)) rfl, gi (List.mem_of_getElem? (i := 730) (by decide +kernel)) rfl, gi (List.mem_of_getElem? (i := 731) (by decide +kernel)) rfl, gi (List.mem_of_getElem? (i := 55) (by decide +kernel)) rfl, gi (List.mem_of_getElem? (i := 732) (by decide +kernel)) rfl, by decide, by decide, by decide +kernel⟩
theorem ql_m141 : okV RL 141 RX8 yX8_drawn cX8_drawn 2 (some .int) 1 := ⟨gi (List.mem_of_getElem? (i := 1108) (by decide +kernel)) rfl, gi (List.mem_of_getElem? (i := 1109) (by decide +kernel)) rfl, gi (List.mem_of_getElem? (i := 1110) (by decide +kernel)) rfl, gi (List.mem_of_getElem? (i := 64) (by decide +kernel)) rfl, gi (List.mem_of_getElem? (i := 1111) (by decide +kernel)) rfl, by decide, by decide, by decide +kernel⟩
theorem ql_m142 : okV RL 142 RX7 yX7_tell cX7_tell 2 (some .int) 1 := ⟨gi (List.mem_of_getElem? (i := 733) (by decide +kernel)) rfl, gi (List.mem_of_getElem? (i := 734) (by decide +kernel)) rfl, gi (List.mem_of_getElem? (i := 735) (by decide +kernel)) rfl, gi (List.mem_of_getElem? (i := 55) (by decide +kernel)) rfl, gi (List.mem_of_getElem? (i := 736) (by decide +kernel)) rfl, by decide, by decide, by decide +kernel⟩
theorem ql_m145 : okV RL 145 RX8 yX8_tell cX8_tell 2 (some .int) 1 := ⟨gi (List.mem_of_getElem? (i := 1112) (by decide +kernel)) rfl, gi (List.mem_of_getElem? (i := 1113) (by decide +kernel)) rfl, gi (List.mem_of_getElem? (i := 1114) (by decide +kernel)) rfl, gi (List.mem_of_getElem? (i := 64) (by decide +kernel)) rfl, gi (List.mem_of_getElem? (i := 1115) (by decide +kernel)) rfl, by decide, by decide, by decide +kernel⟩
theorem ql_m146 : okV RL 146 RX7 yX7_number cX7_number 3 (some .long) 0 := ⟨gi (List.mem_of_getElem? (i := 737) (by decide +kernel)) rfl, gi (List.mem_of_getElem? (i := 738) (by decide +kernel)) rfl, gi (List.mem_of_getElem? (i := 739) (by decide +kernel)) rfl, gi (List.mem_of_getElem? (i := 55) (by decide +kernel)) rfl, gi (List.mem_of_getElem? (i := 740) (by decide +kernel)) rfl, by decide, by decide, by decide +kernel⟩
theorem ql_m149 : okV RL 149 RX8 yX8_number cX8_number 6 (some .long) 0 := ⟨gi (List.mem_of_getElem? (i := 1116) (by decide +kernel)) rfl, gi (List.mem_of_getElem? (i := 1117) (by decide +kernel)) rfl, gi (List.mem_of_getElem? (i := 1118) (by decide +kernel)) rfl, gi (List.mem_of_getElem? (i := 64) (by decide +kernel)) rfl, gi (List.mem_of_getElem? (i := 1119) (by decide +kernel)) rfl, by decide, by decide, by decide +kernel⟩
theorem ql_m150 : okV RL 150 RX7 yX7_keep cX7_keep 1 (some .int) 0 := ⟨gi (List.mem_of_getElem? (i := 745) (by decide +kernel)) rfl, gi (List.mem_of_getElem? (i := 746) (by decide +kernel)) rfl, gi (List.mem_of_getElem? (i := 747) (by decide +kernel)) rfl, gi (List.mem_of_getElem? (i := 55) (by decide +kernel)) rfl, gi (List.mem_of_getElem? (i := 748) (by decide +kernel)) rfl, by decide, by decide, by decide +kernel⟩
theorem ql_m153 : okV RL 153 RX8 yX8_keep cX8_keep 1 (some .int) 0 := ⟨gi (List.mem_of_getElem? (i := 1124) (by decide +kernel)) rfl, gi (List.mem_of_getElem? (i := 1125) (by decide +kernel)) rfl, gi (List.mem_of_getElem? (i := 1126) (by decide +kernel)) rfl, gi (List.mem_of_getElem? (i := 64) (by decide +kernel)) rfl, gi (List.mem_of_getElem? (i := 1127) (by decide +kernel)) rfl, by decide, by decide, by decide +kernel⟩
theorem ql_m154 : okV RL 154 RX7 yX7_back cX7_back 1 (some .int) 0 := ⟨gi (List.mem_of_getElem? (i := 760) (by decide +kernel)) rfl, gi (List.mem_of_getElem? (i := 761) (by decide +kernel)) rfl, gi (List.mem_of_getElem? (i := 762) (by decide +kernel)) rfl, gi (List.mem_of_getElem? (i := 55) (by decide +kernel)) rfl, gi (List.mem_of_getElem? (i := 763) (by decide +kernel)) rfl, by decide, by decide, by decide +kernel⟩
theorem ql_m157 : okV RL 157 RX8 yX8_back cX8_back 1 (some .int) 0 := ⟨gi (List.mem_of_getElem? (i := 1136) (by decide +kernel)) rfl, gi (List.mem_of_getElem? (i := 1137) (by decide +kernel)) rfl, gi (List.mem_of_getElem? (i := 1138) (by decide +kernel)) rfl, gi (List.mem_of_getElem? (i := 64) (by decide +kernel)) rfl, gi (List.mem_of_getElem? (i := 1139) (by decide +kernel)) rfl, by decide, by decide, by decide +kernel⟩
theorem ql_m158 : okV RL 158 RX7 yX7_bears cX7_bears 5 (some .long) 0 := ⟨gi (List.mem_of_getElem? (i := 764) (by decide +kernel)) rfl, gi (List.mem_of_getElem? (i := 765) (by decide +kernel)) rfl, gi (List.mem_of_getElem? (i := 766) (by decide +kernel)) rfl, gi (List.mem_of_getElem? (i := 55) (by decide +kernel)) rfl, gi (List.mem_of_getElem? (i := 767) (by decide +kernel)) rfl, by decide, by decide, by decide +kernel⟩
theorem ql_m161 : okV RL 161 RX8 yX8_bears cX8_bears 5 (some .long) 0 := ⟨gi (List.mem_of_getElem? (i := 1140) (by decide +kernel)) rfl, gi (List.mem_of_getElem? (i := 1141) (by decide +kernel)) rfl, gi (List.mem_of_getElem? (i := 1142) (by decide +kernel)) rfl, gi (List.mem_of_getElem? (i := 64) (by decide +kernel)) rfl, gi (List.mem_of_getElem? (i := 1143) (by decide +kernel)) rfl, by decide, by decide, by decide +kernel⟩
theorem ql_m162 : okV RL 162 RX7 yX7_count cX7_count 2 (some .int) 1 := ⟨gi (List.mem_of_getElem? (i := 768) (by decide +kernel)) rfl, gi (List.mem_of_getElem? (i := 769) (by decide +kernel)) rfl, gi (List.mem_of_getElem? (i := 770) (by decide +kernel)) rfl, gi (List.mem_of_getElem? (i := 55) (by decide +kernel)) rfl, gi (List.mem_of_getElem? (i := 771) (by decide +kernel)) rfl, by decide, by decide, by decide +kernel⟩
theorem ql_m165 : okV RL 165 RX8 yX8_count_ cX8_count_ 2 (some .int) 1 := ⟨gi (List.mem_of_getElem? (i := 1149) (by decide +kernel)) rfl, gi (List.mem_of_getElem? (i := 1150) (by decide +kernel)) rfl, gi (List.mem_of_getElem? (i := 1151) (by decide +kernel)) rfl, gi (List.mem_of_getElem? (i := 64) (by decide +kernel)) rfl, gi (List.mem_of_getElem? (i := 1152) (by decide +kernel)) rfl, by decide, by decide, by decide +kernel⟩
theorem ql_m17 : okV RL 17 RX8 yX8_years cX8_years 3 (some .int) 1 := ⟨gi (List.mem_of_getElem? (i := 890) (by decide +kernel)) rfl, gi (List.mem_of_getElem? (i := 891) (by decide +kernel)) rfl, gi (List.mem_of_getElem? (i := 892) (by decide +kernel)) rfl, gi (List.mem_of_getElem? (i := 64) (by decide +kernel)) rfl, gi (List.mem_of_getElem? (i := 893) (by decide +kernel)) rfl, by decide, by decide, by decide +kernel⟩
theorem ql_m18 : okV RL 18 RX7 yX7_curve cX7_curve 4 (some .int) 2 := ⟨gi (List.mem_of_getElem? (i := 342) (by decide +kernel)) rfl, gi (List.mem_of_getElem? (i := 343) (by decide +kernel)) rfl, gi (List.mem_of_getElem? (i := 344) (by decide +kernel)) rfl, gi (List.mem_of_getElem? (i := 55) (by decide +kernel)) rfl, gi (List.mem_of_getElem? (i := 345) (by decide +kernel)) rfl, by decide, by decide, by decide +kernel⟩
theorem ql_m22 : okV RL 22 RX8 yX8_curve cX8_curve 4 (some .int) 2 := ⟨gi (List.mem_of_getElem? (i := 897) (by decide +kernel)) rfl, gi (List.mem_of_getElem? (i := 898) (by decide +kernel)) rfl, gi (List.mem_of_getElem? (i := 899) (by decide +kernel)) rfl, gi (List.mem_of_getElem? (i := 64) (by decide +kernel)) rfl, gi (List.mem_of_getElem? (i := 900) (by decide +kernel)) rfl, by decide, by decide, by decide +kernel⟩
theorem ql_m23 : okV RL 23 RX7 yX7_miss cX7_miss 4 (some .int) 2 := ⟨gi (List.mem_of_getElem? (i := 349) (by decide +kernel)) rfl, gi (List.mem_of_getElem? (i := 350) (by decide +kernel)) rfl, gi (List.mem_of_getElem? (i := 351) (by decide +kernel)) rfl, gi (List.mem_of_getElem? (i := 55) (by decide +kernel)) rfl, gi (List.mem_of_getElem? (i := 352) (by decide +kernel)) rfl, by decide, by decide, by decide +kernel⟩
theorem ql_m26 : okV RL 26 RX8 yX8_miss cX8_miss 4 (some .int) 2 := ⟨gi (List.mem_of_getElem? (i := 901) (by decide +kernel)) rfl, gi (List.mem_of_getElem? (i := 902) (by decide +kernel)) rfl, gi (List.mem_of_getElem? (i := 903) (by decide +kernel)) rfl, gi (List.mem_of_getElem? (i := 64) (by decide +kernel)) rfl, gi (List.mem_of_getElem? (i := 904) (by decide +kernel)) rfl, by decide, by decide, by decide +kernel⟩
theorem ql_m27 : okV RL 27 RX7 yX7_sheet cX7_sheet 4 (some .int) 3 := ⟨gi (List.mem_of_getElem? (i := 356) (by decide +kernel)) rfl, gi (List.mem_of_getElem? (i := 357) (by decide +kernel)) rfl, gi (List.mem_of_getElem? (i := 358) (by decide +kernel)) rfl, gi (List.mem_of_getElem? (i := 55) (by decide +kernel)) rfl, gi (List.mem_of_getElem? (i := 359) (by decide +kernel)) rfl, by decide, by decide, by decide +kernel⟩
theorem ql_m31 : okV RL 31 RX8 yX8_sheet cX8_sheet 5 (some .int) 3 := ⟨gi (List.mem_of_getElem? (i := 905) (by decide +kernel)) rfl, gi (List.mem_of_getElem? (i := 906) (by decide +kernel)) rfl, gi (List.mem_of_getElem? (i := 907) (by decide +kernel)) rfl, gi (List.mem_of_getElem? (i := 64) (by decide +kernel)) rfl, gi (List.mem_of_getElem? (i := 908) (by decide +kernel)) rfl, by decide, by decide, by decide +kernel⟩
theorem ql_m32 : okV RL 32 RX7 yX7_write cX7_write 6 (some .int) 3 := ⟨gi (List.mem_of_getElem? (i := 377) (by decide +kernel)) rfl, gi (List.mem_of_getElem? (i := 378) (by decide +kernel)) rfl, gi (List.mem_of_getElem? (i := 379) (by decide +kernel)) rfl, gi (List.mem_of_getElem? (i := 55) (by decide +kernel)) rfl, gi (List.mem_of_getElem? (i := 380) (by decide +kernel)) rfl, by decide, by decide, by decide +kernel⟩
theorem ql_m35 : okV RL 35 RX8 yX8_write cX8_write 6 (some .int) 3 := ⟨gi (List.mem_of_getElem? (i := 916) (by decide +kernel)) rfl, gi (List.mem_of_getElem? (i := 917) (by decide +kernel)) rfl, gi (List.mem_of_getElem? (i := 918) (by decide +kernel)) rfl, gi (List.mem_of_getElem? (i := 64) (by decide +kernel)) rfl, gi (List.mem_of_getElem? (i := 919) (by decide +kernel)) rfl, by decide, by decide, by decide +kernel⟩
theorem ql_m36 : okV RL 36 RX7 yX7_lose cX7_lose 3 (some .int) 1 := ⟨gi (List.mem_of_getElem? (i := 389) (by decide +kernel)) rfl, gi (List.mem_of_getElem? (i := 390) (by decide +kernel)) rfl, gi (List.mem_of_getElem? (i := 391) (by decide +kernel)) rfl, gi (List.mem_of_getElem? (i := 55) (by decide +kernel)) rfl, gi (List.mem_of_getElem? (i := 392) (by decide +kernel)) rfl, by decide, by decide, by decide +kernel⟩
theorem ql_m39 : okV RL 39 RX8 yX8_lose cX8_lose 3 (some .int) 1 := ⟨gi (List.mem_of_getElem? (i := 921) (by decide +kernel)) rfl, gi (List.mem_of_getElem? (i := 922) (by decide +kernel)) rfl, gi (List.mem_of_getElem? (i := 923) (by decide +kernel)) rfl, gi (List.mem_of_getElem? (i := 64) (by decide +kernel)) rfl, gi (List.mem_of_getElem? (i := 924) (by decide +kernel)) rfl, by decide, by decide, by decide +kernel⟩
theorem ql_m40 : okV RL 40 RX7 yX7_lay cX7_lay 10 (some .int) 5 := ⟨gi (List.mem_of_getElem? (i := 393) (by decide +kernel)) rfl, gi (List.mem_of_getElem? (i := 394) (by decide +kernel)) rfl, gi (List.mem_of_getElem? (i := 395) (by decide +kernel)) rfl, gi (List.mem_of_getElem? (i := 55) (by decide +kernel)) rfl, gi (List.mem_of_getElem? (i := 396) (by decide +kernel)) rfl, by decide, by decide, by decide +kernel⟩
theorem ql_m44 : okV RL 44 RX8 yX8_lay cX8_lay 9 (some .int) 5 := ⟨gi (List.mem_of_getElem? (i := 925) (by decide +kernel)) rfl, gi (List.mem_of_getElem? (i := 926) (by decide +kernel)) rfl, gi (List.mem_of_getElem? (i := 927) (by decide +kernel)) rfl, gi (List.mem_of_getElem? (i := 64) (by decide +kernel)) rfl, gi (List.mem_of_getElem? (i := 928) (by decide +kernel)) rfl, by decide, by decide, by decide +kernel⟩
theorem ql_m45 : okV RL 45 RX7 yX7_find cX7_find 4 (some .int) 2 := ⟨gi (List.mem_of_getElem? (i := 401) (by decide +kernel)) rfl, gi (List.mem_of_getElem? (i := 402) (by decide +kernel)) rfl, gi (List.mem_of_getElem? (i := 403) (by decide +kernel)) rfl, gi (List.mem_of_getElem? (i := 55) (by decide +kernel)) rfl, gi (List.mem_of_getElem? (i := 404) (by decide +kernel)) rfl, by decide, by decide, by decide +kernel⟩
theorem ql_m48 : okV RL 48 RX8 yX8_find cX8_find 6 (some .int) 2 := ⟨gi (List.mem_of_getElem? (i := 929) (by decide +kernel)) rfl, gi (List.mem_of_getElem? (i := 930) (by decide +kernel)) rfl, gi (List.mem_of_getElem? (i := 931) (by decide +kernel)) rfl, gi (List.mem_of_getElem? (i := 64) (by decide +kernel)) rfl, gi (List.mem_of_getElem? (i := 932) (by decide +kernel)) rfl, by decide, by decide, by decide +kernel⟩
theorem ql_m49 : okV RL 49 RX7 yX7_ring cX7_ring 5 (some .int) 3 := ⟨gi (List.mem_of_getElem? (i := 412) (by decide +kernel)) rfl, gi (List.mem_of_getElem? (i := 413) (by decide +kernel)) rfl, gi (List.mem_of_getElem? (i := 414) (by decide +kernel)) rfl, gi (List.mem_of_getElem? (i := 55) (by decide +kernel)) rfl, gi (List.mem_of_getElem? (i := 415) (by decide +kernel)) rfl, by decide, by decide, by decide +kernel⟩
theorem ql_m52 : okV RL 52 RX8 yX8_ring cX8_ring 4 (some .int) 3 := ⟨gi (List.mem_of_getElem? (i := 933) (by decide +kernel)) rfl, gi (List.mem_of_getElem? (i := 934) (by decide +kernel)) rfl, gi (List.mem_of_getElem? (i := 935) (by decide +kernel)) rfl, gi (List.mem_of_getElem? (i := 64) (by decide +kernel)) rfl, gi (List.mem_of_getElem? (i := 936) (by decide +kernel)) rfl, by decide, by decide, by decide +kernel⟩
theorem ql_m53 : okV RL 53 RX7 yX7_odd cX7_odd 4 (some .int) 2 := ⟨gi (List.mem_of_getElem? (i := 424) (by decide +kernel)) rfl, gi (List.mem_of_getElem? (i := 425) (by decide +kernel)) rfl, gi (List.mem_of_getElem? (i := 426) (by decide +kernel)) rfl, gi (List.mem_of_getElem? (i := 55) (by decide +kernel)) rfl, gi (List.mem_of_getElem? (i := 427) (by decide +kernel)) rfl, by decide, by decide, by decide +kernel⟩
theorem ql_m56 : okV RL 56 RX8 yX8_odd cX8_odd 4 (some .int) 2 := ⟨gi (List.mem_of_getElem? (i := 941) (by decide +kernel)) rfl, gi (List.mem_of_getElem? (i := 942) (by decide +kernel)) rfl, gi (List.mem_of_getElem? (i := 943) (by decide +kernel)) rfl, gi (List.mem_of_getElem? (i := 64) (by decide +kernel)) rfl, gi (List.mem_of_getElem? (i := 944) (by decide +kernel)) rfl, by decide, by decide, by decide +kernel⟩
theorem ql_m57 : okV RL 57 RX7 yX7_pair cX7_pair 5 (some .int) 3 := ⟨gi (List.mem_of_getElem? (i := 428) (by decide +kernel)) rfl, gi (List.mem_of_getElem? (i := 429) (by decide +kernel)) rfl, gi (List.mem_of_getElem? (i := 430) (by decide +kernel)) rfl, gi (List.mem_of_getElem? (i := 55) (by decide +kernel)) rfl, gi (List.mem_of_getElem? (i := 431) (by decide +kernel)) rfl, by decide, by decide, by decide +kernel⟩
theorem ql_m60 : okV RL 60 RX8 yX8_pair cX8_pair 5 (some .int) 3 := ⟨gi (List.mem_of_getElem? (i := 945) (by decide +kernel)) rfl, gi (List.mem_of_getElem? (i := 946) (by decide +kernel)) rfl, gi (List.mem_of_getElem? (i := 947) (by decide +kernel)) rfl, gi (List.mem_of_getElem? (i := 64) (by decide +kernel)) rfl, gi (List.mem_of_getElem? (i := 948) (by decide +kernel)) rfl, by decide, by decide, by decide +kernel⟩
theorem ql_m61 : okV RL 61 RX7 yX7_of cX7_of 4 (some .int) 2 := ⟨gi (List.mem_of_getElem? (i := 440) (by decide +kernel)) rfl, gi (List.mem_of_getElem? (i := 441) (by decide +kernel)) rfl, gi (List.mem_of_getElem? (i := 442) (by decide +kernel)) rfl, gi (List.mem_of_getElem? (i := 55) (by decide +kernel)) rfl, gi (List.mem_of_getElem? (i := 443) (by decide +kernel)) rfl, by decide, by decide, by decide +kernel⟩
theorem ql_m64 : okV RL 64 RX8 yX8_of cX8_of 5 (some .int) 2 := ⟨gi (List.mem_of_getElem? (i := 949) (by decide +kernel)) rfl, gi (List.mem_of_getElem? (i := 950) (by decide +kernel)) rfl, gi (List.mem_of_getElem? (i := 951) (by decide +kernel)) rfl, gi (List.mem_of_getElem? (i := 64) (by decide +kernel)) rfl, gi (List.mem_of_getElem? (i := 952) (by decide +kernel)) rfl, by decide, by decide, by decide +kernel⟩
theorem ql_m65 : okV RL 65 RX7 yX7_weight cX7_weight 4 (some .int) 2 := ⟨gi (List.mem_of_getElem? (i := 468) (by decide +kernel)) rfl, gi (List.mem_of_getElem? (i := 469) (by decide +kernel)) rfl, gi (List.mem_of_getElem? (i := 470) (by decide +kernel)) rfl, gi (List.mem_of_getElem? (i := 55) (by decide +kernel)) rfl, gi (List.mem_of_getElem? (i := 471) (by decide +kernel)) rfl, by decide, by decide, by decide +kernel⟩
theorem ql_m68 : okV RL 68 RX8 yX8_weight cX8_weight 3 (some .int) 2 := ⟨gi (List.mem_of_getElem? (i := 969) (by decide +kernel)) rfl, gi (List.mem_of_getElem? (i := 970) (by decide +kernel)) rfl, gi (List.mem_of_getElem? (i := 971) (by decide +kernel)) rfl, gi (List.mem_of_getElem? (i := 64) (by decide +kernel)) rfl, gi (List.mem_of_getElem? (i := 972) (by decide +kernel)) rfl, by decide, by decide, by decide +kernel⟩
theorem ql_m69 : okV RL 69 RX7 yX7_drop cX7_drop 1 (some .int) 0 := ⟨gi (List.mem_of_getElem? (i := 478) (by decide +kernel)) rfl, gi (List.mem_of_getElem? (i := 479) (by decide +kernel)) rfl, gi (List.mem_of_getElem? (i := 480) (by decide +kernel)) rfl, gi (List.mem_of_getElem? (i := 55) (by decide +kernel)) rfl, gi (List.mem_of_getElem? (i := 481) (by decide +kernel)) rfl, by decide, by decide, by decide +kernel⟩
theorem ql_m73 : okV RL 73 RX8 yX8_drop cX8_drop 1 (some .int) 0 := ⟨gi (List.mem_of_getElem? (i := 977) (by decide +kernel)) rfl, gi (List.mem_of_getElem? (i := 978) (by decide +kernel)) rfl, gi (List.mem_of_getElem? (i := 979) (by decide +kernel)) rfl, gi (List.mem_of_getElem? (i := 64) (by decide +kernel)) rfl, gi (List.mem_of_getElem? (i := 980) (by decide +kernel)) rfl, by decide, by decide, by decide +kernel⟩
theorem ql_m76 : okV RL 76 RX7 yX7_feed cX7_feed 4 (some .int) 2 := ⟨gi (List.mem_of_getElem? (i := 487) (by decide +kernel)) rfl, gi (List.mem_of_getElem? (i := 488) (by decide +kernel)) rfl, gi (List.mem_of_getElem? (i := 489) (by decide +kernel)) rfl, gi (List.mem_of_getElem? (i := 55) (by decide +kernel)) rfl, gi (List.mem_of_getElem? (i := 490) (by decide +kernel)) rfl, by decide, by decide, by decide +kernel⟩
theorem ql_m80 : okV RL 80 RX8 yX8_feed cX8_feed 5 (some .int) 2 := ⟨gi (List.mem_of_getElem? (i := 981) (by decide +kernel)) rfl, gi (List.mem_of_getElem? (i := 982) (by decide +kernel)) rfl, gi (List.mem_of_getElem? (i := 983) (by decide +kernel)) rfl, gi (List.mem_of_getElem? (i := 64) (by decide +kernel)) rfl, gi (List.mem_of_getElem? (i := 984) (by decide +kernel)) rfl, by decide, by decide, by decide +kernel⟩
theorem ql_m81 : okV RL 81 RX7 yX7_text cX7_text 2 (some .int) 0 := ⟨gi (List.mem_of_getElem? (i := 495) (by decide +kernel)) rfl, gi (List.mem_of_getElem? (i := 496) (by decide +kernel)) rfl, gi (List.mem_of_getElem? (i := 497) (by decide +kernel)) rfl, gi (List.mem_of_getElem? (i := 55) (by decide +kernel)) rfl, gi (List.mem_of_getElem? (i := 498) (by decide +kernel)) rfl, by decide, by decide, by decide +kernel⟩
theorem ql_m84 : okV RL 84 RX8 yX8_text cX8_text 3 (some .int) 0 := ⟨gi (List.mem_of_getElem? (i := 985) (by decide +kernel)) rfl, gi (List.mem_of_getElem? (i := 986) (by decide +kernel)) rfl, gi (List.mem_of_getElem? (i := 987) (by decide +kernel)) rfl, gi (List.mem_of_getElem? (i := 64) (by decide +kernel)) rfl, gi (List.mem_of_getElem? (i := 988) (by decide +kernel)) rfl, by decide, by decide, by decide +kernel⟩
theorem ql_m85 : okV RL 85 RX7 yX7_total cX7_total 1 (some .long) 0 := ⟨gi (List.mem_of_getElem? (i := 546) (by decide +kernel)) rfl, gi (List.mem_of_getElem? (i := 547) (by decide +kernel)) rfl, gi (List.mem_of_getElem? (i := 548) (by decide +kernel)) rfl, gi (List.mem_of_getElem? (i := 55) (by decide +kernel)) rfl, gi (List.mem_of_getElem? (i := 549) (by decide +kernel)) rfl, by decide, by decide, by decide +kernel⟩
theorem ql_m89 : okV RL 89 RX8 yX8_total cX8_total 1 (some .long) 0 := ⟨gi (List.mem_of_getElem? (i := 1009) (by decide +kernel)) rfl, gi (List.mem_of_getElem? (i := 1010) (by decide +kernel)) rfl, gi (List.mem_of_getElem? (i := 1011) (by decide +kernel)) rfl, gi (List.mem_of_getElem? (i := 64) (by decide +kernel)) rfl, gi (List.mem_of_getElem? (i := 1012) (by decide +kernel)) rfl, by decide, by decide, by decide +kernel⟩
theorem ql_m90 : okV RL 90 RX7 yX7_share cX7_share 5 (some .long) 2 := ⟨gi (List.mem_of_getElem? (i := 629) (by decide +kernel)) rfl, gi (List.mem_of_getElem? (i := 630) (by decide +kernel)) rfl, gi (List.mem_of_getElem? (i := 631) (by decide +kernel)) rfl, gi (List.mem_of_getElem? (i := 55) (by decide +kernel)) rfl, gi (List.mem_of_getElem? (i := 632) (by decide +kernel)) rfl, by decide, by decide, by decide +kernel⟩
theorem ql_m94 : okV RL 94 RX8 yX8_share cX8_share 4 (some .long) 2 := ⟨gi (List.mem_of_getElem? (i := 1038) (by decide +kernel)) rfl, gi (List.mem_of_getElem? (i := 1039) (by decide +kernel)) rfl, gi (List.mem_of_getElem? (i := 1040) (by decide +kernel)) rfl, gi (List.mem_of_getElem? (i := 64) (by decide +kernel)) rfl, gi (List.mem_of_getElem? (i := 1041) (by decide +kernel)) rfl, by decide, by decide, by decide +kernel⟩
theorem ql_m95 : okV RL 95 RX7 yX7_below cX7_below 1 (some .long) 0 := ⟨gi (List.mem_of_getElem? (i := 651) (by decide +kernel)) rfl, gi (List.mem_of_getElem? (i := 652) (by decide +kernel)) rfl, gi (List.mem_of_getElem? (i := 653) (by decide +kernel)) rfl, gi (List.mem_of_getElem? (i := 55) (by decide +kernel)) rfl, gi (List.mem_of_getElem? (i := 654) (by decide +kernel)) rfl, by decide, by decide, by decide +kernel⟩
theorem ql_m98 : okV RL 98 RX8 yX8_below cX8_below 1 (some .long) 0 := ⟨gi (List.mem_of_getElem? (i := 1034) (by decide +kernel)) rfl, gi (List.mem_of_getElem? (i := 1035) (by decide +kernel)) rfl, gi (List.mem_of_getElem? (i := 1036) (by decide +kernel)) rfl, gi (List.mem_of_getElem? (i := 64) (by decide +kernel)) rfl, gi (List.mem_of_getElem? (i := 1037) (by decide +kernel)) rfl, by decide, by decide, by decide +kernel⟩
theorem ql_m99 : okV RL 99 RX7 yX7_until cX7_until 5 (some .long) 2 := ⟨gi (List.mem_of_getElem? (i := 655) (by decide +kernel)) rfl, gi (List.mem_of_getElem? (i := 656) (by decide +kernel)) rfl, gi (List.mem_of_getElem? (i := 657) (by decide +kernel)) rfl, gi (List.mem_of_getElem? (i := 55) (by decide +kernel)) rfl, gi (List.mem_of_getElem? (i := 658) (by decide +kernel)) rfl, by decide, by decide, by decide +kernel⟩
section
variable {p : Program} {l : Launch} {e : Env} {s : State} {m : MethodId} {below : List Frame} {meth : Method} {c : Code} {D : va_G} {ca : Nat → ClassId} {ad0 ad1 : Nat → Nat} {b L : Nat} {xs : Nat → Int32}

set_option maxRecDepth 20000 in
theorem law_c0 {Rel : St → St → Prop} (AG : AllAgree Rel) (C : lC p s m meth c D ca ad0 ad1 b L xs) {x3 : Int32} {σ τ : St} (hRel : Rel σ τ) (h1 : vp_in (x3 + (1 : Int32)) L) (h2 : vp_in (x3 + (2 : Int32)) L) (h3 : vp_in (x3 + (3 : Int32)) L) (h4 : vp_in (x3 + (4 : Int32)) L) (h5 : vp_in (x3 + (5 : Int32)) L) (ih : ∀ σ τ : St, Rel σ τ → GL p l e s m below meth c D ca ad0 ad1 b 1235 x3 [] σ τ) : GL p l e s m below meth c D ca ad0 ad1 b 188 x3 [] σ τ := by
  refine l_aload1 C dL_law_188 ?_
  refine l_aload0 C dL_law_189 ?_
  refine l_iload C dL_law_190 ?_
  refine l_iconst C (1 : Int32) dL_law_191 rfl ?_
  refine l_iadd C dL_law_192 ?_
  refine l_sld C (h1) dL_law_193 ?_
  obtain ⟨r, σ', τ', hf0, hf1, hRel'⟩ := ag_0 AG (xs (x3 + (1 : Int32)).toNatClampNeg) σ τ hRel
  refine l_callCI C [.int (xs (x3 + (1 : Int32)).toNatClampNeg)] ql_m13 (m_X7_years hf0) rfl rfl rfl ⟨rfl, rfl⟩ ⟨by decide, by decide⟩ (Nat.le_of_ble_eq_true rfl) dL_law_194 ?_
  refine l_aload2 C dL_law_197 ?_
  refine l_aload0 C dL_law_198 ?_
  refine l_iload C dL_law_199 ?_
  refine l_iconst C (1 : Int32) dL_law_200 rfl ?_
  refine l_iadd C dL_law_201 ?_
  refine l_sld C (h1) dL_law_202 ?_
  refine l_callMI C [.int (xs (x3 + (1 : Int32)).toNatClampNeg)] ql_m17 (m_X8_years hf1) rfl rfl rfl ⟨rfl, rfl⟩ ⟨by decide, by decide⟩ (Nat.le_of_ble_eq_true rfl) dL_law_203 ?_
  refine l_eqI C 1235 dL_law_206 (by decide) ?_
  exact ih σ' τ' hRel'
set_option maxRecDepth 20000 in
theorem law_c1 {Rel : St → St → Prop} (AG : AllAgree Rel) (C : lC p s m meth c D ca ad0 ad1 b L xs) {x3 : Int32} {σ τ : St} (hRel : Rel σ τ) (h1 : vp_in (x3 + (1 : Int32)) L) (h2 : vp_in (x3 + (2 : Int32)) L) (h3 : vp_in (x3 + (3 : Int32)) L) (h4 : vp_in (x3 + (4 : Int32)) L) (h5 : vp_in (x3 + (5 : Int32)) L) (ih : ∀ σ τ : St, Rel σ τ → GL p l e s m below meth c D ca ad0 ad1 b 1235 x3 [] σ τ) : GL p l e s m below meth c D ca ad0 ad1 b 211 x3 [] σ τ := by
  refine l_aload1 C dL_law_211 ?_
  refine l_aload0 C dL_law_212 ?_
  refine l_iload C dL_law_213 ?_
  refine l_iconst C (1 : Int32) dL_law_214 rfl ?_
  refine l_iadd C dL_law_215 ?_
  refine l_sld C (h1) dL_law_216 ?_
  refine l_aload0 C dL_law_217 ?_
  refine l_iload C dL_law_218 ?_
  refine l_iconst C (2 : Int32) dL_law_219 rfl ?_
  refine l_iadd C dL_law_220 ?_
  refine l_sld C (h2) dL_law_221 ?_
  obtain ⟨r, σ', τ', hf0, hf1, hRel'⟩ := ag_1 AG (xs (x3 + (1 : Int32)).toNatClampNeg) (xs (x3 + (2 : Int32)).toNatClampNeg) σ τ hRel
  refine l_callCI C [.int (xs (x3 + (1 : Int32)).toNatClampNeg), .int (xs (x3 + (2 : Int32)).toNatClampNeg)] ql_m18 (m_X7_curve hf0) rfl rfl rfl ⟨rfl, rfl⟩ ⟨by decide, by decide⟩ (Nat.le_of_ble_eq_true rfl) dL_law_222 ?_
  refine l_aload2 C dL_law_225 ?_
  refine l_aload0 C dL_law_226 ?_
  refine l_iload C dL_law_227 ?_
  refine l_iconst C (1 : Int32) dL_law_228 rfl ?_
  refine l_iadd C dL_law_229 ?_
  refine l_sld C (h1) dL_law_230 ?_
  refine l_aload0 C dL_law_231 ?_
  refine l_iload C dL_law_232 ?_
  refine l_iconst C (2 : Int32) dL_law_233 rfl ?_
  refine l_iadd C dL_law_234 ?_
  refine l_sld C (h2) dL_law_235 ?_
  refine l_callMI C [.int (xs (x3 + (1 : Int32)).toNatClampNeg), .int (xs (x3 + (2 : Int32)).toNatClampNeg)] ql_m22 (m_X8_curve hf1) rfl rfl rfl ⟨rfl, rfl⟩ ⟨by decide, by decide⟩ (Nat.le_of_ble_eq_true rfl) dL_law_236 ?_
  refine l_eqI C 1235 dL_law_239 (by decide) ?_
  exact ih σ' τ' hRel'
set_option maxRecDepth 20000 in
theorem law_c2 {Rel : St → St → Prop} (AG : AllAgree Rel) (C : lC p s m meth c D ca ad0 ad1 b L xs) {x3 : Int32} {σ τ : St} (hRel : Rel σ τ) (h1 : vp_in (x3 + (1 : Int32)) L) (h2 : vp_in (x3 + (2 : Int32)) L) (h3 : vp_in (x3 + (3 : Int32)) L) (h4 : vp_in (x3 + (4 : Int32)) L) (h5 : vp_in (x3 + (5 : Int32)) L) (ih : ∀ σ τ : St, Rel σ τ → GL p l e s m below meth c D ca ad0 ad1 b 1235 x3 [] σ τ) : GL p l e s m below meth c D ca ad0 ad1 b 244 x3 [] σ τ := by
  refine l_aload1 C dL_law_244 ?_
  refine l_aload0 C dL_law_245 ?_
  refine l_iload C dL_law_246 ?_
  refine l_iconst C (1 : Int32) dL_law_247 rfl ?_
  refine l_iadd C dL_law_248 ?_
  refine l_sld C (h1) dL_law_249 ?_
  refine l_aload0 C dL_law_250 ?_
  refine l_iload C dL_law_251 ?_
  refine l_iconst C (2 : Int32) dL_law_252 rfl ?_
  refine l_iadd C dL_law_253 ?_
  refine l_sld C (h2) dL_law_254 ?_
  obtain ⟨r, σ', τ', hf0, hf1, hRel'⟩ := ag_2 AG (xs (x3 + (1 : Int32)).toNatClampNeg) (xs (x3 + (2 : Int32)).toNatClampNeg) σ τ hRel
  refine l_callCI C [.int (xs (x3 + (1 : Int32)).toNatClampNeg), .int (xs (x3 + (2 : Int32)).toNatClampNeg)] ql_m23 (m_X7_miss hf0) rfl rfl rfl ⟨rfl, rfl⟩ ⟨by decide, by decide⟩ (Nat.le_of_ble_eq_true rfl) dL_law_255 ?_
  refine l_aload2 C dL_law_258 ?_
  refine l_aload0 C dL_law_259 ?_
  refine l_iload C dL_law_260 ?_
  refine l_iconst C (1 : Int32) dL_law_261 rfl ?_
  refine l_iadd C dL_law_262 ?_
  refine l_sld C (h1) dL_law_263 ?_
  refine l_aload0 C dL_law_264 ?_
  refine l_iload C dL_law_265 ?_
  refine l_iconst C (2 : Int32) dL_law_266 rfl ?_
  refine l_iadd C dL_law_267 ?_
  refine l_sld C (h2) dL_law_268 ?_
  refine l_callMI C [.int (xs (x3 + (1 : Int32)).toNatClampNeg), .int (xs (x3 + (2 : Int32)).toNatClampNeg)] ql_m26 (m_X8_miss hf1) rfl rfl rfl ⟨rfl, rfl⟩ ⟨by decide, by decide⟩ (Nat.le_of_ble_eq_true rfl) dL_law_269 ?_
  refine l_eqI C 1235 dL_law_272 (by decide) ?_
  exact ih σ' τ' hRel'
set_option maxRecDepth 20000 in
theorem law_c3 {Rel : St → St → Prop} (AG : AllAgree Rel) (C : lC p s m meth c D ca ad0 ad1 b L xs) {x3 : Int32} {σ τ : St} (hRel : Rel σ τ) (h1 : vp_in (x3 + (1 : Int32)) L) (h2 : vp_in (x3 + (2 : Int32)) L) (h3 : vp_in (x3 + (3 : Int32)) L) (h4 : vp_in (x3 + (4 : Int32)) L) (h5 : vp_in (x3 + (5 : Int32)) L) (ih : ∀ σ τ : St, Rel σ τ → GL p l e s m below meth c D ca ad0 ad1 b 1235 x3 [] σ τ) : GL p l e s m below meth c D ca ad0 ad1 b 277 x3 [] σ τ := by
  refine l_aload1 C dL_law_277 ?_
  refine l_aload0 C dL_law_278 ?_
  refine l_iload C dL_law_279 ?_
  refine l_iconst C (1 : Int32) dL_law_280 rfl ?_
  refine l_iadd C dL_law_281 ?_
  refine l_sld C (h1) dL_law_282 ?_
  refine l_aload0 C dL_law_283 ?_
  refine l_iload C dL_law_284 ?_
  refine l_iconst C (2 : Int32) dL_law_285 rfl ?_
  refine l_iadd C dL_law_286 ?_
  refine l_sld C (h2) dL_law_287 ?_
  refine l_aload0 C dL_law_288 ?_
  refine l_iload C dL_law_289 ?_
  refine l_iconst C (3 : Int32) dL_law_290 rfl ?_
  refine l_iadd C dL_law_291 ?_
  refine l_sld C (h3) dL_law_292 ?_
  obtain ⟨r, σ', τ', hf0, hf1, hRel'⟩ := ag_3 AG (xs (x3 + (1 : Int32)).toNatClampNeg) (xs (x3 + (2 : Int32)).toNatClampNeg) (xs (x3 + (3 : Int32)).toNatClampNeg) σ τ hRel
  refine l_callCI C [.int (xs (x3 + (1 : Int32)).toNatClampNeg), .int (xs (x3 + (2 : Int32)).toNatClampNeg), .int (xs (x3 + (3 : Int32)).toNatClampNeg)] ql_m27 (m_X7_sheet hf0) rfl rfl rfl ⟨rfl, rfl⟩ ⟨by decide, by decide⟩ (Nat.le_of_ble_eq_true rfl) dL_law_293 ?_
  refine l_aload2 C dL_law_296 ?_
  refine l_aload0 C dL_law_297 ?_
  refine l_iload C dL_law_298 ?_
  refine l_iconst C (1 : Int32) dL_law_299 rfl ?_
  refine l_iadd C dL_law_300 ?_
  refine l_sld C (h1) dL_law_301 ?_
  refine l_aload0 C dL_law_302 ?_
  refine l_iload C dL_law_303 ?_
  refine l_iconst C (2 : Int32) dL_law_304 rfl ?_
  refine l_iadd C dL_law_305 ?_
  refine l_sld C (h2) dL_law_306 ?_
  refine l_aload0 C dL_law_307 ?_
  refine l_iload C dL_law_308 ?_
  refine l_iconst C (3 : Int32) dL_law_309 rfl ?_
  refine l_iadd C dL_law_310 ?_
  refine l_sld C (h3) dL_law_311 ?_
  refine l_callMI C [.int (xs (x3 + (1 : Int32)).toNatClampNeg), .int (xs (x3 + (2 : Int32)).toNatClampNeg), .int (xs (x3 + (3 : Int32)).toNatClampNeg)] ql_m31 (m_X8_sheet hf1) rfl rfl rfl ⟨rfl, rfl⟩ ⟨by decide, by decide⟩ (Nat.le_of_ble_eq_true rfl) dL_law_312 ?_
  refine l_eqI C 1235 dL_law_315 (by decide) ?_
  exact ih σ' τ' hRel'
set_option maxRecDepth 20000 in
theorem law_c4 {Rel : St → St → Prop} (AG : AllAgree Rel) (C : lC p s m meth c D ca ad0 ad1 b L xs) {x3 : Int32} {σ τ : St} (hRel : Rel σ τ) (h1 : vp_in (x3 + (1 : Int32)) L) (h2 : vp_in (x3 + (2 : Int32)) L) (h3 : vp_in (x3 + (3 : Int32)) L) (h4 : vp_in (x3 + (4 : Int32)) L) (h5 : vp_in (x3 + (5 : Int32)) L) (ih : ∀ σ τ : St, Rel σ τ → GL p l e s m below meth c D ca ad0 ad1 b 1235 x3 [] σ τ) : GL p l e s m below meth c D ca ad0 ad1 b 320 x3 [] σ τ := by
  refine l_aload1 C dL_law_320 ?_
  refine l_aload0 C dL_law_321 ?_
  refine l_iload C dL_law_322 ?_
  refine l_iconst C (1 : Int32) dL_law_323 rfl ?_
  refine l_iadd C dL_law_324 ?_
  refine l_sld C (h1) dL_law_325 ?_
  refine l_aload0 C dL_law_326 ?_
  refine l_iload C dL_law_327 ?_
  refine l_iconst C (2 : Int32) dL_law_328 rfl ?_
  refine l_iadd C dL_law_329 ?_
  refine l_sld C (h2) dL_law_330 ?_
  refine l_aload0 C dL_law_331 ?_
  refine l_iload C dL_law_332 ?_
  refine l_iconst C (3 : Int32) dL_law_333 rfl ?_
  refine l_iadd C dL_law_334 ?_
  refine l_sld C (h3) dL_law_335 ?_
  obtain ⟨r, σ', τ', hf0, hf1, hRel'⟩ := ag_4 AG (xs (x3 + (1 : Int32)).toNatClampNeg) (xs (x3 + (2 : Int32)).toNatClampNeg) (xs (x3 + (3 : Int32)).toNatClampNeg) σ τ hRel
  refine l_callCI C [.int (xs (x3 + (1 : Int32)).toNatClampNeg), .int (xs (x3 + (2 : Int32)).toNatClampNeg), .int (xs (x3 + (3 : Int32)).toNatClampNeg)] ql_m32 (m_X7_write hf0) rfl rfl rfl ⟨rfl, rfl⟩ ⟨by decide, by decide⟩ (Nat.le_of_ble_eq_true rfl) dL_law_336 ?_
  refine l_aload2 C dL_law_339 ?_
  refine l_aload0 C dL_law_340 ?_
  refine l_iload C dL_law_341 ?_
  refine l_iconst C (1 : Int32) dL_law_342 rfl ?_
  refine l_iadd C dL_law_343 ?_
  refine l_sld C (h1) dL_law_344 ?_
  refine l_aload0 C dL_law_345 ?_
  refine l_iload C dL_law_346 ?_
  refine l_iconst C (2 : Int32) dL_law_347 rfl ?_
  refine l_iadd C dL_law_348 ?_
  refine l_sld C (h2) dL_law_349 ?_
  refine l_aload0 C dL_law_350 ?_
  refine l_iload C dL_law_351 ?_
  refine l_iconst C (3 : Int32) dL_law_352 rfl ?_
  refine l_iadd C dL_law_353 ?_
  refine l_sld C (h3) dL_law_354 ?_
  refine l_callMI C [.int (xs (x3 + (1 : Int32)).toNatClampNeg), .int (xs (x3 + (2 : Int32)).toNatClampNeg), .int (xs (x3 + (3 : Int32)).toNatClampNeg)] ql_m35 (m_X8_write hf1) rfl rfl rfl ⟨rfl, rfl⟩ ⟨by decide, by decide⟩ (Nat.le_of_ble_eq_true rfl) dL_law_355 ?_
  refine l_eqI C 1235 dL_law_358 (by decide) ?_
  exact ih σ' τ' hRel'
set_option maxRecDepth 20000 in
theorem law_c5 {Rel : St → St → Prop} (AG : AllAgree Rel) (C : lC p s m meth c D ca ad0 ad1 b L xs) {x3 : Int32} {σ τ : St} (hRel : Rel σ τ) (h1 : vp_in (x3 + (1 : Int32)) L) (h2 : vp_in (x3 + (2 : Int32)) L) (h3 : vp_in (x3 + (3 : Int32)) L) (h4 : vp_in (x3 + (4 : Int32)) L) (h5 : vp_in (x3 + (5 : Int32)) L) (ih : ∀ σ τ : St, Rel σ τ → GL p l e s m below meth c D ca ad0 ad1 b 1235 x3 [] σ τ) : GL p l e s m below meth c D ca ad0 ad1 b 363 x3 [] σ τ := by
  refine l_aload1 C dL_law_363 ?_
  refine l_aload0 C dL_law_364 ?_
  refine l_iload C dL_law_365 ?_
  refine l_iconst C (1 : Int32) dL_law_366 rfl ?_
  refine l_iadd C dL_law_367 ?_
  refine l_sld C (h1) dL_law_368 ?_
  obtain ⟨r, σ', τ', hf0, hf1, hRel'⟩ := ag_5 AG (xs (x3 + (1 : Int32)).toNatClampNeg) σ τ hRel
  refine l_callCI C [.int (xs (x3 + (1 : Int32)).toNatClampNeg)] ql_m36 (m_X7_lose hf0) rfl rfl rfl ⟨rfl, rfl⟩ ⟨by decide, by decide⟩ (Nat.le_of_ble_eq_true rfl) dL_law_369 ?_
  refine l_aload2 C dL_law_372 ?_
  refine l_aload0 C dL_law_373 ?_
  refine l_iload C dL_law_374 ?_
  refine l_iconst C (1 : Int32) dL_law_375 rfl ?_
  refine l_iadd C dL_law_376 ?_
  refine l_sld C (h1) dL_law_377 ?_
  refine l_callMI C [.int (xs (x3 + (1 : Int32)).toNatClampNeg)] ql_m39 (m_X8_lose hf1) rfl rfl rfl ⟨rfl, rfl⟩ ⟨by decide, by decide⟩ (Nat.le_of_ble_eq_true rfl) dL_law_378 ?_
  refine l_eqI C 1235 dL_law_381 (by decide) ?_
  exact ih σ' τ' hRel'
set_option maxRecDepth 20000 in
theorem law_c6 {Rel : St → St → Prop} (AG : AllAgree Rel) (C : lC p s m meth c D ca ad0 ad1 b L xs) {x3 : Int32} {σ τ : St} (hRel : Rel σ τ) (h1 : vp_in (x3 + (1 : Int32)) L) (h2 : vp_in (x3 + (2 : Int32)) L) (h3 : vp_in (x3 + (3 : Int32)) L) (h4 : vp_in (x3 + (4 : Int32)) L) (h5 : vp_in (x3 + (5 : Int32)) L) (ih : ∀ σ τ : St, Rel σ τ → GL p l e s m below meth c D ca ad0 ad1 b 1235 x3 [] σ τ) : GL p l e s m below meth c D ca ad0 ad1 b 386 x3 [] σ τ := by
  refine l_aload1 C dL_law_386 ?_
  refine l_aload0 C dL_law_387 ?_
  refine l_iload C dL_law_388 ?_
  refine l_iconst C (1 : Int32) dL_law_389 rfl ?_
  refine l_iadd C dL_law_390 ?_
  refine l_sld C (h1) dL_law_391 ?_
  refine l_aload0 C dL_law_392 ?_
  refine l_iload C dL_law_393 ?_
  refine l_iconst C (2 : Int32) dL_law_394 rfl ?_
  refine l_iadd C dL_law_395 ?_
  refine l_sld C (h2) dL_law_396 ?_
  refine l_aload0 C dL_law_397 ?_
  refine l_iload C dL_law_398 ?_
  refine l_iconst C (3 : Int32) dL_law_399 rfl ?_
  refine l_iadd C dL_law_400 ?_
  refine l_sld C (h3) dL_law_401 ?_
  refine l_aload0 C dL_law_402 ?_
  refine l_iload C dL_law_403 ?_
  refine l_iconst C (4 : Int32) dL_law_404 rfl ?_
  refine l_iadd C dL_law_405 ?_
  refine l_sld C (h4) dL_law_406 ?_
  refine l_aload0 C dL_law_407 ?_
  refine l_iload C dL_law_408 ?_
  refine l_iconst C (5 : Int32) dL_law_409 rfl ?_
  refine l_iadd C dL_law_410 ?_
  refine l_sld C (h5) dL_law_411 ?_
  obtain ⟨r, σ', τ', hf0, hf1, hRel'⟩ := ag_6 AG (xs (x3 + (1 : Int32)).toNatClampNeg) (xs (x3 + (2 : Int32)).toNatClampNeg) (xs (x3 + (3 : Int32)).toNatClampNeg) (xs (x3 + (4 : Int32)).toNatClampNeg) (xs (x3 + (5 : Int32)).toNatClampNeg) σ τ hRel
  refine l_callCI C [.int (xs (x3 + (1 : Int32)).toNatClampNeg), .int (xs (x3 + (2 : Int32)).toNatClampNeg), .int (xs (x3 + (3 : Int32)).toNatClampNeg), .int (xs (x3 + (4 : Int32)).toNatClampNeg), .int (xs (x3 + (5 : Int32)).toNatClampNeg)] ql_m40 (m_X7_lay hf0) rfl rfl rfl ⟨rfl, rfl⟩ ⟨by decide, by decide⟩ (Nat.le_of_ble_eq_true rfl) dL_law_412 ?_
  refine l_aload2 C dL_law_415 ?_
  refine l_aload0 C dL_law_416 ?_
  refine l_iload C dL_law_417 ?_
  refine l_iconst C (1 : Int32) dL_law_418 rfl ?_
  refine l_iadd C dL_law_419 ?_
  refine l_sld C (h1) dL_law_420 ?_
  refine l_aload0 C dL_law_421 ?_
  refine l_iload C dL_law_422 ?_
  refine l_iconst C (2 : Int32) dL_law_423 rfl ?_
  refine l_iadd C dL_law_424 ?_
  refine l_sld C (h2) dL_law_425 ?_
  refine l_aload0 C dL_law_426 ?_
  refine l_iload C dL_law_427 ?_
  refine l_iconst C (3 : Int32) dL_law_428 rfl ?_
  refine l_iadd C dL_law_429 ?_
  refine l_sld C (h3) dL_law_430 ?_
  refine l_aload0 C dL_law_431 ?_
  refine l_iload C dL_law_432 ?_
  refine l_iconst C (4 : Int32) dL_law_433 rfl ?_
  refine l_iadd C dL_law_434 ?_
  refine l_sld C (h4) dL_law_435 ?_
  refine l_aload0 C dL_law_436 ?_
  refine l_iload C dL_law_437 ?_
  refine l_iconst C (5 : Int32) dL_law_438 rfl ?_
  refine l_iadd C dL_law_439 ?_
  refine l_sld C (h5) dL_law_440 ?_
  refine l_callMI C [.int (xs (x3 + (1 : Int32)).toNatClampNeg), .int (xs (x3 + (2 : Int32)).toNatClampNeg), .int (xs (x3 + (3 : Int32)).toNatClampNeg), .int (xs (x3 + (4 : Int32)).toNatClampNeg), .int (xs (x3 + (5 : Int32)).toNatClampNeg)] ql_m44 (m_X8_lay hf1) rfl rfl rfl ⟨rfl, rfl⟩ ⟨by decide, by decide⟩ (Nat.le_of_ble_eq_true rfl) dL_law_441 ?_
  refine l_eqI C 1235 dL_law_444 (by decide) ?_
  exact ih σ' τ' hRel'
set_option maxRecDepth 20000 in
theorem law_c7 {Rel : St → St → Prop} (AG : AllAgree Rel) (C : lC p s m meth c D ca ad0 ad1 b L xs) {x3 : Int32} {σ τ : St} (hRel : Rel σ τ) (h1 : vp_in (x3 + (1 : Int32)) L) (h2 : vp_in (x3 + (2 : Int32)) L) (h3 : vp_in (x3 + (3 : Int32)) L) (h4 : vp_in (x3 + (4 : Int32)) L) (h5 : vp_in (x3 + (5 : Int32)) L) (ih : ∀ σ τ : St, Rel σ τ → GL p l e s m below meth c D ca ad0 ad1 b 1235 x3 [] σ τ) : GL p l e s m below meth c D ca ad0 ad1 b 449 x3 [] σ τ := by
  refine l_aload1 C dL_law_449 ?_
  refine l_aload0 C dL_law_450 ?_
  refine l_iload C dL_law_451 ?_
  refine l_iconst C (1 : Int32) dL_law_452 rfl ?_
  refine l_iadd C dL_law_453 ?_
  refine l_sld C (h1) dL_law_454 ?_
  refine l_aload0 C dL_law_455 ?_
  refine l_iload C dL_law_456 ?_
  refine l_iconst C (2 : Int32) dL_law_457 rfl ?_
  refine l_iadd C dL_law_458 ?_
  refine l_sld C (h2) dL_law_459 ?_
  obtain ⟨r, σ', τ', hf0, hf1, hRel'⟩ := ag_7 AG (xs (x3 + (1 : Int32)).toNatClampNeg) (xs (x3 + (2 : Int32)).toNatClampNeg) σ τ hRel
  refine l_callCI C [.int (xs (x3 + (1 : Int32)).toNatClampNeg), .int (xs (x3 + (2 : Int32)).toNatClampNeg)] ql_m45 (m_X7_find hf0) rfl rfl rfl ⟨rfl, rfl⟩ ⟨by decide, by decide⟩ (Nat.le_of_ble_eq_true rfl) dL_law_460 ?_
  refine l_aload2 C dL_law_463 ?_
  refine l_aload0 C dL_law_464 ?_
  refine l_iload C dL_law_465 ?_
  refine l_iconst C (1 : Int32) dL_law_466 rfl ?_
  refine l_iadd C dL_law_467 ?_
  refine l_sld C (h1) dL_law_468 ?_
  refine l_aload0 C dL_law_469 ?_
  refine l_iload C dL_law_470 ?_
  refine l_iconst C (2 : Int32) dL_law_471 rfl ?_
  refine l_iadd C dL_law_472 ?_
  refine l_sld C (h2) dL_law_473 ?_
  refine l_callMI C [.int (xs (x3 + (1 : Int32)).toNatClampNeg), .int (xs (x3 + (2 : Int32)).toNatClampNeg)] ql_m48 (m_X8_find hf1) rfl rfl rfl ⟨rfl, rfl⟩ ⟨by decide, by decide⟩ (Nat.le_of_ble_eq_true rfl) dL_law_474 ?_
  refine l_eqI C 1235 dL_law_477 (by decide) ?_
  exact ih σ' τ' hRel'
set_option maxRecDepth 20000 in
theorem law_c8 {Rel : St → St → Prop} (AG : AllAgree Rel) (C : lC p s m meth c D ca ad0 ad1 b L xs) {x3 : Int32} {σ τ : St} (hRel : Rel σ τ) (h1 : vp_in (x3 + (1 : Int32)) L) (h2 : vp_in (x3 + (2 : Int32)) L) (h3 : vp_in (x3 + (3 : Int32)) L) (h4 : vp_in (x3 + (4 : Int32)) L) (h5 : vp_in (x3 + (5 : Int32)) L) (ih : ∀ σ τ : St, Rel σ τ → GL p l e s m below meth c D ca ad0 ad1 b 1235 x3 [] σ τ) : GL p l e s m below meth c D ca ad0 ad1 b 482 x3 [] σ τ := by
  refine l_aload1 C dL_law_482 ?_
  refine l_aload0 C dL_law_483 ?_
  refine l_iload C dL_law_484 ?_
  refine l_iconst C (1 : Int32) dL_law_485 rfl ?_
  refine l_iadd C dL_law_486 ?_
  refine l_sld C (h1) dL_law_487 ?_
  refine l_aload0 C dL_law_488 ?_
  refine l_iload C dL_law_489 ?_
  refine l_iconst C (2 : Int32) dL_law_490 rfl ?_
  refine l_iadd C dL_law_491 ?_
  refine l_sld C (h2) dL_law_492 ?_
  refine l_aload0 C dL_law_493 ?_
  refine l_iload C dL_law_494 ?_
  refine l_iconst C (3 : Int32) dL_law_495 rfl ?_
  refine l_iadd C dL_law_496 ?_
  refine l_sld C (h3) dL_law_497 ?_
  obtain ⟨r, σ', τ', hf0, hf1, hRel'⟩ := ag_8 AG (xs (x3 + (1 : Int32)).toNatClampNeg) (xs (x3 + (2 : Int32)).toNatClampNeg) (xs (x3 + (3 : Int32)).toNatClampNeg) σ τ hRel
  refine l_callCI C [.int (xs (x3 + (1 : Int32)).toNatClampNeg), .int (xs (x3 + (2 : Int32)).toNatClampNeg), .int (xs (x3 + (3 : Int32)).toNatClampNeg)] ql_m49 (m_X7_ring hf0) rfl rfl rfl ⟨rfl, rfl⟩ ⟨by decide, by decide⟩ (Nat.le_of_ble_eq_true rfl) dL_law_498 ?_
  refine l_aload2 C dL_law_501 ?_
  refine l_aload0 C dL_law_502 ?_
  refine l_iload C dL_law_503 ?_
  refine l_iconst C (1 : Int32) dL_law_504 rfl ?_
  refine l_iadd C dL_law_505 ?_
  refine l_sld C (h1) dL_law_506 ?_
  refine l_aload0 C dL_law_507 ?_
  refine l_iload C dL_law_508 ?_
  refine l_iconst C (2 : Int32) dL_law_509 rfl ?_
  refine l_iadd C dL_law_510 ?_
  refine l_sld C (h2) dL_law_511 ?_
  refine l_aload0 C dL_law_512 ?_
  refine l_iload C dL_law_513 ?_
  refine l_iconst C (3 : Int32) dL_law_514 rfl ?_
  refine l_iadd C dL_law_515 ?_
  refine l_sld C (h3) dL_law_516 ?_
  refine l_callMI C [.int (xs (x3 + (1 : Int32)).toNatClampNeg), .int (xs (x3 + (2 : Int32)).toNatClampNeg), .int (xs (x3 + (3 : Int32)).toNatClampNeg)] ql_m52 (m_X8_ring hf1) rfl rfl rfl ⟨rfl, rfl⟩ ⟨by decide, by decide⟩ (Nat.le_of_ble_eq_true rfl) dL_law_517 ?_
  refine l_eqI C 1235 dL_law_520 (by decide) ?_
  exact ih σ' τ' hRel'
set_option maxRecDepth 20000 in
theorem law_c9 {Rel : St → St → Prop} (AG : AllAgree Rel) (C : lC p s m meth c D ca ad0 ad1 b L xs) {x3 : Int32} {σ τ : St} (hRel : Rel σ τ) (h1 : vp_in (x3 + (1 : Int32)) L) (h2 : vp_in (x3 + (2 : Int32)) L) (h3 : vp_in (x3 + (3 : Int32)) L) (h4 : vp_in (x3 + (4 : Int32)) L) (h5 : vp_in (x3 + (5 : Int32)) L) (ih : ∀ σ τ : St, Rel σ τ → GL p l e s m below meth c D ca ad0 ad1 b 1235 x3 [] σ τ) : GL p l e s m below meth c D ca ad0 ad1 b 525 x3 [] σ τ := by
  refine l_aload1 C dL_law_525 ?_
  refine l_aload0 C dL_law_526 ?_
  refine l_iload C dL_law_527 ?_
  refine l_iconst C (1 : Int32) dL_law_528 rfl ?_
  refine l_iadd C dL_law_529 ?_
  refine l_sld C (h1) dL_law_530 ?_
  refine l_aload0 C dL_law_531 ?_
  refine l_iload C dL_law_532 ?_
  refine l_iconst C (2 : Int32) dL_law_533 rfl ?_
  refine l_iadd C dL_law_534 ?_
  refine l_sld C (h2) dL_law_535 ?_
  obtain ⟨r, σ', τ', hf0, hf1, hRel'⟩ := ag_9 AG (xs (x3 + (1 : Int32)).toNatClampNeg) (xs (x3 + (2 : Int32)).toNatClampNeg) σ τ hRel
  refine l_callCI C [.int (xs (x3 + (1 : Int32)).toNatClampNeg), .int (xs (x3 + (2 : Int32)).toNatClampNeg)] ql_m53 (m_X7_odd hf0) rfl rfl rfl ⟨rfl, rfl⟩ ⟨by decide, by decide⟩ (Nat.le_of_ble_eq_true rfl) dL_law_536 ?_
  refine l_aload2 C dL_law_539 ?_
  refine l_aload0 C dL_law_540 ?_
  refine l_iload C dL_law_541 ?_
  refine l_iconst C (1 : Int32) dL_law_542 rfl ?_
  refine l_iadd C dL_law_543 ?_
  refine l_sld C (h1) dL_law_544 ?_
  refine l_aload0 C dL_law_545 ?_
  refine l_iload C dL_law_546 ?_
  refine l_iconst C (2 : Int32) dL_law_547 rfl ?_
  refine l_iadd C dL_law_548 ?_
  refine l_sld C (h2) dL_law_549 ?_
  refine l_callMI C [.int (xs (x3 + (1 : Int32)).toNatClampNeg), .int (xs (x3 + (2 : Int32)).toNatClampNeg)] ql_m56 (m_X8_odd hf1) rfl rfl rfl ⟨rfl, rfl⟩ ⟨by decide, by decide⟩ (Nat.le_of_ble_eq_true rfl) dL_law_550 ?_
  refine l_eqI C 1235 dL_law_553 (by decide) ?_
  exact ih σ' τ' hRel'
set_option maxRecDepth 20000 in
theorem law_c10 {Rel : St → St → Prop} (AG : AllAgree Rel) (C : lC p s m meth c D ca ad0 ad1 b L xs) {x3 : Int32} {σ τ : St} (hRel : Rel σ τ) (h1 : vp_in (x3 + (1 : Int32)) L) (h2 : vp_in (x3 + (2 : Int32)) L) (h3 : vp_in (x3 + (3 : Int32)) L) (h4 : vp_in (x3 + (4 : Int32)) L) (h5 : vp_in (x3 + (5 : Int32)) L) (ih : ∀ σ τ : St, Rel σ τ → GL p l e s m below meth c D ca ad0 ad1 b 1235 x3 [] σ τ) : GL p l e s m below meth c D ca ad0 ad1 b 558 x3 [] σ τ := by
  refine l_aload1 C dL_law_558 ?_
  refine l_aload0 C dL_law_559 ?_
  refine l_iload C dL_law_560 ?_
  refine l_iconst C (1 : Int32) dL_law_561 rfl ?_
  refine l_iadd C dL_law_562 ?_
  refine l_sld C (h1) dL_law_563 ?_
  refine l_aload0 C dL_law_564 ?_
  refine l_iload C dL_law_565 ?_
  refine l_iconst C (2 : Int32) dL_law_566 rfl ?_
  refine l_iadd C dL_law_567 ?_
  refine l_sld C (h2) dL_law_568 ?_
  refine l_aload0 C dL_law_569 ?_
  refine l_iload C dL_law_570 ?_
  refine l_iconst C (3 : Int32) dL_law_571 rfl ?_
  refine l_iadd C dL_law_572 ?_
  refine l_sld C (h3) dL_law_573 ?_
  obtain ⟨r, σ', τ', hf0, hf1, hRel'⟩ := ag_10 AG (xs (x3 + (1 : Int32)).toNatClampNeg) (xs (x3 + (2 : Int32)).toNatClampNeg) (xs (x3 + (3 : Int32)).toNatClampNeg) σ τ hRel
  refine l_callCI C [.int (xs (x3 + (1 : Int32)).toNatClampNeg), .int (xs (x3 + (2 : Int32)).toNatClampNeg), .int (xs (x3 + (3 : Int32)).toNatClampNeg)] ql_m57 (m_X7_pair hf0) rfl rfl rfl ⟨rfl, rfl⟩ ⟨by decide, by decide⟩ (Nat.le_of_ble_eq_true rfl) dL_law_574 ?_
  refine l_aload2 C dL_law_577 ?_
  refine l_aload0 C dL_law_578 ?_
  refine l_iload C dL_law_579 ?_
  refine l_iconst C (1 : Int32) dL_law_580 rfl ?_
  refine l_iadd C dL_law_581 ?_
  refine l_sld C (h1) dL_law_582 ?_
  refine l_aload0 C dL_law_583 ?_
  refine l_iload C dL_law_584 ?_
  refine l_iconst C (2 : Int32) dL_law_585 rfl ?_
  refine l_iadd C dL_law_586 ?_
  refine l_sld C (h2) dL_law_587 ?_
  refine l_aload0 C dL_law_588 ?_
  refine l_iload C dL_law_589 ?_
  refine l_iconst C (3 : Int32) dL_law_590 rfl ?_
  refine l_iadd C dL_law_591 ?_
  refine l_sld C (h3) dL_law_592 ?_
  refine l_callMI C [.int (xs (x3 + (1 : Int32)).toNatClampNeg), .int (xs (x3 + (2 : Int32)).toNatClampNeg), .int (xs (x3 + (3 : Int32)).toNatClampNeg)] ql_m60 (m_X8_pair hf1) rfl rfl rfl ⟨rfl, rfl⟩ ⟨by decide, by decide⟩ (Nat.le_of_ble_eq_true rfl) dL_law_593 ?_
  refine l_eqI C 1235 dL_law_596 (by decide) ?_
  exact ih σ' τ' hRel'
set_option maxRecDepth 20000 in
theorem law_c11 {Rel : St → St → Prop} (AG : AllAgree Rel) (C : lC p s m meth c D ca ad0 ad1 b L xs) {x3 : Int32} {σ τ : St} (hRel : Rel σ τ) (h1 : vp_in (x3 + (1 : Int32)) L) (h2 : vp_in (x3 + (2 : Int32)) L) (h3 : vp_in (x3 + (3 : Int32)) L) (h4 : vp_in (x3 + (4 : Int32)) L) (h5 : vp_in (x3 + (5 : Int32)) L) (ih : ∀ σ τ : St, Rel σ τ → GL p l e s m below meth c D ca ad0 ad1 b 1235 x3 [] σ τ) : GL p l e s m below meth c D ca ad0 ad1 b 601 x3 [] σ τ := by
  refine l_aload1 C dL_law_601 ?_
  refine l_aload0 C dL_law_602 ?_
  refine l_iload C dL_law_603 ?_
  refine l_iconst C (1 : Int32) dL_law_604 rfl ?_
  refine l_iadd C dL_law_605 ?_
  refine l_sld C (h1) dL_law_606 ?_
  refine l_aload0 C dL_law_607 ?_
  refine l_iload C dL_law_608 ?_
  refine l_iconst C (2 : Int32) dL_law_609 rfl ?_
  refine l_iadd C dL_law_610 ?_
  refine l_sld C (h2) dL_law_611 ?_
  obtain ⟨r, σ', τ', hf0, hf1, hRel'⟩ := ag_11 AG (xs (x3 + (1 : Int32)).toNatClampNeg) (xs (x3 + (2 : Int32)).toNatClampNeg) σ τ hRel
  refine l_callCI C [.int (xs (x3 + (1 : Int32)).toNatClampNeg), .int (xs (x3 + (2 : Int32)).toNatClampNeg)] ql_m61 (m_X7_of hf0) rfl rfl rfl ⟨rfl, rfl⟩ ⟨by decide, by decide⟩ (Nat.le_of_ble_eq_true rfl) dL_law_612 ?_
  refine l_aload2 C dL_law_615 ?_
  refine l_aload0 C dL_law_616 ?_
  refine l_iload C dL_law_617 ?_
  refine l_iconst C (1 : Int32) dL_law_618 rfl ?_
  refine l_iadd C dL_law_619 ?_
  refine l_sld C (h1) dL_law_620 ?_
  refine l_aload0 C dL_law_621 ?_
  refine l_iload C dL_law_622 ?_
  refine l_iconst C (2 : Int32) dL_law_623 rfl ?_
  refine l_iadd C dL_law_624 ?_
  refine l_sld C (h2) dL_law_625 ?_
  refine l_callMI C [.int (xs (x3 + (1 : Int32)).toNatClampNeg), .int (xs (x3 + (2 : Int32)).toNatClampNeg)] ql_m64 (m_X8_of hf1) rfl rfl rfl ⟨rfl, rfl⟩ ⟨by decide, by decide⟩ (Nat.le_of_ble_eq_true rfl) dL_law_626 ?_
  refine l_eqI C 1235 dL_law_629 (by decide) ?_
  exact ih σ' τ' hRel'
set_option maxRecDepth 20000 in
theorem law_c12 {Rel : St → St → Prop} (AG : AllAgree Rel) (C : lC p s m meth c D ca ad0 ad1 b L xs) {x3 : Int32} {σ τ : St} (hRel : Rel σ τ) (h1 : vp_in (x3 + (1 : Int32)) L) (h2 : vp_in (x3 + (2 : Int32)) L) (h3 : vp_in (x3 + (3 : Int32)) L) (h4 : vp_in (x3 + (4 : Int32)) L) (h5 : vp_in (x3 + (5 : Int32)) L) (ih : ∀ σ τ : St, Rel σ τ → GL p l e s m below meth c D ca ad0 ad1 b 1235 x3 [] σ τ) : GL p l e s m below meth c D ca ad0 ad1 b 634 x3 [] σ τ := by
  refine l_aload1 C dL_law_634 ?_
  refine l_aload0 C dL_law_635 ?_
  refine l_iload C dL_law_636 ?_
  refine l_iconst C (1 : Int32) dL_law_637 rfl ?_
  refine l_iadd C dL_law_638 ?_
  refine l_sld C (h1) dL_law_639 ?_
  refine l_aload0 C dL_law_640 ?_
  refine l_iload C dL_law_641 ?_
  refine l_iconst C (2 : Int32) dL_law_642 rfl ?_
  refine l_iadd C dL_law_643 ?_
  refine l_sld C (h2) dL_law_644 ?_
  obtain ⟨r, σ', τ', hf0, hf1, hRel'⟩ := ag_12 AG (xs (x3 + (1 : Int32)).toNatClampNeg) (xs (x3 + (2 : Int32)).toNatClampNeg) σ τ hRel
  refine l_callCI C [.int (xs (x3 + (1 : Int32)).toNatClampNeg), .int (xs (x3 + (2 : Int32)).toNatClampNeg)] ql_m65 (m_X7_weight hf0) rfl rfl rfl ⟨rfl, rfl⟩ ⟨by decide, by decide⟩ (Nat.le_of_ble_eq_true rfl) dL_law_645 ?_
  refine l_aload2 C dL_law_648 ?_
  refine l_aload0 C dL_law_649 ?_
  refine l_iload C dL_law_650 ?_
  refine l_iconst C (1 : Int32) dL_law_651 rfl ?_
  refine l_iadd C dL_law_652 ?_
  refine l_sld C (h1) dL_law_653 ?_
  refine l_aload0 C dL_law_654 ?_
  refine l_iload C dL_law_655 ?_
  refine l_iconst C (2 : Int32) dL_law_656 rfl ?_
  refine l_iadd C dL_law_657 ?_
  refine l_sld C (h2) dL_law_658 ?_
  refine l_callMI C [.int (xs (x3 + (1 : Int32)).toNatClampNeg), .int (xs (x3 + (2 : Int32)).toNatClampNeg)] ql_m68 (m_X8_weight hf1) rfl rfl rfl ⟨rfl, rfl⟩ ⟨by decide, by decide⟩ (Nat.le_of_ble_eq_true rfl) dL_law_659 ?_
  refine l_eqI C 1235 dL_law_662 (by decide) ?_
  exact ih σ' τ' hRel'
set_option maxRecDepth 20000 in
theorem law_c13 {Rel : St → St → Prop} (AG : AllAgree Rel) (C : lC p s m meth c D ca ad0 ad1 b L xs) {x3 : Int32} {σ τ : St} (hRel : Rel σ τ) (h1 : vp_in (x3 + (1 : Int32)) L) (h2 : vp_in (x3 + (2 : Int32)) L) (h3 : vp_in (x3 + (3 : Int32)) L) (h4 : vp_in (x3 + (4 : Int32)) L) (h5 : vp_in (x3 + (5 : Int32)) L) (ih : ∀ σ τ : St, Rel σ τ → GL p l e s m below meth c D ca ad0 ad1 b 1235 x3 [] σ τ) : GL p l e s m below meth c D ca ad0 ad1 b 667 x3 [] σ τ := by
  refine l_aload1 C dL_law_667 ?_
  obtain ⟨r, σ', τ', hf0, hf1, hRel'⟩ := ag_13 AG  σ τ hRel
  refine l_callCI C [] ql_m69 (m_X7_drop hf0) rfl rfl rfl ⟨rfl, rfl⟩ ⟨by decide, by decide⟩ (Nat.le_of_ble_eq_true rfl) dL_law_668 ?_
  refine l_aload2 C dL_law_671 ?_
  refine l_callMI C [] ql_m73 (m_X8_drop hf1) rfl rfl rfl ⟨rfl, rfl⟩ ⟨by decide, by decide⟩ (Nat.le_of_ble_eq_true rfl) dL_law_672 ?_
  refine l_eqI C 1235 dL_law_675 (by decide) ?_
  exact ih σ' τ' hRel'
set_option maxRecDepth 20000 in
theorem law_c14 {Rel : St → St → Prop} (AG : AllAgree Rel) (C : lC p s m meth c D ca ad0 ad1 b L xs) {x3 : Int32} {σ τ : St} (hRel : Rel σ τ) (h1 : vp_in (x3 + (1 : Int32)) L) (h2 : vp_in (x3 + (2 : Int32)) L) (h3 : vp_in (x3 + (3 : Int32)) L) (h4 : vp_in (x3 + (4 : Int32)) L) (h5 : vp_in (x3 + (5 : Int32)) L) (ih : ∀ σ τ : St, Rel σ τ → GL p l e s m below meth c D ca ad0 ad1 b 1235 x3 [] σ τ) : GL p l e s m below meth c D ca ad0 ad1 b 680 x3 [] σ τ := by
  refine l_aload1 C dL_law_680 ?_
  refine l_aload0 C dL_law_681 ?_
  refine l_iload C dL_law_682 ?_
  refine l_iconst C (1 : Int32) dL_law_683 rfl ?_
  refine l_iadd C dL_law_684 ?_
  refine l_sld C (h1) dL_law_685 ?_
  refine l_i2l C dL_law_686 ?_
  refine l_bipush C (32 : Int32) dL_law_687 rfl ?_
  refine l_lshl C dL_law_689 ?_
  refine l_aload0 C dL_law_690 ?_
  refine l_iload C dL_law_691 ?_
  refine l_iconst C (2 : Int32) dL_law_692 rfl ?_
  refine l_iadd C dL_law_693 ?_
  refine l_sld C (h2) dL_law_694 ?_
  refine l_i2l C dL_law_695 ?_
  refine l_ldc2 C (4294967295 : Int64) ql_c74 dL_law_696 ?_
  refine l_land C dL_law_699 ?_
  refine l_lor C dL_law_700 ?_
  refine l_aload0 C dL_law_701 ?_
  refine l_iload C dL_law_702 ?_
  refine l_iconst C (3 : Int32) dL_law_703 rfl ?_
  refine l_iadd C dL_law_704 ?_
  refine l_sld C (h3) dL_law_705 ?_
  obtain ⟨r, σ', τ', hf0, hf1, hRel'⟩ := ag_14 AG (((xs (x3 + (1 : Int32)).toNatClampNeg).toInt64 <<< ((32 : Int32).toInt64 &&& 63)) ||| ((xs (x3 + (2 : Int32)).toNatClampNeg).toInt64 &&& (4294967295 : Int64))) (xs (x3 + (3 : Int32)).toNatClampNeg) σ τ hRel
  refine l_callCI C [.long (((xs (x3 + (1 : Int32)).toNatClampNeg).toInt64 <<< ((32 : Int32).toInt64 &&& 63)) ||| ((xs (x3 + (2 : Int32)).toNatClampNeg).toInt64 &&& (4294967295 : Int64))), .int (xs (x3 + (3 : Int32)).toNatClampNeg)] ql_m76 (m_X7_feed hf0) rfl rfl rfl ⟨rfl, rfl⟩ ⟨by decide, by decide⟩ (Nat.le_of_ble_eq_true rfl) dL_law_706 ?_
  refine l_aload2 C dL_law_709 ?_
  refine l_aload0 C dL_law_710 ?_
  refine l_iload C dL_law_711 ?_
  refine l_iconst C (1 : Int32) dL_law_712 rfl ?_
  refine l_iadd C dL_law_713 ?_
  refine l_sld C (h1) dL_law_714 ?_
  refine l_i2l C dL_law_715 ?_
  refine l_bipush C (32 : Int32) dL_law_716 rfl ?_
  refine l_lshl C dL_law_718 ?_
  refine l_aload0 C dL_law_719 ?_
  refine l_iload C dL_law_720 ?_
  refine l_iconst C (2 : Int32) dL_law_721 rfl ?_
  refine l_iadd C dL_law_722 ?_
  refine l_sld C (h2) dL_law_723 ?_
  refine l_i2l C dL_law_724 ?_
  refine l_ldc2 C (4294967295 : Int64) ql_c74 dL_law_725 ?_
  refine l_land C dL_law_728 ?_
  refine l_lor C dL_law_729 ?_
  refine l_aload0 C dL_law_730 ?_
  refine l_iload C dL_law_731 ?_
  refine l_iconst C (3 : Int32) dL_law_732 rfl ?_
  refine l_iadd C dL_law_733 ?_
  refine l_sld C (h3) dL_law_734 ?_
  refine l_callMI C [.long (((xs (x3 + (1 : Int32)).toNatClampNeg).toInt64 <<< ((32 : Int32).toInt64 &&& 63)) ||| ((xs (x3 + (2 : Int32)).toNatClampNeg).toInt64 &&& (4294967295 : Int64))), .int (xs (x3 + (3 : Int32)).toNatClampNeg)] ql_m80 (m_X8_feed hf1) rfl rfl rfl ⟨rfl, rfl⟩ ⟨by decide, by decide⟩ (Nat.le_of_ble_eq_true rfl) dL_law_735 ?_
  refine l_eqI C 1235 dL_law_738 (by decide) ?_
  exact ih σ' τ' hRel'
set_option maxRecDepth 20000 in
theorem law_c15 {Rel : St → St → Prop} (AG : AllAgree Rel) (C : lC p s m meth c D ca ad0 ad1 b L xs) {x3 : Int32} {σ τ : St} (hRel : Rel σ τ) (h1 : vp_in (x3 + (1 : Int32)) L) (h2 : vp_in (x3 + (2 : Int32)) L) (h3 : vp_in (x3 + (3 : Int32)) L) (h4 : vp_in (x3 + (4 : Int32)) L) (h5 : vp_in (x3 + (5 : Int32)) L) (ih : ∀ σ τ : St, Rel σ τ → GL p l e s m below meth c D ca ad0 ad1 b 1235 x3 [] σ τ) : GL p l e s m below meth c D ca ad0 ad1 b 743 x3 [] σ τ := by
  refine l_aload1 C dL_law_743 ?_
  obtain ⟨r, σ', τ', hf0, hf1, hRel'⟩ := ag_15 AG  σ τ hRel
  refine l_callCI C [] ql_m81 (m_X7_text hf0) rfl rfl rfl ⟨rfl, rfl⟩ ⟨by decide, by decide⟩ (Nat.le_of_ble_eq_true rfl) dL_law_744 ?_
  refine l_aload2 C dL_law_747 ?_
  refine l_callMI C [] ql_m84 (m_X8_text hf1) rfl rfl rfl ⟨rfl, rfl⟩ ⟨by decide, by decide⟩ (Nat.le_of_ble_eq_true rfl) dL_law_748 ?_
  refine l_eqI C 1235 dL_law_751 (by decide) ?_
  exact ih σ' τ' hRel'
set_option maxRecDepth 20000 in
theorem law_c16 {Rel : St → St → Prop} (AG : AllAgree Rel) (C : lC p s m meth c D ca ad0 ad1 b L xs) {x3 : Int32} {σ τ : St} (hRel : Rel σ τ) (h1 : vp_in (x3 + (1 : Int32)) L) (h2 : vp_in (x3 + (2 : Int32)) L) (h3 : vp_in (x3 + (3 : Int32)) L) (h4 : vp_in (x3 + (4 : Int32)) L) (h5 : vp_in (x3 + (5 : Int32)) L) (ih : ∀ σ τ : St, Rel σ τ → GL p l e s m below meth c D ca ad0 ad1 b 1235 x3 [] σ τ) : GL p l e s m below meth c D ca ad0 ad1 b 756 x3 [] σ τ := by
  refine l_aload1 C dL_law_756 ?_
  obtain ⟨r, σ', τ', hf0, hf1, hRel'⟩ := ag_16 AG  σ τ hRel
  refine l_callCL C [] ql_m85 (m_X7_total hf0) rfl rfl rfl ⟨rfl, rfl⟩ ⟨by decide, by decide⟩ (Nat.le_of_ble_eq_true rfl) dL_law_757 ?_
  refine l_aload2 C dL_law_760 ?_
  refine l_callML C [] ql_m89 (m_X8_total hf1) rfl rfl rfl ⟨rfl, rfl⟩ ⟨by decide, by decide⟩ (Nat.le_of_ble_eq_true rfl) dL_law_761 ?_
  refine l_eqL C 1235 dL_law_764 dL_law_765 (by decide) ?_
  exact ih σ' τ' hRel'
set_option maxRecDepth 20000 in
theorem law_c17 {Rel : St → St → Prop} (AG : AllAgree Rel) (C : lC p s m meth c D ca ad0 ad1 b L xs) {x3 : Int32} {σ τ : St} (hRel : Rel σ τ) (h1 : vp_in (x3 + (1 : Int32)) L) (h2 : vp_in (x3 + (2 : Int32)) L) (h3 : vp_in (x3 + (3 : Int32)) L) (h4 : vp_in (x3 + (4 : Int32)) L) (h5 : vp_in (x3 + (5 : Int32)) L) (ih : ∀ σ τ : St, Rel σ τ → GL p l e s m below meth c D ca ad0 ad1 b 1235 x3 [] σ τ) : GL p l e s m below meth c D ca ad0 ad1 b 770 x3 [] σ τ := by
  refine l_aload1 C dL_law_770 ?_
  refine l_aload0 C dL_law_771 ?_
  refine l_iload C dL_law_772 ?_
  refine l_iconst C (1 : Int32) dL_law_773 rfl ?_
  refine l_iadd C dL_law_774 ?_
  refine l_sld C (h1) dL_law_775 ?_
  refine l_aload0 C dL_law_776 ?_
  refine l_iload C dL_law_777 ?_
  refine l_iconst C (2 : Int32) dL_law_778 rfl ?_
  refine l_iadd C dL_law_779 ?_
  refine l_sld C (h2) dL_law_780 ?_
  obtain ⟨r, σ', τ', hf0, hf1, hRel'⟩ := ag_17 AG (xs (x3 + (1 : Int32)).toNatClampNeg) (xs (x3 + (2 : Int32)).toNatClampNeg) σ τ hRel
  refine l_callCL C [.int (xs (x3 + (1 : Int32)).toNatClampNeg), .int (xs (x3 + (2 : Int32)).toNatClampNeg)] ql_m90 (m_X7_share hf0) rfl rfl rfl ⟨rfl, rfl⟩ ⟨by decide, by decide⟩ (Nat.le_of_ble_eq_true rfl) dL_law_781 ?_
  refine l_aload2 C dL_law_784 ?_
  refine l_aload0 C dL_law_785 ?_
  refine l_iload C dL_law_786 ?_
  refine l_iconst C (1 : Int32) dL_law_787 rfl ?_
  refine l_iadd C dL_law_788 ?_
  refine l_sld C (h1) dL_law_789 ?_
  refine l_aload0 C dL_law_790 ?_
  refine l_iload C dL_law_791 ?_
  refine l_iconst C (2 : Int32) dL_law_792 rfl ?_
  refine l_iadd C dL_law_793 ?_
  refine l_sld C (h2) dL_law_794 ?_
  refine l_callML C [.int (xs (x3 + (1 : Int32)).toNatClampNeg), .int (xs (x3 + (2 : Int32)).toNatClampNeg)] ql_m94 (m_X8_share hf1) rfl rfl rfl ⟨rfl, rfl⟩ ⟨by decide, by decide⟩ (Nat.le_of_ble_eq_true rfl) dL_law_795 ?_
  refine l_eqL C 1235 dL_law_798 dL_law_799 (by decide) ?_
  exact ih σ' τ' hRel'
set_option maxRecDepth 20000 in
theorem law_c18 {Rel : St → St → Prop} (AG : AllAgree Rel) (C : lC p s m meth c D ca ad0 ad1 b L xs) {x3 : Int32} {σ τ : St} (hRel : Rel σ τ) (h1 : vp_in (x3 + (1 : Int32)) L) (h2 : vp_in (x3 + (2 : Int32)) L) (h3 : vp_in (x3 + (3 : Int32)) L) (h4 : vp_in (x3 + (4 : Int32)) L) (h5 : vp_in (x3 + (5 : Int32)) L) (ih : ∀ σ τ : St, Rel σ τ → GL p l e s m below meth c D ca ad0 ad1 b 1235 x3 [] σ τ) : GL p l e s m below meth c D ca ad0 ad1 b 804 x3 [] σ τ := by
  refine l_aload1 C dL_law_804 ?_
  obtain ⟨r, σ', τ', hf0, hf1, hRel'⟩ := ag_18 AG  σ τ hRel
  refine l_callCL C [] ql_m95 (m_X7_below hf0) rfl rfl rfl ⟨rfl, rfl⟩ ⟨by decide, by decide⟩ (Nat.le_of_ble_eq_true rfl) dL_law_805 ?_
  refine l_aload2 C dL_law_808 ?_
  refine l_callML C [] ql_m98 (m_X8_below hf1) rfl rfl rfl ⟨rfl, rfl⟩ ⟨by decide, by decide⟩ (Nat.le_of_ble_eq_true rfl) dL_law_809 ?_
  refine l_eqL C 1235 dL_law_812 dL_law_813 (by decide) ?_
  exact ih σ' τ' hRel'
set_option maxRecDepth 20000 in
theorem law_c19 {Rel : St → St → Prop} (AG : AllAgree Rel) (C : lC p s m meth c D ca ad0 ad1 b L xs) {x3 : Int32} {σ τ : St} (hRel : Rel σ τ) (h1 : vp_in (x3 + (1 : Int32)) L) (h2 : vp_in (x3 + (2 : Int32)) L) (h3 : vp_in (x3 + (3 : Int32)) L) (h4 : vp_in (x3 + (4 : Int32)) L) (h5 : vp_in (x3 + (5 : Int32)) L) (ih : ∀ σ τ : St, Rel σ τ → GL p l e s m below meth c D ca ad0 ad1 b 1235 x3 [] σ τ) : GL p l e s m below meth c D ca ad0 ad1 b 818 x3 [] σ τ := by
  refine l_aload1 C dL_law_818 ?_
  refine l_aload0 C dL_law_819 ?_
  refine l_iload C dL_law_820 ?_
  refine l_iconst C (1 : Int32) dL_law_821 rfl ?_
  refine l_iadd C dL_law_822 ?_
  refine l_sld C (h1) dL_law_823 ?_
  refine l_aload0 C dL_law_824 ?_
  refine l_iload C dL_law_825 ?_
  refine l_iconst C (2 : Int32) dL_law_826 rfl ?_
  refine l_iadd C dL_law_827 ?_
  refine l_sld C (h2) dL_law_828 ?_
  obtain ⟨r, σ', τ', hf0, hf1, hRel'⟩ := ag_19 AG (xs (x3 + (1 : Int32)).toNatClampNeg) (xs (x3 + (2 : Int32)).toNatClampNeg) σ τ hRel
  refine l_callCL C [.int (xs (x3 + (1 : Int32)).toNatClampNeg), .int (xs (x3 + (2 : Int32)).toNatClampNeg)] ql_m99 (m_X7_until hf0) rfl rfl rfl ⟨rfl, rfl⟩ ⟨by decide, by decide⟩ (Nat.le_of_ble_eq_true rfl) dL_law_829 ?_
  refine l_aload2 C dL_law_832 ?_
  refine l_aload0 C dL_law_833 ?_
  refine l_iload C dL_law_834 ?_
  refine l_iconst C (1 : Int32) dL_law_835 rfl ?_
  refine l_iadd C dL_law_836 ?_
  refine l_sld C (h1) dL_law_837 ?_
  refine l_aload0 C dL_law_838 ?_
  refine l_iload C dL_law_839 ?_
  refine l_iconst C (2 : Int32) dL_law_840 rfl ?_
  refine l_iadd C dL_law_841 ?_
  refine l_sld C (h2) dL_law_842 ?_
  refine l_callML C [.int (xs (x3 + (1 : Int32)).toNatClampNeg), .int (xs (x3 + (2 : Int32)).toNatClampNeg)] ql_m102 (m_X8_until hf1) rfl rfl rfl ⟨rfl, rfl⟩ ⟨by decide, by decide⟩ (Nat.le_of_ble_eq_true rfl) dL_law_843 ?_
  refine l_eqL C 1235 dL_law_846 dL_law_847 (by decide) ?_
  exact ih σ' τ' hRel'
set_option maxRecDepth 20000 in
theorem law_c20 {Rel : St → St → Prop} (AG : AllAgree Rel) (C : lC p s m meth c D ca ad0 ad1 b L xs) {x3 : Int32} {σ τ : St} (hRel : Rel σ τ) (h1 : vp_in (x3 + (1 : Int32)) L) (h2 : vp_in (x3 + (2 : Int32)) L) (h3 : vp_in (x3 + (3 : Int32)) L) (h4 : vp_in (x3 + (4 : Int32)) L) (h5 : vp_in (x3 + (5 : Int32)) L) (ih : ∀ σ τ : St, Rel σ τ → GL p l e s m below meth c D ca ad0 ad1 b 1235 x3 [] σ τ) : GL p l e s m below meth c D ca ad0 ad1 b 852 x3 [] σ τ := by
  refine l_aload1 C dL_law_852 ?_
  refine l_aload0 C dL_law_853 ?_
  refine l_iload C dL_law_854 ?_
  refine l_iconst C (1 : Int32) dL_law_855 rfl ?_
  refine l_iadd C dL_law_856 ?_
  refine l_sld C (h1) dL_law_857 ?_
  refine l_aload0 C dL_law_858 ?_
  refine l_iload C dL_law_859 ?_
  refine l_iconst C (2 : Int32) dL_law_860 rfl ?_
  refine l_iadd C dL_law_861 ?_
  refine l_sld C (h2) dL_law_862 ?_
  obtain ⟨r, σ', τ', hf0, hf1, hRel'⟩ := ag_20 AG (xs (x3 + (1 : Int32)).toNatClampNeg) (xs (x3 + (2 : Int32)).toNatClampNeg) σ τ hRel
  refine l_callCL C [.int (xs (x3 + (1 : Int32)).toNatClampNeg), .int (xs (x3 + (2 : Int32)).toNatClampNeg)] ql_m103 (m_X7_order hf0) rfl rfl rfl ⟨rfl, rfl⟩ ⟨by decide, by decide⟩ (Nat.le_of_ble_eq_true rfl) dL_law_863 ?_
  refine l_aload2 C dL_law_866 ?_
  refine l_aload0 C dL_law_867 ?_
  refine l_iload C dL_law_868 ?_
  refine l_iconst C (1 : Int32) dL_law_869 rfl ?_
  refine l_iadd C dL_law_870 ?_
  refine l_sld C (h1) dL_law_871 ?_
  refine l_aload0 C dL_law_872 ?_
  refine l_iload C dL_law_873 ?_
  refine l_iconst C (2 : Int32) dL_law_874 rfl ?_
  refine l_iadd C dL_law_875 ?_
  refine l_sld C (h2) dL_law_876 ?_
  refine l_callML C [.int (xs (x3 + (1 : Int32)).toNatClampNeg), .int (xs (x3 + (2 : Int32)).toNatClampNeg)] ql_m106 (m_X8_order hf1) rfl rfl rfl ⟨rfl, rfl⟩ ⟨by decide, by decide⟩ (Nat.le_of_ble_eq_true rfl) dL_law_877 ?_
  refine l_eqL C 1235 dL_law_880 dL_law_881 (by decide) ?_
  exact ih σ' τ' hRel'
set_option maxRecDepth 20000 in
theorem law_c21 {Rel : St → St → Prop} (AG : AllAgree Rel) (C : lC p s m meth c D ca ad0 ad1 b L xs) {x3 : Int32} {σ τ : St} (hRel : Rel σ τ) (h1 : vp_in (x3 + (1 : Int32)) L) (h2 : vp_in (x3 + (2 : Int32)) L) (h3 : vp_in (x3 + (3 : Int32)) L) (h4 : vp_in (x3 + (4 : Int32)) L) (h5 : vp_in (x3 + (5 : Int32)) L) (ih : ∀ σ τ : St, Rel σ τ → GL p l e s m below meth c D ca ad0 ad1 b 1235 x3 [] σ τ) : GL p l e s m below meth c D ca ad0 ad1 b 886 x3 [] σ τ := by
  refine l_aload1 C dL_law_886 ?_
  refine l_aload0 C dL_law_887 ?_
  refine l_iload C dL_law_888 ?_
  refine l_iconst C (1 : Int32) dL_law_889 rfl ?_
  refine l_iadd C dL_law_890 ?_
  refine l_sld C (h1) dL_law_891 ?_
  refine l_aload0 C dL_law_892 ?_
  refine l_iload C dL_law_893 ?_
  refine l_iconst C (2 : Int32) dL_law_894 rfl ?_
  refine l_iadd C dL_law_895 ?_
  refine l_sld C (h2) dL_law_896 ?_
  refine l_aload0 C dL_law_897 ?_
  refine l_iload C dL_law_898 ?_
  refine l_iconst C (3 : Int32) dL_law_899 rfl ?_
  refine l_iadd C dL_law_900 ?_
  refine l_sld C (h3) dL_law_901 ?_
  obtain ⟨r, σ', τ', hf0, hf1, hRel'⟩ := ag_21 AG (xs (x3 + (1 : Int32)).toNatClampNeg) (xs (x3 + (2 : Int32)).toNatClampNeg) (xs (x3 + (3 : Int32)).toNatClampNeg) σ τ hRel
  refine l_callCL C [.int (xs (x3 + (1 : Int32)).toNatClampNeg), .int (xs (x3 + (2 : Int32)).toNatClampNeg), .int (xs (x3 + (3 : Int32)).toNatClampNeg)] ql_m107 (m_X7_apart hf0) rfl rfl rfl ⟨rfl, rfl⟩ ⟨by decide, by decide⟩ (Nat.le_of_ble_eq_true rfl) dL_law_902 ?_
  refine l_aload2 C dL_law_905 ?_
  refine l_aload0 C dL_law_906 ?_
  refine l_iload C dL_law_907 ?_
  refine l_iconst C (1 : Int32) dL_law_908 rfl ?_
  refine l_iadd C dL_law_909 ?_
  refine l_sld C (h1) dL_law_910 ?_
  refine l_aload0 C dL_law_911 ?_
  refine l_iload C dL_law_912 ?_
  refine l_iconst C (2 : Int32) dL_law_913 rfl ?_
  refine l_iadd C dL_law_914 ?_
  refine l_sld C (h2) dL_law_915 ?_
  refine l_aload0 C dL_law_916 ?_
  refine l_iload C dL_law_917 ?_
  refine l_iconst C (3 : Int32) dL_law_918 rfl ?_
  refine l_iadd C dL_law_919 ?_
  refine l_sld C (h3) dL_law_920 ?_
  refine l_callML C [.int (xs (x3 + (1 : Int32)).toNatClampNeg), .int (xs (x3 + (2 : Int32)).toNatClampNeg), .int (xs (x3 + (3 : Int32)).toNatClampNeg)] ql_m111 (m_X8_apart hf1) rfl rfl rfl ⟨rfl, rfl⟩ ⟨by decide, by decide⟩ (Nat.le_of_ble_eq_true rfl) dL_law_921 ?_
  refine l_eqL C 1235 dL_law_924 dL_law_925 (by decide) ?_
  exact ih σ' τ' hRel'
set_option maxRecDepth 20000 in
theorem law_c22 {Rel : St → St → Prop} (AG : AllAgree Rel) (C : lC p s m meth c D ca ad0 ad1 b L xs) {x3 : Int32} {σ τ : St} (hRel : Rel σ τ) (h1 : vp_in (x3 + (1 : Int32)) L) (h2 : vp_in (x3 + (2 : Int32)) L) (h3 : vp_in (x3 + (3 : Int32)) L) (h4 : vp_in (x3 + (4 : Int32)) L) (h5 : vp_in (x3 + (5 : Int32)) L) (ih : ∀ σ τ : St, Rel σ τ → GL p l e s m below meth c D ca ad0 ad1 b 1235 x3 [] σ τ) : GL p l e s m below meth c D ca ad0 ad1 b 930 x3 [] σ τ := by
  refine l_aload1 C dL_law_930 ?_
  refine l_aload0 C dL_law_931 ?_
  refine l_iload C dL_law_932 ?_
  refine l_iconst C (1 : Int32) dL_law_933 rfl ?_
  refine l_iadd C dL_law_934 ?_
  refine l_sld C (h1) dL_law_935 ?_
  obtain ⟨r, σ', τ', hf0, hf1, hRel'⟩ := ag_22 AG (xs (x3 + (1 : Int32)).toNatClampNeg) σ τ hRel
  refine l_callCL C [.int (xs (x3 + (1 : Int32)).toNatClampNeg)] ql_m112 (m_X7_mean hf0) rfl rfl rfl ⟨rfl, rfl⟩ ⟨by decide, by decide⟩ (Nat.le_of_ble_eq_true rfl) dL_law_936 ?_
  refine l_aload2 C dL_law_939 ?_
  refine l_aload0 C dL_law_940 ?_
  refine l_iload C dL_law_941 ?_
  refine l_iconst C (1 : Int32) dL_law_942 rfl ?_
  refine l_iadd C dL_law_943 ?_
  refine l_sld C (h1) dL_law_944 ?_
  refine l_callML C [.int (xs (x3 + (1 : Int32)).toNatClampNeg)] ql_m116 (m_X8_mean hf1) rfl rfl rfl ⟨rfl, rfl⟩ ⟨by decide, by decide⟩ (Nat.le_of_ble_eq_true rfl) dL_law_945 ?_
  refine l_eqL C 1235 dL_law_948 dL_law_949 (by decide) ?_
  exact ih σ' τ' hRel'
set_option maxRecDepth 20000 in
theorem law_c23 {Rel : St → St → Prop} (AG : AllAgree Rel) (C : lC p s m meth c D ca ad0 ad1 b L xs) {x3 : Int32} {σ τ : St} (hRel : Rel σ τ) (h1 : vp_in (x3 + (1 : Int32)) L) (h2 : vp_in (x3 + (2 : Int32)) L) (h3 : vp_in (x3 + (3 : Int32)) L) (h4 : vp_in (x3 + (4 : Int32)) L) (h5 : vp_in (x3 + (5 : Int32)) L) (ih : ∀ σ τ : St, Rel σ τ → GL p l e s m below meth c D ca ad0 ad1 b 1235 x3 [] σ τ) : GL p l e s m below meth c D ca ad0 ad1 b 954 x3 [] σ τ := by
  refine l_aload1 C dL_law_954 ?_
  refine l_aload0 C dL_law_955 ?_
  refine l_iload C dL_law_956 ?_
  refine l_iconst C (1 : Int32) dL_law_957 rfl ?_
  refine l_iadd C dL_law_958 ?_
  refine l_sld C (h1) dL_law_959 ?_
  obtain ⟨r, σ', τ', hf0, hf1, hRel'⟩ := ag_23 AG (xs (x3 + (1 : Int32)).toNatClampNeg) σ τ hRel
  refine l_callCI C [.int (xs (x3 + (1 : Int32)).toNatClampNeg)] ql_m117 (m_X7_best hf0) rfl rfl rfl ⟨rfl, rfl⟩ ⟨by decide, by decide⟩ (Nat.le_of_ble_eq_true rfl) dL_law_960 ?_
  refine l_aload2 C dL_law_963 ?_
  refine l_aload0 C dL_law_964 ?_
  refine l_iload C dL_law_965 ?_
  refine l_iconst C (1 : Int32) dL_law_966 rfl ?_
  refine l_iadd C dL_law_967 ?_
  refine l_sld C (h1) dL_law_968 ?_
  refine l_callMI C [.int (xs (x3 + (1 : Int32)).toNatClampNeg)] ql_m120 (m_X8_best hf1) rfl rfl rfl ⟨rfl, rfl⟩ ⟨by decide, by decide⟩ (Nat.le_of_ble_eq_true rfl) dL_law_969 ?_
  refine l_eqI C 1235 dL_law_972 (by decide) ?_
  exact ih σ' τ' hRel'
set_option maxRecDepth 20000 in
theorem law_c24 {Rel : St → St → Prop} (AG : AllAgree Rel) (C : lC p s m meth c D ca ad0 ad1 b L xs) {x3 : Int32} {σ τ : St} (hRel : Rel σ τ) (h1 : vp_in (x3 + (1 : Int32)) L) (h2 : vp_in (x3 + (2 : Int32)) L) (h3 : vp_in (x3 + (3 : Int32)) L) (h4 : vp_in (x3 + (4 : Int32)) L) (h5 : vp_in (x3 + (5 : Int32)) L) (ih : ∀ σ τ : St, Rel σ τ → GL p l e s m below meth c D ca ad0 ad1 b 1235 x3 [] σ τ) : GL p l e s m below meth c D ca ad0 ad1 b 977 x3 [] σ τ := by
  refine l_aload1 C dL_law_977 ?_
  refine l_aload0 C dL_law_978 ?_
  refine l_iload C dL_law_979 ?_
  refine l_iconst C (1 : Int32) dL_law_980 rfl ?_
  refine l_iadd C dL_law_981 ?_
  refine l_sld C (h1) dL_law_982 ?_
  refine l_aload0 C dL_law_983 ?_
  refine l_iload C dL_law_984 ?_
  refine l_iconst C (2 : Int32) dL_law_985 rfl ?_
  refine l_iadd C dL_law_986 ?_
  refine l_sld C (h2) dL_law_987 ?_
  obtain ⟨r, σ', τ', hf0, hf1, hRel'⟩ := ag_24 AG (xs (x3 + (1 : Int32)).toNatClampNeg) (xs (x3 + (2 : Int32)).toNatClampNeg) σ τ hRel
  refine l_callCI C [.int (xs (x3 + (1 : Int32)).toNatClampNeg), .int (xs (x3 + (2 : Int32)).toNatClampNeg)] ql_m121 (m_X7_span hf0) rfl rfl rfl ⟨rfl, rfl⟩ ⟨by decide, by decide⟩ (Nat.le_of_ble_eq_true rfl) dL_law_988 ?_
  refine l_aload2 C dL_law_991 ?_
  refine l_aload0 C dL_law_992 ?_
  refine l_iload C dL_law_993 ?_
  refine l_iconst C (1 : Int32) dL_law_994 rfl ?_
  refine l_iadd C dL_law_995 ?_
  refine l_sld C (h1) dL_law_996 ?_
  refine l_aload0 C dL_law_997 ?_
  refine l_iload C dL_law_998 ?_
  refine l_iconst C (2 : Int32) dL_law_999 rfl ?_
  refine l_iadd C dL_law_1000 ?_
  refine l_sld C (h2) dL_law_1001 ?_
  refine l_callMI C [.int (xs (x3 + (1 : Int32)).toNatClampNeg), .int (xs (x3 + (2 : Int32)).toNatClampNeg)] ql_m124 (m_X8_span hf1) rfl rfl rfl ⟨rfl, rfl⟩ ⟨by decide, by decide⟩ (Nat.le_of_ble_eq_true rfl) dL_law_1002 ?_
  refine l_eqI C 1235 dL_law_1005 (by decide) ?_
  exact ih σ' τ' hRel'
set_option maxRecDepth 20000 in
theorem law_c25 {Rel : St → St → Prop} (AG : AllAgree Rel) (C : lC p s m meth c D ca ad0 ad1 b L xs) {x3 : Int32} {σ τ : St} (hRel : Rel σ τ) (h1 : vp_in (x3 + (1 : Int32)) L) (h2 : vp_in (x3 + (2 : Int32)) L) (h3 : vp_in (x3 + (3 : Int32)) L) (h4 : vp_in (x3 + (4 : Int32)) L) (h5 : vp_in (x3 + (5 : Int32)) L) (ih : ∀ σ τ : St, Rel σ τ → GL p l e s m below meth c D ca ad0 ad1 b 1235 x3 [] σ τ) : GL p l e s m below meth c D ca ad0 ad1 b 1010 x3 [] σ τ := by
  refine l_aload1 C dL_law_1010 ?_
  refine l_aload0 C dL_law_1011 ?_
  refine l_iload C dL_law_1012 ?_
  refine l_iconst C (1 : Int32) dL_law_1013 rfl ?_
  refine l_iadd C dL_law_1014 ?_
  refine l_sld C (h1) dL_law_1015 ?_
  obtain ⟨r, σ', τ', hf0, hf1, hRel'⟩ := ag_25 AG (xs (x3 + (1 : Int32)).toNatClampNeg) σ τ hRel
  refine l_callCL C [.int (xs (x3 + (1 : Int32)).toNatClampNeg)] ql_m125 (m_X7_strange hf0) rfl rfl rfl ⟨rfl, rfl⟩ ⟨by decide, by decide⟩ (Nat.le_of_ble_eq_true rfl) dL_law_1016 ?_
  refine l_aload2 C dL_law_1019 ?_
  refine l_aload0 C dL_law_1020 ?_
  refine l_iload C dL_law_1021 ?_
  refine l_iconst C (1 : Int32) dL_law_1022 rfl ?_
  refine l_iadd C dL_law_1023 ?_
  refine l_sld C (h1) dL_law_1024 ?_
  refine l_callML C [.int (xs (x3 + (1 : Int32)).toNatClampNeg)] ql_m128 (m_X8_strange hf1) rfl rfl rfl ⟨rfl, rfl⟩ ⟨by decide, by decide⟩ (Nat.le_of_ble_eq_true rfl) dL_law_1025 ?_
  refine l_eqL C 1235 dL_law_1028 dL_law_1029 (by decide) ?_
  exact ih σ' τ' hRel'
set_option maxRecDepth 20000 in
theorem law_c26 {Rel : St → St → Prop} (AG : AllAgree Rel) (C : lC p s m meth c D ca ad0 ad1 b L xs) {x3 : Int32} {σ τ : St} (hRel : Rel σ τ) (h1 : vp_in (x3 + (1 : Int32)) L) (h2 : vp_in (x3 + (2 : Int32)) L) (h3 : vp_in (x3 + (3 : Int32)) L) (h4 : vp_in (x3 + (4 : Int32)) L) (h5 : vp_in (x3 + (5 : Int32)) L) (ih : ∀ σ τ : St, Rel σ τ → GL p l e s m below meth c D ca ad0 ad1 b 1235 x3 [] σ τ) : GL p l e s m below meth c D ca ad0 ad1 b 1034 x3 [] σ τ := by
  refine l_aload1 C dL_law_1034 ?_
  refine l_aload0 C dL_law_1035 ?_
  refine l_iload C dL_law_1036 ?_
  refine l_iconst C (1 : Int32) dL_law_1037 rfl ?_
  refine l_iadd C dL_law_1038 ?_
  refine l_sld C (h1) dL_law_1039 ?_
  obtain ⟨r, σ', τ', hf0, hf1, hRel'⟩ := ag_26 AG (xs (x3 + (1 : Int32)).toNatClampNeg) σ τ hRel
  refine l_callCL C [.int (xs (x3 + (1 : Int32)).toNatClampNeg)] ql_m129 (m_X7_without hf0) rfl rfl rfl ⟨rfl, rfl⟩ ⟨by decide, by decide⟩ (Nat.le_of_ble_eq_true rfl) dL_law_1040 ?_
  refine l_aload2 C dL_law_1043 ?_
  refine l_aload0 C dL_law_1044 ?_
  refine l_iload C dL_law_1045 ?_
  refine l_iconst C (1 : Int32) dL_law_1046 rfl ?_
  refine l_iadd C dL_law_1047 ?_
  refine l_sld C (h1) dL_law_1048 ?_
  refine l_callML C [.int (xs (x3 + (1 : Int32)).toNatClampNeg)] ql_m132 (m_X8_without hf1) rfl rfl rfl ⟨rfl, rfl⟩ ⟨by decide, by decide⟩ (Nat.le_of_ble_eq_true rfl) dL_law_1049 ?_
  refine l_eqL C 1235 dL_law_1052 dL_law_1053 (by decide) ?_
  exact ih σ' τ' hRel'
set_option maxRecDepth 20000 in
theorem law_c27 {Rel : St → St → Prop} (AG : AllAgree Rel) (C : lC p s m meth c D ca ad0 ad1 b L xs) {x3 : Int32} {σ τ : St} (hRel : Rel σ τ) (h1 : vp_in (x3 + (1 : Int32)) L) (h2 : vp_in (x3 + (2 : Int32)) L) (h3 : vp_in (x3 + (3 : Int32)) L) (h4 : vp_in (x3 + (4 : Int32)) L) (h5 : vp_in (x3 + (5 : Int32)) L) (ih : ∀ σ τ : St, Rel σ τ → GL p l e s m below meth c D ca ad0 ad1 b 1235 x3 [] σ τ) : GL p l e s m below meth c D ca ad0 ad1 b 1058 x3 [] σ τ := by
  refine l_aload1 C dL_law_1058 ?_
  refine l_aload0 C dL_law_1059 ?_
  refine l_iload C dL_law_1060 ?_
  refine l_iconst C (1 : Int32) dL_law_1061 rfl ?_
  refine l_iadd C dL_law_1062 ?_
  refine l_sld C (h1) dL_law_1063 ?_
  refine l_i2l C dL_law_1064 ?_
  refine l_bipush C (32 : Int32) dL_law_1065 rfl ?_
  refine l_lshl C dL_law_1067 ?_
  refine l_aload0 C dL_law_1068 ?_
  refine l_iload C dL_law_1069 ?_
  refine l_iconst C (2 : Int32) dL_law_1070 rfl ?_
  refine l_iadd C dL_law_1071 ?_
  refine l_sld C (h2) dL_law_1072 ?_
  refine l_i2l C dL_law_1073 ?_
  refine l_ldc2 C (4294967295 : Int64) ql_c74 dL_law_1074 ?_
  refine l_land C dL_law_1077 ?_
  refine l_lor C dL_law_1078 ?_
  obtain ⟨r, σ', τ', hf0, hf1, hRel'⟩ := ag_27 AG (((xs (x3 + (1 : Int32)).toNatClampNeg).toInt64 <<< ((32 : Int32).toInt64 &&& 63)) ||| ((xs (x3 + (2 : Int32)).toNatClampNeg).toInt64 &&& (4294967295 : Int64))) σ τ hRel
  refine l_callCL C [.long (((xs (x3 + (1 : Int32)).toNatClampNeg).toInt64 <<< ((32 : Int32).toInt64 &&& 63)) ||| ((xs (x3 + (2 : Int32)).toNatClampNeg).toInt64 &&& (4294967295 : Int64)))] ql_m133 (m_X7_draw hf0) rfl rfl rfl ⟨rfl, rfl⟩ ⟨by decide, by decide⟩ (Nat.le_of_ble_eq_true rfl) dL_law_1079 ?_
  refine l_aload2 C dL_law_1082 ?_
  refine l_aload0 C dL_law_1083 ?_
  refine l_iload C dL_law_1084 ?_
  refine l_iconst C (1 : Int32) dL_law_1085 rfl ?_
  refine l_iadd C dL_law_1086 ?_
  refine l_sld C (h1) dL_law_1087 ?_
  refine l_i2l C dL_law_1088 ?_
  refine l_bipush C (32 : Int32) dL_law_1089 rfl ?_
  refine l_lshl C dL_law_1091 ?_
  refine l_aload0 C dL_law_1092 ?_
  refine l_iload C dL_law_1093 ?_
  refine l_iconst C (2 : Int32) dL_law_1094 rfl ?_
  refine l_iadd C dL_law_1095 ?_
  refine l_sld C (h2) dL_law_1096 ?_
  refine l_i2l C dL_law_1097 ?_
  refine l_ldc2 C (4294967295 : Int64) ql_c74 dL_law_1098 ?_
  refine l_land C dL_law_1101 ?_
  refine l_lor C dL_law_1102 ?_
  refine l_callML C [.long (((xs (x3 + (1 : Int32)).toNatClampNeg).toInt64 <<< ((32 : Int32).toInt64 &&& 63)) ||| ((xs (x3 + (2 : Int32)).toNatClampNeg).toInt64 &&& (4294967295 : Int64)))] ql_m137 (m_X8_draw hf1) rfl rfl rfl ⟨rfl, rfl⟩ ⟨by decide, by decide⟩ (Nat.le_of_ble_eq_true rfl) dL_law_1103 ?_
  refine l_eqL C 1235 dL_law_1106 dL_law_1107 (by decide) ?_
  exact ih σ' τ' hRel'
set_option maxRecDepth 20000 in
theorem law_c28 {Rel : St → St → Prop} (AG : AllAgree Rel) (C : lC p s m meth c D ca ad0 ad1 b L xs) {x3 : Int32} {σ τ : St} (hRel : Rel σ τ) (h1 : vp_in (x3 + (1 : Int32)) L) (h2 : vp_in (x3 + (2 : Int32)) L) (h3 : vp_in (x3 + (3 : Int32)) L) (h4 : vp_in (x3 + (4 : Int32)) L) (h5 : vp_in (x3 + (5 : Int32)) L) (ih : ∀ σ τ : St, Rel σ τ → GL p l e s m below meth c D ca ad0 ad1 b 1235 x3 [] σ τ) : GL p l e s m below meth c D ca ad0 ad1 b 1112 x3 [] σ τ := by
  refine l_aload1 C dL_law_1112 ?_
  refine l_aload0 C dL_law_1113 ?_
  refine l_iload C dL_law_1114 ?_
  refine l_iconst C (1 : Int32) dL_law_1115 rfl ?_
  refine l_iadd C dL_law_1116 ?_
  refine l_sld C (h1) dL_law_1117 ?_
  obtain ⟨r, σ', τ', hf0, hf1, hRel'⟩ := ag_28 AG (xs (x3 + (1 : Int32)).toNatClampNeg) σ τ hRel
  refine l_callCI C [.int (xs (x3 + (1 : Int32)).toNatClampNeg)] ql_m138 (m_X7_drawn hf0) rfl rfl rfl ⟨rfl, rfl⟩ ⟨by decide, by decide⟩ (Nat.le_of_ble_eq_true rfl) dL_law_1118 ?_
  refine l_aload2 C dL_law_1121 ?_
  refine l_aload0 C dL_law_1122 ?_
  refine l_iload C dL_law_1123 ?_
  refine l_iconst C (1 : Int32) dL_law_1124 rfl ?_
  refine l_iadd C dL_law_1125 ?_
  refine l_sld C (h1) dL_law_1126 ?_
  refine l_callMI C [.int (xs (x3 + (1 : Int32)).toNatClampNeg)] ql_m141 (m_X8_drawn hf1) rfl rfl rfl ⟨rfl, rfl⟩ ⟨by decide, by decide⟩ (Nat.le_of_ble_eq_true rfl) dL_law_1127 ?_
  refine l_eqI C 1235 dL_law_1130 (by decide) ?_
  exact ih σ' τ' hRel'
set_option maxRecDepth 20000 in
theorem law_c29 {Rel : St → St → Prop} (AG : AllAgree Rel) (C : lC p s m meth c D ca ad0 ad1 b L xs) {x3 : Int32} {σ τ : St} (hRel : Rel σ τ) (h1 : vp_in (x3 + (1 : Int32)) L) (h2 : vp_in (x3 + (2 : Int32)) L) (h3 : vp_in (x3 + (3 : Int32)) L) (h4 : vp_in (x3 + (4 : Int32)) L) (h5 : vp_in (x3 + (5 : Int32)) L) (ih : ∀ σ τ : St, Rel σ τ → GL p l e s m below meth c D ca ad0 ad1 b 1235 x3 [] σ τ) : GL p l e s m below meth c D ca ad0 ad1 b 1135 x3 [] σ τ := by
  refine l_aload1 C dL_law_1135 ?_
  refine l_aload0 C dL_law_1136 ?_
  refine l_iload C dL_law_1137 ?_
  refine l_iconst C (1 : Int32) dL_law_1138 rfl ?_
  refine l_iadd C dL_law_1139 ?_
  refine l_sld C (h1) dL_law_1140 ?_
  obtain ⟨r, σ', τ', hf0, hf1, hRel'⟩ := ag_29 AG (xs (x3 + (1 : Int32)).toNatClampNeg) σ τ hRel
  refine l_callCI C [.int (xs (x3 + (1 : Int32)).toNatClampNeg)] ql_m142 (m_X7_tell hf0) rfl rfl rfl ⟨rfl, rfl⟩ ⟨by decide, by decide⟩ (Nat.le_of_ble_eq_true rfl) dL_law_1141 ?_
  refine l_aload2 C dL_law_1144 ?_
  refine l_aload0 C dL_law_1145 ?_
  refine l_iload C dL_law_1146 ?_
  refine l_iconst C (1 : Int32) dL_law_1147 rfl ?_
  refine l_iadd C dL_law_1148 ?_
  refine l_sld C (h1) dL_law_1149 ?_
  refine l_callMI C [.int (xs (x3 + (1 : Int32)).toNatClampNeg)] ql_m145 (m_X8_tell hf1) rfl rfl rfl ⟨rfl, rfl⟩ ⟨by decide, by decide⟩ (Nat.le_of_ble_eq_true rfl) dL_law_1150 ?_
  refine l_eqI C 1235 dL_law_1153 (by decide) ?_
  exact ih σ' τ' hRel'
set_option maxRecDepth 20000 in
theorem law_c30 {Rel : St → St → Prop} (AG : AllAgree Rel) (C : lC p s m meth c D ca ad0 ad1 b L xs) {x3 : Int32} {σ τ : St} (hRel : Rel σ τ) (h1 : vp_in (x3 + (1 : Int32)) L) (h2 : vp_in (x3 + (2 : Int32)) L) (h3 : vp_in (x3 + (3 : Int32)) L) (h4 : vp_in (x3 + (4 : Int32)) L) (h5 : vp_in (x3 + (5 : Int32)) L) (ih : ∀ σ τ : St, Rel σ τ → GL p l e s m below meth c D ca ad0 ad1 b 1235 x3 [] σ τ) : GL p l e s m below meth c D ca ad0 ad1 b 1158 x3 [] σ τ := by
  refine l_aload1 C dL_law_1158 ?_
  obtain ⟨r, σ', τ', hf0, hf1, hRel'⟩ := ag_30 AG  σ τ hRel
  refine l_callCL C [] ql_m146 (m_X7_number hf0) rfl rfl rfl ⟨rfl, rfl⟩ ⟨by decide, by decide⟩ (Nat.le_of_ble_eq_true rfl) dL_law_1159 ?_
  refine l_aload2 C dL_law_1162 ?_
  refine l_callML C [] ql_m149 (m_X8_number hf1) rfl rfl rfl ⟨rfl, rfl⟩ ⟨by decide, by decide⟩ (Nat.le_of_ble_eq_true rfl) dL_law_1163 ?_
  refine l_eqL C 1235 dL_law_1166 dL_law_1167 (by decide) ?_
  exact ih σ' τ' hRel'
set_option maxRecDepth 20000 in
theorem law_c31 {Rel : St → St → Prop} (AG : AllAgree Rel) (C : lC p s m meth c D ca ad0 ad1 b L xs) {x3 : Int32} {σ τ : St} (hRel : Rel σ τ) (h1 : vp_in (x3 + (1 : Int32)) L) (h2 : vp_in (x3 + (2 : Int32)) L) (h3 : vp_in (x3 + (3 : Int32)) L) (h4 : vp_in (x3 + (4 : Int32)) L) (h5 : vp_in (x3 + (5 : Int32)) L) (ih : ∀ σ τ : St, Rel σ τ → GL p l e s m below meth c D ca ad0 ad1 b 1235 x3 [] σ τ) : GL p l e s m below meth c D ca ad0 ad1 b 1172 x3 [] σ τ := by
  refine l_aload1 C dL_law_1172 ?_
  obtain ⟨r, σ', τ', hf0, hf1, hRel'⟩ := ag_31 AG  σ τ hRel
  refine l_callCI C [] ql_m150 (m_X7_keep hf0) rfl rfl rfl ⟨rfl, rfl⟩ ⟨by decide, by decide⟩ (Nat.le_of_ble_eq_true rfl) dL_law_1173 ?_
  refine l_aload2 C dL_law_1176 ?_
  refine l_callMI C [] ql_m153 (m_X8_keep hf1) rfl rfl rfl ⟨rfl, rfl⟩ ⟨by decide, by decide⟩ (Nat.le_of_ble_eq_true rfl) dL_law_1177 ?_
  refine l_eqI C 1235 dL_law_1180 (by decide) ?_
  exact ih σ' τ' hRel'
set_option maxRecDepth 20000 in
theorem law_c32 {Rel : St → St → Prop} (AG : AllAgree Rel) (C : lC p s m meth c D ca ad0 ad1 b L xs) {x3 : Int32} {σ τ : St} (hRel : Rel σ τ) (h1 : vp_in (x3 + (1 : Int32)) L) (h2 : vp_in (x3 + (2 : Int32)) L) (h3 : vp_in (x3 + (3 : Int32)) L) (h4 : vp_in (x3 + (4 : Int32)) L) (h5 : vp_in (x3 + (5 : Int32)) L) (ih : ∀ σ τ : St, Rel σ τ → GL p l e s m below meth c D ca ad0 ad1 b 1235 x3 [] σ τ) : GL p l e s m below meth c D ca ad0 ad1 b 1185 x3 [] σ τ := by
  refine l_aload1 C dL_law_1185 ?_
  obtain ⟨r, σ', τ', hf0, hf1, hRel'⟩ := ag_32 AG  σ τ hRel
  refine l_callCI C [] ql_m154 (m_X7_back hf0) rfl rfl rfl ⟨rfl, rfl⟩ ⟨by decide, by decide⟩ (Nat.le_of_ble_eq_true rfl) dL_law_1186 ?_
  refine l_aload2 C dL_law_1189 ?_
  refine l_callMI C [] ql_m157 (m_X8_back hf1) rfl rfl rfl ⟨rfl, rfl⟩ ⟨by decide, by decide⟩ (Nat.le_of_ble_eq_true rfl) dL_law_1190 ?_
  refine l_eqI C 1235 dL_law_1193 (by decide) ?_
  exact ih σ' τ' hRel'
set_option maxRecDepth 20000 in
theorem law_c33 {Rel : St → St → Prop} (AG : AllAgree Rel) (C : lC p s m meth c D ca ad0 ad1 b L xs) {x3 : Int32} {σ τ : St} (hRel : Rel σ τ) (h1 : vp_in (x3 + (1 : Int32)) L) (h2 : vp_in (x3 + (2 : Int32)) L) (h3 : vp_in (x3 + (3 : Int32)) L) (h4 : vp_in (x3 + (4 : Int32)) L) (h5 : vp_in (x3 + (5 : Int32)) L) (ih : ∀ σ τ : St, Rel σ τ → GL p l e s m below meth c D ca ad0 ad1 b 1235 x3 [] σ τ) : GL p l e s m below meth c D ca ad0 ad1 b 1198 x3 [] σ τ := by
  refine l_aload1 C dL_law_1198 ?_
  obtain ⟨r, σ', τ', hf0, hf1, hRel'⟩ := ag_33 AG  σ τ hRel
  refine l_callCL C [] ql_m158 (m_X7_bears hf0) rfl rfl rfl ⟨rfl, rfl⟩ ⟨by decide, by decide⟩ (Nat.le_of_ble_eq_true rfl) dL_law_1199 ?_
  refine l_aload2 C dL_law_1202 ?_
  refine l_callML C [] ql_m161 (m_X8_bears hf1) rfl rfl rfl ⟨rfl, rfl⟩ ⟨by decide, by decide⟩ (Nat.le_of_ble_eq_true rfl) dL_law_1203 ?_
  refine l_eqL C 1235 dL_law_1206 dL_law_1207 (by decide) ?_
  exact ih σ' τ' hRel'
set_option maxRecDepth 20000 in
theorem law_c34 {Rel : St → St → Prop} (AG : AllAgree Rel) (C : lC p s m meth c D ca ad0 ad1 b L xs) {x3 : Int32} {σ τ : St} (hRel : Rel σ τ) (h1 : vp_in (x3 + (1 : Int32)) L) (h2 : vp_in (x3 + (2 : Int32)) L) (h3 : vp_in (x3 + (3 : Int32)) L) (h4 : vp_in (x3 + (4 : Int32)) L) (h5 : vp_in (x3 + (5 : Int32)) L) (ih : ∀ σ τ : St, Rel σ τ → GL p l e s m below meth c D ca ad0 ad1 b 1235 x3 [] σ τ) : GL p l e s m below meth c D ca ad0 ad1 b 1212 x3 [] σ τ := by
  refine l_aload1 C dL_law_1212 ?_
  refine l_aload0 C dL_law_1213 ?_
  refine l_iload C dL_law_1214 ?_
  refine l_iconst C (1 : Int32) dL_law_1215 rfl ?_
  refine l_iadd C dL_law_1216 ?_
  refine l_sld C (h1) dL_law_1217 ?_
  obtain ⟨r, σ', τ', hf0, hf1, hRel'⟩ := ag_34 AG (xs (x3 + (1 : Int32)).toNatClampNeg) σ τ hRel
  refine l_callCI C [.int (xs (x3 + (1 : Int32)).toNatClampNeg)] ql_m162 (m_X7_count hf0) rfl rfl rfl ⟨rfl, rfl⟩ ⟨by decide, by decide⟩ (Nat.le_of_ble_eq_true rfl) dL_law_1218 ?_
  refine l_aload2 C dL_law_1221 ?_
  refine l_aload0 C dL_law_1222 ?_
  refine l_iload C dL_law_1223 ?_
  refine l_iconst C (1 : Int32) dL_law_1224 rfl ?_
  refine l_iadd C dL_law_1225 ?_
  refine l_sld C (h1) dL_law_1226 ?_
  refine l_callMI C [.int (xs (x3 + (1 : Int32)).toNatClampNeg)] ql_m165 (m_X8_count_ hf1) rfl rfl rfl ⟨rfl, rfl⟩ ⟨by decide, by decide⟩ (Nat.le_of_ble_eq_true rfl) dL_law_1227 ?_
  refine l_eqI C 1235 dL_law_1230 (by decide) ?_
  exact ih σ' τ' hRel'
theorem law_ix {x3 : Int32} {i j : Nat} (ex : x3 = nI i) (h : i + j < L) (hL : L ≤ 3072) (y : Int32) (hy : y = nI j) : vp_in (x3 + y) L := by
  rw [ex, hy, nI_add]
  exact vp_in_nI h (by omega)
set_option maxHeartbeats 4000000 in
set_option maxRecDepth 100000 in
theorem law_loop {Rel : St → St → Prop} (AG : AllAgree Rel) (hL : L ≤ 3072) (C : lC p s m meth c D ca ad0 ad1 b L xs) : ∀ (n i : Nat) (x3 : Int32) (σ τ : St), i ≤ L → L + 1 ≤ i + n → x3 = nI i → Rel σ τ → GL p l e s m below meth c D ca ad0 ad1 b 18 x3 [] σ τ := by
  intro n
  induction n with
  | zero =>
    intro i x3 σ τ h1 h2
    exact absurd h2 (by omega)
  | succ n ih =>
    intro i x3 σ τ hi hin ex hRel
    refine l_iload C dL_law_18 ?_
    refine l_aload0 C dL_law_19 ?_
    refine l_slen C dL_law_20 ?_
    refine l_bipush C (6 : Int32) dL_law_21 rfl ?_
    refine l_isub C dL_law_23 ?_
    refine l_icmp_gt C 1241 dL_law_24 (by decide) (fun hc => ?_) (fun hc => ?_)
    · refine l_iconst C (1 : Int32) dL_law_1241 rfl ?_
      exact l_ret C dL_law_1242
    · have h6 : i + 6 ≤ L := by
        rw [ex] at hc
        rcases Nat.lt_or_ge (i + 6) (L + 1) with q | q
        · omega
        · exfalso
          apply hc
          rw [Int32.lt_iff_toInt_lt, show (6 : Int32) = nI 6 from rfl, pk_sub_toInt (by omega) (by omega), nI_toInt (by omega)]
          omega
      refine l_aload0 C dL_law_27 ?_
      refine l_iload C dL_law_28 ?_
      refine l_sld C (by rw [ex]; exact vp_in_nI (by omega) (by omega)) dL_law_29 ?_
      refine l_bipush C (63 : Int32) dL_law_30 rfl ?_
      refine l_iand C dL_law_32 ?_
      have h1 := law_ix (x3 := x3) (j := 1) ex (by omega) hL 1 rfl
      have h2 := law_ix (x3 := x3) (j := 2) ex (by omega) hL 2 rfl
      have h3 := law_ix (x3 := x3) (j := 3) ex (by omega) hL 3 rfl
      have h4 := law_ix (x3 := x3) (j := 4) ex (by omega) hL 4 rfl
      have h5 := law_ix (x3 := x3) (j := 5) ex (by omega) hL 5 rfl
      have iq : ∀ σ τ : St, Rel σ τ → GL p l e s m below meth c D ca ad0 ad1 b 1235 x3 [] σ τ := by
        intro σ τ hr
        refine l_iinc C dL_law_1235 ?_
        refine l_goto C 18 dL_law_1238 (by decide) ?_
        exact ih (i + 6) (x3 + 6) σ τ h6 (by omega) (by rw [ex, show (6 : Int32) = nI 6 from rfl, nI_add]) hr
      generalize xs x3.toNatClampNeg &&& 63 = w
      by_cases hw : w.toInt < 0 ∨ 34 < w.toInt
      · exact l_tableOut C 1235 dL_law_33 hw (by decide) (iq σ τ hRel)
      · obtain ⟨j, hj, rfl⟩ : ∃ j : Nat, j ≤ 34 ∧ w = nI j := by
          refine ⟨w.toInt.toNat, by omega, ?_⟩
          apply Int32.toInt_inj.mp
          rw [nI_toInt (by omega)]
          omega
        match j, hj with
        | 0, _ => exact l_tableIn C 188 dL_law_33 (by decide) (by decide) rfl (by decide) (law_c0 AG C hRel h1 h2 h3 h4 h5 iq)
        | 1, _ => exact l_tableIn C 211 dL_law_33 (by decide) (by decide) rfl (by decide) (law_c1 AG C hRel h1 h2 h3 h4 h5 iq)
        | 2, _ => exact l_tableIn C 244 dL_law_33 (by decide) (by decide) rfl (by decide) (law_c2 AG C hRel h1 h2 h3 h4 h5 iq)
        | 3, _ => exact l_tableIn C 277 dL_law_33 (by decide) (by decide) rfl (by decide) (law_c3 AG C hRel h1 h2 h3 h4 h5 iq)
        | 4, _ => exact l_tableIn C 320 dL_law_33 (by decide) (by decide) rfl (by decide) (law_c4 AG C hRel h1 h2 h3 h4 h5 iq)
        | 5, _ => exact l_tableIn C 363 dL_law_33 (by decide) (by decide) rfl (by decide) (law_c5 AG C hRel h1 h2 h3 h4 h5 iq)
        | 6, _ => exact l_tableIn C 386 dL_law_33 (by decide) (by decide) rfl (by decide) (law_c6 AG C hRel h1 h2 h3 h4 h5 iq)
        | 7, _ => exact l_tableIn C 449 dL_law_33 (by decide) (by decide) rfl (by decide) (law_c7 AG C hRel h1 h2 h3 h4 h5 iq)
        | 8, _ => exact l_tableIn C 482 dL_law_33 (by decide) (by decide) rfl (by decide) (law_c8 AG C hRel h1 h2 h3 h4 h5 iq)
        | 9, _ => exact l_tableIn C 525 dL_law_33 (by decide) (by decide) rfl (by decide) (law_c9 AG C hRel h1 h2 h3 h4 h5 iq)
        | 10, _ => exact l_tableIn C 558 dL_law_33 (by decide) (by decide) rfl (by decide) (law_c10 AG C hRel h1 h2 h3 h4 h5 iq)
        | 11, _ => exact l_tableIn C 601 dL_law_33 (by decide) (by decide) rfl (by decide) (law_c11 AG C hRel h1 h2 h3 h4 h5 iq)
        | 12, _ => exact l_tableIn C 634 dL_law_33 (by decide) (by decide) rfl (by decide) (law_c12 AG C hRel h1 h2 h3 h4 h5 iq)
        | 13, _ => exact l_tableIn C 667 dL_law_33 (by decide) (by decide) rfl (by decide) (law_c13 AG C hRel h1 h2 h3 h4 h5 iq)
        | 14, _ => exact l_tableIn C 680 dL_law_33 (by decide) (by decide) rfl (by decide) (law_c14 AG C hRel h1 h2 h3 h4 h5 iq)
        | 15, _ => exact l_tableIn C 743 dL_law_33 (by decide) (by decide) rfl (by decide) (law_c15 AG C hRel h1 h2 h3 h4 h5 iq)
        | 16, _ => exact l_tableIn C 756 dL_law_33 (by decide) (by decide) rfl (by decide) (law_c16 AG C hRel h1 h2 h3 h4 h5 iq)
        | 17, _ => exact l_tableIn C 770 dL_law_33 (by decide) (by decide) rfl (by decide) (law_c17 AG C hRel h1 h2 h3 h4 h5 iq)
        | 18, _ => exact l_tableIn C 804 dL_law_33 (by decide) (by decide) rfl (by decide) (law_c18 AG C hRel h1 h2 h3 h4 h5 iq)
        | 19, _ => exact l_tableIn C 818 dL_law_33 (by decide) (by decide) rfl (by decide) (law_c19 AG C hRel h1 h2 h3 h4 h5 iq)
        | 20, _ => exact l_tableIn C 852 dL_law_33 (by decide) (by decide) rfl (by decide) (law_c20 AG C hRel h1 h2 h3 h4 h5 iq)
        | 21, _ => exact l_tableIn C 886 dL_law_33 (by decide) (by decide) rfl (by decide) (law_c21 AG C hRel h1 h2 h3 h4 h5 iq)
        | 22, _ => exact l_tableIn C 930 dL_law_33 (by decide) (by decide) rfl (by decide) (law_c22 AG C hRel h1 h2 h3 h4 h5 iq)
        | 23, _ => exact l_tableIn C 954 dL_law_33 (by decide) (by decide) rfl (by decide) (law_c23 AG C hRel h1 h2 h3 h4 h5 iq)
        | 24, _ => exact l_tableIn C 977 dL_law_33 (by decide) (by decide) rfl (by decide) (law_c24 AG C hRel h1 h2 h3 h4 h5 iq)
        | 25, _ => exact l_tableIn C 1010 dL_law_33 (by decide) (by decide) rfl (by decide) (law_c25 AG C hRel h1 h2 h3 h4 h5 iq)
        | 26, _ => exact l_tableIn C 1034 dL_law_33 (by decide) (by decide) rfl (by decide) (law_c26 AG C hRel h1 h2 h3 h4 h5 iq)
        | 27, _ => exact l_tableIn C 1058 dL_law_33 (by decide) (by decide) rfl (by decide) (law_c27 AG C hRel h1 h2 h3 h4 h5 iq)
        | 28, _ => exact l_tableIn C 1112 dL_law_33 (by decide) (by decide) rfl (by decide) (law_c28 AG C hRel h1 h2 h3 h4 h5 iq)
        | 29, _ => exact l_tableIn C 1135 dL_law_33 (by decide) (by decide) rfl (by decide) (law_c29 AG C hRel h1 h2 h3 h4 h5 iq)
        | 30, _ => exact l_tableIn C 1158 dL_law_33 (by decide) (by decide) rfl (by decide) (law_c30 AG C hRel h1 h2 h3 h4 h5 iq)
        | 31, _ => exact l_tableIn C 1172 dL_law_33 (by decide) (by decide) rfl (by decide) (law_c31 AG C hRel h1 h2 h3 h4 h5 iq)
        | 32, _ => exact l_tableIn C 1185 dL_law_33 (by decide) (by decide) rfl (by decide) (law_c32 AG C hRel h1 h2 h3 h4 h5 iq)
        | 33, _ => exact l_tableIn C 1198 dL_law_33 (by decide) (by decide) rfl (by decide) (law_c33 AG C hRel h1 h2 h3 h4 h5 iq)
        | 34, _ => exact l_tableIn C 1212 dL_law_33 (by decide) (by decide) rfl (by decide) (law_c34 AG C hRel h1 h2 h3 h4 h5 iq)
        | j + 35, hj => omega
end
