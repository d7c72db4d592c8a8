theorem dX0_init_0 : decode cX0_init 0 = .ok (.aload_n 0, 1) := by decide +kernel
theorem dX0_init_1 : decode cX0_init 1 = .ok (.invokespecial 3, 3) := by decide +kernel
theorem dX0_init_4 : decode cX0_init 4 = .ok (.aload_n 0, 1) := by decide +kernel
theorem dX0_init_5 : decode cX0_init 5 = .ok (.bipush 7, 2) := by decide +kernel
theorem dX0_init_7 : decode cX0_init 7 = .ok (.newarray .int, 2) := by decide +kernel
theorem dX0_init_9 : decode cX0_init 9 = .ok (.putfield 9, 3) := by decide +kernel
theorem dX0_init_12 : decode cX0_init 12 = .ok (.aload_n 0, 1) := by decide +kernel
theorem dX0_init_13 : decode cX0_init 13 = .ok (.iconst 0, 1) := by decide +kernel
theorem dX0_init_14 : decode cX0_init 14 = .ok (.putfield 15, 3) := by decide +kernel
theorem dX0_init_17 : decode cX0_init 17 = .ok (.aload_n 0, 1) := by decide +kernel
theorem dX0_init_18 : decode cX0_init 18 = .ok (.bipush 7, 2) := by decide +kernel
theorem dX0_init_20 : decode cX0_init 20 = .ok (.newarray .int, 2) := by decide +kernel
theorem dX0_init_22 : decode cX0_init 22 = .ok (.putfield 19, 3) := by decide +kernel
theorem dX0_init_25 : decode cX0_init 25 = .ok (.aload_n 0, 1) := by decide +kernel
theorem dX0_init_26 : decode cX0_init 26 = .ok (.bipush 7, 2) := by decide +kernel
theorem dX0_init_28 : decode cX0_init 28 = .ok (.newarray .int, 2) := by decide +kernel
theorem dX0_init_30 : decode cX0_init 30 = .ok (.putfield 22, 3) := by decide +kernel
theorem dX0_init_33 : decode cX0_init 33 = .ok (.aload_n 0, 1) := by decide +kernel
theorem dX0_init_34 : decode cX0_init 34 = .ok (.bipush 40, 2) := by decide +kernel
theorem dX0_init_36 : decode cX0_init 36 = .ok (.newarray .int, 2) := by decide +kernel
theorem dX0_init_38 : decode cX0_init 38 = .ok (.putfield 25, 3) := by decide +kernel
theorem dX0_init_41 : decode cX0_init 41 = .ok (.aload_n 0, 1) := by decide +kernel
theorem dX0_init_42 : decode cX0_init 42 = .ok (.bipush 40, 2) := by decide +kernel
theorem dX0_init_44 : decode cX0_init 44 = .ok (.newarray .int, 2) := by decide +kernel
theorem dX0_init_46 : decode cX0_init 46 = .ok (.putfield 28, 3) := by decide +kernel
theorem dX0_init_49 : decode cX0_init 49 = .ok (.aload_n 0, 1) := by decide +kernel
theorem dX0_init_50 : decode cX0_init 50 = .ok (.sipush 128, 3) := by decide +kernel
theorem dX0_init_53 : decode cX0_init 53 = .ok (.newarray .int, 2) := by decide +kernel
theorem dX0_init_55 : decode cX0_init 55 = .ok (.putfield 31, 3) := by decide +kernel
theorem dX0_init_58 : decode cX0_init 58 = .ok (.aload_n 0, 1) := by decide +kernel
theorem dX0_init_59 : decode cX0_init 59 = .ok (.iconst 0, 1) := by decide +kernel
theorem dX0_init_60 : decode cX0_init 60 = .ok (.putfield 34, 3) := by decide +kernel
theorem dX0_init_63 : decode cX0_init 63 = .ok (.aload_n 0, 1) := by decide +kernel
theorem dX0_init_64 : decode cX0_init 64 = .ok (.sipush 128, 3) := by decide +kernel
theorem dX0_init_67 : decode cX0_init 67 = .ok (.newarray .long, 2) := by decide +kernel
theorem dX0_init_69 : decode cX0_init 69 = .ok (.putfield 37, 3) := by decide +kernel
theorem dX0_init_72 : decode cX0_init 72 = .ok (.aload_n 0, 1) := by decide +kernel
theorem dX0_init_73 : decode cX0_init 73 = .ok (.sipush 128, 3) := by decide +kernel
theorem dX0_init_76 : decode cX0_init 76 = .ok (.newarray .long, 2) := by decide +kernel
theorem dX0_init_78 : decode cX0_init 78 = .ok (.putfield 41, 3) := by decide +kernel
theorem dX0_init_81 : decode cX0_init 81 = .ok (.aload_n 0, 1) := by decide +kernel
theorem dX0_init_82 : decode cX0_init 82 = .ok (.sipush 5120, 3) := by decide +kernel
theorem dX0_init_85 : decode cX0_init 85 = .ok (.newarray .long, 2) := by decide +kernel
theorem dX0_init_87 : decode cX0_init 87 = .ok (.putfield 44, 3) := by decide +kernel
theorem dX0_init_90 : decode cX0_init 90 = .ok (.aload_n 0, 1) := by decide +kernel
theorem dX0_init_91 : decode cX0_init 91 = .ok (.bipush 40, 2) := by decide +kernel
theorem dX0_init_93 : decode cX0_init 93 = .ok (.newarray .long, 2) := by decide +kernel
theorem dX0_init_95 : decode cX0_init 95 = .ok (.putfield 47, 3) := by decide +kernel
theorem dX0_init_98 : decode cX0_init 98 = .ok (.aload_n 0, 1) := by decide +kernel
theorem dX0_init_99 : decode cX0_init 99 = .ok (.aload_n 1, 1) := by decide +kernel
theorem dX0_init_100 : decode cX0_init 100 = .ok (.putfield 50, 3) := by decide +kernel
theorem dX0_init_103 : decode cX0_init 103 = .ok (.return_, 1) := by decide +kernel
theorem dX0_countAll_0 : decode cX0_countAll 0 = .ok (.aload_n 0, 1) := by decide +kernel
theorem dX0_countAll_1 : decode cX0_countAll 1 = .ok (.invokevirtual 54, 3) := by decide +kernel
theorem dX0_countAll_4 : decode cX0_countAll 4 = .ok (.ifCond .ne 5, 3) := by decide +kernel
theorem dX0_countAll_7 : decode cX0_countAll 7 = .ok (.lconst 0, 1) := by decide +kernel
theorem dX0_countAll_8 : decode cX0_countAll 8 = .ok (.lreturn, 1) := by decide +kernel
theorem dX0_countAll_9 : decode cX0_countAll 9 = .ok (.aload_n 0, 1) := by decide +kernel
theorem dX0_countAll_10 : decode cX0_countAll 10 = .ok (.getfield 37, 3) := by decide +kernel
theorem dX0_countAll_13 : decode cX0_countAll 13 = .ok (.lconst 0, 1) := by decide +kernel
theorem dX0_countAll_14 : decode cX0_countAll 14 = .ok (.invokestatic 58, 3) := by decide +kernel
theorem dX0_countAll_17 : decode cX0_countAll 17 = .ok (.aload_n 0, 1) := by decide +kernel
theorem dX0_countAll_18 : decode cX0_countAll 18 = .ok (.getfield 37, 3) := by decide +kernel
theorem dX0_countAll_21 : decode cX0_countAll 21 = .ok (.iconst 0, 1) := by decide +kernel
theorem dX0_countAll_22 : decode cX0_countAll 22 = .ok (.lconst 1, 1) := by decide +kernel
theorem dX0_countAll_23 : decode cX0_countAll 23 = .ok (.lastore, 1) := by decide +kernel
theorem dX0_countAll_24 : decode cX0_countAll 24 = .ok (.iconst 0, 1) := by decide +kernel
theorem dX0_countAll_25 : decode cX0_countAll 25 = .ok (.istore_n 1, 1) := by decide +kernel
theorem dX0_countAll_26 : decode cX0_countAll 26 = .ok (.iload_n 1, 1) := by decide +kernel
theorem dX0_countAll_27 : decode cX0_countAll 27 = .ok (.aload_n 0, 1) := by decide +kernel
theorem dX0_countAll_28 : decode cX0_countAll 28 = .ok (.getfield 50, 3) := by decide +kernel
theorem dX0_countAll_31 : decode cX0_countAll 31 = .ok (.getfield 64, 3) := by decide +kernel
theorem dX0_countAll_34 : decode cX0_countAll 34 = .ok (.if_icmp .ge 15, 3) := by decide +kernel
theorem dX0_countAll_37 : decode cX0_countAll 37 = .ok (.aload_n 0, 1) := by decide +kernel
theorem dX0_countAll_38 : decode cX0_countAll 38 = .ok (.iload_n 1, 1) := by decide +kernel
theorem dX0_countAll_39 : decode cX0_countAll 39 = .ok (.iconst (-1), 1) := by decide +kernel
theorem dX0_countAll_40 : decode cX0_countAll 40 = .ok (.invokevirtual 69, 3) := by decide +kernel
theorem dX0_countAll_43 : decode cX0_countAll 43 = .ok (.iinc 1 1, 3) := by decide +kernel
theorem dX0_countAll_46 : decode cX0_countAll 46 = .ok (.goto (-20), 3) := by decide +kernel
theorem dX0_countAll_49 : decode cX0_countAll 49 = .ok (.aload_n 0, 1) := by decide +kernel
theorem dX0_countAll_50 : decode cX0_countAll 50 = .ok (.getfield 37, 3) := by decide +kernel
theorem dX0_countAll_53 : decode cX0_countAll 53 = .ok (.aload_n 0, 1) := by decide +kernel
theorem dX0_countAll_54 : decode cX0_countAll 54 = .ok (.getfield 50, 3) := by decide +kernel
theorem dX0_countAll_57 : decode cX0_countAll 57 = .ok (.getfield 73, 3) := by decide +kernel
theorem dX0_countAll_60 : decode cX0_countAll 60 = .ok (.laload, 1) := by decide +kernel
theorem dX0_countAll_61 : decode cX0_countAll 61 = .ok (.lreturn, 1) := by decide +kernel
theorem dX0_countEachYear_0 : decode cX0_countEachYear 0 = .ok (.aload_n 0, 1) := by decide +kernel
theorem dX0_countEachYear_1 : decode cX0_countEachYear 1 = .ok (.getfield 47, 3) := by decide +kernel
theorem dX0_countEachYear_4 : decode cX0_countEachYear 4 = .ok (.lconst 0, 1) := by decide +kernel
theorem dX0_countEachYear_5 : decode cX0_countEachYear 5 = .ok (.invokestatic 58, 3) := by decide +kernel
theorem dX0_countEachYear_8 : decode cX0_countEachYear 8 = .ok (.aload_n 0, 1) := by decide +kernel
theorem dX0_countEachYear_9 : decode cX0_countEachYear 9 = .ok (.invokevirtual 54, 3) := by decide +kernel
theorem dX0_countEachYear_12 : decode cX0_countEachYear 12 = .ok (.ifCond .ne 4, 3) := by decide +kernel
theorem dX0_countEachYear_15 : decode cX0_countEachYear 15 = .ok (.return_, 1) := by decide +kernel
theorem dX0_countEachYear_16 : decode cX0_countEachYear 16 = .ok (.aload_n 0, 1) := by decide +kernel
theorem dX0_countEachYear_17 : decode cX0_countEachYear 17 = .ok (.getfield 37, 3) := by decide +kernel
theorem dX0_countEachYear_20 : decode cX0_countEachYear 20 = .ok (.lconst 0, 1) := by decide +kernel
theorem dX0_countEachYear_21 : decode cX0_countEachYear 21 = .ok (.invokestatic 58, 3) := by decide +kernel
theorem dX0_countEachYear_24 : decode cX0_countEachYear 24 = .ok (.aload_n 0, 1) := by decide +kernel
theorem dX0_countEachYear_25 : decode cX0_countEachYear 25 = .ok (.getfield 37, 3) := by decide +kernel
theorem dX0_countEachYear_28 : decode cX0_countEachYear 28 = .ok (.iconst 0, 1) := by decide +kernel
theorem dX0_countEachYear_29 : decode cX0_countEachYear 29 = .ok (.lconst 1, 1) := by decide +kernel
theorem dX0_countEachYear_30 : decode cX0_countEachYear 30 = .ok (.lastore, 1) := by decide +kernel
theorem dX0_countEachYear_31 : decode cX0_countEachYear 31 = .ok (.iconst 0, 1) := by decide +kernel
theorem dX0_countEachYear_32 : decode cX0_countEachYear 32 = .ok (.istore_n 2, 1) := by decide +kernel
theorem dX0_countEachYear_33 : decode cX0_countEachYear 33 = .ok (.iload_n 2, 1) := by decide +kernel
theorem dX0_countEachYear_34 : decode cX0_countEachYear 34 = .ok (.aload_n 0, 1) := by decide +kernel
theorem dX0_countEachYear_35 : decode cX0_countEachYear 35 = .ok (.getfield 50, 3) := by decide +kernel
theorem dX0_countEachYear_38 : decode cX0_countEachYear 38 = .ok (.getfield 64, 3) := by decide +kernel
theorem dX0_countEachYear_41 : decode cX0_countEachYear 41 = .ok (.if_icmp .ge 15, 3) := by decide +kernel
theorem dX0_countEachYear_44 : decode cX0_countEachYear 44 = .ok (.aload_n 0, 1) := by decide +kernel
theorem dX0_countEachYear_45 : decode cX0_countEachYear 45 = .ok (.iload_n 2, 1) := by decide +kernel
theorem dX0_countEachYear_46 : decode cX0_countEachYear 46 = .ok (.iload_n 1, 1) := by decide +kernel
theorem dX0_countEachYear_47 : decode cX0_countEachYear 47 = .ok (.invokevirtual 69, 3) := by decide +kernel
theorem dX0_countEachYear_50 : decode cX0_countEachYear 50 = .ok (.iinc 2 1, 3) := by decide +kernel
theorem dX0_countEachYear_53 : decode cX0_countEachYear 53 = .ok (.goto (-20), 3) := by decide +kernel
theorem dX0_countEachYear_56 : decode cX0_countEachYear 56 = .ok (.aload_n 0, 1) := by decide +kernel
theorem dX0_countEachYear_57 : decode cX0_countEachYear 57 = .ok (.getfield 41, 3) := by decide +kernel
theorem dX0_countEachYear_60 : decode cX0_countEachYear 60 = .ok (.lconst 0, 1) := by decide +kernel
theorem dX0_countEachYear_61 : decode cX0_countEachYear 61 = .ok (.invokestatic 58, 3) := by decide +kernel
theorem dX0_countEachYear_64 : decode cX0_countEachYear 64 = .ok (.aload_n 0, 1) := by decide +kernel
theorem dX0_countEachYear_65 : decode cX0_countEachYear 65 = .ok (.getfield 41, 3) := by decide +kernel
theorem dX0_countEachYear_68 : decode cX0_countEachYear 68 = .ok (.aload_n 0, 1) := by decide +kernel
theorem dX0_countEachYear_69 : decode cX0_countEachYear 69 = .ok (.getfield 50, 3) := by decide +kernel
theorem dX0_countEachYear_72 : decode cX0_countEachYear 72 = .ok (.getfield 73, 3) := by decide +kernel
theorem dX0_countEachYear_75 : decode cX0_countEachYear 75 = .ok (.lconst 1, 1) := by decide +kernel
theorem dX0_countEachYear_76 : decode cX0_countEachYear 76 = .ok (.lastore, 1) := by decide +kernel
theorem dX0_countEachYear_77 : decode cX0_countEachYear 77 = .ok (.aload_n 0, 1) := by decide +kernel
theorem dX0_countEachYear_78 : decode cX0_countEachYear 78 = .ok (.getfield 50, 3) := by decide +kernel
theorem dX0_countEachYear_81 : decode cX0_countEachYear 81 = .ok (.getfield 64, 3) := by decide +kernel
theorem dX0_countEachYear_84 : decode cX0_countEachYear 84 = .ok (.iconst 1, 1) := by decide +kernel
theorem dX0_countEachYear_85 : decode cX0_countEachYear 85 = .ok (.isub, 1) := by decide +kernel
theorem dX0_countEachYear_86 : decode cX0_countEachYear 86 = .ok (.istore_n 2, 1) := by decide +kernel
theorem dX0_countEachYear_87 : decode cX0_countEachYear 87 = .ok (.iload_n 2, 1) := by decide +kernel
theorem dX0_countEachYear_88 : decode cX0_countEachYear 88 = .ok (.ifCond .lt 15, 3) := by decide +kernel
theorem dX0_countEachYear_91 : decode cX0_countEachYear 91 = .ok (.aload_n 0, 1) := by decide +kernel
theorem dX0_countEachYear_92 : decode cX0_countEachYear 92 = .ok (.iload_n 2, 1) := by decide +kernel
theorem dX0_countEachYear_93 : decode cX0_countEachYear 93 = .ok (.iload_n 1, 1) := by decide +kernel
theorem dX0_countEachYear_94 : decode cX0_countEachYear 94 = .ok (.invokevirtual 76, 3) := by decide +kernel
theorem dX0_countEachYear_97 : decode cX0_countEachYear 97 = .ok (.iinc 2 (-1), 3) := by decide +kernel
theorem dX0_countEachYear_100 : decode cX0_countEachYear 100 = .ok (.goto (-13), 3) := by decide +kernel
theorem dX0_countEachYear_103 : decode cX0_countEachYear 103 = .ok (.return_, 1) := by decide +kernel
theorem dX0_prepare_0 : decode cX0_prepare 0 = .ok (.aload_n 0, 1) := by decide +kernel
theorem dX0_prepare_1 : decode cX0_prepare 1 = .ok (.invokevirtual 79, 3) := by decide +kernel
theorem dX0_prepare_4 : decode cX0_prepare 4 = .ok (.ifCond .eq 10, 3) := by decide +kernel
theorem dX0_prepare_7 : decode cX0_prepare 7 = .ok (.aload_n 0, 1) := by decide +kernel
theorem dX0_prepare_8 : decode cX0_prepare 8 = .ok (.invokevirtual 82, 3) := by decide +kernel
theorem dX0_prepare_11 : decode cX0_prepare 11 = .ok (.ifCond .ne 5, 3) := by decide +kernel
theorem dX0_prepare_14 : decode cX0_prepare 14 = .ok (.iconst 0, 1) := by decide +kernel
theorem dX0_prepare_15 : decode cX0_prepare 15 = .ok (.ireturn, 1) := by decide +kernel
theorem dX0_prepare_16 : decode cX0_prepare 16 = .ok (.iconst 0, 1) := by decide +kernel
theorem dX0_prepare_17 : decode cX0_prepare 17 = .ok (.istore_n 1, 1) := by decide +kernel
theorem dX0_prepare_18 : decode cX0_prepare 18 = .ok (.iload_n 1, 1) := by decide +kernel
theorem dX0_prepare_19 : decode cX0_prepare 19 = .ok (.aload_n 0, 1) := by decide +kernel
theorem dX0_prepare_20 : decode cX0_prepare 20 = .ok (.getfield 50, 3) := by decide +kernel
theorem dX0_prepare_23 : decode cX0_prepare 23 = .ok (.getfield 64, 3) := by decide +kernel
theorem dX0_prepare_26 : decode cX0_prepare 26 = .ok (.if_icmp .ge 98, 3) := by decide +kernel
theorem dX0_prepare_29 : decode cX0_prepare 29 = .ok (.aload_n 0, 1) := by decide +kernel
theorem dX0_prepare_30 : decode cX0_prepare 30 = .ok (.getfield 25, 3) := by decide +kernel
theorem dX0_prepare_33 : decode cX0_prepare 33 = .ok (.iload_n 1, 1) := by decide +kernel
theorem dX0_prepare_34 : decode cX0_prepare 34 = .ok (.iconst 0, 1) := by decide +kernel
theorem dX0_prepare_35 : decode cX0_prepare 35 = .ok (.iastore, 1) := by decide +kernel
theorem dX0_prepare_36 : decode cX0_prepare 36 = .ok (.aload_n 0, 1) := by decide +kernel
theorem dX0_prepare_37 : decode cX0_prepare 37 = .ok (.getfield 28, 3) := by decide +kernel
theorem dX0_prepare_40 : decode cX0_prepare 40 = .ok (.iload_n 1, 1) := by decide +kernel
theorem dX0_prepare_41 : decode cX0_prepare 41 = .ok (.iconst 0, 1) := by decide +kernel
theorem dX0_prepare_42 : decode cX0_prepare 42 = .ok (.iastore, 1) := by decide +kernel
theorem dX0_prepare_43 : decode cX0_prepare 43 = .ok (.iconst 0, 1) := by decide +kernel
theorem dX0_prepare_44 : decode cX0_prepare 44 = .ok (.istore_n 2, 1) := by decide +kernel
theorem dX0_prepare_45 : decode cX0_prepare 45 = .ok (.iload_n 2, 1) := by decide +kernel
theorem dX0_prepare_46 : decode cX0_prepare 46 = .ok (.aload_n 0, 1) := by decide +kernel
theorem dX0_prepare_47 : decode cX0_prepare 47 = .ok (.getfield 15, 3) := by decide +kernel
theorem dX0_prepare_50 : decode cX0_prepare 50 = .ok (.if_icmp .ge 68, 3) := by decide +kernel
theorem dX0_prepare_53 : decode cX0_prepare 53 = .ok (.aload_n 0, 1) := by decide +kernel
theorem dX0_prepare_54 : decode cX0_prepare 54 = .ok (.getfield 9, 3) := by decide +kernel
theorem dX0_prepare_57 : decode cX0_prepare 57 = .ok (.iload_n 2, 1) := by decide +kernel
theorem dX0_prepare_58 : decode cX0_prepare 58 = .ok (.iaload, 1) := by decide +kernel
theorem dX0_prepare_59 : decode cX0_prepare 59 = .ok (.istore_n 3, 1) := by decide +kernel
theorem dX0_prepare_60 : decode cX0_prepare 60 = .ok (.aload_n 0, 1) := by decide +kernel
theorem dX0_prepare_61 : decode cX0_prepare 61 = .ok (.getfield 25, 3) := by decide +kernel
theorem dX0_prepare_64 : decode cX0_prepare 64 = .ok (.iload_n 1, 1) := by decide +kernel
theorem dX0_prepare_65 : decode cX0_prepare 65 = .ok (.dup2, 1) := by decide +kernel
theorem dX0_prepare_66 : decode cX0_prepare 66 = .ok (.iaload, 1) := by decide +kernel
theorem dX0_prepare_67 : decode cX0_prepare 67 = .ok (.aload_n 0, 1) := by decide +kernel
theorem dX0_prepare_68 : decode cX0_prepare 68 = .ok (.getfield 19, 3) := by decide +kernel
theorem dX0_prepare_71 : decode cX0_prepare 71 = .ok (.iload_n 3, 1) := by decide +kernel
theorem dX0_prepare_72 : decode cX0_prepare 72 = .ok (.iaload, 1) := by decide +kernel
theorem dX0_prepare_73 : decode cX0_prepare 73 = .ok (.iload_n 1, 1) := by decide +kernel
theorem dX0_prepare_74 : decode cX0_prepare 74 = .ok (.if_icmp .gt 9, 3) := by decide +kernel
theorem dX0_prepare_77 : decode cX0_prepare 77 = .ok (.iconst 1, 1) := by decide +kernel
theorem dX0_prepare_78 : decode cX0_prepare 78 = .ok (.iload_n 3, 1) := by decide +kernel
theorem dX0_prepare_79 : decode cX0_prepare 79 = .ok (.ishl, 1) := by decide +kernel
theorem dX0_prepare_80 : decode cX0_prepare 80 = .ok (.goto 4, 3) := by decide +kernel
theorem dX0_prepare_83 : decode cX0_prepare 83 = .ok (.iconst 0, 1) := by decide +kernel
theorem dX0_prepare_84 : decode cX0_prepare 84 = .ok (.ior, 1) := by decide +kernel
theorem dX0_prepare_85 : decode cX0_prepare 85 = .ok (.iastore, 1) := by decide +kernel
theorem dX0_prepare_86 : decode cX0_prepare 86 = .ok (.aload_n 0, 1) := by decide +kernel
theorem dX0_prepare_87 : decode cX0_prepare 87 = .ok (.getfield 28, 3) := by decide +kernel
theorem dX0_prepare_90 : decode cX0_prepare 90 = .ok (.iload_n 1, 1) := by decide +kernel
theorem dX0_prepare_91 : decode cX0_prepare 91 = .ok (.dup2, 1) := by decide +kernel
theorem dX0_prepare_92 : decode cX0_prepare 92 = .ok (.iaload, 1) := by decide +kernel
theorem dX0_prepare_93 : decode cX0_prepare 93 = .ok (.aload_n 0, 1) := by decide +kernel
theorem dX0_prepare_94 : decode cX0_prepare 94 = .ok (.getfield 22, 3) := by decide +kernel
theorem dX0_prepare_97 : decode cX0_prepare 97 = .ok (.iload_n 3, 1) := by decide +kernel
theorem dX0_prepare_98 : decode cX0_prepare 98 = .ok (.iaload, 1) := by decide +kernel
theorem dX0_prepare_99 : decode cX0_prepare 99 = .ok (.iload_n 1, 1) := by decide +kernel
theorem dX0_prepare_100 : decode cX0_prepare 100 = .ok (.if_icmp .ge 9, 3) := by decide +kernel
theorem dX0_prepare_103 : decode cX0_prepare 103 = .ok (.iconst 1, 1) := by decide +kernel
theorem dX0_prepare_104 : decode cX0_prepare 104 = .ok (.iload_n 3, 1) := by decide +kernel
theorem dX0_prepare_105 : decode cX0_prepare 105 = .ok (.ishl, 1) := by decide +kernel
theorem dX0_prepare_106 : decode cX0_prepare 106 = .ok (.goto 4, 3) := by decide +kernel
theorem dX0_prepare_109 : decode cX0_prepare 109 = .ok (.iconst 0, 1) := by decide +kernel
theorem dX0_prepare_110 : decode cX0_prepare 110 = .ok (.ior, 1) := by decide +kernel
theorem dX0_prepare_111 : decode cX0_prepare 111 = .ok (.iastore, 1) := by decide +kernel
theorem dX0_prepare_112 : decode cX0_prepare 112 = .ok (.iinc 2 1, 3) := by decide +kernel
theorem dX0_prepare_115 : decode cX0_prepare 115 = .ok (.goto (-70), 3) := by decide +kernel
theorem dX0_prepare_118 : decode cX0_prepare 118 = .ok (.iinc 1 1, 3) := by decide +kernel
theorem dX0_prepare_121 : decode cX0_prepare 121 = .ok (.goto (-103), 3) := by decide +kernel
theorem dX0_prepare_124 : decode cX0_prepare 124 = .ok (.aload_n 0, 1) := by decide +kernel
theorem dX0_prepare_125 : decode cX0_prepare 125 = .ok (.invokevirtual 85, 3) := by decide +kernel
theorem dX0_prepare_128 : decode cX0_prepare 128 = .ok (.iconst 1, 1) := by decide +kernel
theorem dX0_prepare_129 : decode cX0_prepare 129 = .ok (.ireturn, 1) := by decide +kernel
theorem dX0_findYearsThatWeigh_0 : decode cX0_findYearsThatWeigh 0 = .ok (.iconst 0, 1) := by decide +kernel
theorem dX0_findYearsThatWeigh_1 : decode cX0_findYearsThatWeigh 1 = .ok (.istore_n 1, 1) := by decide +kernel
theorem dX0_findYearsThatWeigh_2 : decode cX0_findYearsThatWeigh 2 = .ok (.iload_n 1, 1) := by decide +kernel
theorem dX0_findYearsThatWeigh_3 : decode cX0_findYearsThatWeigh 3 = .ok (.aload_n 0, 1) := by decide +kernel
theorem dX0_findYearsThatWeigh_4 : decode cX0_findYearsThatWeigh 4 = .ok (.getfield 50, 3) := by decide +kernel
theorem dX0_findYearsThatWeigh_7 : decode cX0_findYearsThatWeigh 7 = .ok (.getfield 88, 3) := by decide +kernel
theorem dX0_findYearsThatWeigh_10 : decode cX0_findYearsThatWeigh 10 = .ok (.if_icmp .ge 102, 3) := by decide +kernel
theorem dX0_findYearsThatWeigh_13 : decode cX0_findYearsThatWeigh 13 = .ok (.aload_n 0, 1) := by decide +kernel
theorem dX0_findYearsThatWeigh_14 : decode cX0_findYearsThatWeigh 14 = .ok (.getfield 19, 3) := by decide +kernel
theorem dX0_findYearsThatWeigh_17 : decode cX0_findYearsThatWeigh 17 = .ok (.iload_n 1, 1) := by decide +kernel
theorem dX0_findYearsThatWeigh_18 : decode cX0_findYearsThatWeigh 18 = .ok (.bipush 40, 2) := by decide +kernel
theorem dX0_findYearsThatWeigh_20 : decode cX0_findYearsThatWeigh 20 = .ok (.iastore, 1) := by decide +kernel
theorem dX0_findYearsThatWeigh_21 : decode cX0_findYearsThatWeigh 21 = .ok (.aload_n 0, 1) := by decide +kernel
theorem dX0_findYearsThatWeigh_22 : decode cX0_findYearsThatWeigh 22 = .ok (.getfield 22, 3) := by decide +kernel
theorem dX0_findYearsThatWeigh_25 : decode cX0_findYearsThatWeigh 25 = .ok (.iload_n 1, 1) := by decide +kernel
theorem dX0_findYearsThatWeigh_26 : decode cX0_findYearsThatWeigh 26 = .ok (.iconst (-1), 1) := by decide +kernel
theorem dX0_findYearsThatWeigh_27 : decode cX0_findYearsThatWeigh 27 = .ok (.iastore, 1) := by decide +kernel
theorem dX0_findYearsThatWeigh_28 : decode cX0_findYearsThatWeigh 28 = .ok (.iconst 0, 1) := by decide +kernel
theorem dX0_findYearsThatWeigh_29 : decode cX0_findYearsThatWeigh 29 = .ok (.istore_n 2, 1) := by decide +kernel
theorem dX0_findYearsThatWeigh_30 : decode cX0_findYearsThatWeigh 30 = .ok (.iload_n 2, 1) := by decide +kernel
theorem dX0_findYearsThatWeigh_31 : decode cX0_findYearsThatWeigh 31 = .ok (.aload_n 0, 1) := by decide +kernel
theorem dX0_findYearsThatWeigh_32 : decode cX0_findYearsThatWeigh 32 = .ok (.getfield 50, 3) := by decide +kernel
theorem dX0_findYearsThatWeigh_35 : decode cX0_findYearsThatWeigh 35 = .ok (.getfield 64, 3) := by decide +kernel
theorem dX0_findYearsThatWeigh_38 : decode cX0_findYearsThatWeigh 38 = .ok (.if_icmp .ge 46, 3) := by decide +kernel
theorem dX0_findYearsThatWeigh_41 : decode cX0_findYearsThatWeigh 41 = .ok (.aload_n 0, 1) := by decide +kernel
theorem dX0_findYearsThatWeigh_42 : decode cX0_findYearsThatWeigh 42 = .ok (.getfield 50, 3) := by decide +kernel
theorem dX0_findYearsThatWeigh_45 : decode cX0_findYearsThatWeigh 45 = .ok (.iload_n 1, 1) := by decide +kernel
theorem dX0_findYearsThatWeigh_46 : decode cX0_findYearsThatWeigh 46 = .ok (.iload_n 2, 1) := by decide +kernel
theorem dX0_findYearsThatWeigh_47 : decode cX0_findYearsThatWeigh 47 = .ok (.invokevirtual 91, 3) := by decide +kernel
theorem dX0_findYearsThatWeigh_50 : decode cX0_findYearsThatWeigh 50 = .ok (.lconst 0, 1) := by decide +kernel
theorem dX0_findYearsThatWeigh_51 : decode cX0_findYearsThatWeigh 51 = .ok (.lcmp, 1) := by decide +kernel
theorem dX0_findYearsThatWeigh_52 : decode cX0_findYearsThatWeigh 52 = .ok (.ifCond .eq 26, 3) := by decide +kernel
theorem dX0_findYearsThatWeigh_55 : decode cX0_findYearsThatWeigh 55 = .ok (.aload_n 0, 1) := by decide +kernel
theorem dX0_findYearsThatWeigh_56 : decode cX0_findYearsThatWeigh 56 = .ok (.getfield 19, 3) := by decide +kernel
theorem dX0_findYearsThatWeigh_59 : decode cX0_findYearsThatWeigh 59 = .ok (.iload_n 1, 1) := by decide +kernel
theorem dX0_findYearsThatWeigh_60 : decode cX0_findYearsThatWeigh 60 = .ok (.aload_n 0, 1) := by decide +kernel
theorem dX0_findYearsThatWeigh_61 : decode cX0_findYearsThatWeigh 61 = .ok (.getfield 19, 3) := by decide +kernel
theorem dX0_findYearsThatWeigh_64 : decode cX0_findYearsThatWeigh 64 = .ok (.iload_n 1, 1) := by decide +kernel
theorem dX0_findYearsThatWeigh_65 : decode cX0_findYearsThatWeigh 65 = .ok (.iaload, 1) := by decide +kernel
theorem dX0_findYearsThatWeigh_66 : decode cX0_findYearsThatWeigh 66 = .ok (.iload_n 2, 1) := by decide +kernel
theorem dX0_findYearsThatWeigh_67 : decode cX0_findYearsThatWeigh 67 = .ok (.invokestatic 95, 3) := by decide +kernel
theorem dX0_findYearsThatWeigh_70 : decode cX0_findYearsThatWeigh 70 = .ok (.iastore, 1) := by decide +kernel
theorem dX0_findYearsThatWeigh_71 : decode cX0_findYearsThatWeigh 71 = .ok (.aload_n 0, 1) := by decide +kernel
theorem dX0_findYearsThatWeigh_72 : decode cX0_findYearsThatWeigh 72 = .ok (.getfield 22, 3) := by decide +kernel
theorem dX0_findYearsThatWeigh_75 : decode cX0_findYearsThatWeigh 75 = .ok (.iload_n 1, 1) := by decide +kernel
theorem dX0_findYearsThatWeigh_76 : decode cX0_findYearsThatWeigh 76 = .ok (.iload_n 2, 1) := by decide +kernel
theorem dX0_findYearsThatWeigh_77 : decode cX0_findYearsThatWeigh 77 = .ok (.iastore, 1) := by decide +kernel
theorem dX0_findYearsThatWeigh_78 : decode cX0_findYearsThatWeigh 78 = .ok (.iinc 2 1, 3) := by decide +kernel
theorem dX0_findYearsThatWeigh_81 : decode cX0_findYearsThatWeigh 81 = .ok (.goto (-51), 3) := by decide +kernel
theorem dX0_findYearsThatWeigh_84 : decode cX0_findYearsThatWeigh 84 = .ok (.aload_n 0, 1) := by decide +kernel
theorem dX0_findYearsThatWeigh_85 : decode cX0_findYearsThatWeigh 85 = .ok (.getfield 50, 3) := by decide +kernel
theorem dX0_findYearsThatWeigh_88 : decode cX0_findYearsThatWeigh 88 = .ok (.iload_n 1, 1) := by decide +kernel
theorem dX0_findYearsThatWeigh_89 : decode cX0_findYearsThatWeigh 89 = .ok (.invokevirtual 101, 3) := by decide +kernel
theorem dX0_findYearsThatWeigh_92 : decode cX0_findYearsThatWeigh 92 = .ok (.ifCond .eq 14, 3) := by decide +kernel
theorem dX0_findYearsThatWeigh_95 : decode cX0_findYearsThatWeigh 95 = .ok (.aload_n 0, 1) := by decide +kernel
theorem dX0_findYearsThatWeigh_96 : decode cX0_findYearsThatWeigh 96 = .ok (.getfield 22, 3) := by decide +kernel
theorem dX0_findYearsThatWeigh_99 : decode cX0_findYearsThatWeigh 99 = .ok (.iload_n 1, 1) := by decide +kernel
theorem dX0_findYearsThatWeigh_100 : decode cX0_findYearsThatWeigh 100 = .ok (.iaload, 1) := by decide +kernel
theorem dX0_findYearsThatWeigh_101 : decode cX0_findYearsThatWeigh 101 = .ok (.ifCond .ge 5, 3) := by decide +kernel
theorem dX0_findYearsThatWeigh_104 : decode cX0_findYearsThatWeigh 104 = .ok (.iconst 0, 1) := by decide +kernel
theorem dX0_findYearsThatWeigh_105 : decode cX0_findYearsThatWeigh 105 = .ok (.ireturn, 1) := by decide +kernel
theorem dX0_findYearsThatWeigh_106 : decode cX0_findYearsThatWeigh 106 = .ok (.iinc 1 1, 3) := by decide +kernel
theorem dX0_findYearsThatWeigh_109 : decode cX0_findYearsThatWeigh 109 = .ok (.goto (-107), 3) := by decide +kernel
theorem dX0_findYearsThatWeigh_112 : decode cX0_findYearsThatWeigh 112 = .ok (.iconst 1, 1) := by decide +kernel
theorem dX0_findYearsThatWeigh_113 : decode cX0_findYearsThatWeigh 113 = .ok (.ireturn, 1) := by decide +kernel
theorem dX0_rankFinds_0 : decode cX0_rankFinds 0 = .ok (.iconst 0, 1) := by decide +kernel
theorem dX0_rankFinds_1 : decode cX0_rankFinds 1 = .ok (.istore_n 1, 1) := by decide +kernel
theorem dX0_rankFinds_2 : decode cX0_rankFinds 2 = .ok (.aload_n 0, 1) := by decide +kernel
theorem dX0_rankFinds_3 : decode cX0_rankFinds 3 = .ok (.iconst 0, 1) := by decide +kernel
theorem dX0_rankFinds_4 : decode cX0_rankFinds 4 = .ok (.putfield 15, 3) := by decide +kernel
theorem dX0_rankFinds_7 : decode cX0_rankFinds 7 = .ok (.iconst 0, 1) := by decide +kernel
theorem dX0_rankFinds_8 : decode cX0_rankFinds 8 = .ok (.istore_n 2, 1) := by decide +kernel
theorem dX0_rankFinds_9 : decode cX0_rankFinds 9 = .ok (.iload_n 2, 1) := by decide +kernel
theorem dX0_rankFinds_10 : decode cX0_rankFinds 10 = .ok (.bipush 7, 2) := by decide +kernel
theorem dX0_rankFinds_12 : decode cX0_rankFinds 12 = .ok (.if_icmp .ge 131, 3) := by decide +kernel
theorem dX0_rankFinds_15 : decode cX0_rankFinds 15 = .ok (.iload_n 1, 1) := by decide +kernel
theorem dX0_rankFinds_16 : decode cX0_rankFinds 16 = .ok (.aload_n 0, 1) := by decide +kernel
theorem dX0_rankFinds_17 : decode cX0_rankFinds 17 = .ok (.getfield 50, 3) := by decide +kernel
theorem dX0_rankFinds_20 : decode cX0_rankFinds 20 = .ok (.getfield 73, 3) := by decide +kernel
theorem dX0_rankFinds_23 : decode cX0_rankFinds 23 = .ok (.if_icmp .eq 120, 3) := by decide +kernel
theorem dX0_rankFinds_26 : decode cX0_rankFinds 26 = .ok (.iload_n 1, 1) := by decide +kernel
theorem dX0_rankFinds_27 : decode cX0_rankFinds 27 = .ok (.istore_n 3, 1) := by decide +kernel
theorem dX0_rankFinds_28 : decode cX0_rankFinds 28 = .ok (.iconst 0, 1) := by decide +kernel
theorem dX0_rankFinds_29 : decode cX0_rankFinds 29 = .ok (.istore 4, 2) := by decide +kernel
theorem dX0_rankFinds_31 : decode cX0_rankFinds 31 = .ok (.iload 4, 2) := by decide +kernel
theorem dX0_rankFinds_33 : decode cX0_rankFinds 33 = .ok (.aload_n 0, 1) := by decide +kernel
theorem dX0_rankFinds_34 : decode cX0_rankFinds 34 = .ok (.getfield 50, 3) := by decide +kernel
theorem dX0_rankFinds_37 : decode cX0_rankFinds 37 = .ok (.getfield 88, 3) := by decide +kernel
theorem dX0_rankFinds_40 : decode cX0_rankFinds 40 = .ok (.if_icmp .ge 90, 3) := by decide +kernel
theorem dX0_rankFinds_43 : decode cX0_rankFinds 43 = .ok (.aload_n 0, 1) := by decide +kernel
theorem dX0_rankFinds_44 : decode cX0_rankFinds 44 = .ok (.getfield 50, 3) := by decide +kernel
theorem dX0_rankFinds_47 : decode cX0_rankFinds 47 = .ok (.iload 4, 2) := by decide +kernel
theorem dX0_rankFinds_49 : decode cX0_rankFinds 49 = .ok (.invokevirtual 101, 3) := by decide +kernel
theorem dX0_rankFinds_52 : decode cX0_rankFinds 52 = .ok (.ifCond .eq 16, 3) := by decide +kernel
theorem dX0_rankFinds_55 : decode cX0_rankFinds 55 = .ok (.iload_n 1, 1) := by decide +kernel
theorem dX0_rankFinds_56 : decode cX0_rankFinds 56 = .ok (.iload 4, 2) := by decide +kernel
theorem dX0_rankFinds_58 : decode cX0_rankFinds 58 = .ok (.ishr, 1) := by decide +kernel
theorem dX0_rankFinds_59 : decode cX0_rankFinds 59 = .ok (.iconst 1, 1) := by decide +kernel
theorem dX0_rankFinds_60 : decode cX0_rankFinds 60 = .ok (.iand, 1) := by decide +kernel
theorem dX0_rankFinds_61 : decode cX0_rankFinds 61 = .ok (.ifCond .ne 7, 3) := by decide +kernel
theorem dX0_rankFinds_64 : decode cX0_rankFinds 64 = .ok (.iconst 1, 1) := by decide +kernel
theorem dX0_rankFinds_65 : decode cX0_rankFinds 65 = .ok (.goto 4, 3) := by decide +kernel
theorem dX0_rankFinds_68 : decode cX0_rankFinds 68 = .ok (.iconst 0, 1) := by decide +kernel
theorem dX0_rankFinds_69 : decode cX0_rankFinds 69 = .ok (.istore 5, 2) := by decide +kernel
theorem dX0_rankFinds_71 : decode cX0_rankFinds 71 = .ok (.iload 5, 2) := by decide +kernel
theorem dX0_rankFinds_73 : decode cX0_rankFinds 73 = .ok (.ifCond .eq 51, 3) := by decide +kernel
theorem dX0_rankFinds_76 : decode cX0_rankFinds 76 = .ok (.aload_n 0, 1) := by decide +kernel
theorem dX0_rankFinds_77 : decode cX0_rankFinds 77 = .ok (.getfield 50, 3) := by decide +kernel
theorem dX0_rankFinds_80 : decode cX0_rankFinds 80 = .ok (.getfield 105, 3) := by decide +kernel
theorem dX0_rankFinds_83 : decode cX0_rankFinds 83 = .ok (.getfield 109, 3) := by decide +kernel
theorem dX0_rankFinds_86 : decode cX0_rankFinds 86 = .ok (.iload 4, 2) := by decide +kernel
theorem dX0_rankFinds_88 : decode cX0_rankFinds 88 = .ok (.iaload, 1) := by decide +kernel
theorem dX0_rankFinds_89 : decode cX0_rankFinds 89 = .ok (.iload_n 1, 1) := by decide +kernel
theorem dX0_rankFinds_90 : decode cX0_rankFinds 90 = .ok (.iconst (-1), 1) := by decide +kernel
theorem dX0_rankFinds_91 : decode cX0_rankFinds 91 = .ok (.ixor, 1) := by decide +kernel
theorem dX0_rankFinds_92 : decode cX0_rankFinds 92 = .ok (.iand, 1) := by decide +kernel
theorem dX0_rankFinds_93 : decode cX0_rankFinds 93 = .ok (.ifCond .ne 31, 3) := by decide +kernel
theorem dX0_rankFinds_96 : decode cX0_rankFinds 96 = .ok (.aload_n 0, 1) := by decide +kernel
theorem dX0_rankFinds_97 : decode cX0_rankFinds 97 = .ok (.getfield 9, 3) := by decide +kernel
theorem dX0_rankFinds_100 : decode cX0_rankFinds 100 = .ok (.aload_n 0, 1) := by decide +kernel
theorem dX0_rankFinds_101 : decode cX0_rankFinds 101 = .ok (.getfield 15, 3) := by decide +kernel
theorem dX0_rankFinds_104 : decode cX0_rankFinds 104 = .ok (.iload 4, 2) := by decide +kernel
theorem dX0_rankFinds_106 : decode cX0_rankFinds 106 = .ok (.iastore, 1) := by decide +kernel
theorem dX0_rankFinds_107 : decode cX0_rankFinds 107 = .ok (.aload_n 0, 1) := by decide +kernel
theorem dX0_rankFinds_108 : decode cX0_rankFinds 108 = .ok (.dup, 1) := by decide +kernel
theorem dX0_rankFinds_109 : decode cX0_rankFinds 109 = .ok (.getfield 15, 3) := by decide +kernel
theorem dX0_rankFinds_112 : decode cX0_rankFinds 112 = .ok (.iconst 1, 1) := by decide +kernel
theorem dX0_rankFinds_113 : decode cX0_rankFinds 113 = .ok (.iadd, 1) := by decide +kernel
theorem dX0_rankFinds_114 : decode cX0_rankFinds 114 = .ok (.putfield 15, 3) := by decide +kernel
theorem dX0_rankFinds_117 : decode cX0_rankFinds 117 = .ok (.iload_n 1, 1) := by decide +kernel
theorem dX0_rankFinds_118 : decode cX0_rankFinds 118 = .ok (.iconst 1, 1) := by decide +kernel
theorem dX0_rankFinds_119 : decode cX0_rankFinds 119 = .ok (.iload 4, 2) := by decide +kernel
theorem dX0_rankFinds_121 : decode cX0_rankFinds 121 = .ok (.ishl, 1) := by decide +kernel
theorem dX0_rankFinds_122 : decode cX0_rankFinds 122 = .ok (.ior, 1) := by decide +kernel
theorem dX0_rankFinds_123 : decode cX0_rankFinds 123 = .ok (.istore_n 1, 1) := by decide +kernel
theorem dX0_rankFinds_124 : decode cX0_rankFinds 124 = .ok (.iinc 4 1, 3) := by decide +kernel
theorem dX0_rankFinds_127 : decode cX0_rankFinds 127 = .ok (.goto (-96), 3) := by decide +kernel
theorem dX0_rankFinds_130 : decode cX0_rankFinds 130 = .ok (.iload_n 1, 1) := by decide +kernel
theorem dX0_rankFinds_131 : decode cX0_rankFinds 131 = .ok (.iload_n 3, 1) := by decide +kernel
theorem dX0_rankFinds_132 : decode cX0_rankFinds 132 = .ok (.if_icmp .ne 5, 3) := by decide +kernel
theorem dX0_rankFinds_135 : decode cX0_rankFinds 135 = .ok (.iconst 0, 1) := by decide +kernel
theorem dX0_rankFinds_136 : decode cX0_rankFinds 136 = .ok (.ireturn, 1) := by decide +kernel
theorem dX0_rankFinds_137 : decode cX0_rankFinds 137 = .ok (.iinc 2 1, 3) := by decide +kernel
theorem dX0_rankFinds_140 : decode cX0_rankFinds 140 = .ok (.goto (-131), 3) := by decide +kernel
theorem dX0_rankFinds_143 : decode cX0_rankFinds 143 = .ok (.iload_n 1, 1) := by decide +kernel
theorem dX0_rankFinds_144 : decode cX0_rankFinds 144 = .ok (.aload_n 0, 1) := by decide +kernel
theorem dX0_rankFinds_145 : decode cX0_rankFinds 145 = .ok (.getfield 50, 3) := by decide +kernel
theorem dX0_rankFinds_148 : decode cX0_rankFinds 148 = .ok (.getfield 73, 3) := by decide +kernel
theorem dX0_rankFinds_151 : decode cX0_rankFinds 151 = .ok (.if_icmp .ne 7, 3) := by decide +kernel
theorem dX0_rankFinds_154 : decode cX0_rankFinds 154 = .ok (.iconst 1, 1) := by decide +kernel
theorem dX0_rankFinds_155 : decode cX0_rankFinds 155 = .ok (.goto 4, 3) := by decide +kernel
theorem dX0_rankFinds_158 : decode cX0_rankFinds 158 = .ok (.iconst 0, 1) := by decide +kernel
theorem dX0_rankFinds_159 : decode cX0_rankFinds 159 = .ok (.ireturn, 1) := by decide +kernel
theorem dX0_listOpenSets_0 : decode cX0_listOpenSets 0 = .ok (.aload_n 0, 1) := by decide +kernel
theorem dX0_listOpenSets_1 : decode cX0_listOpenSets 1 = .ok (.iconst 0, 1) := by decide +kernel
theorem dX0_listOpenSets_2 : decode cX0_listOpenSets 2 = .ok (.putfield 34, 3) := by decide +kernel
theorem dX0_listOpenSets_5 : decode cX0_listOpenSets 5 = .ok (.iconst 0, 1) := by decide +kernel
theorem dX0_listOpenSets_6 : decode cX0_listOpenSets 6 = .ok (.istore_n 1, 1) := by decide +kernel
theorem dX0_listOpenSets_7 : decode cX0_listOpenSets 7 = .ok (.iload_n 1, 1) := by decide +kernel
theorem dX0_listOpenSets_8 : decode cX0_listOpenSets 8 = .ok (.aload_n 0, 1) := by decide +kernel
theorem dX0_listOpenSets_9 : decode cX0_listOpenSets 9 = .ok (.getfield 50, 3) := by decide +kernel
theorem dX0_listOpenSets_12 : decode cX0_listOpenSets 12 = .ok (.getfield 73, 3) := by decide +kernel
theorem dX0_listOpenSets_15 : decode cX0_listOpenSets 15 = .ok (.if_icmp .gt 92, 3) := by decide +kernel
theorem dX0_listOpenSets_18 : decode cX0_listOpenSets 18 = .ok (.iconst 0, 1) := by decide +kernel
theorem dX0_listOpenSets_19 : decode cX0_listOpenSets 19 = .ok (.istore_n 2, 1) := by decide +kernel
theorem dX0_listOpenSets_20 : decode cX0_listOpenSets 20 = .ok (.iconst 0, 1) := by decide +kernel
theorem dX0_listOpenSets_21 : decode cX0_listOpenSets 21 = .ok (.istore_n 3, 1) := by decide +kernel
theorem dX0_listOpenSets_22 : decode cX0_listOpenSets 22 = .ok (.iload_n 3, 1) := by decide +kernel
theorem dX0_listOpenSets_23 : decode cX0_listOpenSets 23 = .ok (.aload_n 0, 1) := by decide +kernel
theorem dX0_listOpenSets_24 : decode cX0_listOpenSets 24 = .ok (.getfield 15, 3) := by decide +kernel
theorem dX0_listOpenSets_27 : decode cX0_listOpenSets 27 = .ok (.if_icmp .ge 46, 3) := by decide +kernel
theorem dX0_listOpenSets_30 : decode cX0_listOpenSets 30 = .ok (.aload_n 0, 1) := by decide +kernel
theorem dX0_listOpenSets_31 : decode cX0_listOpenSets 31 = .ok (.getfield 9, 3) := by decide +kernel
theorem dX0_listOpenSets_34 : decode cX0_listOpenSets 34 = .ok (.iload_n 3, 1) := by decide +kernel
theorem dX0_listOpenSets_35 : decode cX0_listOpenSets 35 = .ok (.iaload, 1) := by decide +kernel
theorem dX0_listOpenSets_36 : decode cX0_listOpenSets 36 = .ok (.istore 4, 2) := by decide +kernel
theorem dX0_listOpenSets_38 : decode cX0_listOpenSets 38 = .ok (.iload_n 2, 1) := by decide +kernel
theorem dX0_listOpenSets_39 : decode cX0_listOpenSets 39 = .ok (.iload_n 1, 1) := by decide +kernel
theorem dX0_listOpenSets_40 : decode cX0_listOpenSets 40 = .ok (.iload 4, 2) := by decide +kernel
theorem dX0_listOpenSets_42 : decode cX0_listOpenSets 42 = .ok (.ishr, 1) := by decide +kernel
theorem dX0_listOpenSets_43 : decode cX0_listOpenSets 43 = .ok (.iconst 1, 1) := by decide +kernel
theorem dX0_listOpenSets_44 : decode cX0_listOpenSets 44 = .ok (.iand, 1) := by decide +kernel
theorem dX0_listOpenSets_45 : decode cX0_listOpenSets 45 = .ok (.ifCond .eq 19, 3) := by decide +kernel
theorem dX0_listOpenSets_48 : decode cX0_listOpenSets 48 = .ok (.aload_n 0, 1) := by decide +kernel
theorem dX0_listOpenSets_49 : decode cX0_listOpenSets 49 = .ok (.getfield 50, 3) := by decide +kernel
theorem dX0_listOpenSets_52 : decode cX0_listOpenSets 52 = .ok (.getfield 105, 3) := by decide +kernel
theorem dX0_listOpenSets_55 : decode cX0_listOpenSets 55 = .ok (.getfield 114, 3) := by decide +kernel
theorem dX0_listOpenSets_58 : decode cX0_listOpenSets 58 = .ok (.iload 4, 2) := by decide +kernel
theorem dX0_listOpenSets_60 : decode cX0_listOpenSets 60 = .ok (.iaload, 1) := by decide +kernel
theorem dX0_listOpenSets_61 : decode cX0_listOpenSets 61 = .ok (.goto 4, 3) := by decide +kernel
theorem dX0_listOpenSets_64 : decode cX0_listOpenSets 64 = .ok (.iconst 0, 1) := by decide +kernel
theorem dX0_listOpenSets_65 : decode cX0_listOpenSets 65 = .ok (.ior, 1) := by decide +kernel
theorem dX0_listOpenSets_66 : decode cX0_listOpenSets 66 = .ok (.istore_n 2, 1) := by decide +kernel
theorem dX0_listOpenSets_67 : decode cX0_listOpenSets 67 = .ok (.iinc 3 1, 3) := by decide +kernel
theorem dX0_listOpenSets_70 : decode cX0_listOpenSets 70 = .ok (.goto (-48), 3) := by decide +kernel
theorem dX0_listOpenSets_73 : decode cX0_listOpenSets 73 = .ok (.iload_n 2, 1) := by decide +kernel
theorem dX0_listOpenSets_74 : decode cX0_listOpenSets 74 = .ok (.iload_n 1, 1) := by decide +kernel
theorem dX0_listOpenSets_75 : decode cX0_listOpenSets 75 = .ok (.iconst (-1), 1) := by decide +kernel
theorem dX0_listOpenSets_76 : decode cX0_listOpenSets 76 = .ok (.ixor, 1) := by decide +kernel
theorem dX0_listOpenSets_77 : decode cX0_listOpenSets 77 = .ok (.iand, 1) := by decide +kernel
theorem dX0_listOpenSets_78 : decode cX0_listOpenSets 78 = .ok (.ifCond .eq 23, 3) := by decide +kernel
theorem dX0_listOpenSets_81 : decode cX0_listOpenSets 81 = .ok (.aload_n 0, 1) := by decide +kernel
theorem dX0_listOpenSets_82 : decode cX0_listOpenSets 82 = .ok (.getfield 31, 3) := by decide +kernel
theorem dX0_listOpenSets_85 : decode cX0_listOpenSets 85 = .ok (.aload_n 0, 1) := by decide +kernel
theorem dX0_listOpenSets_86 : decode cX0_listOpenSets 86 = .ok (.getfield 34, 3) := by decide +kernel
theorem dX0_listOpenSets_89 : decode cX0_listOpenSets 89 = .ok (.iload_n 1, 1) := by decide +kernel
theorem dX0_listOpenSets_90 : decode cX0_listOpenSets 90 = .ok (.iastore, 1) := by decide +kernel
theorem dX0_listOpenSets_91 : decode cX0_listOpenSets 91 = .ok (.aload_n 0, 1) := by decide +kernel
theorem dX0_listOpenSets_92 : decode cX0_listOpenSets 92 = .ok (.dup, 1) := by decide +kernel
theorem dX0_listOpenSets_93 : decode cX0_listOpenSets 93 = .ok (.getfield 34, 3) := by decide +kernel
theorem dX0_listOpenSets_96 : decode cX0_listOpenSets 96 = .ok (.iconst 1, 1) := by decide +kernel
theorem dX0_listOpenSets_97 : decode cX0_listOpenSets 97 = .ok (.iadd, 1) := by decide +kernel
theorem dX0_listOpenSets_98 : decode cX0_listOpenSets 98 = .ok (.putfield 34, 3) := by decide +kernel
theorem dX0_listOpenSets_101 : decode cX0_listOpenSets 101 = .ok (.iinc 1 1, 3) := by decide +kernel
theorem dX0_listOpenSets_104 : decode cX0_listOpenSets 104 = .ok (.goto (-97), 3) := by decide +kernel
theorem dX0_listOpenSets_107 : decode cX0_listOpenSets 107 = .ok (.return_, 1) := by decide +kernel
theorem dX0_goForward_0 : decode cX0_goForward 0 = .ok (.aload_n 0, 1) := by decide +kernel
theorem dX0_goForward_1 : decode cX0_goForward 1 = .ok (.getfield 15, 3) := by decide +kernel
theorem dX0_goForward_4 : decode cX0_goForward 4 = .ok (.iconst 1, 1) := by decide +kernel
theorem dX0_goForward_5 : decode cX0_goForward 5 = .ok (.isub, 1) := by decide +kernel
theorem dX0_goForward_6 : decode cX0_goForward 6 = .ok (.istore_n 3, 1) := by decide +kernel
theorem dX0_goForward_7 : decode cX0_goForward 7 = .ok (.iload_n 3, 1) := by decide +kernel
theorem dX0_goForward_8 : decode cX0_goForward 8 = .ok (.ifCond .lt 68, 3) := by decide +kernel
theorem dX0_goForward_11 : decode cX0_goForward 11 = .ok (.aload_n 0, 1) := by decide +kernel
theorem dX0_goForward_12 : decode cX0_goForward 12 = .ok (.getfield 9, 3) := by decide +kernel
theorem dX0_goForward_15 : decode cX0_goForward 15 = .ok (.iload_n 3, 1) := by decide +kernel
theorem dX0_goForward_16 : decode cX0_goForward 16 = .ok (.iaload, 1) := by decide +kernel
theorem dX0_goForward_17 : decode cX0_goForward 17 = .ok (.istore 4, 2) := by decide +kernel
theorem dX0_goForward_19 : decode cX0_goForward 19 = .ok (.aload_n 0, 1) := by decide +kernel
theorem dX0_goForward_20 : decode cX0_goForward 20 = .ok (.getfield 50, 3) := by decide +kernel
theorem dX0_goForward_23 : decode cX0_goForward 23 = .ok (.iload 4, 2) := by decide +kernel
theorem dX0_goForward_25 : decode cX0_goForward 25 = .ok (.iload_n 1, 1) := by decide +kernel
theorem dX0_goForward_26 : decode cX0_goForward 26 = .ok (.invokevirtual 91, 3) := by decide +kernel
theorem dX0_goForward_29 : decode cX0_goForward 29 = .ok (.lconst 0, 1) := by decide +kernel
theorem dX0_goForward_30 : decode cX0_goForward 30 = .ok (.lcmp, 1) := by decide +kernel
theorem dX0_goForward_31 : decode cX0_goForward 31 = .ok (.ifCond .ne 6, 3) := by decide +kernel
theorem dX0_goForward_34 : decode cX0_goForward 34 = .ok (.goto 36, 3) := by decide +kernel
theorem dX0_goForward_37 : decode cX0_goForward 37 = .ok (.iload 4, 2) := by decide +kernel
theorem dX0_goForward_39 : decode cX0_goForward 39 = .ok (.iload_n 2, 1) := by decide +kernel
theorem dX0_goForward_40 : decode cX0_goForward 40 = .ok (.if_icmp .ne 23, 3) := by decide +kernel
theorem dX0_goForward_43 : decode cX0_goForward 43 = .ok (.aload_n 0, 1) := by decide +kernel
theorem dX0_goForward_44 : decode cX0_goForward 44 = .ok (.getfield 37, 3) := by decide +kernel
theorem dX0_goForward_47 : decode cX0_goForward 47 = .ok (.iconst 0, 1) := by decide +kernel
theorem dX0_goForward_48 : decode cX0_goForward 48 = .ok (.aload_n 0, 1) := by decide +kernel
theorem dX0_goForward_49 : decode cX0_goForward 49 = .ok (.getfield 44, 3) := by decide +kernel
theorem dX0_goForward_52 : decode cX0_goForward 52 = .ok (.iload_n 1, 1) := by decide +kernel
theorem dX0_goForward_53 : decode cX0_goForward 53 = .ok (.sipush 128, 3) := by decide +kernel
theorem dX0_goForward_56 : decode cX0_goForward 56 = .ok (.imul, 1) := by decide +kernel
theorem dX0_goForward_57 : decode cX0_goForward 57 = .ok (.sipush 128, 3) := by decide +kernel
theorem dX0_goForward_60 : decode cX0_goForward 60 = .ok (.invokestatic 117, 3) := by decide +kernel
theorem dX0_goForward_63 : decode cX0_goForward 63 = .ok (.aload_n 0, 1) := by decide +kernel
theorem dX0_goForward_64 : decode cX0_goForward 64 = .ok (.iload 4, 2) := by decide +kernel
theorem dX0_goForward_66 : decode cX0_goForward 66 = .ok (.iload_n 1, 1) := by decide +kernel
theorem dX0_goForward_67 : decode cX0_goForward 67 = .ok (.invokevirtual 123, 3) := by decide +kernel
theorem dX0_goForward_70 : decode cX0_goForward 70 = .ok (.iinc 3 (-1), 3) := by decide +kernel
theorem dX0_goForward_73 : decode cX0_goForward 73 = .ok (.goto (-66), 3) := by decide +kernel
theorem dX0_goForward_76 : decode cX0_goForward 76 = .ok (.aload_n 0, 1) := by decide +kernel
theorem dX0_goForward_77 : decode cX0_goForward 77 = .ok (.aload_n 0, 1) := by decide +kernel
theorem dX0_goForward_78 : decode cX0_goForward 78 = .ok (.getfield 37, 3) := by decide +kernel
theorem dX0_goForward_81 : decode cX0_goForward 81 = .ok (.invokevirtual 126, 3) := by decide +kernel
theorem dX0_goForward_84 : decode cX0_goForward 84 = .ok (.return_, 1) := by decide +kernel
theorem dX0_goBackward_0 : decode cX0_goBackward 0 = .ok (.aload_n 0, 1) := by decide +kernel
theorem dX0_goBackward_1 : decode cX0_goBackward 1 = .ok (.aload_n 0, 1) := by decide +kernel
theorem dX0_goBackward_2 : decode cX0_goBackward 2 = .ok (.getfield 41, 3) := by decide +kernel
theorem dX0_goBackward_5 : decode cX0_goBackward 5 = .ok (.invokevirtual 126, 3) := by decide +kernel
theorem dX0_goBackward_8 : decode cX0_goBackward 8 = .ok (.iconst 0, 1) := by decide +kernel
theorem dX0_goBackward_9 : decode cX0_goBackward 9 = .ok (.istore_n 3, 1) := by decide +kernel
theorem dX0_goBackward_10 : decode cX0_goBackward 10 = .ok (.iload_n 3, 1) := by decide +kernel
theorem dX0_goBackward_11 : decode cX0_goBackward 11 = .ok (.aload_n 0, 1) := by decide +kernel
theorem dX0_goBackward_12 : decode cX0_goBackward 12 = .ok (.getfield 15, 3) := by decide +kernel
theorem dX0_goBackward_15 : decode cX0_goBackward 15 = .ok (.if_icmp .ge 61, 3) := by decide +kernel
theorem dX0_goBackward_18 : decode cX0_goBackward 18 = .ok (.aload_n 0, 1) := by decide +kernel
theorem dX0_goBackward_19 : decode cX0_goBackward 19 = .ok (.getfield 9, 3) := by decide +kernel
theorem dX0_goBackward_22 : decode cX0_goBackward 22 = .ok (.iload_n 3, 1) := by decide +kernel
theorem dX0_goBackward_23 : decode cX0_goBackward 23 = .ok (.iaload, 1) := by decide +kernel
theorem dX0_goBackward_24 : decode cX0_goBackward 24 = .ok (.istore 4, 2) := by decide +kernel
theorem dX0_goBackward_26 : decode cX0_goBackward 26 = .ok (.aload_n 0, 1) := by decide +kernel
theorem dX0_goBackward_27 : decode cX0_goBackward 27 = .ok (.getfield 50, 3) := by decide +kernel
theorem dX0_goBackward_30 : decode cX0_goBackward 30 = .ok (.iload 4, 2) := by decide +kernel
theorem dX0_goBackward_32 : decode cX0_goBackward 32 = .ok (.iload_n 1, 1) := by decide +kernel
theorem dX0_goBackward_33 : decode cX0_goBackward 33 = .ok (.invokevirtual 91, 3) := by decide +kernel
theorem dX0_goBackward_36 : decode cX0_goBackward 36 = .ok (.lconst 0, 1) := by decide +kernel
theorem dX0_goBackward_37 : decode cX0_goBackward 37 = .ok (.lcmp, 1) := by decide +kernel
theorem dX0_goBackward_38 : decode cX0_goBackward 38 = .ok (.ifCond .ne 6, 3) := by decide +kernel
theorem dX0_goBackward_41 : decode cX0_goBackward 41 = .ok (.goto 29, 3) := by decide +kernel
theorem dX0_goBackward_44 : decode cX0_goBackward 44 = .ok (.iload 4, 2) := by decide +kernel
theorem dX0_goBackward_46 : decode cX0_goBackward 46 = .ok (.iload_n 2, 1) := by decide +kernel
theorem dX0_goBackward_47 : decode cX0_goBackward 47 = .ok (.if_icmp .ne 16, 3) := by decide +kernel
theorem dX0_goBackward_50 : decode cX0_goBackward 50 = .ok (.aload_n 0, 1) := by decide +kernel
theorem dX0_goBackward_51 : decode cX0_goBackward 51 = .ok (.getfield 47, 3) := by decide +kernel
theorem dX0_goBackward_54 : decode cX0_goBackward 54 = .ok (.iload_n 1, 1) := by decide +kernel
theorem dX0_goBackward_55 : decode cX0_goBackward 55 = .ok (.aload_n 0, 1) := by decide +kernel
theorem dX0_goBackward_56 : decode cX0_goBackward 56 = .ok (.iload 4, 2) := by decide +kernel
theorem dX0_goBackward_58 : decode cX0_goBackward 58 = .ok (.iload_n 1, 1) := by decide +kernel
theorem dX0_goBackward_59 : decode cX0_goBackward 59 = .ok (.invokevirtual 130, 3) := by decide +kernel
theorem dX0_goBackward_62 : decode cX0_goBackward 62 = .ok (.lastore, 1) := by decide +kernel
theorem dX0_goBackward_63 : decode cX0_goBackward 63 = .ok (.aload_n 0, 1) := by decide +kernel
theorem dX0_goBackward_64 : decode cX0_goBackward 64 = .ok (.iload 4, 2) := by decide +kernel
theorem dX0_goBackward_66 : decode cX0_goBackward 66 = .ok (.iload_n 1, 1) := by decide +kernel
theorem dX0_goBackward_67 : decode cX0_goBackward 67 = .ok (.invokevirtual 133, 3) := by decide +kernel
theorem dX0_goBackward_70 : decode cX0_goBackward 70 = .ok (.iinc 3 1, 3) := by decide +kernel
theorem dX0_goBackward_73 : decode cX0_goBackward 73 = .ok (.goto (-63), 3) := by decide +kernel
theorem dX0_goBackward_76 : decode cX0_goBackward 76 = .ok (.return_, 1) := by decide +kernel
theorem dX0_clearOpenSets_0 : decode cX0_clearOpenSets 0 = .ok (.iconst 0, 1) := by decide +kernel
theorem dX0_clearOpenSets_1 : decode cX0_clearOpenSets 1 = .ok (.istore_n 2, 1) := by decide +kernel
theorem dX0_clearOpenSets_2 : decode cX0_clearOpenSets 2 = .ok (.iload_n 2, 1) := by decide +kernel
theorem dX0_clearOpenSets_3 : decode cX0_clearOpenSets 3 = .ok (.aload_n 0, 1) := by decide +kernel
theorem dX0_clearOpenSets_4 : decode cX0_clearOpenSets 4 = .ok (.getfield 34, 3) := by decide +kernel
theorem dX0_clearOpenSets_7 : decode cX0_clearOpenSets 7 = .ok (.if_icmp .ge 18, 3) := by decide +kernel
theorem dX0_clearOpenSets_10 : decode cX0_clearOpenSets 10 = .ok (.aload_n 1, 1) := by decide +kernel
theorem dX0_clearOpenSets_11 : decode cX0_clearOpenSets 11 = .ok (.aload_n 0, 1) := by decide +kernel
theorem dX0_clearOpenSets_12 : decode cX0_clearOpenSets 12 = .ok (.getfield 31, 3) := by decide +kernel
theorem dX0_clearOpenSets_15 : decode cX0_clearOpenSets 15 = .ok (.iload_n 2, 1) := by decide +kernel
theorem dX0_clearOpenSets_16 : decode cX0_clearOpenSets 16 = .ok (.iaload, 1) := by decide +kernel
theorem dX0_clearOpenSets_17 : decode cX0_clearOpenSets 17 = .ok (.lconst 0, 1) := by decide +kernel
theorem dX0_clearOpenSets_18 : decode cX0_clearOpenSets 18 = .ok (.lastore, 1) := by decide +kernel
theorem dX0_clearOpenSets_19 : decode cX0_clearOpenSets 19 = .ok (.iinc 2 1, 3) := by decide +kernel
theorem dX0_clearOpenSets_22 : decode cX0_clearOpenSets 22 = .ok (.goto (-20), 3) := by decide +kernel
theorem dX0_clearOpenSets_25 : decode cX0_clearOpenSets 25 = .ok (.return_, 1) := by decide +kernel
theorem dX0_leastBefore_0 : decode cX0_leastBefore 0 = .ok (.aload_n 0, 1) := by decide +kernel
theorem dX0_leastBefore_1 : decode cX0_leastBefore 1 = .ok (.getfield 28, 3) := by decide +kernel
theorem dX0_leastBefore_4 : decode cX0_leastBefore 4 = .ok (.iload_n 2, 1) := by decide +kernel
theorem dX0_leastBefore_5 : decode cX0_leastBefore 5 = .ok (.iaload, 1) := by decide +kernel
theorem dX0_leastBefore_6 : decode cX0_leastBefore 6 = .ok (.aload_n 0, 1) := by decide +kernel
theorem dX0_leastBefore_7 : decode cX0_leastBefore 7 = .ok (.getfield 50, 3) := by decide +kernel
theorem dX0_leastBefore_10 : decode cX0_leastBefore 10 = .ok (.getfield 105, 3) := by decide +kernel
theorem dX0_leastBefore_13 : decode cX0_leastBefore 13 = .ok (.getfield 109, 3) := by decide +kernel
theorem dX0_leastBefore_16 : decode cX0_leastBefore 16 = .ok (.iload_n 1, 1) := by decide +kernel
theorem dX0_leastBefore_17 : decode cX0_leastBefore 17 = .ok (.iaload, 1) := by decide +kernel
theorem dX0_leastBefore_18 : decode cX0_leastBefore 18 = .ok (.ior, 1) := by decide +kernel
theorem dX0_leastBefore_19 : decode cX0_leastBefore 19 = .ok (.ireturn, 1) := by decide +kernel
theorem dX0_place_0 : decode cX0_place 0 = .ok (.aload_n 0, 1) := by decide +kernel
theorem dX0_place_1 : decode cX0_place 1 = .ok (.iload_n 1, 1) := by decide +kernel
theorem dX0_place_2 : decode cX0_place 2 = .ok (.iload_n 2, 1) := by decide +kernel
theorem dX0_place_3 : decode cX0_place 3 = .ok (.invokevirtual 136, 3) := by decide +kernel
theorem dX0_place_6 : decode cX0_place 6 = .ok (.istore_n 3, 1) := by decide +kernel
theorem dX0_place_7 : decode cX0_place 7 = .ok (.aload_n 0, 1) := by decide +kernel
theorem dX0_place_8 : decode cX0_place 8 = .ok (.getfield 25, 3) := by decide +kernel
theorem dX0_place_11 : decode cX0_place 11 = .ok (.iload_n 2, 1) := by decide +kernel
theorem dX0_place_12 : decode cX0_place 12 = .ok (.iaload, 1) := by decide +kernel
theorem dX0_place_13 : decode cX0_place 13 = .ok (.iload_n 3, 1) := by decide +kernel
theorem dX0_place_14 : decode cX0_place 14 = .ok (.iconst (-1), 1) := by decide +kernel
theorem dX0_place_15 : decode cX0_place 15 = .ok (.ixor, 1) := by decide +kernel
theorem dX0_place_16 : decode cX0_place 16 = .ok (.iand, 1) := by decide +kernel
theorem dX0_place_17 : decode cX0_place 17 = .ok (.iconst 1, 1) := by decide +kernel
theorem dX0_place_18 : decode cX0_place 18 = .ok (.iload_n 1, 1) := by decide +kernel
theorem dX0_place_19 : decode cX0_place 19 = .ok (.ishl, 1) := by decide +kernel
theorem dX0_place_20 : decode cX0_place 20 = .ok (.iconst (-1), 1) := by decide +kernel
theorem dX0_place_21 : decode cX0_place 21 = .ok (.ixor, 1) := by decide +kernel
theorem dX0_place_22 : decode cX0_place 22 = .ok (.iand, 1) := by decide +kernel
theorem dX0_place_23 : decode cX0_place 23 = .ok (.istore 4, 2) := by decide +kernel
theorem dX0_place_25 : decode cX0_place 25 = .ok (.aload_n 0, 1) := by decide +kernel
theorem dX0_place_26 : decode cX0_place 26 = .ok (.getfield 50, 3) := by decide +kernel
theorem dX0_place_29 : decode cX0_place 29 = .ok (.iload_n 1, 1) := by decide +kernel
theorem dX0_place_30 : decode cX0_place 30 = .ok (.iload_n 2, 1) := by decide +kernel
theorem dX0_place_31 : decode cX0_place 31 = .ok (.invokevirtual 91, 3) := by decide +kernel
theorem dX0_place_34 : decode cX0_place 34 = .ok (.lstore 5, 2) := by decide +kernel
theorem dX0_place_36 : decode cX0_place 36 = .ok (.iconst 0, 1) := by decide +kernel
theorem dX0_place_37 : decode cX0_place 37 = .ok (.istore 7, 2) := by decide +kernel
theorem dX0_place_39 : decode cX0_place 39 = .ok (.iconst 0, 1) := by decide +kernel
theorem dX0_place_40 : decode cX0_place 40 = .ok (.istore 8, 2) := by decide +kernel
theorem dX0_place_42 : decode cX0_place 42 = .ok (.iload 8, 2) := by decide +kernel
theorem dX0_place_44 : decode cX0_place 44 = .ok (.sipush 128, 3) := by decide +kernel
theorem dX0_place_47 : decode cX0_place 47 = .ok (.if_icmp .ge 56, 3) := by decide +kernel
theorem dX0_place_50 : decode cX0_place 50 = .ok (.iload_n 3, 1) := by decide +kernel
theorem dX0_place_51 : decode cX0_place 51 = .ok (.iload 7, 2) := by decide +kernel
theorem dX0_place_53 : decode cX0_place 53 = .ok (.ior, 1) := by decide +kernel
theorem dX0_place_54 : decode cX0_place 54 = .ok (.istore 9, 2) := by decide +kernel
theorem dX0_place_56 : decode cX0_place 56 = .ok (.aload_n 0, 1) := by decide +kernel
theorem dX0_place_57 : decode cX0_place 57 = .ok (.getfield 37, 3) := by decide +kernel
theorem dX0_place_60 : decode cX0_place 60 = .ok (.iload 9, 2) := by decide +kernel
theorem dX0_place_62 : decode cX0_place 62 = .ok (.iconst 1, 1) := by decide +kernel
theorem dX0_place_63 : decode cX0_place 63 = .ok (.iload_n 1, 1) := by decide +kernel
theorem dX0_place_64 : decode cX0_place 64 = .ok (.ishl, 1) := by decide +kernel
theorem dX0_place_65 : decode cX0_place 65 = .ok (.ior, 1) := by decide +kernel
theorem dX0_place_66 : decode cX0_place 66 = .ok (.dup2, 1) := by decide +kernel
theorem dX0_place_67 : decode cX0_place 67 = .ok (.laload, 1) := by decide +kernel
theorem dX0_place_68 : decode cX0_place 68 = .ok (.aload_n 0, 1) := by decide +kernel
theorem dX0_place_69 : decode cX0_place 69 = .ok (.getfield 37, 3) := by decide +kernel
theorem dX0_place_72 : decode cX0_place 72 = .ok (.iload 9, 2) := by decide +kernel
theorem dX0_place_74 : decode cX0_place 74 = .ok (.laload, 1) := by decide +kernel
theorem dX0_place_75 : decode cX0_place 75 = .ok (.lload 5, 2) := by decide +kernel
theorem dX0_place_77 : decode cX0_place 77 = .ok (.lmul, 1) := by decide +kernel
theorem dX0_place_78 : decode cX0_place 78 = .ok (.ladd, 1) := by decide +kernel
theorem dX0_place_79 : decode cX0_place 79 = .ok (.lastore, 1) := by decide +kernel
theorem dX0_place_80 : decode cX0_place 80 = .ok (.iload 7, 2) := by decide +kernel
theorem dX0_place_82 : decode cX0_place 82 = .ok (.iload 4, 2) := by decide +kernel
theorem dX0_place_84 : decode cX0_place 84 = .ok (.invokestatic 139, 3) := by decide +kernel
theorem dX0_place_87 : decode cX0_place 87 = .ok (.istore 7, 2) := by decide +kernel
theorem dX0_place_89 : decode cX0_place 89 = .ok (.iload 7, 2) := by decide +kernel
theorem dX0_place_91 : decode cX0_place 91 = .ok (.ifCond .ne 6, 3) := by decide +kernel
theorem dX0_place_94 : decode cX0_place 94 = .ok (.goto 9, 3) := by decide +kernel
theorem dX0_place_97 : decode cX0_place 97 = .ok (.iinc 8 1, 3) := by decide +kernel
theorem dX0_place_100 : decode cX0_place 100 = .ok (.goto (-58), 3) := by decide +kernel
theorem dX0_place_103 : decode cX0_place 103 = .ok (.return_, 1) := by decide +kernel
theorem dX0_takeUp_0 : decode cX0_takeUp 0 = .ok (.aload_n 0, 1) := by decide +kernel
theorem dX0_takeUp_1 : decode cX0_takeUp 1 = .ok (.iload_n 1, 1) := by decide +kernel
theorem dX0_takeUp_2 : decode cX0_takeUp 2 = .ok (.iload_n 2, 1) := by decide +kernel
theorem dX0_takeUp_3 : decode cX0_takeUp 3 = .ok (.invokevirtual 136, 3) := by decide +kernel
theorem dX0_takeUp_6 : decode cX0_takeUp 6 = .ok (.istore_n 3, 1) := by decide +kernel
theorem dX0_takeUp_7 : decode cX0_takeUp 7 = .ok (.aload_n 0, 1) := by decide +kernel
theorem dX0_takeUp_8 : decode cX0_takeUp 8 = .ok (.getfield 25, 3) := by decide +kernel
theorem dX0_takeUp_11 : decode cX0_takeUp 11 = .ok (.iload_n 2, 1) := by decide +kernel
theorem dX0_takeUp_12 : decode cX0_takeUp 12 = .ok (.iaload, 1) := by decide +kernel
theorem dX0_takeUp_13 : decode cX0_takeUp 13 = .ok (.iload_n 3, 1) := by decide +kernel
theorem dX0_takeUp_14 : decode cX0_takeUp 14 = .ok (.iconst (-1), 1) := by decide +kernel
theorem dX0_takeUp_15 : decode cX0_takeUp 15 = .ok (.ixor, 1) := by decide +kernel
theorem dX0_takeUp_16 : decode cX0_takeUp 16 = .ok (.iand, 1) := by decide +kernel
theorem dX0_takeUp_17 : decode cX0_takeUp 17 = .ok (.iconst 1, 1) := by decide +kernel
theorem dX0_takeUp_18 : decode cX0_takeUp 18 = .ok (.iload_n 1, 1) := by decide +kernel
theorem dX0_takeUp_19 : decode cX0_takeUp 19 = .ok (.ishl, 1) := by decide +kernel
theorem dX0_takeUp_20 : decode cX0_takeUp 20 = .ok (.iconst (-1), 1) := by decide +kernel
theorem dX0_takeUp_21 : decode cX0_takeUp 21 = .ok (.ixor, 1) := by decide +kernel
theorem dX0_takeUp_22 : decode cX0_takeUp 22 = .ok (.iand, 1) := by decide +kernel
theorem dX0_takeUp_23 : decode cX0_takeUp 23 = .ok (.istore 4, 2) := by decide +kernel
theorem dX0_takeUp_25 : decode cX0_takeUp 25 = .ok (.aload_n 0, 1) := by decide +kernel
theorem dX0_takeUp_26 : decode cX0_takeUp 26 = .ok (.getfield 50, 3) := by decide +kernel
theorem dX0_takeUp_29 : decode cX0_takeUp 29 = .ok (.iload_n 1, 1) := by decide +kernel
theorem dX0_takeUp_30 : decode cX0_takeUp 30 = .ok (.iload_n 2, 1) := by decide +kernel
theorem dX0_takeUp_31 : decode cX0_takeUp 31 = .ok (.invokevirtual 91, 3) := by decide +kernel
theorem dX0_takeUp_34 : decode cX0_takeUp 34 = .ok (.lstore 5, 2) := by decide +kernel
theorem dX0_takeUp_36 : decode cX0_takeUp 36 = .ok (.iconst 0, 1) := by decide +kernel
theorem dX0_takeUp_37 : decode cX0_takeUp 37 = .ok (.istore 7, 2) := by decide +kernel
theorem dX0_takeUp_39 : decode cX0_takeUp 39 = .ok (.iconst 0, 1) := by decide +kernel
theorem dX0_takeUp_40 : decode cX0_takeUp 40 = .ok (.istore 8, 2) := by decide +kernel
theorem dX0_takeUp_42 : decode cX0_takeUp 42 = .ok (.iload 8, 2) := by decide +kernel
theorem dX0_takeUp_44 : decode cX0_takeUp 44 = .ok (.sipush 128, 3) := by decide +kernel
theorem dX0_takeUp_47 : decode cX0_takeUp 47 = .ok (.if_icmp .ge 56, 3) := by decide +kernel
theorem dX0_takeUp_50 : decode cX0_takeUp 50 = .ok (.iload_n 3, 1) := by decide +kernel
theorem dX0_takeUp_51 : decode cX0_takeUp 51 = .ok (.iload 7, 2) := by decide +kernel
theorem dX0_takeUp_53 : decode cX0_takeUp 53 = .ok (.ior, 1) := by decide +kernel
theorem dX0_takeUp_54 : decode cX0_takeUp 54 = .ok (.istore 9, 2) := by decide +kernel
theorem dX0_takeUp_56 : decode cX0_takeUp 56 = .ok (.aload_n 0, 1) := by decide +kernel
theorem dX0_takeUp_57 : decode cX0_takeUp 57 = .ok (.getfield 41, 3) := by decide +kernel
theorem dX0_takeUp_60 : decode cX0_takeUp 60 = .ok (.iload 9, 2) := by decide +kernel
theorem dX0_takeUp_62 : decode cX0_takeUp 62 = .ok (.dup2, 1) := by decide +kernel
theorem dX0_takeUp_63 : decode cX0_takeUp 63 = .ok (.laload, 1) := by decide +kernel
theorem dX0_takeUp_64 : decode cX0_takeUp 64 = .ok (.aload_n 0, 1) := by decide +kernel
theorem dX0_takeUp_65 : decode cX0_takeUp 65 = .ok (.getfield 41, 3) := by decide +kernel
theorem dX0_takeUp_68 : decode cX0_takeUp 68 = .ok (.iload 9, 2) := by decide +kernel
theorem dX0_takeUp_70 : decode cX0_takeUp 70 = .ok (.iconst 1, 1) := by decide +kernel
theorem dX0_takeUp_71 : decode cX0_takeUp 71 = .ok (.iload_n 1, 1) := by decide +kernel
theorem dX0_takeUp_72 : decode cX0_takeUp 72 = .ok (.ishl, 1) := by decide +kernel
theorem dX0_takeUp_73 : decode cX0_takeUp 73 = .ok (.ior, 1) := by decide +kernel
theorem dX0_takeUp_74 : decode cX0_takeUp 74 = .ok (.laload, 1) := by decide +kernel
theorem dX0_takeUp_75 : decode cX0_takeUp 75 = .ok (.lload 5, 2) := by decide +kernel
theorem dX0_takeUp_77 : decode cX0_takeUp 77 = .ok (.lmul, 1) := by decide +kernel
theorem dX0_takeUp_78 : decode cX0_takeUp 78 = .ok (.ladd, 1) := by decide +kernel
theorem dX0_takeUp_79 : decode cX0_takeUp 79 = .ok (.lastore, 1) := by decide +kernel
theorem dX0_takeUp_80 : decode cX0_takeUp 80 = .ok (.iload 7, 2) := by decide +kernel
theorem dX0_takeUp_82 : decode cX0_takeUp 82 = .ok (.iload 4, 2) := by decide +kernel
theorem dX0_takeUp_84 : decode cX0_takeUp 84 = .ok (.invokestatic 139, 3) := by decide +kernel
theorem dX0_takeUp_87 : decode cX0_takeUp 87 = .ok (.istore 7, 2) := by decide +kernel
theorem dX0_takeUp_89 : decode cX0_takeUp 89 = .ok (.iload 7, 2) := by decide +kernel
theorem dX0_takeUp_91 : decode cX0_takeUp 91 = .ok (.ifCond .ne 6, 3) := by decide +kernel
theorem dX0_takeUp_94 : decode cX0_takeUp 94 = .ok (.goto 9, 3) := by decide +kernel
theorem dX0_takeUp_97 : decode cX0_takeUp 97 = .ok (.iinc 8 1, 3) := by decide +kernel
theorem dX0_takeUp_100 : decode cX0_takeUp 100 = .ok (.goto (-58), 3) := by decide +kernel
theorem dX0_takeUp_103 : decode cX0_takeUp 103 = .ok (.return_, 1) := by decide +kernel
theorem dX0_meet_0 : decode cX0_meet 0 = .ok (.aload_n 0, 1) := by decide +kernel
theorem dX0_meet_1 : decode cX0_meet 1 = .ok (.iload_n 1, 1) := by decide +kernel
theorem dX0_meet_2 : decode cX0_meet 2 = .ok (.iload_n 2, 1) := by decide +kernel
theorem dX0_meet_3 : decode cX0_meet 3 = .ok (.invokevirtual 136, 3) := by decide +kernel
theorem dX0_meet_6 : decode cX0_meet 6 = .ok (.istore_n 3, 1) := by decide +kernel
theorem dX0_meet_7 : decode cX0_meet 7 = .ok (.aload_n 0, 1) := by decide +kernel
theorem dX0_meet_8 : decode cX0_meet 8 = .ok (.getfield 25, 3) := by decide +kernel
theorem dX0_meet_11 : decode cX0_meet 11 = .ok (.iload_n 2, 1) := by decide +kernel
theorem dX0_meet_12 : decode cX0_meet 12 = .ok (.iaload, 1) := by decide +kernel
theorem dX0_meet_13 : decode cX0_meet 13 = .ok (.iload_n 3, 1) := by decide +kernel
theorem dX0_meet_14 : decode cX0_meet 14 = .ok (.iconst (-1), 1) := by decide +kernel
theorem dX0_meet_15 : decode cX0_meet 15 = .ok (.ixor, 1) := by decide +kernel
theorem dX0_meet_16 : decode cX0_meet 16 = .ok (.iand, 1) := by decide +kernel
theorem dX0_meet_17 : decode cX0_meet 17 = .ok (.iconst 1, 1) := by decide +kernel
theorem dX0_meet_18 : decode cX0_meet 18 = .ok (.iload_n 1, 1) := by decide +kernel
theorem dX0_meet_19 : decode cX0_meet 19 = .ok (.ishl, 1) := by decide +kernel
theorem dX0_meet_20 : decode cX0_meet 20 = .ok (.iconst (-1), 1) := by decide +kernel
theorem dX0_meet_21 : decode cX0_meet 21 = .ok (.ixor, 1) := by decide +kernel
theorem dX0_meet_22 : decode cX0_meet 22 = .ok (.iand, 1) := by decide +kernel
theorem dX0_meet_23 : decode cX0_meet 23 = .ok (.istore 4, 2) := by decide +kernel
theorem dX0_meet_25 : decode cX0_meet 25 = .ok (.aload_n 0, 1) := by decide +kernel
theorem dX0_meet_26 : decode cX0_meet 26 = .ok (.getfield 50, 3) := by decide +kernel
theorem dX0_meet_29 : decode cX0_meet 29 = .ok (.iload_n 1, 1) := by decide +kernel
theorem dX0_meet_30 : decode cX0_meet 30 = .ok (.iload_n 2, 1) := by decide +kernel
theorem dX0_meet_31 : decode cX0_meet 31 = .ok (.invokevirtual 91, 3) := by decide +kernel
theorem dX0_meet_34 : decode cX0_meet 34 = .ok (.lstore 5, 2) := by decide +kernel
theorem dX0_meet_36 : decode cX0_meet 36 = .ok (.lconst 0, 1) := by decide +kernel
theorem dX0_meet_37 : decode cX0_meet 37 = .ok (.lstore 7, 2) := by decide +kernel
theorem dX0_meet_39 : decode cX0_meet 39 = .ok (.iconst 0, 1) := by decide +kernel
theorem dX0_meet_40 : decode cX0_meet 40 = .ok (.istore 9, 2) := by decide +kernel
theorem dX0_meet_42 : decode cX0_meet 42 = .ok (.iconst 0, 1) := by decide +kernel
theorem dX0_meet_43 : decode cX0_meet 43 = .ok (.istore 10, 2) := by decide +kernel
theorem dX0_meet_45 : decode cX0_meet 45 = .ok (.iload 10, 2) := by decide +kernel
theorem dX0_meet_47 : decode cX0_meet 47 = .ok (.sipush 128, 3) := by decide +kernel
theorem dX0_meet_50 : decode cX0_meet 50 = .ok (.if_icmp .ge 65, 3) := by decide +kernel
theorem dX0_meet_53 : decode cX0_meet 53 = .ok (.iload_n 3, 1) := by decide +kernel
theorem dX0_meet_54 : decode cX0_meet 54 = .ok (.iload 9, 2) := by decide +kernel
theorem dX0_meet_56 : decode cX0_meet 56 = .ok (.ior, 1) := by decide +kernel
theorem dX0_meet_57 : decode cX0_meet 57 = .ok (.istore 11, 2) := by decide +kernel
theorem dX0_meet_59 : decode cX0_meet 59 = .ok (.lload 7, 2) := by decide +kernel
theorem dX0_meet_61 : decode cX0_meet 61 = .ok (.aload_n 0, 1) := by decide +kernel
theorem dX0_meet_62 : decode cX0_meet 62 = .ok (.getfield 44, 3) := by decide +kernel
theorem dX0_meet_65 : decode cX0_meet 65 = .ok (.iload_n 2, 1) := by decide +kernel
theorem dX0_meet_66 : decode cX0_meet 66 = .ok (.sipush 128, 3) := by decide +kernel
theorem dX0_meet_69 : decode cX0_meet 69 = .ok (.imul, 1) := by decide +kernel
theorem dX0_meet_70 : decode cX0_meet 70 = .ok (.iload 11, 2) := by decide +kernel
theorem dX0_meet_72 : decode cX0_meet 72 = .ok (.iadd, 1) := by decide +kernel
theorem dX0_meet_73 : decode cX0_meet 73 = .ok (.laload, 1) := by decide +kernel
theorem dX0_meet_74 : decode cX0_meet 74 = .ok (.lload 5, 2) := by decide +kernel
theorem dX0_meet_76 : decode cX0_meet 76 = .ok (.lmul, 1) := by decide +kernel
theorem dX0_meet_77 : decode cX0_meet 77 = .ok (.aload_n 0, 1) := by decide +kernel
theorem dX0_meet_78 : decode cX0_meet 78 = .ok (.getfield 41, 3) := by decide +kernel
theorem dX0_meet_81 : decode cX0_meet 81 = .ok (.iload 11, 2) := by decide +kernel
theorem dX0_meet_83 : decode cX0_meet 83 = .ok (.iconst 1, 1) := by decide +kernel
theorem dX0_meet_84 : decode cX0_meet 84 = .ok (.iload_n 1, 1) := by decide +kernel
theorem dX0_meet_85 : decode cX0_meet 85 = .ok (.ishl, 1) := by decide +kernel
theorem dX0_meet_86 : decode cX0_meet 86 = .ok (.ior, 1) := by decide +kernel
theorem dX0_meet_87 : decode cX0_meet 87 = .ok (.laload, 1) := by decide +kernel
theorem dX0_meet_88 : decode cX0_meet 88 = .ok (.lmul, 1) := by decide +kernel
theorem dX0_meet_89 : decode cX0_meet 89 = .ok (.ladd, 1) := by decide +kernel
theorem dX0_meet_90 : decode cX0_meet 90 = .ok (.lstore 7, 2) := by decide +kernel
theorem dX0_meet_92 : decode cX0_meet 92 = .ok (.iload 9, 2) := by decide +kernel
theorem dX0_meet_94 : decode cX0_meet 94 = .ok (.iload 4, 2) := by decide +kernel
theorem dX0_meet_96 : decode cX0_meet 96 = .ok (.invokestatic 139, 3) := by decide +kernel
theorem dX0_meet_99 : decode cX0_meet 99 = .ok (.istore 9, 2) := by decide +kernel
theorem dX0_meet_101 : decode cX0_meet 101 = .ok (.iload 9, 2) := by decide +kernel
theorem dX0_meet_103 : decode cX0_meet 103 = .ok (.ifCond .ne 6, 3) := by decide +kernel
theorem dX0_meet_106 : decode cX0_meet 106 = .ok (.goto 9, 3) := by decide +kernel
theorem dX0_meet_109 : decode cX0_meet 109 = .ok (.iinc 10 1, 3) := by decide +kernel
theorem dX0_meet_112 : decode cX0_meet 112 = .ok (.goto (-67), 3) := by decide +kernel
theorem dX0_meet_115 : decode cX0_meet 115 = .ok (.lload 7, 2) := by decide +kernel
theorem dX0_meet_117 : decode cX0_meet 117 = .ok (.lreturn, 1) := by decide +kernel
theorem dX0_nextSubset_0 : decode cX0_nextSubset 0 = .ok (.iload_n 0, 1) := by decide +kernel
theorem dX0_nextSubset_1 : decode cX0_nextSubset 1 = .ok (.iload_n 1, 1) := by decide +kernel
theorem dX0_nextSubset_2 : decode cX0_nextSubset 2 = .ok (.isub, 1) := by decide +kernel
theorem dX0_nextSubset_3 : decode cX0_nextSubset 3 = .ok (.iload_n 1, 1) := by decide +kernel
theorem dX0_nextSubset_4 : decode cX0_nextSubset 4 = .ok (.iand, 1) := by decide +kernel
theorem dX0_nextSubset_5 : decode cX0_nextSubset 5 = .ok (.ireturn, 1) := by decide +kernel
theorem dX1_init_0 : decode cX1_init 0 = .ok (.aload_n 0, 1) := by decide +kernel
theorem dX1_init_1 : decode cX1_init 1 = .ok (.invokespecial 3, 3) := by decide +kernel
theorem dX1_init_4 : decode cX1_init 4 = .ok (.aload_n 0, 1) := by decide +kernel
theorem dX1_init_5 : decode cX1_init 5 = .ok (.iconst 0, 1) := by decide +kernel
theorem dX1_init_6 : decode cX1_init 6 = .ok (.putfield 9, 3) := by decide +kernel
theorem dX1_init_9 : decode cX1_init 9 = .ok (.aload_n 0, 1) := by decide +kernel
theorem dX1_init_10 : decode cX1_init 10 = .ok (.iconst 0, 1) := by decide +kernel
theorem dX1_init_11 : decode cX1_init 11 = .ok (.putfield 15, 3) := by decide +kernel
theorem dX1_init_14 : decode cX1_init 14 = .ok (.aload_n 0, 1) := by decide +kernel
theorem dX1_init_15 : decode cX1_init 15 = .ok (.iconst 0, 1) := by decide +kernel
theorem dX1_init_16 : decode cX1_init 16 = .ok (.putfield 18, 3) := by decide +kernel
theorem dX1_init_19 : decode cX1_init 19 = .ok (.aload_n 0, 1) := by decide +kernel
theorem dX1_init_20 : decode cX1_init 20 = .ok (.iconst 5, 1) := by decide +kernel
theorem dX1_init_21 : decode cX1_init 21 = .ok (.newarray .int, 2) := by decide +kernel
theorem dX1_init_23 : decode cX1_init 23 = .ok (.putfield 21, 3) := by decide +kernel
theorem dX1_init_26 : decode cX1_init 26 = .ok (.aload_n 0, 1) := by decide +kernel
theorem dX1_init_27 : decode cX1_init 27 = .ok (.iconst 5, 1) := by decide +kernel
theorem dX1_init_28 : decode cX1_init 28 = .ok (.newarray .int, 2) := by decide +kernel
theorem dX1_init_30 : decode cX1_init 30 = .ok (.putfield 25, 3) := by decide +kernel
theorem dX1_init_33 : decode cX1_init 33 = .ok (.return_, 1) := by decide +kernel
theorem dX1_become_0 : decode cX1_become 0 = .ok (.aload_n 0, 1) := by decide +kernel
theorem dX1_become_1 : decode cX1_become 1 = .ok (.iload_n 1, 1) := by decide +kernel
theorem dX1_become_2 : decode cX1_become 2 = .ok (.putfield 9, 3) := by decide +kernel
theorem dX1_become_5 : decode cX1_become 5 = .ok (.aload_n 0, 1) := by decide +kernel
theorem dX1_become_6 : decode cX1_become 6 = .ok (.iconst 0, 1) := by decide +kernel
theorem dX1_become_7 : decode cX1_become 7 = .ok (.putfield 15, 3) := by decide +kernel
theorem dX1_become_10 : decode cX1_become 10 = .ok (.aload_n 0, 1) := by decide +kernel
theorem dX1_become_11 : decode cX1_become 11 = .ok (.iload_n 1, 1) := by decide +kernel
theorem dX1_become_12 : decode cX1_become 12 = .ok (.ifCond .eq 8, 3) := by decide +kernel
theorem dX1_become_15 : decode cX1_become 15 = .ok (.iload_n 1, 1) := by decide +kernel
theorem dX1_become_16 : decode cX1_become 16 = .ok (.iconst 1, 1) := by decide +kernel
theorem dX1_become_17 : decode cX1_become 17 = .ok (.if_icmp .ne 7, 3) := by decide +kernel
theorem dX1_become_20 : decode cX1_become 20 = .ok (.iconst 1, 1) := by decide +kernel
theorem dX1_become_21 : decode cX1_become 21 = .ok (.goto 4, 3) := by decide +kernel
theorem dX1_become_24 : decode cX1_become 24 = .ok (.iconst 0, 1) := by decide +kernel
theorem dX1_become_25 : decode cX1_become 25 = .ok (.putfield 18, 3) := by decide +kernel
theorem dX1_become_28 : decode cX1_become 28 = .ok (.aload_n 0, 1) := by decide +kernel
theorem dX1_become_29 : decode cX1_become 29 = .ok (.getfield 21, 3) := by decide +kernel
theorem dX1_become_32 : decode cX1_become 32 = .ok (.iconst 0, 1) := by decide +kernel
theorem dX1_become_33 : decode cX1_become 33 = .ok (.iload_n 1, 1) := by decide +kernel
theorem dX1_become_34 : decode cX1_become 34 = .ok (.iconst 2, 1) := by decide +kernel
theorem dX1_become_35 : decode cX1_become 35 = .ok (.if_icmp .ne 7, 3) := by decide +kernel
theorem dX1_become_38 : decode cX1_become 38 = .ok (.iconst 0, 1) := by decide +kernel
theorem dX1_become_39 : decode cX1_become 39 = .ok (.goto 4, 3) := by decide +kernel
theorem dX1_become_42 : decode cX1_become 42 = .ok (.iload_n 2, 1) := by decide +kernel
theorem dX1_become_43 : decode cX1_become 43 = .ok (.iastore, 1) := by decide +kernel
theorem dX1_become_44 : decode cX1_become 44 = .ok (.aload_n 0, 1) := by decide +kernel
theorem dX1_become_45 : decode cX1_become 45 = .ok (.getfield 25, 3) := by decide +kernel
theorem dX1_become_48 : decode cX1_become 48 = .ok (.iconst 0, 1) := by decide +kernel
theorem dX1_become_49 : decode cX1_become 49 = .ok (.iconst 0, 1) := by decide +kernel
theorem dX1_become_50 : decode cX1_become 50 = .ok (.iastore, 1) := by decide +kernel
theorem dX1_become_51 : decode cX1_become 51 = .ok (.return_, 1) := by decide +kernel
theorem dX1_addAge_0 : decode cX1_addAge 0 = .ok (.aload_n 0, 1) := by decide +kernel
theorem dX1_addAge_1 : decode cX1_addAge 1 = .ok (.getfield 18, 3) := by decide +kernel
theorem dX1_addAge_4 : decode cX1_addAge 4 = .ok (.iconst 5, 1) := by decide +kernel
theorem dX1_addAge_5 : decode cX1_addAge 5 = .ok (.if_icmp .ge 33, 3) := by decide +kernel
theorem dX1_addAge_8 : decode cX1_addAge 8 = .ok (.aload_n 0, 1) := by decide +kernel
theorem dX1_addAge_9 : decode cX1_addAge 9 = .ok (.getfield 21, 3) := by decide +kernel
theorem dX1_addAge_12 : decode cX1_addAge 12 = .ok (.aload_n 0, 1) := by decide +kernel
theorem dX1_addAge_13 : decode cX1_addAge 13 = .ok (.getfield 18, 3) := by decide +kernel
theorem dX1_addAge_16 : decode cX1_addAge 16 = .ok (.iload_n 1, 1) := by decide +kernel
theorem dX1_addAge_17 : decode cX1_addAge 17 = .ok (.iastore, 1) := by decide +kernel
theorem dX1_addAge_18 : decode cX1_addAge 18 = .ok (.aload_n 0, 1) := by decide +kernel
theorem dX1_addAge_19 : decode cX1_addAge 19 = .ok (.getfield 25, 3) := by decide +kernel
theorem dX1_addAge_22 : decode cX1_addAge 22 = .ok (.aload_n 0, 1) := by decide +kernel
theorem dX1_addAge_23 : decode cX1_addAge 23 = .ok (.getfield 18, 3) := by decide +kernel
theorem dX1_addAge_26 : decode cX1_addAge 26 = .ok (.iload_n 2, 1) := by decide +kernel
theorem dX1_addAge_27 : decode cX1_addAge 27 = .ok (.iastore, 1) := by decide +kernel
theorem dX1_addAge_28 : decode cX1_addAge 28 = .ok (.aload_n 0, 1) := by decide +kernel
theorem dX1_addAge_29 : decode cX1_addAge 29 = .ok (.dup, 1) := by decide +kernel
theorem dX1_addAge_30 : decode cX1_addAge 30 = .ok (.getfield 18, 3) := by decide +kernel
theorem dX1_addAge_33 : decode cX1_addAge 33 = .ok (.iconst 1, 1) := by decide +kernel
theorem dX1_addAge_34 : decode cX1_addAge 34 = .ok (.iadd, 1) := by decide +kernel
theorem dX1_addAge_35 : decode cX1_addAge 35 = .ok (.putfield 18, 3) := by decide +kernel
theorem dX1_addAge_38 : decode cX1_addAge 38 = .ok (.return_, 1) := by decide +kernel
theorem dX1_copyFrom_0 : decode cX1_copyFrom 0 = .ok (.aload_n 0, 1) := by decide +kernel
theorem dX1_copyFrom_1 : decode cX1_copyFrom 1 = .ok (.aload_n 1, 1) := by decide +kernel
theorem dX1_copyFrom_2 : decode cX1_copyFrom 2 = .ok (.getfield 9, 3) := by decide +kernel
theorem dX1_copyFrom_5 : decode cX1_copyFrom 5 = .ok (.putfield 9, 3) := by decide +kernel
theorem dX1_copyFrom_8 : decode cX1_copyFrom 8 = .ok (.aload_n 0, 1) := by decide +kernel
theorem dX1_copyFrom_9 : decode cX1_copyFrom 9 = .ok (.aload_n 1, 1) := by decide +kernel
theorem dX1_copyFrom_10 : decode cX1_copyFrom 10 = .ok (.getfield 15, 3) := by decide +kernel
theorem dX1_copyFrom_13 : decode cX1_copyFrom 13 = .ok (.putfield 15, 3) := by decide +kernel
theorem dX1_copyFrom_16 : decode cX1_copyFrom 16 = .ok (.aload_n 0, 1) := by decide +kernel
theorem dX1_copyFrom_17 : decode cX1_copyFrom 17 = .ok (.aload_n 1, 1) := by decide +kernel
theorem dX1_copyFrom_18 : decode cX1_copyFrom 18 = .ok (.getfield 18, 3) := by decide +kernel
theorem dX1_copyFrom_21 : decode cX1_copyFrom 21 = .ok (.putfield 18, 3) := by decide +kernel
theorem dX1_copyFrom_24 : decode cX1_copyFrom 24 = .ok (.aload_n 1, 1) := by decide +kernel
theorem dX1_copyFrom_25 : decode cX1_copyFrom 25 = .ok (.getfield 21, 3) := by decide +kernel
theorem dX1_copyFrom_28 : decode cX1_copyFrom 28 = .ok (.iconst 0, 1) := by decide +kernel
theorem dX1_copyFrom_29 : decode cX1_copyFrom 29 = .ok (.aload_n 0, 1) := by decide +kernel
theorem dX1_copyFrom_30 : decode cX1_copyFrom 30 = .ok (.getfield 21, 3) := by decide +kernel
theorem dX1_copyFrom_33 : decode cX1_copyFrom 33 = .ok (.iconst 0, 1) := by decide +kernel
theorem dX1_copyFrom_34 : decode cX1_copyFrom 34 = .ok (.iconst 5, 1) := by decide +kernel
theorem dX1_copyFrom_35 : decode cX1_copyFrom 35 = .ok (.invokestatic 28, 3) := by decide +kernel
theorem dX1_copyFrom_38 : decode cX1_copyFrom 38 = .ok (.aload_n 1, 1) := by decide +kernel
theorem dX1_copyFrom_39 : decode cX1_copyFrom 39 = .ok (.getfield 25, 3) := by decide +kernel
theorem dX1_copyFrom_42 : decode cX1_copyFrom 42 = .ok (.iconst 0, 1) := by decide +kernel
theorem dX1_copyFrom_43 : decode cX1_copyFrom 43 = .ok (.aload_n 0, 1) := by decide +kernel
theorem dX1_copyFrom_44 : decode cX1_copyFrom 44 = .ok (.getfield 25, 3) := by decide +kernel
theorem dX1_copyFrom_47 : decode cX1_copyFrom 47 = .ok (.iconst 0, 1) := by decide +kernel
theorem dX1_copyFrom_48 : decode cX1_copyFrom 48 = .ok (.iconst 5, 1) := by decide +kernel
theorem dX1_copyFrom_49 : decode cX1_copyFrom 49 = .ok (.invokestatic 28, 3) := by decide +kernel
theorem dX1_copyFrom_52 : decode cX1_copyFrom 52 = .ok (.return_, 1) := by decide +kernel
theorem dX1_weightFrom_0 : decode cX1_weightFrom 0 = .ok (.aload_n 0, 1) := by decide +kernel
theorem dX1_weightFrom_1 : decode cX1_weightFrom 1 = .ok (.getfield 15, 3) := by decide +kernel
theorem dX1_weightFrom_4 : decode cX1_weightFrom 4 = .ok (.ifCond .ne 7, 3) := by decide +kernel
theorem dX1_weightFrom_7 : decode cX1_weightFrom 7 = .ok (.iload_n 1, 1) := by decide +kernel
theorem dX1_weightFrom_8 : decode cX1_weightFrom 8 = .ok (.goto 19, 3) := by decide +kernel
theorem dX1_weightFrom_11 : decode cX1_weightFrom 11 = .ok (.bipush 10, 2) := by decide +kernel
theorem dX1_weightFrom_13 : decode cX1_weightFrom 13 = .ok (.aload_n 0, 1) := by decide +kernel
theorem dX1_weightFrom_14 : decode cX1_weightFrom 14 = .ok (.getfield 15, 3) := by decide +kernel
theorem dX1_weightFrom_17 : decode cX1_weightFrom 17 = .ok (.isub, 1) := by decide +kernel
theorem dX1_weightFrom_18 : decode cX1_weightFrom 18 = .ok (.iload_n 1, 1) := by decide +kernel
theorem dX1_weightFrom_19 : decode cX1_weightFrom 19 = .ok (.imul, 1) := by decide +kernel
theorem dX1_weightFrom_20 : decode cX1_weightFrom 20 = .ok (.aload_n 0, 1) := by decide +kernel
theorem dX1_weightFrom_21 : decode cX1_weightFrom 21 = .ok (.getfield 15, 3) := by decide +kernel
theorem dX1_weightFrom_24 : decode cX1_weightFrom 24 = .ok (.iload_n 2, 1) := by decide +kernel
theorem dX1_weightFrom_25 : decode cX1_weightFrom 25 = .ok (.imul, 1) := by decide +kernel
theorem dX1_weightFrom_26 : decode cX1_weightFrom 26 = .ok (.iadd, 1) := by decide +kernel
theorem dX1_weightFrom_27 : decode cX1_weightFrom 27 = .ok (.ireturn, 1) := by decide +kernel
theorem dX2_init_0 : decode cX2_init 0 = .ok (.aload_n 0, 1) := by decide +kernel
theorem dX2_init_1 : decode cX2_init 1 = .ok (.invokespecial 3, 3) := by decide +kernel
theorem dX2_init_4 : decode cX2_init 4 = .ok (.aload_n 0, 1) := by decide +kernel
theorem dX2_init_5 : decode cX2_init 5 = .ok (.bipush 7, 2) := by decide +kernel
theorem dX2_init_7 : decode cX2_init 7 = .ok (.newarray .int, 2) := by decide +kernel
theorem dX2_init_9 : decode cX2_init 9 = .ok (.putfield 9, 3) := by decide +kernel
theorem dX2_init_12 : decode cX2_init 12 = .ok (.aload_n 0, 1) := by decide +kernel
theorem dX2_init_13 : decode cX2_init 13 = .ok (.bipush 7, 2) := by decide +kernel
theorem dX2_init_15 : decode cX2_init 15 = .ok (.newarray .int, 2) := by decide +kernel
theorem dX2_init_17 : decode cX2_init 17 = .ok (.putfield 15, 3) := by decide +kernel
theorem dX2_init_20 : decode cX2_init 20 = .ok (.return_, 1) := by decide +kernel
theorem dX2_howOf_0 : decode cX2_howOf 0 = .ok (.aload_n 0, 1) := by decide +kernel
theorem dX2_howOf_1 : decode cX2_howOf 1 = .ok (.getfield 9, 3) := by decide +kernel
theorem dX2_howOf_4 : decode cX2_howOf 4 = .ok (.iload_n 2, 1) := by decide +kernel
theorem dX2_howOf_5 : decode cX2_howOf 5 = .ok (.iaload, 1) := by decide +kernel
theorem dX2_howOf_6 : decode cX2_howOf 6 = .ok (.iload_n 1, 1) := by decide +kernel
theorem dX2_howOf_7 : decode cX2_howOf 7 = .ok (.ishr, 1) := by decide +kernel
theorem dX2_howOf_8 : decode cX2_howOf 8 = .ok (.iconst 1, 1) := by decide +kernel
theorem dX2_howOf_9 : decode cX2_howOf 9 = .ok (.iand, 1) := by decide +kernel
theorem dX2_howOf_10 : decode cX2_howOf 10 = .ok (.ifCond .eq 5, 3) := by decide +kernel
theorem dX2_howOf_13 : decode cX2_howOf 13 = .ok (.iconst 1, 1) := by decide +kernel
theorem dX2_howOf_14 : decode cX2_howOf 14 = .ok (.ireturn, 1) := by decide +kernel
theorem dX2_howOf_15 : decode cX2_howOf 15 = .ok (.aload_n 0, 1) := by decide +kernel
theorem dX2_howOf_16 : decode cX2_howOf 16 = .ok (.getfield 15, 3) := by decide +kernel
theorem dX2_howOf_19 : decode cX2_howOf 19 = .ok (.iload_n 2, 1) := by decide +kernel
theorem dX2_howOf_20 : decode cX2_howOf 20 = .ok (.iaload, 1) := by decide +kernel
theorem dX2_howOf_21 : decode cX2_howOf 21 = .ok (.iload_n 1, 1) := by decide +kernel
theorem dX2_howOf_22 : decode cX2_howOf 22 = .ok (.ishr, 1) := by decide +kernel
theorem dX2_howOf_23 : decode cX2_howOf 23 = .ok (.iconst 1, 1) := by decide +kernel
theorem dX2_howOf_24 : decode cX2_howOf 24 = .ok (.iand, 1) := by decide +kernel
theorem dX2_howOf_25 : decode cX2_howOf 25 = .ok (.ifCond .eq 7, 3) := by decide +kernel
theorem dX2_howOf_28 : decode cX2_howOf 28 = .ok (.iconst 2, 1) := by decide +kernel
theorem dX2_howOf_29 : decode cX2_howOf 29 = .ok (.goto 4, 3) := by decide +kernel
theorem dX2_howOf_32 : decode cX2_howOf 32 = .ok (.iconst 0, 1) := by decide +kernel
theorem dX2_howOf_33 : decode cX2_howOf 33 = .ok (.ireturn, 1) := by decide +kernel
theorem dX2_put_0 : decode cX2_put 0 = .ok (.iconst 1, 1) := by decide +kernel
theorem dX2_put_1 : decode cX2_put 1 = .ok (.iload_n 1, 1) := by decide +kernel
theorem dX2_put_2 : decode cX2_put 2 = .ok (.ishl, 1) := by decide +kernel
theorem dX2_put_3 : decode cX2_put 3 = .ok (.istore 4, 2) := by decide +kernel
theorem dX2_put_5 : decode cX2_put 5 = .ok (.aload_n 0, 1) := by decide +kernel
theorem dX2_put_6 : decode cX2_put 6 = .ok (.getfield 9, 3) := by decide +kernel
theorem dX2_put_9 : decode cX2_put 9 = .ok (.iload_n 2, 1) := by decide +kernel
theorem dX2_put_10 : decode cX2_put 10 = .ok (.iload_n 3, 1) := by decide +kernel
theorem dX2_put_11 : decode cX2_put 11 = .ok (.iconst 1, 1) := by decide +kernel
theorem dX2_put_12 : decode cX2_put 12 = .ok (.if_icmp .ne 15, 3) := by decide +kernel
theorem dX2_put_15 : decode cX2_put 15 = .ok (.aload_n 0, 1) := by decide +kernel
theorem dX2_put_16 : decode cX2_put 16 = .ok (.getfield 9, 3) := by decide +kernel
theorem dX2_put_19 : decode cX2_put 19 = .ok (.iload_n 2, 1) := by decide +kernel
theorem dX2_put_20 : decode cX2_put 20 = .ok (.iaload, 1) := by decide +kernel
theorem dX2_put_21 : decode cX2_put 21 = .ok (.iload 4, 2) := by decide +kernel
theorem dX2_put_23 : decode cX2_put 23 = .ok (.ior, 1) := by decide +kernel
theorem dX2_put_24 : decode cX2_put 24 = .ok (.goto 14, 3) := by decide +kernel
theorem dX2_put_27 : decode cX2_put 27 = .ok (.aload_n 0, 1) := by decide +kernel
theorem dX2_put_28 : decode cX2_put 28 = .ok (.getfield 9, 3) := by decide +kernel
theorem dX2_put_31 : decode cX2_put 31 = .ok (.iload_n 2, 1) := by decide +kernel
theorem dX2_put_32 : decode cX2_put 32 = .ok (.iaload, 1) := by decide +kernel
theorem dX2_put_33 : decode cX2_put 33 = .ok (.iload 4, 2) := by decide +kernel
theorem dX2_put_35 : decode cX2_put 35 = .ok (.iconst (-1), 1) := by decide +kernel
theorem dX2_put_36 : decode cX2_put 36 = .ok (.ixor, 1) := by decide +kernel
theorem dX2_put_37 : decode cX2_put 37 = .ok (.iand, 1) := by decide +kernel
theorem dX2_put_38 : decode cX2_put 38 = .ok (.iastore, 1) := by decide +kernel
theorem dX2_put_39 : decode cX2_put 39 = .ok (.aload_n 0, 1) := by decide +kernel
theorem dX2_put_40 : decode cX2_put 40 = .ok (.getfield 15, 3) := by decide +kernel
theorem dX2_put_43 : decode cX2_put 43 = .ok (.iload_n 2, 1) := by decide +kernel
theorem dX2_put_44 : decode cX2_put 44 = .ok (.iload_n 3, 1) := by decide +kernel
theorem dX2_put_45 : decode cX2_put 45 = .ok (.iconst 2, 1) := by decide +kernel
theorem dX2_put_46 : decode cX2_put 46 = .ok (.if_icmp .ne 15, 3) := by decide +kernel
theorem dX2_put_49 : decode cX2_put 49 = .ok (.aload_n 0, 1) := by decide +kernel
theorem dX2_put_50 : decode cX2_put 50 = .ok (.getfield 15, 3) := by decide +kernel
theorem dX2_put_53 : decode cX2_put 53 = .ok (.iload_n 2, 1) := by decide +kernel
theorem dX2_put_54 : decode cX2_put 54 = .ok (.iaload, 1) := by decide +kernel
theorem dX2_put_55 : decode cX2_put 55 = .ok (.iload 4, 2) := by decide +kernel
theorem dX2_put_57 : decode cX2_put 57 = .ok (.ior, 1) := by decide +kernel
theorem dX2_put_58 : decode cX2_put 58 = .ok (.goto 14, 3) := by decide +kernel
theorem dX2_put_61 : decode cX2_put 61 = .ok (.aload_n 0, 1) := by decide +kernel
theorem dX2_put_62 : decode cX2_put 62 = .ok (.getfield 15, 3) := by decide +kernel
theorem dX2_put_65 : decode cX2_put 65 = .ok (.iload_n 2, 1) := by decide +kernel
theorem dX2_put_66 : decode cX2_put 66 = .ok (.iaload, 1) := by decide +kernel
theorem dX2_put_67 : decode cX2_put 67 = .ok (.iload 4, 2) := by decide +kernel
theorem dX2_put_69 : decode cX2_put 69 = .ok (.iconst (-1), 1) := by decide +kernel
theorem dX2_put_70 : decode cX2_put 70 = .ok (.ixor, 1) := by decide +kernel
theorem dX2_put_71 : decode cX2_put 71 = .ok (.iand, 1) := by decide +kernel
theorem dX2_put_72 : decode cX2_put 72 = .ok (.iastore, 1) := by decide +kernel
theorem dX2_put_73 : decode cX2_put 73 = .ok (.return_, 1) := by decide +kernel
theorem dX2_forget_0 : decode cX2_forget 0 = .ok (.iconst 0, 1) := by decide +kernel
theorem dX2_forget_1 : decode cX2_forget 1 = .ok (.istore_n 2, 1) := by decide +kernel
theorem dX2_forget_2 : decode cX2_forget 2 = .ok (.iload_n 2, 1) := by decide +kernel
theorem dX2_forget_3 : decode cX2_forget 3 = .ok (.bipush 7, 2) := by decide +kernel
theorem dX2_forget_5 : decode cX2_forget 5 = .ok (.if_icmp .ge 16, 3) := by decide +kernel
theorem dX2_forget_8 : decode cX2_forget 8 = .ok (.aload_n 0, 1) := by decide +kernel
theorem dX2_forget_9 : decode cX2_forget 9 = .ok (.iload_n 1, 1) := by decide +kernel
theorem dX2_forget_10 : decode cX2_forget 10 = .ok (.iload_n 2, 1) := by decide +kernel
theorem dX2_forget_11 : decode cX2_forget 11 = .ok (.iconst 0, 1) := by decide +kernel
theorem dX2_forget_12 : decode cX2_forget 12 = .ok (.invokevirtual 18, 3) := by decide +kernel
theorem dX2_forget_15 : decode cX2_forget 15 = .ok (.iinc 2 1, 3) := by decide +kernel
theorem dX2_forget_18 : decode cX2_forget 18 = .ok (.goto (-16), 3) := by decide +kernel
theorem dX2_forget_21 : decode cX2_forget 21 = .ok (.aload_n 0, 1) := by decide +kernel
theorem dX2_forget_22 : decode cX2_forget 22 = .ok (.getfield 9, 3) := by decide +kernel
theorem dX2_forget_25 : decode cX2_forget 25 = .ok (.iload_n 1, 1) := by decide +kernel
theorem dX2_forget_26 : decode cX2_forget 26 = .ok (.iconst 0, 1) := by decide +kernel
theorem dX2_forget_27 : decode cX2_forget 27 = .ok (.iastore, 1) := by decide +kernel
theorem dX2_forget_28 : decode cX2_forget 28 = .ok (.aload_n 0, 1) := by decide +kernel
theorem dX2_forget_29 : decode cX2_forget 29 = .ok (.getfield 15, 3) := by decide +kernel
theorem dX2_forget_32 : decode cX2_forget 32 = .ok (.iload_n 1, 1) := by decide +kernel
theorem dX2_forget_33 : decode cX2_forget 33 = .ok (.iconst 0, 1) := by decide +kernel
theorem dX2_forget_34 : decode cX2_forget 34 = .ok (.iastore, 1) := by decide +kernel
theorem dX2_forget_35 : decode cX2_forget 35 = .ok (.return_, 1) := by decide +kernel
theorem dX2_clear_0 : decode cX2_clear 0 = .ok (.aload_n 0, 1) := by decide +kernel
theorem dX2_clear_1 : decode cX2_clear 1 = .ok (.getfield 9, 3) := by decide +kernel
theorem dX2_clear_4 : decode cX2_clear 4 = .ok (.iconst 0, 1) := by decide +kernel
theorem dX2_clear_5 : decode cX2_clear 5 = .ok (.invokestatic 22, 3) := by decide +kernel
theorem dX2_clear_8 : decode cX2_clear 8 = .ok (.aload_n 0, 1) := by decide +kernel
theorem dX2_clear_9 : decode cX2_clear 9 = .ok (.getfield 15, 3) := by decide +kernel
theorem dX2_clear_12 : decode cX2_clear 12 = .ok (.iconst 0, 1) := by decide +kernel
theorem dX2_clear_13 : decode cX2_clear 13 = .ok (.invokestatic 22, 3) := by decide +kernel
theorem dX2_clear_16 : decode cX2_clear 16 = .ok (.return_, 1) := by decide +kernel
theorem dX2_copyFrom_0 : decode cX2_copyFrom 0 = .ok (.aload_n 1, 1) := by decide +kernel
theorem dX2_copyFrom_1 : decode cX2_copyFrom 1 = .ok (.getfield 9, 3) := by decide +kernel
theorem dX2_copyFrom_4 : decode cX2_copyFrom 4 = .ok (.iconst 0, 1) := by decide +kernel
theorem dX2_copyFrom_5 : decode cX2_copyFrom 5 = .ok (.aload_n 0, 1) := by decide +kernel
theorem dX2_copyFrom_6 : decode cX2_copyFrom 6 = .ok (.getfield 9, 3) := by decide +kernel
theorem dX2_copyFrom_9 : decode cX2_copyFrom 9 = .ok (.iconst 0, 1) := by decide +kernel
theorem dX2_copyFrom_10 : decode cX2_copyFrom 10 = .ok (.bipush 7, 2) := by decide +kernel
theorem dX2_copyFrom_12 : decode cX2_copyFrom 12 = .ok (.invokestatic 28, 3) := by decide +kernel
theorem dX2_copyFrom_15 : decode cX2_copyFrom 15 = .ok (.aload_n 1, 1) := by decide +kernel
theorem dX2_copyFrom_16 : decode cX2_copyFrom 16 = .ok (.getfield 15, 3) := by decide +kernel
theorem dX2_copyFrom_19 : decode cX2_copyFrom 19 = .ok (.iconst 0, 1) := by decide +kernel
theorem dX2_copyFrom_20 : decode cX2_copyFrom 20 = .ok (.aload_n 0, 1) := by decide +kernel
theorem dX2_copyFrom_21 : decode cX2_copyFrom 21 = .ok (.getfield 15, 3) := by decide +kernel
theorem dX2_copyFrom_24 : decode cX2_copyFrom 24 = .ok (.iconst 0, 1) := by decide +kernel
theorem dX2_copyFrom_25 : decode cX2_copyFrom 25 = .ok (.bipush 7, 2) := by decide +kernel
theorem dX2_copyFrom_27 : decode cX2_copyFrom 27 = .ok (.invokestatic 28, 3) := by decide +kernel
theorem dX2_copyFrom_30 : decode cX2_copyFrom 30 = .ok (.return_, 1) := by decide +kernel
theorem dX2_howMany_0 : decode cX2_howMany 0 = .ok (.iconst 0, 1) := by decide +kernel
theorem dX2_howMany_1 : decode cX2_howMany 1 = .ok (.istore_n 1, 1) := by decide +kernel
theorem dX2_howMany_2 : decode cX2_howMany 2 = .ok (.iconst 0, 1) := by decide +kernel
theorem dX2_howMany_3 : decode cX2_howMany 3 = .ok (.istore_n 2, 1) := by decide +kernel
theorem dX2_howMany_4 : decode cX2_howMany 4 = .ok (.iload_n 2, 1) := by decide +kernel
theorem dX2_howMany_5 : decode cX2_howMany 5 = .ok (.bipush 7, 2) := by decide +kernel
theorem dX2_howMany_7 : decode cX2_howMany 7 = .ok (.if_icmp .ge 31, 3) := by decide +kernel
theorem dX2_howMany_10 : decode cX2_howMany 10 = .ok (.iload_n 1, 1) := by decide +kernel
theorem dX2_howMany_11 : decode cX2_howMany 11 = .ok (.aload_n 0, 1) := by decide +kernel
theorem dX2_howMany_12 : decode cX2_howMany 12 = .ok (.getfield 9, 3) := by decide +kernel
theorem dX2_howMany_15 : decode cX2_howMany 15 = .ok (.iload_n 2, 1) := by decide +kernel
theorem dX2_howMany_16 : decode cX2_howMany 16 = .ok (.iaload, 1) := by decide +kernel
theorem dX2_howMany_17 : decode cX2_howMany 17 = .ok (.invokestatic 34, 3) := by decide +kernel
theorem dX2_howMany_20 : decode cX2_howMany 20 = .ok (.aload_n 0, 1) := by decide +kernel
theorem dX2_howMany_21 : decode cX2_howMany 21 = .ok (.getfield 15, 3) := by decide +kernel
theorem dX2_howMany_24 : decode cX2_howMany 24 = .ok (.iload_n 2, 1) := by decide +kernel
theorem dX2_howMany_25 : decode cX2_howMany 25 = .ok (.iaload, 1) := by decide +kernel
theorem dX2_howMany_26 : decode cX2_howMany 26 = .ok (.invokestatic 34, 3) := by decide +kernel
theorem dX2_howMany_29 : decode cX2_howMany 29 = .ok (.iadd, 1) := by decide +kernel
theorem dX2_howMany_30 : decode cX2_howMany 30 = .ok (.iadd, 1) := by decide +kernel
theorem dX2_howMany_31 : decode cX2_howMany 31 = .ok (.istore_n 1, 1) := by decide +kernel
theorem dX2_howMany_32 : decode cX2_howMany 32 = .ok (.iinc 2 1, 3) := by decide +kernel
theorem dX2_howMany_35 : decode cX2_howMany 35 = .ok (.goto (-31), 3) := by decide +kernel
theorem dX2_howMany_38 : decode cX2_howMany 38 = .ok (.iload_n 1, 1) := by decide +kernel
theorem dX2_howMany_39 : decode cX2_howMany 39 = .ok (.ireturn, 1) := by decide +kernel
theorem dX3_init_0 : decode cX3_init 0 = .ok (.aload_n 0, 1) := by decide +kernel
theorem dX3_init_1 : decode cX3_init 1 = .ok (.invokespecial 3, 3) := by decide +kernel
theorem dX3_init_4 : decode cX3_init 4 = .ok (.aload_n 0, 1) := by decide +kernel
theorem dX3_init_5 : decode cX3_init 5 = .ok (.iconst 0, 1) := by decide +kernel
theorem dX3_init_6 : decode cX3_init 6 = .ok (.putfield 9, 3) := by decide +kernel
theorem dX3_init_9 : decode cX3_init 9 = .ok (.aload_n 0, 1) := by decide +kernel
theorem dX3_init_10 : decode cX3_init 10 = .ok (.iconst 0, 1) := by decide +kernel
theorem dX3_init_11 : decode cX3_init 11 = .ok (.putfield 15, 3) := by decide +kernel
theorem dX3_init_14 : decode cX3_init 14 = .ok (.aload_n 0, 1) := by decide +kernel
theorem dX3_init_15 : decode cX3_init 15 = .ok (.iconst 0, 1) := by decide +kernel
theorem dX3_init_16 : decode cX3_init 16 = .ok (.putfield 19, 3) := by decide +kernel
theorem dX3_init_19 : decode cX3_init 19 = .ok (.aload_n 0, 1) := by decide +kernel
theorem dX3_init_20 : decode cX3_init 20 = .ok (.bipush 60, 2) := by decide +kernel
theorem dX3_init_22 : decode cX3_init 22 = .ok (.newarray .int, 2) := by decide +kernel
theorem dX3_init_24 : decode cX3_init 24 = .ok (.putfield 22, 3) := by decide +kernel
theorem dX3_init_27 : decode cX3_init 27 = .ok (.return_, 1) := by decide +kernel
theorem dX3_become_0 : decode cX3_become 0 = .ok (.aload_n 0, 1) := by decide +kernel
theorem dX3_become_1 : decode cX3_become 1 = .ok (.iconst 1, 1) := by decide +kernel
theorem dX3_become_2 : decode cX3_become 2 = .ok (.putfield 9, 3) := by decide +kernel
theorem dX3_become_5 : decode cX3_become 5 = .ok (.aload_n 0, 1) := by decide +kernel
theorem dX3_become_6 : decode cX3_become 6 = .ok (.iload_n 1, 1) := by decide +kernel
theorem dX3_become_7 : decode cX3_become 7 = .ok (.putfield 15, 3) := by decide +kernel
theorem dX3_become_10 : decode cX3_become 10 = .ok (.aload_n 0, 1) := by decide +kernel
theorem dX3_become_11 : decode cX3_become 11 = .ok (.iload_n 2, 1) := by decide +kernel
theorem dX3_become_12 : decode cX3_become 12 = .ok (.putfield 19, 3) := by decide +kernel
theorem dX3_become_15 : decode cX3_become 15 = .ok (.aload_n 0, 1) := by decide +kernel
theorem dX3_become_16 : decode cX3_become 16 = .ok (.getfield 22, 3) := by decide +kernel
theorem dX3_become_19 : decode cX3_become 19 = .ok (.iconst 0, 1) := by decide +kernel
theorem dX3_become_20 : decode cX3_become 20 = .ok (.invokestatic 26, 3) := by decide +kernel
theorem dX3_become_23 : decode cX3_become 23 = .ok (.return_, 1) := by decide +kernel
theorem dX3_hasFrom_0 : decode cX3_hasFrom 0 = .ok (.iload_n 1, 1) := by decide +kernel
theorem dX3_hasFrom_1 : decode cX3_hasFrom 1 = .ok (.ifCond .lt 17, 3) := by decide +kernel
theorem dX3_hasFrom_4 : decode cX3_hasFrom 4 = .ok (.iload_n 1, 1) := by decide +kernel
theorem dX3_hasFrom_5 : decode cX3_hasFrom 5 = .ok (.aload_n 0, 1) := by decide +kernel
theorem dX3_hasFrom_6 : decode cX3_hasFrom 6 = .ok (.getfield 19, 3) := by decide +kernel
theorem dX3_hasFrom_9 : decode cX3_hasFrom 9 = .ok (.iload_n 2, 1) := by decide +kernel
theorem dX3_hasFrom_10 : decode cX3_hasFrom 10 = .ok (.isub, 1) := by decide +kernel
theorem dX3_hasFrom_11 : decode cX3_hasFrom 11 = .ok (.if_icmp .gt 7, 3) := by decide +kernel
theorem dX3_hasFrom_14 : decode cX3_hasFrom 14 = .ok (.iconst 1, 1) := by decide +kernel
theorem dX3_hasFrom_15 : decode cX3_hasFrom 15 = .ok (.goto 4, 3) := by decide +kernel
theorem dX3_hasFrom_18 : decode cX3_hasFrom 18 = .ok (.iconst 0, 1) := by decide +kernel
theorem dX3_hasFrom_19 : decode cX3_hasFrom 19 = .ok (.ireturn, 1) := by decide +kernel
theorem dX3_narrowed_0 : decode cX3_narrowed 0 = .ok (.aload_n 0, 1) := by decide +kernel
theorem dX3_narrowed_1 : decode cX3_narrowed 1 = .ok (.getfield 15, 3) := by decide +kernel
theorem dX3_narrowed_4 : decode cX3_narrowed 4 = .ok (.tableswitch 37 0 2 #[28, 31, 34], 28) := by decide +kernel
theorem dX3_narrowed_32 : decode cX3_narrowed 32 = .ok (.iload_n 1, 1) := by decide +kernel
theorem dX3_narrowed_33 : decode cX3_narrowed 33 = .ok (.i2b, 1) := by decide +kernel
theorem dX3_narrowed_34 : decode cX3_narrowed 34 = .ok (.ireturn, 1) := by decide +kernel
theorem dX3_narrowed_35 : decode cX3_narrowed 35 = .ok (.iload_n 1, 1) := by decide +kernel
theorem dX3_narrowed_36 : decode cX3_narrowed 36 = .ok (.i2s, 1) := by decide +kernel
theorem dX3_narrowed_37 : decode cX3_narrowed 37 = .ok (.ireturn, 1) := by decide +kernel
theorem dX3_narrowed_38 : decode cX3_narrowed 38 = .ok (.iload_n 1, 1) := by decide +kernel
theorem dX3_narrowed_39 : decode cX3_narrowed 39 = .ok (.i2c, 1) := by decide +kernel
theorem dX3_narrowed_40 : decode cX3_narrowed 40 = .ok (.ireturn, 1) := by decide +kernel
theorem dX3_narrowed_41 : decode cX3_narrowed 41 = .ok (.iload_n 1, 1) := by decide +kernel
theorem dX3_narrowed_42 : decode cX3_narrowed 42 = .ok (.ireturn, 1) := by decide +kernel
theorem dX4_init_0 : decode cX4_init 0 = .ok (.aload_n 0, 1) := by decide +kernel
theorem dX4_init_1 : decode cX4_init 1 = .ok (.invokespecial 3, 3) := by decide +kernel
theorem dX4_init_4 : decode cX4_init 4 = .ok (.aload_n 0, 1) := by decide +kernel
theorem dX4_init_5 : decode cX4_init 5 = .ok (.sipush 200, 3) := by decide +kernel
theorem dX4_init_8 : decode cX4_init 8 = .ok (.newarray .byte, 2) := by decide +kernel
theorem dX4_init_10 : decode cX4_init 10 = .ok (.putfield 9, 3) := by decide +kernel
theorem dX4_init_13 : decode cX4_init 13 = .ok (.aload_n 0, 1) := by decide +kernel
theorem dX4_init_14 : decode cX4_init 14 = .ok (.iconst 0, 1) := by decide +kernel
theorem dX4_init_15 : decode cX4_init 15 = .ok (.putfield 15, 3) := by decide +kernel
theorem dX4_init_18 : decode cX4_init 18 = .ok (.aload_n 0, 1) := by decide +kernel
theorem dX4_init_19 : decode cX4_init 19 = .ok (.iconst 0, 1) := by decide +kernel
theorem dX4_init_20 : decode cX4_init 20 = .ok (.putfield 19, 3) := by decide +kernel
theorem dX4_init_23 : decode cX4_init 23 = .ok (.aload_n 0, 1) := by decide +kernel
theorem dX4_init_24 : decode cX4_init 24 = .ok (.iconst 0, 1) := by decide +kernel
theorem dX4_init_25 : decode cX4_init 25 = .ok (.putfield 22, 3) := by decide +kernel
theorem dX4_init_28 : decode cX4_init 28 = .ok (.aload_n 0, 1) := by decide +kernel
theorem dX4_init_29 : decode cX4_init 29 = .ok (.iconst 0, 1) := by decide +kernel
theorem dX4_init_30 : decode cX4_init 30 = .ok (.putfield 25, 3) := by decide +kernel
theorem dX4_init_33 : decode cX4_init 33 = .ok (.aload_n 0, 1) := by decide +kernel
theorem dX4_init_34 : decode cX4_init 34 = .ok (.new 28, 3) := by decide +kernel
theorem dX4_init_37 : decode cX4_init 37 = .ok (.dup, 1) := by decide +kernel
theorem dX4_init_38 : decode cX4_init 38 = .ok (.invokespecial 30, 3) := by decide +kernel
theorem dX4_init_41 : decode cX4_init 41 = .ok (.putfield 31, 3) := by decide +kernel
theorem dX4_init_44 : decode cX4_init 44 = .ok (.return_, 1) := by decide +kernel
theorem dX4_append_0 : decode cX4_append 0 = .ok (.iconst 0, 1) := by decide +kernel
theorem dX4_append_1 : decode cX4_append 1 = .ok (.istore 4, 2) := by decide +kernel
theorem dX4_append_3 : decode cX4_append 3 = .ok (.iload 4, 2) := by decide +kernel
theorem dX4_append_5 : decode cX4_append 5 = .ok (.iload_n 3, 1) := by decide +kernel
theorem dX4_append_6 : decode cX4_append 6 = .ok (.if_icmp .ge 47, 3) := by decide +kernel
theorem dX4_append_9 : decode cX4_append 9 = .ok (.aload_n 0, 1) := by decide +kernel
theorem dX4_append_10 : decode cX4_append 10 = .ok (.getfield 15, 3) := by decide +kernel
theorem dX4_append_13 : decode cX4_append 13 = .ok (.sipush 200, 3) := by decide +kernel
theorem dX4_append_16 : decode cX4_append 16 = .ok (.if_icmp .ge 37, 3) := by decide +kernel
theorem dX4_append_19 : decode cX4_append 19 = .ok (.aload_n 0, 1) := by decide +kernel
theorem dX4_append_20 : decode cX4_append 20 = .ok (.getfield 9, 3) := by decide +kernel
theorem dX4_append_23 : decode cX4_append 23 = .ok (.aload_n 0, 1) := by decide +kernel
theorem dX4_append_24 : decode cX4_append 24 = .ok (.getfield 15, 3) := by decide +kernel
theorem dX4_append_27 : decode cX4_append 27 = .ok (.lload_n 1, 1) := by decide +kernel
theorem dX4_append_28 : decode cX4_append 28 = .ok (.bipush 8, 2) := by decide +kernel
theorem dX4_append_30 : decode cX4_append 30 = .ok (.iload 4, 2) := by decide +kernel
theorem dX4_append_32 : decode cX4_append 32 = .ok (.imul, 1) := by decide +kernel
theorem dX4_append_33 : decode cX4_append 33 = .ok (.lushr, 1) := by decide +kernel
theorem dX4_append_34 : decode cX4_append 34 = .ok (.l2i, 1) := by decide +kernel
theorem dX4_append_35 : decode cX4_append 35 = .ok (.i2b, 1) := by decide +kernel
theorem dX4_append_36 : decode cX4_append 36 = .ok (.bastore, 1) := by decide +kernel
theorem dX4_append_37 : decode cX4_append 37 = .ok (.aload_n 0, 1) := by decide +kernel
theorem dX4_append_38 : decode cX4_append 38 = .ok (.dup, 1) := by decide +kernel
theorem dX4_append_39 : decode cX4_append 39 = .ok (.getfield 15, 3) := by decide +kernel
theorem dX4_append_42 : decode cX4_append 42 = .ok (.iconst 1, 1) := by decide +kernel
theorem dX4_append_43 : decode cX4_append 43 = .ok (.iadd, 1) := by decide +kernel
theorem dX4_append_44 : decode cX4_append 44 = .ok (.putfield 15, 3) := by decide +kernel
theorem dX4_append_47 : decode cX4_append 47 = .ok (.iinc 4 1, 3) := by decide +kernel
theorem dX4_append_50 : decode cX4_append 50 = .ok (.goto (-47), 3) := by decide +kernel
theorem dX4_append_53 : decode cX4_append 53 = .ok (.return_, 1) := by decide +kernel
theorem dX4_readAll_0 : decode cX4_readAll 0 = .ok (.aload_n 0, 1) := by decide +kernel
theorem dX4_readAll_1 : decode cX4_readAll 1 = .ok (.iconst 0, 1) := by decide +kernel
theorem dX4_readAll_2 : decode cX4_readAll 2 = .ok (.putfield 19, 3) := by decide +kernel
theorem dX4_readAll_5 : decode cX4_readAll 5 = .ok (.aload_n 0, 1) := by decide +kernel
theorem dX4_readAll_6 : decode cX4_readAll 6 = .ok (.iload_n 1, 1) := by decide +kernel
theorem dX4_readAll_7 : decode cX4_readAll 7 = .ok (.putfield 22, 3) := by decide +kernel
theorem dX4_readAll_10 : decode cX4_readAll 10 = .ok (.aload_n 0, 1) := by decide +kernel
theorem dX4_readAll_11 : decode cX4_readAll 11 = .ok (.getfield 31, 3) := by decide +kernel
theorem dX4_readAll_14 : decode cX4_readAll 14 = .ok (.invokevirtual 35, 3) := by decide +kernel
theorem dX4_readAll_17 : decode cX4_readAll 17 = .ok (.aload_n 0, 1) := by decide +kernel
theorem dX4_readAll_18 : decode cX4_readAll 18 = .ok (.invokevirtual 38, 3) := by decide +kernel
theorem dX4_readAll_21 : decode cX4_readAll 21 = .ok (.istore_n 2, 1) := by decide +kernel
theorem dX4_readAll_22 : decode cX4_readAll 22 = .ok (.iconst 0, 1) := by decide +kernel
theorem dX4_readAll_23 : decode cX4_readAll 23 = .ok (.istore_n 3, 1) := by decide +kernel
theorem dX4_readAll_24 : decode cX4_readAll 24 = .ok (.iload_n 3, 1) := by decide +kernel
theorem dX4_readAll_25 : decode cX4_readAll 25 = .ok (.sipush 200, 3) := by decide +kernel
theorem dX4_readAll_28 : decode cX4_readAll 28 = .ok (.if_icmp .ge 29, 3) := by decide +kernel
theorem dX4_readAll_31 : decode cX4_readAll 31 = .ok (.iload_n 2, 1) := by decide +kernel
theorem dX4_readAll_32 : decode cX4_readAll 32 = .ok (.ifCond .eq 25, 3) := by decide +kernel
theorem dX4_readAll_35 : decode cX4_readAll 35 = .ok (.aload_n 0, 1) := by decide +kernel
theorem dX4_readAll_36 : decode cX4_readAll 36 = .ok (.getfield 19, 3) := by decide +kernel
theorem dX4_readAll_39 : decode cX4_readAll 39 = .ok (.aload_n 0, 1) := by decide +kernel
theorem dX4_readAll_40 : decode cX4_readAll 40 = .ok (.getfield 15, 3) := by decide +kernel
theorem dX4_readAll_43 : decode cX4_readAll 43 = .ok (.if_icmp .ge 14, 3) := by decide +kernel
theorem dX4_readAll_46 : decode cX4_readAll 46 = .ok (.aload_n 0, 1) := by decide +kernel
theorem dX4_readAll_47 : decode cX4_readAll 47 = .ok (.invokevirtual 42, 3) := by decide +kernel
theorem dX4_readAll_50 : decode cX4_readAll 50 = .ok (.istore_n 2, 1) := by decide +kernel
theorem dX4_readAll_51 : decode cX4_readAll 51 = .ok (.iinc 3 1, 3) := by decide +kernel
theorem dX4_readAll_54 : decode cX4_readAll 54 = .ok (.goto (-30), 3) := by decide +kernel
theorem dX4_readAll_57 : decode cX4_readAll 57 = .ok (.iload_n 2, 1) := by decide +kernel
theorem dX4_readAll_58 : decode cX4_readAll 58 = .ok (.ireturn, 1) := by decide +kernel
theorem dX4_readNextGroup_0 : decode cX4_readNextGroup 0 = .ok (.aload_n 0, 1) := by decide +kernel
theorem dX4_readNextGroup_1 : decode cX4_readNextGroup 1 = .ok (.getfield 25, 3) := by decide +kernel
theorem dX4_readNextGroup_4 : decode cX4_readNextGroup 4 = .ok (.istore_n 1, 1) := by decide +kernel
theorem dX4_readNextGroup_5 : decode cX4_readNextGroup 5 = .ok (.iconst 0, 1) := by decide +kernel
theorem dX4_readNextGroup_6 : decode cX4_readNextGroup 6 = .ok (.istore_n 2, 1) := by decide +kernel
theorem dX4_readNextGroup_7 : decode cX4_readNextGroup 7 = .ok (.aload_n 0, 1) := by decide +kernel
theorem dX4_readNextGroup_8 : decode cX4_readNextGroup 8 = .ok (.bipush 60, 2) := by decide +kernel
theorem dX4_readNextGroup_10 : decode cX4_readNextGroup 10 = .ok (.invokevirtual 45, 3) := by decide +kernel
theorem dX4_readNextGroup_13 : decode cX4_readNextGroup 13 = .ok (.ifCond .eq 21, 3) := by decide +kernel
theorem dX4_readNextGroup_16 : decode cX4_readNextGroup 16 = .ok (.aload_n 0, 1) := by decide +kernel
theorem dX4_readNextGroup_17 : decode cX4_readNextGroup 17 = .ok (.bipush 61, 2) := by decide +kernel
theorem dX4_readNextGroup_19 : decode cX4_readNextGroup 19 = .ok (.invokevirtual 45, 3) := by decide +kernel
theorem dX4_readNextGroup_22 : decode cX4_readNextGroup 22 = .ok (.ifCond .eq 7, 3) := by decide +kernel
theorem dX4_readNextGroup_25 : decode cX4_readNextGroup 25 = .ok (.iconst 2, 1) := by decide +kernel
theorem dX4_readNextGroup_26 : decode cX4_readNextGroup 26 = .ok (.goto 4, 3) := by decide +kernel
theorem dX4_readNextGroup_29 : decode cX4_readNextGroup 29 = .ok (.iconst 1, 1) := by decide +kernel
theorem dX4_readNextGroup_30 : decode cX4_readNextGroup 30 = .ok (.istore_n 2, 1) := by decide +kernel
theorem dX4_readNextGroup_31 : decode cX4_readNextGroup 31 = .ok (.goto 14, 3) := by decide +kernel
theorem dX4_readNextGroup_34 : decode cX4_readNextGroup 34 = .ok (.aload_n 0, 1) := by decide +kernel
theorem dX4_readNextGroup_35 : decode cX4_readNextGroup 35 = .ok (.bipush 59, 2) := by decide +kernel
theorem dX4_readNextGroup_37 : decode cX4_readNextGroup 37 = .ok (.invokevirtual 45, 3) := by decide +kernel
theorem dX4_readNextGroup_40 : decode cX4_readNextGroup 40 = .ok (.ifCond .ne 5, 3) := by decide +kernel
theorem dX4_readNextGroup_43 : decode cX4_readNextGroup 43 = .ok (.iconst 0, 1) := by decide +kernel
theorem dX4_readNextGroup_44 : decode cX4_readNextGroup 44 = .ok (.ireturn, 1) := by decide +kernel
theorem dX4_readNextGroup_45 : decode cX4_readNextGroup 45 = .ok (.aload_n 0, 1) := by decide +kernel
theorem dX4_readNextGroup_46 : decode cX4_readNextGroup 46 = .ok (.invokevirtual 38, 3) := by decide +kernel
theorem dX4_readNextGroup_49 : decode cX4_readNextGroup 49 = .ok (.ifCond .ne 5, 3) := by decide +kernel
theorem dX4_readNextGroup_52 : decode cX4_readNextGroup 52 = .ok (.iconst 0, 1) := by decide +kernel
theorem dX4_readNextGroup_53 : decode cX4_readNextGroup 53 = .ok (.ireturn, 1) := by decide +kernel
theorem dX4_readNextGroup_54 : decode cX4_readNextGroup 54 = .ok (.iload_n 2, 1) := by decide +kernel
theorem dX4_readNextGroup_55 : decode cX4_readNextGroup 55 = .ok (.ifCond .eq 9, 3) := by decide +kernel
theorem dX4_readNextGroup_58 : decode cX4_readNextGroup 58 = .ok (.aload_n 0, 1) := by decide +kernel
theorem dX4_readNextGroup_59 : decode cX4_readNextGroup 59 = .ok (.iload_n 1, 1) := by decide +kernel
theorem dX4_readNextGroup_60 : decode cX4_readNextGroup 60 = .ok (.iload_n 2, 1) := by decide +kernel
theorem dX4_readNextGroup_61 : decode cX4_readNextGroup 61 = .ok (.invokevirtual 49, 3) := by decide +kernel
theorem dX4_readNextGroup_64 : decode cX4_readNextGroup 64 = .ok (.iconst 1, 1) := by decide +kernel
theorem dX4_readNextGroup_65 : decode cX4_readNextGroup 65 = .ok (.ireturn, 1) := by decide +kernel
theorem dX4_readGroup_0 : decode cX4_readGroup 0 = .ok (.aload_n 0, 1) := by decide +kernel
theorem dX4_readGroup_1 : decode cX4_readGroup 1 = .ok (.iconst 0, 1) := by decide +kernel
theorem dX4_readGroup_2 : decode cX4_readGroup 2 = .ok (.putfield 25, 3) := by decide +kernel
theorem dX4_readGroup_5 : decode cX4_readGroup 5 = .ok (.aload_n 0, 1) := by decide +kernel
theorem dX4_readGroup_6 : decode cX4_readGroup 6 = .ok (.bipush 40, 2) := by decide +kernel
theorem dX4_readGroup_8 : decode cX4_readGroup 8 = .ok (.invokevirtual 45, 3) := by decide +kernel
theorem dX4_readGroup_11 : decode cX4_readGroup 11 = .ok (.ifCond .ne 8, 3) := by decide +kernel
theorem dX4_readGroup_14 : decode cX4_readGroup 14 = .ok (.aload_n 0, 1) := by decide +kernel
theorem dX4_readGroup_15 : decode cX4_readGroup 15 = .ok (.invokevirtual 53, 3) := by decide +kernel
theorem dX4_readGroup_18 : decode cX4_readGroup 18 = .ok (.ireturn, 1) := by decide +kernel
theorem dX4_readGroup_19 : decode cX4_readGroup 19 = .ok (.aload_n 0, 1) := by decide +kernel
theorem dX4_readGroup_20 : decode cX4_readGroup 20 = .ok (.invokevirtual 53, 3) := by decide +kernel
theorem dX4_readGroup_23 : decode cX4_readGroup 23 = .ok (.istore_n 1, 1) := by decide +kernel
theorem dX4_readGroup_24 : decode cX4_readGroup 24 = .ok (.iconst 0, 1) := by decide +kernel
theorem dX4_readGroup_25 : decode cX4_readGroup 25 = .ok (.istore_n 2, 1) := by decide +kernel
theorem dX4_readGroup_26 : decode cX4_readGroup 26 = .ok (.iload_n 2, 1) := by decide +kernel
theorem dX4_readGroup_27 : decode cX4_readGroup 27 = .ok (.sipush 200, 3) := by decide +kernel
theorem dX4_readGroup_30 : decode cX4_readGroup 30 = .ok (.if_icmp .ge 27, 3) := by decide +kernel
theorem dX4_readGroup_33 : decode cX4_readGroup 33 = .ok (.iload_n 1, 1) := by decide +kernel
theorem dX4_readGroup_34 : decode cX4_readGroup 34 = .ok (.ifCond .eq 23, 3) := by decide +kernel
theorem dX4_readGroup_37 : decode cX4_readGroup 37 = .ok (.aload_n 0, 1) := by decide +kernel
theorem dX4_readGroup_38 : decode cX4_readGroup 38 = .ok (.bipush 44, 2) := by decide +kernel
theorem dX4_readGroup_40 : decode cX4_readGroup 40 = .ok (.invokevirtual 45, 3) := by decide +kernel
theorem dX4_readGroup_43 : decode cX4_readGroup 43 = .ok (.ifCond .eq 14, 3) := by decide +kernel
theorem dX4_readGroup_46 : decode cX4_readGroup 46 = .ok (.aload_n 0, 1) := by decide +kernel
theorem dX4_readGroup_47 : decode cX4_readGroup 47 = .ok (.invokevirtual 53, 3) := by decide +kernel
theorem dX4_readGroup_50 : decode cX4_readGroup 50 = .ok (.istore_n 1, 1) := by decide +kernel
theorem dX4_readGroup_51 : decode cX4_readGroup 51 = .ok (.iinc 2 1, 3) := by decide +kernel
theorem dX4_readGroup_54 : decode cX4_readGroup 54 = .ok (.goto (-28), 3) := by decide +kernel
theorem dX4_readGroup_57 : decode cX4_readGroup 57 = .ok (.iload_n 1, 1) := by decide +kernel
theorem dX4_readGroup_58 : decode cX4_readGroup 58 = .ok (.ifCond .eq 16, 3) := by decide +kernel
theorem dX4_readGroup_61 : decode cX4_readGroup 61 = .ok (.aload_n 0, 1) := by decide +kernel
theorem dX4_readGroup_62 : decode cX4_readGroup 62 = .ok (.bipush 41, 2) := by decide +kernel
theorem dX4_readGroup_64 : decode cX4_readGroup 64 = .ok (.invokevirtual 45, 3) := by decide +kernel
theorem dX4_readGroup_67 : decode cX4_readGroup 67 = .ok (.ifCond .eq 7, 3) := by decide +kernel
theorem dX4_readGroup_70 : decode cX4_readGroup 70 = .ok (.iconst 1, 1) := by decide +kernel
theorem dX4_readGroup_71 : decode cX4_readGroup 71 = .ok (.goto 4, 3) := by decide +kernel
theorem dX4_readGroup_74 : decode cX4_readGroup 74 = .ok (.iconst 0, 1) := by decide +kernel
theorem dX4_readGroup_75 : decode cX4_readGroup 75 = .ok (.ireturn, 1) := by decide +kernel
theorem dX4_readName_0 : decode cX4_readName 0 = .ok (.aload_n 0, 1) := by decide +kernel
theorem dX4_readName_1 : decode cX4_readName 1 = .ok (.getfield 19, 3) := by decide +kernel
theorem dX4_readName_4 : decode cX4_readName 4 = .ok (.aload_n 0, 1) := by decide +kernel
theorem dX4_readName_5 : decode cX4_readName 5 = .ok (.getfield 15, 3) := by decide +kernel
theorem dX4_readName_8 : decode cX4_readName 8 = .ok (.if_icmp .ge 18, 3) := by decide +kernel
theorem dX4_readName_11 : decode cX4_readName 11 = .ok (.aload_n 0, 1) := by decide +kernel
theorem dX4_readName_12 : decode cX4_readName 12 = .ok (.getfield 9, 3) := by decide +kernel
theorem dX4_readName_15 : decode cX4_readName 15 = .ok (.aload_n 0, 1) := by decide +kernel
theorem dX4_readName_16 : decode cX4_readName 16 = .ok (.getfield 19, 3) := by decide +kernel
theorem dX4_readName_19 : decode cX4_readName 19 = .ok (.baload, 1) := by decide +kernel
theorem dX4_readName_20 : decode cX4_readName 20 = .ok (.bipush 97, 2) := by decide +kernel
theorem dX4_readName_22 : decode cX4_readName 22 = .ok (.isub, 1) := by decide +kernel
theorem dX4_readName_23 : decode cX4_readName 23 = .ok (.goto 4, 3) := by decide +kernel
theorem dX4_readName_26 : decode cX4_readName 26 = .ok (.iconst (-1), 1) := by decide +kernel
theorem dX4_readName_27 : decode cX4_readName 27 = .ok (.istore_n 1, 1) := by decide +kernel
theorem dX4_readName_28 : decode cX4_readName 28 = .ok (.iload_n 1, 1) := by decide +kernel
theorem dX4_readName_29 : decode cX4_readName 29 = .ok (.ifCond .lt 11, 3) := by decide +kernel
theorem dX4_readName_32 : decode cX4_readName 32 = .ok (.iload_n 1, 1) := by decide +kernel
theorem dX4_readName_33 : decode cX4_readName 33 = .ok (.aload_n 0, 1) := by decide +kernel
theorem dX4_readName_34 : decode cX4_readName 34 = .ok (.getfield 22, 3) := by decide +kernel
theorem dX4_readName_37 : decode cX4_readName 37 = .ok (.if_icmp .lt 5, 3) := by decide +kernel
theorem dX4_readName_40 : decode cX4_readName 40 = .ok (.iconst 0, 1) := by decide +kernel
theorem dX4_readName_41 : decode cX4_readName 41 = .ok (.ireturn, 1) := by decide +kernel
theorem dX4_readName_42 : decode cX4_readName 42 = .ok (.aload_n 0, 1) := by decide +kernel
theorem dX4_readName_43 : decode cX4_readName 43 = .ok (.dup, 1) := by decide +kernel
theorem dX4_readName_44 : decode cX4_readName 44 = .ok (.getfield 25, 3) := by decide +kernel
theorem dX4_readName_47 : decode cX4_readName 47 = .ok (.iconst 1, 1) := by decide +kernel
theorem dX4_readName_48 : decode cX4_readName 48 = .ok (.iload_n 1, 1) := by decide +kernel
theorem dX4_readName_49 : decode cX4_readName 49 = .ok (.ishl, 1) := by decide +kernel
theorem dX4_readName_50 : decode cX4_readName 50 = .ok (.ior, 1) := by decide +kernel
theorem dX4_readName_51 : decode cX4_readName 51 = .ok (.putfield 25, 3) := by decide +kernel
theorem dX4_readName_54 : decode cX4_readName 54 = .ok (.aload_n 0, 1) := by decide +kernel
theorem dX4_readName_55 : decode cX4_readName 55 = .ok (.dup, 1) := by decide +kernel
theorem dX4_readName_56 : decode cX4_readName 56 = .ok (.getfield 19, 3) := by decide +kernel
theorem dX4_readName_59 : decode cX4_readName 59 = .ok (.iconst 1, 1) := by decide +kernel
theorem dX4_readName_60 : decode cX4_readName 60 = .ok (.iadd, 1) := by decide +kernel
theorem dX4_readName_61 : decode cX4_readName 61 = .ok (.putfield 19, 3) := by decide +kernel
theorem dX4_readName_64 : decode cX4_readName 64 = .ok (.iconst 1, 1) := by decide +kernel
theorem dX4_readName_65 : decode cX4_readName 65 = .ok (.ireturn, 1) := by decide +kernel
theorem dX4_skip_0 : decode cX4_skip 0 = .ok (.aload_n 0, 1) := by decide +kernel
theorem dX4_skip_1 : decode cX4_skip 1 = .ok (.getfield 19, 3) := by decide +kernel
theorem dX4_skip_4 : decode cX4_skip 4 = .ok (.aload_n 0, 1) := by decide +kernel
theorem dX4_skip_5 : decode cX4_skip 5 = .ok (.getfield 15, 3) := by decide +kernel
theorem dX4_skip_8 : decode cX4_skip 8 = .ok (.if_icmp .ge 16, 3) := by decide +kernel
theorem dX4_skip_11 : decode cX4_skip 11 = .ok (.aload_n 0, 1) := by decide +kernel
theorem dX4_skip_12 : decode cX4_skip 12 = .ok (.getfield 9, 3) := by decide +kernel
theorem dX4_skip_15 : decode cX4_skip 15 = .ok (.aload_n 0, 1) := by decide +kernel
theorem dX4_skip_16 : decode cX4_skip 16 = .ok (.getfield 19, 3) := by decide +kernel
theorem dX4_skip_19 : decode cX4_skip 19 = .ok (.baload, 1) := by decide +kernel
theorem dX4_skip_20 : decode cX4_skip 20 = .ok (.iload_n 1, 1) := by decide +kernel
theorem dX4_skip_21 : decode cX4_skip 21 = .ok (.if_icmp .eq 5, 3) := by decide +kernel
theorem dX4_skip_24 : decode cX4_skip 24 = .ok (.iconst 0, 1) := by decide +kernel
theorem dX4_skip_25 : decode cX4_skip 25 = .ok (.ireturn, 1) := by decide +kernel
theorem dX4_skip_26 : decode cX4_skip 26 = .ok (.aload_n 0, 1) := by decide +kernel
theorem dX4_skip_27 : decode cX4_skip 27 = .ok (.dup, 1) := by decide +kernel
theorem dX4_skip_28 : decode cX4_skip 28 = .ok (.getfield 19, 3) := by decide +kernel
theorem dX4_skip_31 : decode cX4_skip 31 = .ok (.iconst 1, 1) := by decide +kernel
theorem dX4_skip_32 : decode cX4_skip 32 = .ok (.iadd, 1) := by decide +kernel
theorem dX4_skip_33 : decode cX4_skip 33 = .ok (.putfield 19, 3) := by decide +kernel
theorem dX4_skip_36 : decode cX4_skip 36 = .ok (.iconst 1, 1) := by decide +kernel
theorem dX4_skip_37 : decode cX4_skip 37 = .ok (.ireturn, 1) := by decide +kernel
theorem dX4_relate_0 : decode cX4_relate 0 = .ok (.iconst 0, 1) := by decide +kernel
theorem dX4_relate_1 : decode cX4_relate 1 = .ok (.istore_n 3, 1) := by decide +kernel
theorem dX4_relate_2 : decode cX4_relate 2 = .ok (.iload_n 3, 1) := by decide +kernel
theorem dX4_relate_3 : decode cX4_relate 3 = .ok (.aload_n 0, 1) := by decide +kernel
theorem dX4_relate_4 : decode cX4_relate 4 = .ok (.getfield 22, 3) := by decide +kernel
theorem dX4_relate_7 : decode cX4_relate 7 = .ok (.if_icmp .ge 64, 3) := by decide +kernel
theorem dX4_relate_10 : decode cX4_relate 10 = .ok (.iconst 0, 1) := by decide +kernel
theorem dX4_relate_11 : decode cX4_relate 11 = .ok (.istore 4, 2) := by decide +kernel
theorem dX4_relate_13 : decode cX4_relate 13 = .ok (.iload 4, 2) := by decide +kernel
theorem dX4_relate_15 : decode cX4_relate 15 = .ok (.aload_n 0, 1) := by decide +kernel
theorem dX4_relate_16 : decode cX4_relate 16 = .ok (.getfield 22, 3) := by decide +kernel
theorem dX4_relate_19 : decode cX4_relate 19 = .ok (.if_icmp .ge 46, 3) := by decide +kernel
theorem dX4_relate_22 : decode cX4_relate 22 = .ok (.iload_n 3, 1) := by decide +kernel
theorem dX4_relate_23 : decode cX4_relate 23 = .ok (.iload 4, 2) := by decide +kernel
theorem dX4_relate_25 : decode cX4_relate 25 = .ok (.if_icmp .eq 34, 3) := by decide +kernel
theorem dX4_relate_28 : decode cX4_relate 28 = .ok (.iload_n 1, 1) := by decide +kernel
theorem dX4_relate_29 : decode cX4_relate 29 = .ok (.iload_n 3, 1) := by decide +kernel
theorem dX4_relate_30 : decode cX4_relate 30 = .ok (.ishr, 1) := by decide +kernel
theorem dX4_relate_31 : decode cX4_relate 31 = .ok (.iconst 1, 1) := by decide +kernel
theorem dX4_relate_32 : decode cX4_relate 32 = .ok (.iand, 1) := by decide +kernel
theorem dX4_relate_33 : decode cX4_relate 33 = .ok (.ifCond .eq 26, 3) := by decide +kernel
theorem dX4_relate_36 : decode cX4_relate 36 = .ok (.aload_n 0, 1) := by decide +kernel
theorem dX4_relate_37 : decode cX4_relate 37 = .ok (.getfield 25, 3) := by decide +kernel
theorem dX4_relate_40 : decode cX4_relate 40 = .ok (.iload 4, 2) := by decide +kernel
theorem dX4_relate_42 : decode cX4_relate 42 = .ok (.ishr, 1) := by decide +kernel
theorem dX4_relate_43 : decode cX4_relate 43 = .ok (.iconst 1, 1) := by decide +kernel
theorem dX4_relate_44 : decode cX4_relate 44 = .ok (.iand, 1) := by decide +kernel
theorem dX4_relate_45 : decode cX4_relate 45 = .ok (.ifCond .eq 14, 3) := by decide +kernel
theorem dX4_relate_48 : decode cX4_relate 48 = .ok (.aload_n 0, 1) := by decide +kernel
theorem dX4_relate_49 : decode cX4_relate 49 = .ok (.getfield 31, 3) := by decide +kernel
theorem dX4_relate_52 : decode cX4_relate 52 = .ok (.iload_n 3, 1) := by decide +kernel
theorem dX4_relate_53 : decode cX4_relate 53 = .ok (.iload 4, 2) := by decide +kernel
theorem dX4_relate_55 : decode cX4_relate 55 = .ok (.iload_n 2, 1) := by decide +kernel
theorem dX4_relate_56 : decode cX4_relate 56 = .ok (.invokevirtual 56, 3) := by decide +kernel
theorem dX4_relate_59 : decode cX4_relate 59 = .ok (.iinc 4 1, 3) := by decide +kernel
theorem dX4_relate_62 : decode cX4_relate 62 = .ok (.goto (-49), 3) := by decide +kernel
theorem dX4_relate_65 : decode cX4_relate 65 = .ok (.iinc 3 1, 3) := by decide +kernel
theorem dX4_relate_68 : decode cX4_relate 68 = .ok (.goto (-66), 3) := by decide +kernel
theorem dX4_relate_71 : decode cX4_relate 71 = .ok (.return_, 1) := by decide +kernel
theorem dX5_init_0 : decode cX5_init 0 = .ok (.aload_n 0, 1) := by decide +kernel
theorem dX5_init_1 : decode cX5_init 1 = .ok (.invokespecial 3, 3) := by decide +kernel
theorem dX5_init_4 : decode cX5_init 4 = .ok (.aload_n 0, 1) := by decide +kernel
theorem dX5_init_5 : decode cX5_init 5 = .ok (.bipush 30, 2) := by decide +kernel
theorem dX5_init_7 : decode cX5_init 7 = .ok (.putfield 9, 3) := by decide +kernel
theorem dX5_init_10 : decode cX5_init 10 = .ok (.aload_n 0, 1) := by decide +kernel
theorem dX5_init_11 : decode cX5_init 11 = .ok (.bipush 40, 2) := by decide +kernel
theorem dX5_init_13 : decode cX5_init 13 = .ok (.newarray .int, 2) := by decide +kernel
theorem dX5_init_15 : decode cX5_init 15 = .ok (.putfield 15, 3) := by decide +kernel
theorem dX5_init_18 : decode cX5_init 18 = .ok (.aload_n 0, 1) := by decide +kernel
theorem dX5_init_19 : decode cX5_init 19 = .ok (.bipush 21, 2) := by decide +kernel
theorem dX5_init_21 : decode cX5_init 21 = .ok (.newarray .int, 2) := by decide +kernel
theorem dX5_init_23 : decode cX5_init 23 = .ok (.putfield 19, 3) := by decide +kernel
theorem dX5_init_26 : decode cX5_init 26 = .ok (.aload_n 0, 1) := by decide +kernel
theorem dX5_init_27 : decode cX5_init 27 = .ok (.iconst 0, 1) := by decide +kernel
theorem dX5_init_28 : decode cX5_init 28 = .ok (.putfield 22, 3) := by decide +kernel
theorem dX5_init_31 : decode cX5_init 31 = .ok (.aload_n 0, 1) := by decide +kernel
theorem dX5_init_32 : decode cX5_init 32 = .ok (.bipush 7, 2) := by decide +kernel
theorem dX5_init_34 : decode cX5_init 34 = .ok (.anewarray 25, 3) := by decide +kernel
theorem dX5_init_37 : decode cX5_init 37 = .ok (.putfield 27, 3) := by decide +kernel
theorem dX5_init_40 : decode cX5_init 40 = .ok (.aload_n 0, 1) := by decide +kernel
theorem dX5_init_41 : decode cX5_init 41 = .ok (.new 31, 3) := by decide +kernel
theorem dX5_init_44 : decode cX5_init 44 = .ok (.dup, 1) := by decide +kernel
theorem dX5_init_45 : decode cX5_init 45 = .ok (.invokespecial 33, 3) := by decide +kernel
theorem dX5_init_48 : decode cX5_init 48 = .ok (.putfield 34, 3) := by decide +kernel
theorem dX5_init_51 : decode cX5_init 51 = .ok (.iconst 0, 1) := by decide +kernel
theorem dX5_init_52 : decode cX5_init 52 = .ok (.istore_n 1, 1) := by decide +kernel
theorem dX5_init_53 : decode cX5_init 53 = .ok (.iload_n 1, 1) := by decide +kernel
theorem dX5_init_54 : decode cX5_init 54 = .ok (.bipush 40, 2) := by decide +kernel
theorem dX5_init_56 : decode cX5_init 56 = .ok (.if_icmp .ge 22, 3) := by decide +kernel
theorem dX5_init_59 : decode cX5_init 59 = .ok (.aload_n 0, 1) := by decide +kernel
theorem dX5_init_60 : decode cX5_init 60 = .ok (.getfield 15, 3) := by decide +kernel
theorem dX5_init_63 : decode cX5_init 63 = .ok (.iload_n 1, 1) := by decide +kernel
theorem dX5_init_64 : decode cX5_init 64 = .ok (.sipush 500, 3) := by decide +kernel
theorem dX5_init_67 : decode cX5_init 67 = .ok (.iconst 5, 1) := by decide +kernel
theorem dX5_init_68 : decode cX5_init 68 = .ok (.iload_n 1, 1) := by decide +kernel
theorem dX5_init_69 : decode cX5_init 69 = .ok (.imul, 1) := by decide +kernel
theorem dX5_init_70 : decode cX5_init 70 = .ok (.isub, 1) := by decide +kernel
theorem dX5_init_71 : decode cX5_init 71 = .ok (.iastore, 1) := by decide +kernel
theorem dX5_init_72 : decode cX5_init 72 = .ok (.iinc 1 1, 3) := by decide +kernel
theorem dX5_init_75 : decode cX5_init 75 = .ok (.goto (-22), 3) := by decide +kernel
theorem dX5_init_78 : decode cX5_init 78 = .ok (.iconst 0, 1) := by decide +kernel
theorem dX5_init_79 : decode cX5_init 79 = .ok (.istore_n 1, 1) := by decide +kernel
theorem dX5_init_80 : decode cX5_init 80 = .ok (.iload_n 1, 1) := by decide +kernel
theorem dX5_init_81 : decode cX5_init 81 = .ok (.bipush 20, 2) := by decide +kernel
theorem dX5_init_83 : decode cX5_init 83 = .ok (.if_icmp .gt 23, 3) := by decide +kernel
theorem dX5_init_86 : decode cX5_init 86 = .ok (.aload_n 0, 1) := by decide +kernel
theorem dX5_init_87 : decode cX5_init 87 = .ok (.getfield 19, 3) := by decide +kernel
theorem dX5_init_90 : decode cX5_init 90 = .ok (.iload_n 1, 1) := by decide +kernel
theorem dX5_init_91 : decode cX5_init 91 = .ok (.iconst 0, 1) := by decide +kernel
theorem dX5_init_92 : decode cX5_init 92 = .ok (.bipush 9, 2) := by decide +kernel
theorem dX5_init_94 : decode cX5_init 94 = .ok (.iload_n 1, 1) := by decide +kernel
theorem dX5_init_95 : decode cX5_init 95 = .ok (.isub, 1) := by decide +kernel
theorem dX5_init_96 : decode cX5_init 96 = .ok (.invokestatic 38, 3) := by decide +kernel
theorem dX5_init_99 : decode cX5_init 99 = .ok (.iastore, 1) := by decide +kernel
theorem dX5_init_100 : decode cX5_init 100 = .ok (.iinc 1 1, 3) := by decide +kernel
theorem dX5_init_103 : decode cX5_init 103 = .ok (.goto (-23), 3) := by decide +kernel
theorem dX5_init_106 : decode cX5_init 106 = .ok (.iconst 0, 1) := by decide +kernel
theorem dX5_init_107 : decode cX5_init 107 = .ok (.istore_n 1, 1) := by decide +kernel
theorem dX5_init_108 : decode cX5_init 108 = .ok (.iload_n 1, 1) := by decide +kernel
theorem dX5_init_109 : decode cX5_init 109 = .ok (.bipush 7, 2) := by decide +kernel
theorem dX5_init_111 : decode cX5_init 111 = .ok (.if_icmp .ge 22, 3) := by decide +kernel
theorem dX5_init_114 : decode cX5_init 114 = .ok (.aload_n 0, 1) := by decide +kernel
theorem dX5_init_115 : decode cX5_init 115 = .ok (.getfield 27, 3) := by decide +kernel
theorem dX5_init_118 : decode cX5_init 118 = .ok (.iload_n 1, 1) := by decide +kernel
theorem dX5_init_119 : decode cX5_init 119 = .ok (.new 25, 3) := by decide +kernel
theorem dX5_init_122 : decode cX5_init 122 = .ok (.dup, 1) := by decide +kernel
theorem dX5_init_123 : decode cX5_init 123 = .ok (.invokespecial 44, 3) := by decide +kernel
theorem dX5_init_126 : decode cX5_init 126 = .ok (.aastore, 1) := by decide +kernel
theorem dX5_init_127 : decode cX5_init 127 = .ok (.iinc 1 1, 3) := by decide +kernel
theorem dX5_init_130 : decode cX5_init 130 = .ok (.goto (-22), 3) := by decide +kernel
theorem dX5_init_133 : decode cX5_init 133 = .ok (.return_, 1) := by decide +kernel
theorem dX5_copyFrom_0 : decode cX5_copyFrom 0 = .ok (.aload_n 0, 1) := by decide +kernel
theorem dX5_copyFrom_1 : decode cX5_copyFrom 1 = .ok (.aload_n 1, 1) := by decide +kernel
theorem dX5_copyFrom_2 : decode cX5_copyFrom 2 = .ok (.getfield 9, 3) := by decide +kernel
theorem dX5_copyFrom_5 : decode cX5_copyFrom 5 = .ok (.putfield 9, 3) := by decide +kernel
theorem dX5_copyFrom_8 : decode cX5_copyFrom 8 = .ok (.aload_n 1, 1) := by decide +kernel
theorem dX5_copyFrom_9 : decode cX5_copyFrom 9 = .ok (.getfield 15, 3) := by decide +kernel
theorem dX5_copyFrom_12 : decode cX5_copyFrom 12 = .ok (.iconst 0, 1) := by decide +kernel
theorem dX5_copyFrom_13 : decode cX5_copyFrom 13 = .ok (.aload_n 0, 1) := by decide +kernel
theorem dX5_copyFrom_14 : decode cX5_copyFrom 14 = .ok (.getfield 15, 3) := by decide +kernel
theorem dX5_copyFrom_17 : decode cX5_copyFrom 17 = .ok (.iconst 0, 1) := by decide +kernel
theorem dX5_copyFrom_18 : decode cX5_copyFrom 18 = .ok (.bipush 40, 2) := by decide +kernel
theorem dX5_copyFrom_20 : decode cX5_copyFrom 20 = .ok (.invokestatic 45, 3) := by decide +kernel
theorem dX5_copyFrom_23 : decode cX5_copyFrom 23 = .ok (.aload_n 1, 1) := by decide +kernel
theorem dX5_copyFrom_24 : decode cX5_copyFrom 24 = .ok (.getfield 19, 3) := by decide +kernel
theorem dX5_copyFrom_27 : decode cX5_copyFrom 27 = .ok (.iconst 0, 1) := by decide +kernel
theorem dX5_copyFrom_28 : decode cX5_copyFrom 28 = .ok (.aload_n 0, 1) := by decide +kernel
theorem dX5_copyFrom_29 : decode cX5_copyFrom 29 = .ok (.getfield 19, 3) := by decide +kernel
theorem dX5_copyFrom_32 : decode cX5_copyFrom 32 = .ok (.iconst 0, 1) := by decide +kernel
theorem dX5_copyFrom_33 : decode cX5_copyFrom 33 = .ok (.bipush 21, 2) := by decide +kernel
theorem dX5_copyFrom_35 : decode cX5_copyFrom 35 = .ok (.invokestatic 45, 3) := by decide +kernel
theorem dX5_copyFrom_38 : decode cX5_copyFrom 38 = .ok (.aload_n 0, 1) := by decide +kernel
theorem dX5_copyFrom_39 : decode cX5_copyFrom 39 = .ok (.aload_n 1, 1) := by decide +kernel
theorem dX5_copyFrom_40 : decode cX5_copyFrom 40 = .ok (.getfield 22, 3) := by decide +kernel
theorem dX5_copyFrom_43 : decode cX5_copyFrom 43 = .ok (.putfield 22, 3) := by decide +kernel
theorem dX5_copyFrom_46 : decode cX5_copyFrom 46 = .ok (.iconst 0, 1) := by decide +kernel
theorem dX5_copyFrom_47 : decode cX5_copyFrom 47 = .ok (.istore_n 2, 1) := by decide +kernel
theorem dX5_copyFrom_48 : decode cX5_copyFrom 48 = .ok (.iload_n 2, 1) := by decide +kernel
theorem dX5_copyFrom_49 : decode cX5_copyFrom 49 = .ok (.aload_n 1, 1) := by decide +kernel
theorem dX5_copyFrom_50 : decode cX5_copyFrom 50 = .ok (.getfield 22, 3) := by decide +kernel
theorem dX5_copyFrom_53 : decode cX5_copyFrom 53 = .ok (.if_icmp .ge 24, 3) := by decide +kernel
theorem dX5_copyFrom_56 : decode cX5_copyFrom 56 = .ok (.aload_n 0, 1) := by decide +kernel
theorem dX5_copyFrom_57 : decode cX5_copyFrom 57 = .ok (.getfield 27, 3) := by decide +kernel
theorem dX5_copyFrom_60 : decode cX5_copyFrom 60 = .ok (.iload_n 2, 1) := by decide +kernel
theorem dX5_copyFrom_61 : decode cX5_copyFrom 61 = .ok (.aaload, 1) := by decide +kernel
theorem dX5_copyFrom_62 : decode cX5_copyFrom 62 = .ok (.aload_n 1, 1) := by decide +kernel
theorem dX5_copyFrom_63 : decode cX5_copyFrom 63 = .ok (.getfield 27, 3) := by decide +kernel
theorem dX5_copyFrom_66 : decode cX5_copyFrom 66 = .ok (.iload_n 2, 1) := by decide +kernel
theorem dX5_copyFrom_67 : decode cX5_copyFrom 67 = .ok (.aaload, 1) := by decide +kernel
theorem dX5_copyFrom_68 : decode cX5_copyFrom 68 = .ok (.invokevirtual 51, 3) := by decide +kernel
theorem dX5_copyFrom_71 : decode cX5_copyFrom 71 = .ok (.iinc 2 1, 3) := by decide +kernel
theorem dX5_copyFrom_74 : decode cX5_copyFrom 74 = .ok (.goto (-26), 3) := by decide +kernel
theorem dX5_copyFrom_77 : decode cX5_copyFrom 77 = .ok (.aload_n 0, 1) := by decide +kernel
theorem dX5_copyFrom_78 : decode cX5_copyFrom 78 = .ok (.getfield 34, 3) := by decide +kernel
theorem dX5_copyFrom_81 : decode cX5_copyFrom 81 = .ok (.aload_n 1, 1) := by decide +kernel
theorem dX5_copyFrom_82 : decode cX5_copyFrom 82 = .ok (.getfield 34, 3) := by decide +kernel
theorem dX5_copyFrom_85 : decode cX5_copyFrom 85 = .ok (.invokevirtual 55, 3) := by decide +kernel
theorem dX5_copyFrom_88 : decode cX5_copyFrom 88 = .ok (.return_, 1) := by decide +kernel
theorem dX5_plainAt_0 : decode cX5_plainAt 0 = .ok (.aload_n 1, 1) := by decide +kernel
theorem dX5_plainAt_1 : decode cX5_plainAt 1 = .ok (.getfield 58, 3) := by decide +kernel
theorem dX5_plainAt_4 : decode cX5_plainAt 4 = .ok (.lookupswitch 46 #[(2, 28), (3, 30)], 28) := by decide +kernel
theorem dX5_plainAt_32 : decode cX5_plainAt 32 = .ok (.iconst 1, 1) := by decide +kernel
theorem dX5_plainAt_33 : decode cX5_plainAt 33 = .ok (.ireturn, 1) := by decide +kernel
theorem dX5_plainAt_34 : decode cX5_plainAt 34 = .ok (.aload_n 1, 1) := by decide +kernel
theorem dX5_plainAt_35 : decode cX5_plainAt 35 = .ok (.getfield 61, 3) := by decide +kernel
theorem dX5_plainAt_38 : decode cX5_plainAt 38 = .ok (.iconst 0, 1) := by decide +kernel
theorem dX5_plainAt_39 : decode cX5_plainAt 39 = .ok (.iaload, 1) := by decide +kernel
theorem dX5_plainAt_40 : decode cX5_plainAt 40 = .ok (.iload_n 2, 1) := by decide +kernel
theorem dX5_plainAt_41 : decode cX5_plainAt 41 = .ok (.if_icmp .ne 7, 3) := by decide +kernel
theorem dX5_plainAt_44 : decode cX5_plainAt 44 = .ok (.iconst 1, 1) := by decide +kernel
theorem dX5_plainAt_45 : decode cX5_plainAt 45 = .ok (.goto 4, 3) := by decide +kernel
theorem dX5_plainAt_48 : decode cX5_plainAt 48 = .ok (.iconst 0, 1) := by decide +kernel
theorem dX5_plainAt_49 : decode cX5_plainAt 49 = .ok (.ireturn, 1) := by decide +kernel
theorem dX5_plainAt_50 : decode cX5_plainAt 50 = .ok (.aload_n 0, 1) := by decide +kernel
theorem dX5_plainAt_51 : decode cX5_plainAt 51 = .ok (.aload_n 1, 1) := by decide +kernel
theorem dX5_plainAt_52 : decode cX5_plainAt 52 = .ok (.iload_n 2, 1) := by decide +kernel
theorem dX5_plainAt_53 : decode cX5_plainAt 53 = .ok (.invokevirtual 64, 3) := by decide +kernel
theorem dX5_plainAt_56 : decode cX5_plainAt 56 = .ok (.ireturn, 1) := by decide +kernel
theorem dX5_plainOfAges_0 : decode cX5_plainOfAges 0 = .ok (.iconst 1, 1) := by decide +kernel
theorem dX5_plainOfAges_1 : decode cX5_plainOfAges 1 = .ok (.istore_n 3, 1) := by decide +kernel
theorem dX5_plainOfAges_2 : decode cX5_plainOfAges 2 = .ok (.iconst 0, 1) := by decide +kernel
theorem dX5_plainOfAges_3 : decode cX5_plainOfAges 3 = .ok (.istore 4, 2) := by decide +kernel
theorem dX5_plainOfAges_5 : decode cX5_plainOfAges 5 = .ok (.iload 4, 2) := by decide +kernel
theorem dX5_plainOfAges_7 : decode cX5_plainOfAges 7 = .ok (.aload_n 1, 1) := by decide +kernel
theorem dX5_plainOfAges_8 : decode cX5_plainOfAges 8 = .ok (.getfield 68, 3) := by decide +kernel
theorem dX5_plainOfAges_11 : decode cX5_plainOfAges 11 = .ok (.if_icmp .ge 75, 3) := by decide +kernel
theorem dX5_plainOfAges_14 : decode cX5_plainOfAges 14 = .ok (.iload_n 2, 1) := by decide +kernel
theorem dX5_plainOfAges_15 : decode cX5_plainOfAges 15 = .ok (.aload_n 1, 1) := by decide +kernel
theorem dX5_plainOfAges_16 : decode cX5_plainOfAges 16 = .ok (.getfield 71, 3) := by decide +kernel
theorem dX5_plainOfAges_19 : decode cX5_plainOfAges 19 = .ok (.iload 4, 2) := by decide +kernel
theorem dX5_plainOfAges_21 : decode cX5_plainOfAges 21 = .ok (.iaload, 1) := by decide +kernel
theorem dX5_plainOfAges_22 : decode cX5_plainOfAges 22 = .ok (.iadd, 1) := by decide +kernel
theorem dX5_plainOfAges_23 : decode cX5_plainOfAges 23 = .ok (.istore 5, 2) := by decide +kernel
theorem dX5_plainOfAges_25 : decode cX5_plainOfAges 25 = .ok (.iload 5, 2) := by decide +kernel
theorem dX5_plainOfAges_27 : decode cX5_plainOfAges 27 = .ok (.ifCond .lt 12, 3) := by decide +kernel
theorem dX5_plainOfAges_30 : decode cX5_plainOfAges 30 = .ok (.iload 5, 2) := by decide +kernel
theorem dX5_plainOfAges_32 : decode cX5_plainOfAges 32 = .ok (.aload_n 0, 1) := by decide +kernel
theorem dX5_plainOfAges_33 : decode cX5_plainOfAges 33 = .ok (.getfield 9, 3) := by decide +kernel
theorem dX5_plainOfAges_36 : decode cX5_plainOfAges 36 = .ok (.if_icmp .lt 5, 3) := by decide +kernel
theorem dX5_plainOfAges_39 : decode cX5_plainOfAges 39 = .ok (.iconst 0, 1) := by decide +kernel
theorem dX5_plainOfAges_40 : decode cX5_plainOfAges 40 = .ok (.ireturn, 1) := by decide +kernel
theorem dX5_plainOfAges_41 : decode cX5_plainOfAges 41 = .ok (.aload_n 1, 1) := by decide +kernel
theorem dX5_plainOfAges_42 : decode cX5_plainOfAges 42 = .ok (.getfield 61, 3) := by decide +kernel
theorem dX5_plainOfAges_45 : decode cX5_plainOfAges 45 = .ok (.iload 4, 2) := by decide +kernel
theorem dX5_plainOfAges_47 : decode cX5_plainOfAges 47 = .ok (.iaload, 1) := by decide +kernel
theorem dX5_plainOfAges_48 : decode cX5_plainOfAges 48 = .ok (.aload_n 0, 1) := by decide +kernel
theorem dX5_plainOfAges_49 : decode cX5_plainOfAges 49 = .ok (.getfield 15, 3) := by decide +kernel
theorem dX5_plainOfAges_52 : decode cX5_plainOfAges 52 = .ok (.iload 5, 2) := by decide +kernel
theorem dX5_plainOfAges_54 : decode cX5_plainOfAges 54 = .ok (.iaload, 1) := by decide +kernel
theorem dX5_plainOfAges_55 : decode cX5_plainOfAges 55 = .ok (.isub, 1) := by decide +kernel
theorem dX5_plainOfAges_56 : decode cX5_plainOfAges 56 = .ok (.invokestatic 74, 3) := by decide +kernel
theorem dX5_plainOfAges_59 : decode cX5_plainOfAges 59 = .ok (.istore 6, 2) := by decide +kernel
theorem dX5_plainOfAges_61 : decode cX5_plainOfAges 61 = .ok (.iload 6, 2) := by decide +kernel
theorem dX5_plainOfAges_63 : decode cX5_plainOfAges 63 = .ok (.bipush 20, 2) := by decide +kernel
theorem dX5_plainOfAges_65 : decode cX5_plainOfAges 65 = .ok (.if_icmp .le 5, 3) := by decide +kernel
theorem dX5_plainOfAges_68 : decode cX5_plainOfAges 68 = .ok (.iconst 0, 1) := by decide +kernel
theorem dX5_plainOfAges_69 : decode cX5_plainOfAges 69 = .ok (.ireturn, 1) := by decide +kernel
theorem dX5_plainOfAges_70 : decode cX5_plainOfAges 70 = .ok (.iload_n 3, 1) := by decide +kernel
theorem dX5_plainOfAges_71 : decode cX5_plainOfAges 71 = .ok (.aload_n 0, 1) := by decide +kernel
theorem dX5_plainOfAges_72 : decode cX5_plainOfAges 72 = .ok (.getfield 19, 3) := by decide +kernel
theorem dX5_plainOfAges_75 : decode cX5_plainOfAges 75 = .ok (.iload 6, 2) := by decide +kernel
theorem dX5_plainOfAges_77 : decode cX5_plainOfAges 77 = .ok (.iaload, 1) := by decide +kernel
theorem dX5_plainOfAges_78 : decode cX5_plainOfAges 78 = .ok (.imul, 1) := by decide +kernel
theorem dX5_plainOfAges_79 : decode cX5_plainOfAges 79 = .ok (.istore_n 3, 1) := by decide +kernel
theorem dX5_plainOfAges_80 : decode cX5_plainOfAges 80 = .ok (.iinc 4 1, 3) := by decide +kernel
theorem dX5_plainOfAges_83 : decode cX5_plainOfAges 83 = .ok (.goto (-78), 3) := by decide +kernel
theorem dX5_plainOfAges_86 : decode cX5_plainOfAges 86 = .ok (.iload_n 3, 1) := by decide +kernel
theorem dX5_plainOfAges_87 : decode cX5_plainOfAges 87 = .ok (.ireturn, 1) := by decide +kernel
theorem dX5_meanPlain_0 : decode cX5_meanPlain 0 = .ok (.iconst 0, 1) := by decide +kernel
theorem dX5_meanPlain_1 : decode cX5_meanPlain 1 = .ok (.istore_n 2, 1) := by decide +kernel
theorem dX5_meanPlain_2 : decode cX5_meanPlain 2 = .ok (.iconst 0, 1) := by decide +kernel
theorem dX5_meanPlain_3 : decode cX5_meanPlain 3 = .ok (.istore_n 3, 1) := by decide +kernel
theorem dX5_meanPlain_4 : decode cX5_meanPlain 4 = .ok (.iload_n 3, 1) := by decide +kernel
theorem dX5_meanPlain_5 : decode cX5_meanPlain 5 = .ok (.aload_n 0, 1) := by decide +kernel
theorem dX5_meanPlain_6 : decode cX5_meanPlain 6 = .ok (.getfield 9, 3) := by decide +kernel
theorem dX5_meanPlain_9 : decode cX5_meanPlain 9 = .ok (.if_icmp .ge 18, 3) := by decide +kernel
theorem dX5_meanPlain_12 : decode cX5_meanPlain 12 = .ok (.iload_n 2, 1) := by decide +kernel
theorem dX5_meanPlain_13 : decode cX5_meanPlain 13 = .ok (.aload_n 0, 1) := by decide +kernel
theorem dX5_meanPlain_14 : decode cX5_meanPlain 14 = .ok (.aload_n 1, 1) := by decide +kernel
theorem dX5_meanPlain_15 : decode cX5_meanPlain 15 = .ok (.iload_n 3, 1) := by decide +kernel
theorem dX5_meanPlain_16 : decode cX5_meanPlain 16 = .ok (.invokevirtual 78, 3) := by decide +kernel
theorem dX5_meanPlain_19 : decode cX5_meanPlain 19 = .ok (.iadd, 1) := by decide +kernel
theorem dX5_meanPlain_20 : decode cX5_meanPlain 20 = .ok (.istore_n 2, 1) := by decide +kernel
theorem dX5_meanPlain_21 : decode cX5_meanPlain 21 = .ok (.iinc 3 1, 3) := by decide +kernel
theorem dX5_meanPlain_24 : decode cX5_meanPlain 24 = .ok (.goto (-20), 3) := by decide +kernel
theorem dX5_meanPlain_27 : decode cX5_meanPlain 27 = .ok (.aload_n 0, 1) := by decide +kernel
theorem dX5_meanPlain_28 : decode cX5_meanPlain 28 = .ok (.getfield 9, 3) := by decide +kernel
theorem dX5_meanPlain_31 : decode cX5_meanPlain 31 = .ok (.ifCond .le 12, 3) := by decide +kernel
theorem dX5_meanPlain_34 : decode cX5_meanPlain 34 = .ok (.iload_n 2, 1) := by decide +kernel
theorem dX5_meanPlain_35 : decode cX5_meanPlain 35 = .ok (.aload_n 0, 1) := by decide +kernel
theorem dX5_meanPlain_36 : decode cX5_meanPlain 36 = .ok (.getfield 9, 3) := by decide +kernel
theorem dX5_meanPlain_39 : decode cX5_meanPlain 39 = .ok (.idiv, 1) := by decide +kernel
theorem dX5_meanPlain_40 : decode cX5_meanPlain 40 = .ok (.goto 4, 3) := by decide +kernel
theorem dX5_meanPlain_43 : decode cX5_meanPlain 43 = .ok (.iconst 0, 1) := by decide +kernel
theorem dX5_meanPlain_44 : decode cX5_meanPlain 44 = .ok (.ireturn, 1) := by decide +kernel
theorem dX5_yearsThatWeigh_0 : decode cX5_yearsThatWeigh 0 = .ok (.aload_n 0, 1) := by decide +kernel
theorem dX5_yearsThatWeigh_1 : decode cX5_yearsThatWeigh 1 = .ok (.aload_n 1, 1) := by decide +kernel
theorem dX5_yearsThatWeigh_2 : decode cX5_yearsThatWeigh 2 = .ok (.invokevirtual 81, 3) := by decide +kernel
theorem dX5_yearsThatWeigh_5 : decode cX5_yearsThatWeigh 5 = .ok (.istore_n 2, 1) := by decide +kernel
theorem dX5_yearsThatWeigh_6 : decode cX5_yearsThatWeigh 6 = .ok (.iconst 0, 1) := by decide +kernel
theorem dX5_yearsThatWeigh_7 : decode cX5_yearsThatWeigh 7 = .ok (.istore_n 3, 1) := by decide +kernel
theorem dX5_yearsThatWeigh_8 : decode cX5_yearsThatWeigh 8 = .ok (.iconst 0, 1) := by decide +kernel
theorem dX5_yearsThatWeigh_9 : decode cX5_yearsThatWeigh 9 = .ok (.istore 4, 2) := by decide +kernel
theorem dX5_yearsThatWeigh_11 : decode cX5_yearsThatWeigh 11 = .ok (.iload 4, 2) := by decide +kernel
theorem dX5_yearsThatWeigh_13 : decode cX5_yearsThatWeigh 13 = .ok (.aload_n 0, 1) := by decide +kernel
theorem dX5_yearsThatWeigh_14 : decode cX5_yearsThatWeigh 14 = .ok (.getfield 9, 3) := by decide +kernel
theorem dX5_yearsThatWeigh_17 : decode cX5_yearsThatWeigh 17 = .ok (.if_icmp .ge 27, 3) := by decide +kernel
theorem dX5_yearsThatWeigh_20 : decode cX5_yearsThatWeigh 20 = .ok (.aload_n 1, 1) := by decide +kernel
theorem dX5_yearsThatWeigh_21 : decode cX5_yearsThatWeigh 21 = .ok (.aload_n 0, 1) := by decide +kernel
theorem dX5_yearsThatWeigh_22 : decode cX5_yearsThatWeigh 22 = .ok (.aload_n 1, 1) := by decide +kernel
theorem dX5_yearsThatWeigh_23 : decode cX5_yearsThatWeigh 23 = .ok (.iload 4, 2) := by decide +kernel
theorem dX5_yearsThatWeigh_25 : decode cX5_yearsThatWeigh 25 = .ok (.invokevirtual 78, 3) := by decide +kernel
theorem dX5_yearsThatWeigh_28 : decode cX5_yearsThatWeigh 28 = .ok (.iload_n 2, 1) := by decide +kernel
theorem dX5_yearsThatWeigh_29 : decode cX5_yearsThatWeigh 29 = .ok (.invokevirtual 85, 3) := by decide +kernel
theorem dX5_yearsThatWeigh_32 : decode cX5_yearsThatWeigh 32 = .ok (.ifCond .le 6, 3) := by decide +kernel
theorem dX5_yearsThatWeigh_35 : decode cX5_yearsThatWeigh 35 = .ok (.iinc 3 1, 3) := by decide +kernel
theorem dX5_yearsThatWeigh_38 : decode cX5_yearsThatWeigh 38 = .ok (.iinc 4 1, 3) := by decide +kernel
theorem dX5_yearsThatWeigh_41 : decode cX5_yearsThatWeigh 41 = .ok (.goto (-30), 3) := by decide +kernel
theorem dX5_yearsThatWeigh_44 : decode cX5_yearsThatWeigh 44 = .ok (.iload_n 3, 1) := by decide +kernel
theorem dX5_yearsThatWeigh_45 : decode cX5_yearsThatWeigh 45 = .ok (.ireturn, 1) := by decide +kernel
theorem dX6_init_0 : decode cX6_init 0 = .ok (.aload_n 0, 1) := by decide +kernel
theorem dX6_init_1 : decode cX6_init 1 = .ok (.invokespecial 3, 3) := by decide +kernel
theorem dX6_init_4 : decode cX6_init 4 = .ok (.aload_n 0, 1) := by decide +kernel
theorem dX6_init_5 : decode cX6_init 5 = .ok (.iconst 0, 1) := by decide +kernel
theorem dX6_init_6 : decode cX6_init 6 = .ok (.putfield 9, 3) := by decide +kernel
theorem dX6_init_9 : decode cX6_init 9 = .ok (.aload_n 0, 1) := by decide +kernel
theorem dX6_init_10 : decode cX6_init 10 = .ok (.iconst 0, 1) := by decide +kernel
theorem dX6_init_11 : decode cX6_init 11 = .ok (.putfield 15, 3) := by decide +kernel
theorem dX6_init_14 : decode cX6_init 14 = .ok (.aload_n 0, 1) := by decide +kernel
theorem dX6_init_15 : decode cX6_init 15 = .ok (.iconst 0, 1) := by decide +kernel
theorem dX6_init_16 : decode cX6_init 16 = .ok (.putfield 18, 3) := by decide +kernel
theorem dX6_init_19 : decode cX6_init 19 = .ok (.aload_n 0, 1) := by decide +kernel
theorem dX6_init_20 : decode cX6_init 20 = .ok (.sipush 280, 3) := by decide +kernel
theorem dX6_init_23 : decode cX6_init 23 = .ok (.newarray .long, 2) := by decide +kernel
theorem dX6_init_25 : decode cX6_init 25 = .ok (.putfield 21, 3) := by decide +kernel
theorem dX6_init_28 : decode cX6_init 28 = .ok (.aload_n 0, 1) := by decide +kernel
theorem dX6_init_29 : decode cX6_init 29 = .ok (.bipush 7, 2) := by decide +kernel
theorem dX6_init_31 : decode cX6_init 31 = .ok (.newarray .int, 2) := by decide +kernel
theorem dX6_init_33 : decode cX6_init 33 = .ok (.putfield 25, 3) := by decide +kernel
theorem dX6_init_36 : decode cX6_init 36 = .ok (.aload_n 0, 1) := by decide +kernel
theorem dX6_init_37 : decode cX6_init 37 = .ok (.bipush 7, 2) := by decide +kernel
theorem dX6_init_39 : decode cX6_init 39 = .ok (.newarray .int, 2) := by decide +kernel
theorem dX6_init_41 : decode cX6_init 41 = .ok (.putfield 29, 3) := by decide +kernel
theorem dX6_init_44 : decode cX6_init 44 = .ok (.aload_n 0, 1) := by decide +kernel
theorem dX6_init_45 : decode cX6_init 45 = .ok (.new 32, 3) := by decide +kernel
theorem dX6_init_48 : decode cX6_init 48 = .ok (.dup, 1) := by decide +kernel
theorem dX6_init_49 : decode cX6_init 49 = .ok (.invokespecial 34, 3) := by decide +kernel
theorem dX6_init_52 : decode cX6_init 52 = .ok (.putfield 35, 3) := by decide +kernel
theorem dX6_init_55 : decode cX6_init 55 = .ok (.return_, 1) := by decide +kernel
theorem dX6_load_0 : decode cX6_load 0 = .ok (.aload_n 0, 1) := by decide +kernel
theorem dX6_load_1 : decode cX6_load 1 = .ok (.aload_n 1, 1) := by decide +kernel
theorem dX6_load_2 : decode cX6_load 2 = .ok (.getfield 39, 3) := by decide +kernel
theorem dX6_load_5 : decode cX6_load 5 = .ok (.putfield 9, 3) := by decide +kernel
theorem dX6_load_8 : decode cX6_load 8 = .ok (.aload_n 0, 1) := by decide +kernel
theorem dX6_load_9 : decode cX6_load 9 = .ok (.aload_n 1, 1) := by decide +kernel
theorem dX6_load_10 : decode cX6_load 10 = .ok (.getfield 42, 3) := by decide +kernel
theorem dX6_load_13 : decode cX6_load 13 = .ok (.putfield 15, 3) := by decide +kernel
theorem dX6_load_16 : decode cX6_load 16 = .ok (.aload_n 0, 1) := by decide +kernel
theorem dX6_load_17 : decode cX6_load 17 = .ok (.iconst 1, 1) := by decide +kernel
theorem dX6_load_18 : decode cX6_load 18 = .ok (.aload_n 0, 1) := by decide +kernel
theorem dX6_load_19 : decode cX6_load 19 = .ok (.getfield 15, 3) := by decide +kernel
theorem dX6_load_22 : decode cX6_load 22 = .ok (.ishl, 1) := by decide +kernel
theorem dX6_load_23 : decode cX6_load 23 = .ok (.iconst 1, 1) := by decide +kernel
theorem dX6_load_24 : decode cX6_load 24 = .ok (.isub, 1) := by decide +kernel
theorem dX6_load_25 : decode cX6_load 25 = .ok (.putfield 18, 3) := by decide +kernel
theorem dX6_load_28 : decode cX6_load 28 = .ok (.aload_n 0, 1) := by decide +kernel
theorem dX6_load_29 : decode cX6_load 29 = .ok (.getfield 35, 3) := by decide +kernel
theorem dX6_load_32 : decode cX6_load 32 = .ok (.aload_n 1, 1) := by decide +kernel
theorem dX6_load_33 : decode cX6_load 33 = .ok (.getfield 43, 3) := by decide +kernel
theorem dX6_load_36 : decode cX6_load 36 = .ok (.invokevirtual 44, 3) := by decide +kernel
theorem dX6_load_39 : decode cX6_load 39 = .ok (.iconst 0, 1) := by decide +kernel
theorem dX6_load_40 : decode cX6_load 40 = .ok (.istore_n 2, 1) := by decide +kernel
theorem dX6_load_41 : decode cX6_load 41 = .ok (.iload_n 2, 1) := by decide +kernel
theorem dX6_load_42 : decode cX6_load 42 = .ok (.aload_n 0, 1) := by decide +kernel
theorem dX6_load_43 : decode cX6_load 43 = .ok (.getfield 15, 3) := by decide +kernel
theorem dX6_load_46 : decode cX6_load 46 = .ok (.if_icmp .ge 79, 3) := by decide +kernel
theorem dX6_load_49 : decode cX6_load 49 = .ok (.aload_n 1, 1) := by decide +kernel
theorem dX6_load_50 : decode cX6_load 50 = .ok (.getfield 48, 3) := by decide +kernel
theorem dX6_load_53 : decode cX6_load 53 = .ok (.iload_n 2, 1) := by decide +kernel
theorem dX6_load_54 : decode cX6_load 54 = .ok (.aaload, 1) := by decide +kernel
theorem dX6_load_55 : decode cX6_load 55 = .ok (.astore_n 3, 1) := by decide +kernel
theorem dX6_load_56 : decode cX6_load 56 = .ok (.aload_n 1, 1) := by decide +kernel
theorem dX6_load_57 : decode cX6_load 57 = .ok (.aload_n 3, 1) := by decide +kernel
theorem dX6_load_58 : decode cX6_load 58 = .ok (.invokevirtual 52, 3) := by decide +kernel
theorem dX6_load_61 : decode cX6_load 61 = .ok (.istore 4, 2) := by decide +kernel
theorem dX6_load_63 : decode cX6_load 63 = .ok (.iconst 0, 1) := by decide +kernel
theorem dX6_load_64 : decode cX6_load 64 = .ok (.istore 5, 2) := by decide +kernel
theorem dX6_load_66 : decode cX6_load 66 = .ok (.iload 5, 2) := by decide +kernel
theorem dX6_load_68 : decode cX6_load 68 = .ok (.aload_n 0, 1) := by decide +kernel
theorem dX6_load_69 : decode cX6_load 69 = .ok (.getfield 9, 3) := by decide +kernel
theorem dX6_load_72 : decode cX6_load 72 = .ok (.if_icmp .ge 35, 3) := by decide +kernel
theorem dX6_load_75 : decode cX6_load 75 = .ok (.aload_n 0, 1) := by decide +kernel
theorem dX6_load_76 : decode cX6_load 76 = .ok (.getfield 21, 3) := by decide +kernel
theorem dX6_load_79 : decode cX6_load 79 = .ok (.iload_n 2, 1) := by decide +kernel
theorem dX6_load_80 : decode cX6_load 80 = .ok (.bipush 40, 2) := by decide +kernel
theorem dX6_load_82 : decode cX6_load 82 = .ok (.imul, 1) := by decide +kernel
theorem dX6_load_83 : decode cX6_load 83 = .ok (.iload 5, 2) := by decide +kernel
theorem dX6_load_85 : decode cX6_load 85 = .ok (.iadd, 1) := by decide +kernel
theorem dX6_load_86 : decode cX6_load 86 = .ok (.aload_n 3, 1) := by decide +kernel
theorem dX6_load_87 : decode cX6_load 87 = .ok (.aload_n 1, 1) := by decide +kernel
theorem dX6_load_88 : decode cX6_load 88 = .ok (.aload_n 3, 1) := by decide +kernel
theorem dX6_load_89 : decode cX6_load 89 = .ok (.iload 5, 2) := by decide +kernel
theorem dX6_load_91 : decode cX6_load 91 = .ok (.invokevirtual 56, 3) := by decide +kernel
theorem dX6_load_94 : decode cX6_load 94 = .ok (.iload 4, 2) := by decide +kernel
theorem dX6_load_96 : decode cX6_load 96 = .ok (.invokevirtual 60, 3) := by decide +kernel
theorem dX6_load_99 : decode cX6_load 99 = .ok (.i2l, 1) := by decide +kernel
theorem dX6_load_100 : decode cX6_load 100 = .ok (.lastore, 1) := by decide +kernel
theorem dX6_load_101 : decode cX6_load 101 = .ok (.iinc 5 1, 3) := by decide +kernel
theorem dX6_load_104 : decode cX6_load 104 = .ok (.goto (-38), 3) := by decide +kernel
theorem dX6_load_107 : decode cX6_load 107 = .ok (.aload_n 0, 1) := by decide +kernel
theorem dX6_load_108 : decode cX6_load 108 = .ok (.iload_n 2, 1) := by decide +kernel
theorem dX6_load_109 : decode cX6_load 109 = .ok (.iconst 0, 1) := by decide +kernel
theorem dX6_load_110 : decode cX6_load 110 = .ok (.aload_n 0, 1) := by decide +kernel
theorem dX6_load_111 : decode cX6_load 111 = .ok (.getfield 9, 3) := by decide +kernel
theorem dX6_load_114 : decode cX6_load 114 = .ok (.iconst 1, 1) := by decide +kernel
theorem dX6_load_115 : decode cX6_load 115 = .ok (.isub, 1) := by decide +kernel
theorem dX6_load_116 : decode cX6_load 116 = .ok (.invokevirtual 66, 3) := by decide +kernel
theorem dX6_load_119 : decode cX6_load 119 = .ok (.iinc 2 1, 3) := by decide +kernel
theorem dX6_load_122 : decode cX6_load 122 = .ok (.goto (-81), 3) := by decide +kernel
theorem dX6_load_125 : decode cX6_load 125 = .ok (.return_, 1) := by decide +kernel
theorem dX6_limit_0 : decode cX6_limit 0 = .ok (.aload_n 0, 1) := by decide +kernel
theorem dX6_limit_1 : decode cX6_limit 1 = .ok (.getfield 25, 3) := by decide +kernel
theorem dX6_limit_4 : decode cX6_limit 4 = .ok (.iload_n 1, 1) := by decide +kernel
theorem dX6_limit_5 : decode cX6_limit 5 = .ok (.iload_n 2, 1) := by decide +kernel
theorem dX6_limit_6 : decode cX6_limit 6 = .ok (.iastore, 1) := by decide +kernel
theorem dX6_limit_7 : decode cX6_limit 7 = .ok (.aload_n 0, 1) := by decide +kernel
theorem dX6_limit_8 : decode cX6_limit 8 = .ok (.getfield 29, 3) := by decide +kernel
theorem dX6_limit_11 : decode cX6_limit 11 = .ok (.iload_n 1, 1) := by decide +kernel
theorem dX6_limit_12 : decode cX6_limit 12 = .ok (.iload_n 3, 1) := by decide +kernel
theorem dX6_limit_13 : decode cX6_limit 13 = .ok (.iastore, 1) := by decide +kernel
theorem dX6_limit_14 : decode cX6_limit 14 = .ok (.return_, 1) := by decide +kernel
theorem dX6_leaveOut_0 : decode cX6_leaveOut 0 = .ok (.aload_n 0, 1) := by decide +kernel
theorem dX6_leaveOut_1 : decode cX6_leaveOut 1 = .ok (.dup, 1) := by decide +kernel
theorem dX6_leaveOut_2 : decode cX6_leaveOut 2 = .ok (.getfield 18, 3) := by decide +kernel
theorem dX6_leaveOut_5 : decode cX6_leaveOut 5 = .ok (.iconst 1, 1) := by decide +kernel
theorem dX6_leaveOut_6 : decode cX6_leaveOut 6 = .ok (.iload_n 1, 1) := by decide +kernel
theorem dX6_leaveOut_7 : decode cX6_leaveOut 7 = .ok (.ishl, 1) := by decide +kernel
theorem dX6_leaveOut_8 : decode cX6_leaveOut 8 = .ok (.iconst (-1), 1) := by decide +kernel
theorem dX6_leaveOut_9 : decode cX6_leaveOut 9 = .ok (.ixor, 1) := by decide +kernel
theorem dX6_leaveOut_10 : decode cX6_leaveOut 10 = .ok (.iand, 1) := by decide +kernel
theorem dX6_leaveOut_11 : decode cX6_leaveOut 11 = .ok (.putfield 18, 3) := by decide +kernel
theorem dX6_leaveOut_14 : decode cX6_leaveOut 14 = .ok (.aload_n 0, 1) := by decide +kernel
theorem dX6_leaveOut_15 : decode cX6_leaveOut 15 = .ok (.getfield 35, 3) := by decide +kernel
theorem dX6_leaveOut_18 : decode cX6_leaveOut 18 = .ok (.iload_n 1, 1) := by decide +kernel
theorem dX6_leaveOut_19 : decode cX6_leaveOut 19 = .ok (.invokevirtual 70, 3) := by decide +kernel
theorem dX6_leaveOut_22 : decode cX6_leaveOut 22 = .ok (.return_, 1) := by decide +kernel
theorem dX6_level_0 : decode cX6_level 0 = .ok (.iconst 0, 1) := by decide +kernel
theorem dX6_level_1 : decode cX6_level 1 = .ok (.istore 4, 2) := by decide +kernel
theorem dX6_level_3 : decode cX6_level 3 = .ok (.iload 4, 2) := by decide +kernel
theorem dX6_level_5 : decode cX6_level 5 = .ok (.aload_n 0, 1) := by decide +kernel
theorem dX6_level_6 : decode cX6_level 6 = .ok (.getfield 9, 3) := by decide +kernel
theorem dX6_level_9 : decode cX6_level 9 = .ok (.if_icmp .ge 22, 3) := by decide +kernel
theorem dX6_level_12 : decode cX6_level 12 = .ok (.aload_n 0, 1) := by decide +kernel
theorem dX6_level_13 : decode cX6_level 13 = .ok (.getfield 21, 3) := by decide +kernel
theorem dX6_level_16 : decode cX6_level 16 = .ok (.iload_n 1, 1) := by decide +kernel
theorem dX6_level_17 : decode cX6_level 17 = .ok (.bipush 40, 2) := by decide +kernel
theorem dX6_level_19 : decode cX6_level 19 = .ok (.imul, 1) := by decide +kernel
theorem dX6_level_20 : decode cX6_level 20 = .ok (.iload 4, 2) := by decide +kernel
theorem dX6_level_22 : decode cX6_level 22 = .ok (.iadd, 1) := by decide +kernel
theorem dX6_level_23 : decode cX6_level 23 = .ok (.lload_n 2, 1) := by decide +kernel
theorem dX6_level_24 : decode cX6_level 24 = .ok (.lastore, 1) := by decide +kernel
theorem dX6_level_25 : decode cX6_level 25 = .ok (.iinc 4 1, 3) := by decide +kernel
theorem dX6_level_28 : decode cX6_level 28 = .ok (.goto (-25), 3) := by decide +kernel
theorem dX6_level_31 : decode cX6_level 31 = .ok (.return_, 1) := by decide +kernel
theorem dX6_multiplyByYears_0 : decode cX6_multiplyByYears 0 = .ok (.iconst 0, 1) := by decide +kernel
theorem dX6_multiplyByYears_1 : decode cX6_multiplyByYears 1 = .ok (.istore_n 2, 1) := by decide +kernel
theorem dX6_multiplyByYears_2 : decode cX6_multiplyByYears 2 = .ok (.iload_n 2, 1) := by decide +kernel
theorem dX6_multiplyByYears_3 : decode cX6_multiplyByYears 3 = .ok (.aload_n 0, 1) := by decide +kernel
theorem dX6_multiplyByYears_4 : decode cX6_multiplyByYears 4 = .ok (.getfield 9, 3) := by decide +kernel
theorem dX6_multiplyByYears_7 : decode cX6_multiplyByYears 7 = .ok (.if_icmp .ge 25, 3) := by decide +kernel
theorem dX6_multiplyByYears_10 : decode cX6_multiplyByYears 10 = .ok (.aload_n 0, 1) := by decide +kernel
theorem dX6_multiplyByYears_11 : decode cX6_multiplyByYears 11 = .ok (.getfield 21, 3) := by decide +kernel
theorem dX6_multiplyByYears_14 : decode cX6_multiplyByYears 14 = .ok (.iload_n 1, 1) := by decide +kernel
theorem dX6_multiplyByYears_15 : decode cX6_multiplyByYears 15 = .ok (.bipush 40, 2) := by decide +kernel
theorem dX6_multiplyByYears_17 : decode cX6_multiplyByYears 17 = .ok (.imul, 1) := by decide +kernel
theorem dX6_multiplyByYears_18 : decode cX6_multiplyByYears 18 = .ok (.iload_n 2, 1) := by decide +kernel
theorem dX6_multiplyByYears_19 : decode cX6_multiplyByYears 19 = .ok (.iadd, 1) := by decide +kernel
theorem dX6_multiplyByYears_20 : decode cX6_multiplyByYears 20 = .ok (.dup2, 1) := by decide +kernel
theorem dX6_multiplyByYears_21 : decode cX6_multiplyByYears 21 = .ok (.laload, 1) := by decide +kernel
theorem dX6_multiplyByYears_22 : decode cX6_multiplyByYears 22 = .ok (.iload_n 2, 1) := by decide +kernel
theorem dX6_multiplyByYears_23 : decode cX6_multiplyByYears 23 = .ok (.i2l, 1) := by decide +kernel
theorem dX6_multiplyByYears_24 : decode cX6_multiplyByYears 24 = .ok (.lmul, 1) := by decide +kernel
theorem dX6_multiplyByYears_25 : decode cX6_multiplyByYears 25 = .ok (.lastore, 1) := by decide +kernel
theorem dX6_multiplyByYears_26 : decode cX6_multiplyByYears 26 = .ok (.iinc 2 1, 3) := by decide +kernel
theorem dX6_multiplyByYears_29 : decode cX6_multiplyByYears 29 = .ok (.goto (-27), 3) := by decide +kernel
theorem dX6_multiplyByYears_32 : decode cX6_multiplyByYears 32 = .ok (.return_, 1) := by decide +kernel
theorem dX6_isMember_0 : decode cX6_isMember 0 = .ok (.aload_n 0, 1) := by decide +kernel
theorem dX6_isMember_1 : decode cX6_isMember 1 = .ok (.getfield 18, 3) := by decide +kernel
theorem dX6_isMember_4 : decode cX6_isMember 4 = .ok (.iload_n 1, 1) := by decide +kernel
theorem dX6_isMember_5 : decode cX6_isMember 5 = .ok (.ishr, 1) := by decide +kernel
theorem dX6_isMember_6 : decode cX6_isMember 6 = .ok (.iconst 1, 1) := by decide +kernel
theorem dX6_isMember_7 : decode cX6_isMember 7 = .ok (.iand, 1) := by decide +kernel
theorem dX6_isMember_8 : decode cX6_isMember 8 = .ok (.ifCond .eq 7, 3) := by decide +kernel
theorem dX6_isMember_11 : decode cX6_isMember 11 = .ok (.iconst 1, 1) := by decide +kernel
theorem dX6_isMember_12 : decode cX6_isMember 12 = .ok (.goto 4, 3) := by decide +kernel
theorem dX6_isMember_15 : decode cX6_isMember 15 = .ok (.iconst 0, 1) := by decide +kernel
theorem dX6_isMember_16 : decode cX6_isMember 16 = .ok (.ireturn, 1) := by decide +kernel
theorem dX6_weightAt_0 : decode cX6_weightAt 0 = .ok (.iload_n 2, 1) := by decide +kernel
theorem dX6_weightAt_1 : decode cX6_weightAt 1 = .ok (.aload_n 0, 1) := by decide +kernel
theorem dX6_weightAt_2 : decode cX6_weightAt 2 = .ok (.getfield 25, 3) := by decide +kernel
theorem dX6_weightAt_5 : decode cX6_weightAt 5 = .ok (.iload_n 1, 1) := by decide +kernel
theorem dX6_weightAt_6 : decode cX6_weightAt 6 = .ok (.iaload, 1) := by decide +kernel
theorem dX6_weightAt_7 : decode cX6_weightAt 7 = .ok (.if_icmp .lt 13, 3) := by decide +kernel
theorem dX6_weightAt_10 : decode cX6_weightAt 10 = .ok (.iload_n 2, 1) := by decide +kernel
theorem dX6_weightAt_11 : decode cX6_weightAt 11 = .ok (.aload_n 0, 1) := by decide +kernel
theorem dX6_weightAt_12 : decode cX6_weightAt 12 = .ok (.getfield 29, 3) := by decide +kernel
theorem dX6_weightAt_15 : decode cX6_weightAt 15 = .ok (.iload_n 1, 1) := by decide +kernel
theorem dX6_weightAt_16 : decode cX6_weightAt 16 = .ok (.iaload, 1) := by decide +kernel
theorem dX6_weightAt_17 : decode cX6_weightAt 17 = .ok (.if_icmp .le 7, 3) := by decide +kernel
theorem dX6_weightAt_20 : decode cX6_weightAt 20 = .ok (.lconst 0, 1) := by decide +kernel
theorem dX6_weightAt_21 : decode cX6_weightAt 21 = .ok (.goto 14, 3) := by decide +kernel
theorem dX6_weightAt_24 : decode cX6_weightAt 24 = .ok (.aload_n 0, 1) := by decide +kernel
theorem dX6_weightAt_25 : decode cX6_weightAt 25 = .ok (.getfield 21, 3) := by decide +kernel
theorem dX6_weightAt_28 : decode cX6_weightAt 28 = .ok (.iload_n 1, 1) := by decide +kernel
theorem dX6_weightAt_29 : decode cX6_weightAt 29 = .ok (.bipush 40, 2) := by decide +kernel
theorem dX6_weightAt_31 : decode cX6_weightAt 31 = .ok (.imul, 1) := by decide +kernel
theorem dX6_weightAt_32 : decode cX6_weightAt 32 = .ok (.iload_n 2, 1) := by decide +kernel
theorem dX6_weightAt_33 : decode cX6_weightAt 33 = .ok (.iadd, 1) := by decide +kernel
theorem dX6_weightAt_34 : decode cX6_weightAt 34 = .ok (.laload, 1) := by decide +kernel
theorem dX6_weightAt_35 : decode cX6_weightAt 35 = .ok (.lreturn, 1) := by decide +kernel
theorem dX6_isBig_0 : decode cX6_isBig 0 = .ok (.lconst 1, 1) := by decide +kernel
theorem dX6_isBig_1 : decode cX6_isBig 1 = .ok (.lstore_n 1, 1) := by decide +kernel
theorem dX6_isBig_2 : decode cX6_isBig 2 = .ok (.iconst 0, 1) := by decide +kernel
theorem dX6_isBig_3 : decode cX6_isBig 3 = .ok (.istore_n 3, 1) := by decide +kernel
theorem dX6_isBig_4 : decode cX6_isBig 4 = .ok (.iconst 0, 1) := by decide +kernel
theorem dX6_isBig_5 : decode cX6_isBig 5 = .ok (.istore 4, 2) := by decide +kernel
theorem dX6_isBig_7 : decode cX6_isBig 7 = .ok (.iload 4, 2) := by decide +kernel
theorem dX6_isBig_9 : decode cX6_isBig 9 = .ok (.aload_n 0, 1) := by decide +kernel
theorem dX6_isBig_10 : decode cX6_isBig 10 = .ok (.getfield 15, 3) := by decide +kernel
theorem dX6_isBig_13 : decode cX6_isBig 13 = .ok (.if_icmp .ge 63, 3) := by decide +kernel
theorem dX6_isBig_16 : decode cX6_isBig 16 = .ok (.aload_n 0, 1) := by decide +kernel
theorem dX6_isBig_17 : decode cX6_isBig 17 = .ok (.iload 4, 2) := by decide +kernel
theorem dX6_isBig_19 : decode cX6_isBig 19 = .ok (.invokevirtual 74, 3) := by decide +kernel
theorem dX6_isBig_22 : decode cX6_isBig 22 = .ok (.ifCond .ne 6, 3) := by decide +kernel
theorem dX6_isBig_25 : decode cX6_isBig 25 = .ok (.goto 45, 3) := by decide +kernel
theorem dX6_isBig_28 : decode cX6_isBig 28 = .ok (.aload_n 0, 1) := by decide +kernel
theorem dX6_isBig_29 : decode cX6_isBig 29 = .ok (.iload 4, 2) := by decide +kernel
theorem dX6_isBig_31 : decode cX6_isBig 31 = .ok (.invokevirtual 78, 3) := by decide +kernel
theorem dX6_isBig_34 : decode cX6_isBig 34 = .ok (.lstore 5, 2) := by decide +kernel
theorem dX6_isBig_36 : decode cX6_isBig 36 = .ok (.lload 5, 2) := by decide +kernel
theorem dX6_isBig_38 : decode cX6_isBig 38 = .ok (.lconst 0, 1) := by decide +kernel
theorem dX6_isBig_39 : decode cX6_isBig 39 = .ok (.lcmp, 1) := by decide +kernel
theorem dX6_isBig_40 : decode cX6_isBig 40 = .ok (.ifCond .ne 5, 3) := by decide +kernel
theorem dX6_isBig_43 : decode cX6_isBig 43 = .ok (.iconst 0, 1) := by decide +kernel
theorem dX6_isBig_44 : decode cX6_isBig 44 = .ok (.ireturn, 1) := by decide +kernel
theorem dX6_isBig_45 : decode cX6_isBig 45 = .ok (.iload_n 3, 1) := by decide +kernel
theorem dX6_isBig_46 : decode cX6_isBig 46 = .ok (.ifCond .ne 14, 3) := by decide +kernel
theorem dX6_isBig_49 : decode cX6_isBig 49 = .ok (.lload_n 1, 1) := by decide +kernel
theorem dX6_isBig_50 : decode cX6_isBig 50 = .ok (.ldc2_w 82, 3) := by decide +kernel
theorem dX6_isBig_53 : decode cX6_isBig 53 = .ok (.lload 5, 2) := by decide +kernel
theorem dX6_isBig_55 : decode cX6_isBig 55 = .ok (.ldiv, 1) := by decide +kernel
theorem dX6_isBig_56 : decode cX6_isBig 56 = .ok (.lcmp, 1) := by decide +kernel
theorem dX6_isBig_57 : decode cX6_isBig 57 = .ok (.ifCond .le 8, 3) := by decide +kernel
theorem dX6_isBig_60 : decode cX6_isBig 60 = .ok (.iconst 1, 1) := by decide +kernel
theorem dX6_isBig_61 : decode cX6_isBig 61 = .ok (.istore_n 3, 1) := by decide +kernel
theorem dX6_isBig_62 : decode cX6_isBig 62 = .ok (.goto 8, 3) := by decide +kernel
theorem dX6_isBig_65 : decode cX6_isBig 65 = .ok (.lload_n 1, 1) := by decide +kernel
theorem dX6_isBig_66 : decode cX6_isBig 66 = .ok (.lload 5, 2) := by decide +kernel
theorem dX6_isBig_68 : decode cX6_isBig 68 = .ok (.lmul, 1) := by decide +kernel
theorem dX6_isBig_69 : decode cX6_isBig 69 = .ok (.lstore_n 1, 1) := by decide +kernel
theorem dX6_isBig_70 : decode cX6_isBig 70 = .ok (.iinc 4 1, 3) := by decide +kernel
theorem dX6_isBig_73 : decode cX6_isBig 73 = .ok (.goto (-66), 3) := by decide +kernel
theorem dX6_isBig_76 : decode cX6_isBig 76 = .ok (.iload_n 3, 1) := by decide +kernel
theorem dX6_isBig_77 : decode cX6_isBig 77 = .ok (.ireturn, 1) := by decide +kernel
theorem dX6_sumOfWeights_0 : decode cX6_sumOfWeights 0 = .ok (.lconst 0, 1) := by decide +kernel
theorem dX6_sumOfWeights_1 : decode cX6_sumOfWeights 1 = .ok (.lstore_n 2, 1) := by decide +kernel
theorem dX6_sumOfWeights_2 : decode cX6_sumOfWeights 2 = .ok (.iconst 0, 1) := by decide +kernel
theorem dX6_sumOfWeights_3 : decode cX6_sumOfWeights 3 = .ok (.istore 4, 2) := by decide +kernel
theorem dX6_sumOfWeights_5 : decode cX6_sumOfWeights 5 = .ok (.iload 4, 2) := by decide +kernel
theorem dX6_sumOfWeights_7 : decode cX6_sumOfWeights 7 = .ok (.aload_n 0, 1) := by decide +kernel
theorem dX6_sumOfWeights_8 : decode cX6_sumOfWeights 8 = .ok (.getfield 9, 3) := by decide +kernel
theorem dX6_sumOfWeights_11 : decode cX6_sumOfWeights 11 = .ok (.if_icmp .ge 24, 3) := by decide +kernel
theorem dX6_sumOfWeights_14 : decode cX6_sumOfWeights 14 = .ok (.lload_n 2, 1) := by decide +kernel
theorem dX6_sumOfWeights_15 : decode cX6_sumOfWeights 15 = .ok (.aload_n 0, 1) := by decide +kernel
theorem dX6_sumOfWeights_16 : decode cX6_sumOfWeights 16 = .ok (.getfield 21, 3) := by decide +kernel
theorem dX6_sumOfWeights_19 : decode cX6_sumOfWeights 19 = .ok (.iload_n 1, 1) := by decide +kernel
theorem dX6_sumOfWeights_20 : decode cX6_sumOfWeights 20 = .ok (.bipush 40, 2) := by decide +kernel
theorem dX6_sumOfWeights_22 : decode cX6_sumOfWeights 22 = .ok (.imul, 1) := by decide +kernel
theorem dX6_sumOfWeights_23 : decode cX6_sumOfWeights 23 = .ok (.iload 4, 2) := by decide +kernel
theorem dX6_sumOfWeights_25 : decode cX6_sumOfWeights 25 = .ok (.iadd, 1) := by decide +kernel
theorem dX6_sumOfWeights_26 : decode cX6_sumOfWeights 26 = .ok (.laload, 1) := by decide +kernel
theorem dX6_sumOfWeights_27 : decode cX6_sumOfWeights 27 = .ok (.ladd, 1) := by decide +kernel
theorem dX6_sumOfWeights_28 : decode cX6_sumOfWeights 28 = .ok (.lstore_n 2, 1) := by decide +kernel
theorem dX6_sumOfWeights_29 : decode cX6_sumOfWeights 29 = .ok (.iinc 4 1, 3) := by decide +kernel
theorem dX6_sumOfWeights_32 : decode cX6_sumOfWeights 32 = .ok (.goto (-27), 3) := by decide +kernel
theorem dX6_sumOfWeights_35 : decode cX6_sumOfWeights 35 = .ok (.lload_n 2, 1) := by decide +kernel
theorem dX6_sumOfWeights_36 : decode cX6_sumOfWeights 36 = .ok (.lreturn, 1) := by decide +kernel
theorem dX7_init_0 : decode cX7_init 0 = .ok (.aload_n 0, 1) := by decide +kernel
theorem dX7_init_1 : decode cX7_init 1 = .ok (.invokespecial 1, 3) := by decide +kernel
theorem dX7_init_4 : decode cX7_init 4 = .ok (.aload_n 0, 1) := by decide +kernel
theorem dX7_init_5 : decode cX7_init 5 = .ok (.new 7, 3) := by decide +kernel
theorem dX7_init_8 : decode cX7_init 8 = .ok (.dup, 1) := by decide +kernel
theorem dX7_init_9 : decode cX7_init 9 = .ok (.invokespecial 9, 3) := by decide +kernel
theorem dX7_init_12 : decode cX7_init 12 = .ok (.putfield 10, 3) := by decide +kernel
theorem dX7_init_15 : decode cX7_init 15 = .ok (.aload_n 0, 1) := by decide +kernel
theorem dX7_init_16 : decode cX7_init 16 = .ok (.new 7, 3) := by decide +kernel
theorem dX7_init_19 : decode cX7_init 19 = .ok (.dup, 1) := by decide +kernel
theorem dX7_init_20 : decode cX7_init 20 = .ok (.invokespecial 9, 3) := by decide +kernel
theorem dX7_init_23 : decode cX7_init 23 = .ok (.putfield 16, 3) := by decide +kernel
theorem dX7_init_26 : decode cX7_init 26 = .ok (.aload_n 0, 1) := by decide +kernel
theorem dX7_init_27 : decode cX7_init 27 = .ok (.iconst 0, 1) := by decide +kernel
theorem dX7_init_28 : decode cX7_init 28 = .ok (.putfield 19, 3) := by decide +kernel
theorem dX7_init_31 : decode cX7_init 31 = .ok (.aload_n 0, 1) := by decide +kernel
theorem dX7_init_32 : decode cX7_init 32 = .ok (.iconst 4, 1) := by decide +kernel
theorem dX7_init_33 : decode cX7_init 33 = .ok (.anewarray 23, 3) := by decide +kernel
theorem dX7_init_36 : decode cX7_init 36 = .ok (.putfield 25, 3) := by decide +kernel
theorem dX7_init_39 : decode cX7_init 39 = .ok (.aload_n 0, 1) := by decide +kernel
theorem dX7_init_40 : decode cX7_init 40 = .ok (.new 29, 3) := by decide +kernel
theorem dX7_init_43 : decode cX7_init 43 = .ok (.dup, 1) := by decide +kernel
theorem dX7_init_44 : decode cX7_init 44 = .ok (.invokespecial 31, 3) := by decide +kernel
theorem dX7_init_47 : decode cX7_init 47 = .ok (.putfield 32, 3) := by decide +kernel
theorem dX7_init_50 : decode cX7_init 50 = .ok (.aload_n 0, 1) := by decide +kernel
theorem dX7_init_51 : decode cX7_init 51 = .ok (.new 36, 3) := by decide +kernel
theorem dX7_init_54 : decode cX7_init 54 = .ok (.dup, 1) := by decide +kernel
theorem dX7_init_55 : decode cX7_init 55 = .ok (.invokespecial 38, 3) := by decide +kernel
theorem dX7_init_58 : decode cX7_init 58 = .ok (.putfield 39, 3) := by decide +kernel
theorem dX7_init_61 : decode cX7_init 61 = .ok (.aload_n 0, 1) := by decide +kernel
theorem dX7_init_62 : decode cX7_init 62 = .ok (.new 43, 3) := by decide +kernel
theorem dX7_init_65 : decode cX7_init 65 = .ok (.dup, 1) := by decide +kernel
theorem dX7_init_66 : decode cX7_init 66 = .ok (.aload_n 0, 1) := by decide +kernel
theorem dX7_init_67 : decode cX7_init 67 = .ok (.getfield 39, 3) := by decide +kernel
theorem dX7_init_70 : decode cX7_init 70 = .ok (.invokespecial 45, 3) := by decide +kernel
theorem dX7_init_73 : decode cX7_init 73 = .ok (.putfield 48, 3) := by decide +kernel
theorem dX7_init_76 : decode cX7_init 76 = .ok (.aload_n 0, 1) := by decide +kernel
theorem dX7_init_77 : decode cX7_init 77 = .ok (.bipush 20, 2) := by decide +kernel
theorem dX7_init_79 : decode cX7_init 79 = .ok (.newarray .int, 2) := by decide +kernel
theorem dX7_init_81 : decode cX7_init 81 = .ok (.putfield 52, 3) := by decide +kernel
theorem dX7_init_84 : decode cX7_init 84 = .ok (.aload_n 0, 1) := by decide +kernel
theorem dX7_init_85 : decode cX7_init 85 = .ok (.iconst 0, 1) := by decide +kernel
theorem dX7_init_86 : decode cX7_init 86 = .ok (.putfield 56, 3) := by decide +kernel
theorem dX7_init_89 : decode cX7_init 89 = .ok (.aload_n 0, 1) := by decide +kernel
theorem dX7_init_90 : decode cX7_init 90 = .ok (.bipush 7, 2) := by decide +kernel
theorem dX7_init_92 : decode cX7_init 92 = .ok (.newarray .int, 2) := by decide +kernel
theorem dX7_init_94 : decode cX7_init 94 = .ok (.putfield 60, 3) := by decide +kernel
theorem dX7_init_97 : decode cX7_init 97 = .ok (.aload_n 0, 1) := by decide +kernel
theorem dX7_init_98 : decode cX7_init 98 = .ok (.iconst 0, 1) := by decide +kernel
theorem dX7_init_99 : decode cX7_init 99 = .ok (.putfield 63, 3) := by decide +kernel
theorem dX7_init_102 : decode cX7_init 102 = .ok (.aload_n 0, 1) := by decide +kernel
theorem dX7_init_103 : decode cX7_init 103 = .ok (.lconst 1, 1) := by decide +kernel
theorem dX7_init_104 : decode cX7_init 104 = .ok (.putfield 66, 3) := by decide +kernel
theorem dX7_init_107 : decode cX7_init 107 = .ok (.aload_n 0, 1) := by decide +kernel
theorem dX7_init_108 : decode cX7_init 108 = .ok (.iconst 0, 1) := by decide +kernel
theorem dX7_init_109 : decode cX7_init 109 = .ok (.putfield 70, 3) := by decide +kernel
theorem dX7_init_112 : decode cX7_init 112 = .ok (.iconst 0, 1) := by decide +kernel
theorem dX7_init_113 : decode cX7_init 113 = .ok (.istore_n 1, 1) := by decide +kernel
theorem dX7_init_114 : decode cX7_init 114 = .ok (.iload_n 1, 1) := by decide +kernel
theorem dX7_init_115 : decode cX7_init 115 = .ok (.iconst 4, 1) := by decide +kernel
theorem dX7_init_116 : decode cX7_init 116 = .ok (.if_icmp .ge 22, 3) := by decide +kernel
theorem dX7_init_119 : decode cX7_init 119 = .ok (.aload_n 0, 1) := by decide +kernel
theorem dX7_init_120 : decode cX7_init 120 = .ok (.getfield 25, 3) := by decide +kernel
theorem dX7_init_123 : decode cX7_init 123 = .ok (.iload_n 1, 1) := by decide +kernel
theorem dX7_init_124 : decode cX7_init 124 = .ok (.new 23, 3) := by decide +kernel
theorem dX7_init_127 : decode cX7_init 127 = .ok (.dup, 1) := by decide +kernel
theorem dX7_init_128 : decode cX7_init 128 = .ok (.invokespecial 73, 3) := by decide +kernel
theorem dX7_init_131 : decode cX7_init 131 = .ok (.aastore, 1) := by decide +kernel
theorem dX7_init_132 : decode cX7_init 132 = .ok (.iinc 1 1, 3) := by decide +kernel
theorem dX7_init_135 : decode cX7_init 135 = .ok (.goto (-21), 3) := by decide +kernel
theorem dX7_init_138 : decode cX7_init 138 = .ok (.return_, 1) := by decide +kernel
theorem dX7_years_0 : decode cX7_years 0 = .ok (.iload_n 1, 1) := by decide +kernel
theorem dX7_years_1 : decode cX7_years 1 = .ok (.iconst 1, 1) := by decide +kernel
theorem dX7_years_2 : decode cX7_years 2 = .ok (.if_icmp .lt 9, 3) := by decide +kernel
theorem dX7_years_5 : decode cX7_years 5 = .ok (.iload_n 1, 1) := by decide +kernel
theorem dX7_years_6 : decode cX7_years 6 = .ok (.bipush 40, 2) := by decide +kernel
theorem dX7_years_8 : decode cX7_years 8 = .ok (.if_icmp .le 6, 3) := by decide +kernel
theorem dX7_years_11 : decode cX7_years 11 = .ok (.bipush (-2), 2) := by decide +kernel
theorem dX7_years_13 : decode cX7_years 13 = .ok (.ireturn, 1) := by decide +kernel
theorem dX7_years_14 : decode cX7_years 14 = .ok (.aload_n 0, 1) := by decide +kernel
theorem dX7_years_15 : decode cX7_years 15 = .ok (.getfield 10, 3) := by decide +kernel
theorem dX7_years_18 : decode cX7_years 18 = .ok (.getfield 74, 3) := by decide +kernel
theorem dX7_years_21 : decode cX7_years 21 = .ok (.istore_n 2, 1) := by decide +kernel
theorem dX7_years_22 : decode cX7_years 22 = .ok (.aload_n 0, 1) := by decide +kernel
theorem dX7_years_23 : decode cX7_years 23 = .ok (.getfield 10, 3) := by decide +kernel
theorem dX7_years_26 : decode cX7_years 26 = .ok (.iload_n 1, 1) := by decide +kernel
theorem dX7_years_27 : decode cX7_years 27 = .ok (.putfield 74, 3) := by decide +kernel
theorem dX7_years_30 : decode cX7_years 30 = .ok (.iload_n 2, 1) := by decide +kernel
theorem dX7_years_31 : decode cX7_years 31 = .ok (.ireturn, 1) := by decide +kernel
theorem dX7_curve_0 : decode cX7_curve 0 = .ok (.iload_n 1, 1) := by decide +kernel
theorem dX7_curve_1 : decode cX7_curve 1 = .ok (.ifCond .lt 16, 3) := by decide +kernel
theorem dX7_curve_4 : decode cX7_curve 4 = .ok (.iload_n 1, 1) := by decide +kernel
theorem dX7_curve_5 : decode cX7_curve 5 = .ok (.bipush 40, 2) := by decide +kernel
theorem dX7_curve_7 : decode cX7_curve 7 = .ok (.if_icmp .ge 10, 3) := by decide +kernel
theorem dX7_curve_10 : decode cX7_curve 10 = .ok (.iload_n 2, 1) := by decide +kernel
theorem dX7_curve_11 : decode cX7_curve 11 = .ok (.invokestatic 77, 3) := by decide +kernel
theorem dX7_curve_14 : decode cX7_curve 14 = .ok (.ifCond .ne 6, 3) := by decide +kernel
theorem dX7_curve_17 : decode cX7_curve 17 = .ok (.bipush (-2), 2) := by decide +kernel
theorem dX7_curve_19 : decode cX7_curve 19 = .ok (.ireturn, 1) := by decide +kernel
theorem dX7_curve_20 : decode cX7_curve 20 = .ok (.aload_n 0, 1) := by decide +kernel
theorem dX7_curve_21 : decode cX7_curve 21 = .ok (.getfield 10, 3) := by decide +kernel
theorem dX7_curve_24 : decode cX7_curve 24 = .ok (.getfield 81, 3) := by decide +kernel
theorem dX7_curve_27 : decode cX7_curve 27 = .ok (.iload_n 1, 1) := by decide +kernel
theorem dX7_curve_28 : decode cX7_curve 28 = .ok (.iaload, 1) := by decide +kernel
theorem dX7_curve_29 : decode cX7_curve 29 = .ok (.istore_n 3, 1) := by decide +kernel
theorem dX7_curve_30 : decode cX7_curve 30 = .ok (.aload_n 0, 1) := by decide +kernel
theorem dX7_curve_31 : decode cX7_curve 31 = .ok (.getfield 10, 3) := by decide +kernel
theorem dX7_curve_34 : decode cX7_curve 34 = .ok (.getfield 81, 3) := by decide +kernel
theorem dX7_curve_37 : decode cX7_curve 37 = .ok (.iload_n 1, 1) := by decide +kernel
theorem dX7_curve_38 : decode cX7_curve 38 = .ok (.iload_n 2, 1) := by decide +kernel
theorem dX7_curve_39 : decode cX7_curve 39 = .ok (.iastore, 1) := by decide +kernel
theorem dX7_curve_40 : decode cX7_curve 40 = .ok (.iload_n 3, 1) := by decide +kernel
theorem dX7_curve_41 : decode cX7_curve 41 = .ok (.ireturn, 1) := by decide +kernel
theorem dX7_miss_0 : decode cX7_miss 0 = .ok (.iload_n 1, 1) := by decide +kernel
theorem dX7_miss_1 : decode cX7_miss 1 = .ok (.ifCond .lt 16, 3) := by decide +kernel
theorem dX7_miss_4 : decode cX7_miss 4 = .ok (.iload_n 1, 1) := by decide +kernel
theorem dX7_miss_5 : decode cX7_miss 5 = .ok (.bipush 20, 2) := by decide +kernel
theorem dX7_miss_7 : decode cX7_miss 7 = .ok (.if_icmp .gt 10, 3) := by decide +kernel
theorem dX7_miss_10 : decode cX7_miss 10 = .ok (.iload_n 2, 1) := by decide +kernel
theorem dX7_miss_11 : decode cX7_miss 11 = .ok (.invokestatic 84, 3) := by decide +kernel
theorem dX7_miss_14 : decode cX7_miss 14 = .ok (.ifCond .ne 6, 3) := by decide +kernel
theorem dX7_miss_17 : decode cX7_miss 17 = .ok (.bipush (-2), 2) := by decide +kernel
theorem dX7_miss_19 : decode cX7_miss 19 = .ok (.ireturn, 1) := by decide +kernel
theorem dX7_miss_20 : decode cX7_miss 20 = .ok (.aload_n 0, 1) := by decide +kernel
theorem dX7_miss_21 : decode cX7_miss 21 = .ok (.getfield 10, 3) := by decide +kernel
theorem dX7_miss_24 : decode cX7_miss 24 = .ok (.getfield 87, 3) := by decide +kernel
theorem dX7_miss_27 : decode cX7_miss 27 = .ok (.iload_n 1, 1) := by decide +kernel
theorem dX7_miss_28 : decode cX7_miss 28 = .ok (.iaload, 1) := by decide +kernel
theorem dX7_miss_29 : decode cX7_miss 29 = .ok (.istore_n 3, 1) := by decide +kernel
theorem dX7_miss_30 : decode cX7_miss 30 = .ok (.aload_n 0, 1) := by decide +kernel
theorem dX7_miss_31 : decode cX7_miss 31 = .ok (.getfield 10, 3) := by decide +kernel
theorem dX7_miss_34 : decode cX7_miss 34 = .ok (.getfield 87, 3) := by decide +kernel
theorem dX7_miss_37 : decode cX7_miss 37 = .ok (.iload_n 1, 1) := by decide +kernel
theorem dX7_miss_38 : decode cX7_miss 38 = .ok (.iload_n 2, 1) := by decide +kernel
theorem dX7_miss_39 : decode cX7_miss 39 = .ok (.iastore, 1) := by decide +kernel
theorem dX7_miss_40 : decode cX7_miss 40 = .ok (.iload_n 3, 1) := by decide +kernel
theorem dX7_miss_41 : decode cX7_miss 41 = .ok (.ireturn, 1) := by decide +kernel
theorem dX7_sheet_0 : decode cX7_sheet 0 = .ok (.iload_n 1, 1) := by decide +kernel
theorem dX7_sheet_1 : decode cX7_sheet 1 = .ok (.invokestatic 90, 3) := by decide +kernel
theorem dX7_sheet_4 : decode cX7_sheet 4 = .ok (.ifCond .eq 16, 3) := by decide +kernel
theorem dX7_sheet_7 : decode cX7_sheet 7 = .ok (.iload_n 2, 1) := by decide +kernel
theorem dX7_sheet_8 : decode cX7_sheet 8 = .ok (.invokestatic 93, 3) := by decide +kernel
theorem dX7_sheet_11 : decode cX7_sheet 11 = .ok (.ifCond .eq 9, 3) := by decide +kernel
theorem dX7_sheet_14 : decode cX7_sheet 14 = .ok (.iload_n 3, 1) := by decide +kernel
theorem dX7_sheet_15 : decode cX7_sheet 15 = .ok (.bipush 60, 2) := by decide +kernel
theorem dX7_sheet_17 : decode cX7_sheet 17 = .ok (.if_icmp .le 6, 3) := by decide +kernel
theorem dX7_sheet_20 : decode cX7_sheet 20 = .ok (.bipush (-2), 2) := by decide +kernel
theorem dX7_sheet_22 : decode cX7_sheet 22 = .ok (.ireturn, 1) := by decide +kernel
theorem dX7_sheet_23 : decode cX7_sheet 23 = .ok (.iload_n 3, 1) := by decide +kernel
theorem dX7_sheet_24 : decode cX7_sheet 24 = .ok (.ifCond .ge 10, 3) := by decide +kernel
theorem dX7_sheet_27 : decode cX7_sheet 27 = .ok (.aload_n 0, 1) := by decide +kernel
theorem dX7_sheet_28 : decode cX7_sheet 28 = .ok (.bipush (-13), 2) := by decide +kernel
theorem dX7_sheet_30 : decode cX7_sheet 30 = .ok (.invokevirtual 96, 3) := by decide +kernel
theorem dX7_sheet_33 : decode cX7_sheet 33 = .ok (.ireturn, 1) := by decide +kernel
theorem dX7_sheet_34 : decode cX7_sheet 34 = .ok (.aload_n 0, 1) := by decide +kernel
theorem dX7_sheet_35 : decode cX7_sheet 35 = .ok (.getfield 25, 3) := by decide +kernel
theorem dX7_sheet_38 : decode cX7_sheet 38 = .ok (.iload_n 1, 1) := by decide +kernel
theorem dX7_sheet_39 : decode cX7_sheet 39 = .ok (.aaload, 1) := by decide +kernel
theorem dX7_sheet_40 : decode cX7_sheet 40 = .ok (.iload_n 2, 1) := by decide +kernel
theorem dX7_sheet_41 : decode cX7_sheet 41 = .ok (.iload_n 3, 1) := by decide +kernel
theorem dX7_sheet_42 : decode cX7_sheet 42 = .ok (.invokevirtual 100, 3) := by decide +kernel
theorem dX7_sheet_45 : decode cX7_sheet 45 = .ok (.iload_n 3, 1) := by decide +kernel
theorem dX7_sheet_46 : decode cX7_sheet 46 = .ok (.ireturn, 1) := by decide +kernel
theorem dX7_write_0 : decode cX7_write 0 = .ok (.iload_n 1, 1) := by decide +kernel
theorem dX7_write_1 : decode cX7_write 1 = .ok (.invokestatic 90, 3) := by decide +kernel
theorem dX7_write_4 : decode cX7_write 4 = .ok (.ifCond .ne 6, 3) := by decide +kernel
theorem dX7_write_7 : decode cX7_write 7 = .ok (.bipush (-2), 2) := by decide +kernel
theorem dX7_write_9 : decode cX7_write 9 = .ok (.ireturn, 1) := by decide +kernel
theorem dX7_write_10 : decode cX7_write 10 = .ok (.aload_n 0, 1) := by decide +kernel
theorem dX7_write_11 : decode cX7_write 11 = .ok (.getfield 25, 3) := by decide +kernel
theorem dX7_write_14 : decode cX7_write 14 = .ok (.iload_n 1, 1) := by decide +kernel
theorem dX7_write_15 : decode cX7_write 15 = .ok (.aaload, 1) := by decide +kernel
theorem dX7_write_16 : decode cX7_write 16 = .ok (.astore 4, 2) := by decide +kernel
theorem dX7_write_18 : decode cX7_write 18 = .ok (.aload 4, 2) := by decide +kernel
theorem dX7_write_20 : decode cX7_write 20 = .ok (.getfield 104, 3) := by decide +kernel
theorem dX7_write_23 : decode cX7_write 23 = .ok (.ifCond .ne 10, 3) := by decide +kernel
theorem dX7_write_26 : decode cX7_write 26 = .ok (.aload_n 0, 1) := by decide +kernel
theorem dX7_write_27 : decode cX7_write 27 = .ok (.bipush (-10), 2) := by decide +kernel
theorem dX7_write_29 : decode cX7_write 29 = .ok (.invokevirtual 96, 3) := by decide +kernel
theorem dX7_write_32 : decode cX7_write 32 = .ok (.ireturn, 1) := by decide +kernel
theorem dX7_write_33 : decode cX7_write 33 = .ok (.aload 4, 2) := by decide +kernel
theorem dX7_write_35 : decode cX7_write 35 = .ok (.iload_n 2, 1) := by decide +kernel
theorem dX7_write_36 : decode cX7_write 36 = .ok (.iconst 1, 1) := by decide +kernel
theorem dX7_write_37 : decode cX7_write 37 = .ok (.invokevirtual 107, 3) := by decide +kernel
theorem dX7_write_40 : decode cX7_write 40 = .ok (.ifCond .ne 10, 3) := by decide +kernel
theorem dX7_write_43 : decode cX7_write 43 = .ok (.aload_n 0, 1) := by decide +kernel
theorem dX7_write_44 : decode cX7_write 44 = .ok (.bipush (-11), 2) := by decide +kernel
theorem dX7_write_46 : decode cX7_write 46 = .ok (.invokevirtual 96, 3) := by decide +kernel
theorem dX7_write_49 : decode cX7_write 49 = .ok (.ireturn, 1) := by decide +kernel
theorem dX7_write_50 : decode cX7_write 50 = .ok (.aload 4, 2) := by decide +kernel
theorem dX7_write_52 : decode cX7_write 52 = .ok (.getfield 111, 3) := by decide +kernel
theorem dX7_write_55 : decode cX7_write 55 = .ok (.iload_n 2, 1) := by decide +kernel
theorem dX7_write_56 : decode cX7_write 56 = .ok (.iaload, 1) := by decide +kernel
theorem dX7_write_57 : decode cX7_write 57 = .ok (.istore 5, 2) := by decide +kernel
theorem dX7_write_59 : decode cX7_write 59 = .ok (.aload 4, 2) := by decide +kernel
theorem dX7_write_61 : decode cX7_write 61 = .ok (.getfield 111, 3) := by decide +kernel
theorem dX7_write_64 : decode cX7_write 64 = .ok (.iload_n 2, 1) := by decide +kernel
theorem dX7_write_65 : decode cX7_write 65 = .ok (.aload 4, 2) := by decide +kernel
theorem dX7_write_67 : decode cX7_write 67 = .ok (.iload_n 3, 1) := by decide +kernel
theorem dX7_write_68 : decode cX7_write 68 = .ok (.invokevirtual 114, 3) := by decide +kernel
theorem dX7_write_71 : decode cX7_write 71 = .ok (.iastore, 1) := by decide +kernel
theorem dX7_write_72 : decode cX7_write 72 = .ok (.iload 5, 2) := by decide +kernel
theorem dX7_write_74 : decode cX7_write 74 = .ok (.ireturn, 1) := by decide +kernel
theorem dX7_lose_0 : decode cX7_lose 0 = .ok (.iload_n 1, 1) := by decide +kernel
theorem dX7_lose_1 : decode cX7_lose 1 = .ok (.invokestatic 90, 3) := by decide +kernel
theorem dX7_lose_4 : decode cX7_lose 4 = .ok (.ifCond .ne 6, 3) := by decide +kernel
theorem dX7_lose_7 : decode cX7_lose 7 = .ok (.bipush (-2), 2) := by decide +kernel
theorem dX7_lose_9 : decode cX7_lose 9 = .ok (.ireturn, 1) := by decide +kernel
theorem dX7_lose_10 : decode cX7_lose 10 = .ok (.aload_n 0, 1) := by decide +kernel
theorem dX7_lose_11 : decode cX7_lose 11 = .ok (.getfield 25, 3) := by decide +kernel
theorem dX7_lose_14 : decode cX7_lose 14 = .ok (.iload_n 1, 1) := by decide +kernel
theorem dX7_lose_15 : decode cX7_lose 15 = .ok (.aaload, 1) := by decide +kernel
theorem dX7_lose_16 : decode cX7_lose 16 = .ok (.getfield 104, 3) := by decide +kernel
theorem dX7_lose_19 : decode cX7_lose 19 = .ok (.ifCond .eq 7, 3) := by decide +kernel
theorem dX7_lose_22 : decode cX7_lose 22 = .ok (.iconst 1, 1) := by decide +kernel
theorem dX7_lose_23 : decode cX7_lose 23 = .ok (.goto 4, 3) := by decide +kernel
theorem dX7_lose_26 : decode cX7_lose 26 = .ok (.iconst 0, 1) := by decide +kernel
theorem dX7_lose_27 : decode cX7_lose 27 = .ok (.istore_n 2, 1) := by decide +kernel
theorem dX7_lose_28 : decode cX7_lose 28 = .ok (.aload_n 0, 1) := by decide +kernel
theorem dX7_lose_29 : decode cX7_lose 29 = .ok (.getfield 25, 3) := by decide +kernel
theorem dX7_lose_32 : decode cX7_lose 32 = .ok (.iload_n 1, 1) := by decide +kernel
theorem dX7_lose_33 : decode cX7_lose 33 = .ok (.aaload, 1) := by decide +kernel
theorem dX7_lose_34 : decode cX7_lose 34 = .ok (.iconst 0, 1) := by decide +kernel
theorem dX7_lose_35 : decode cX7_lose 35 = .ok (.putfield 104, 3) := by decide +kernel
theorem dX7_lose_38 : decode cX7_lose 38 = .ok (.iload_n 2, 1) := by decide +kernel
theorem dX7_lose_39 : decode cX7_lose 39 = .ok (.ireturn, 1) := by decide +kernel
theorem dX7_lay_0 : decode cX7_lay 0 = .ok (.iload_n 1, 1) := by decide +kernel
theorem dX7_lay_1 : decode cX7_lay 1 = .ok (.invokestatic 90, 3) := by decide +kernel
theorem dX7_lay_4 : decode cX7_lay 4 = .ok (.ifCond .eq 22, 3) := by decide +kernel
theorem dX7_lay_7 : decode cX7_lay 7 = .ok (.iload_n 2, 1) := by decide +kernel
theorem dX7_lay_8 : decode cX7_lay 8 = .ok (.invokestatic 93, 3) := by decide +kernel
theorem dX7_lay_11 : decode cX7_lay 11 = .ok (.ifCond .eq 15, 3) := by decide +kernel
theorem dX7_lay_14 : decode cX7_lay 14 = .ok (.iload 4, 2) := by decide +kernel
theorem dX7_lay_16 : decode cX7_lay 16 = .ok (.ifCond .lt 10, 3) := by decide +kernel
theorem dX7_lay_19 : decode cX7_lay 19 = .ok (.iload 4, 2) := by decide +kernel
theorem dX7_lay_21 : decode cX7_lay 21 = .ok (.bipush 40, 2) := by decide +kernel
theorem dX7_lay_23 : decode cX7_lay 23 = .ok (.if_icmp .lt 6, 3) := by decide +kernel
theorem dX7_lay_26 : decode cX7_lay 26 = .ok (.bipush (-2), 2) := by decide +kernel
theorem dX7_lay_28 : decode cX7_lay 28 = .ok (.ireturn, 1) := by decide +kernel
theorem dX7_lay_29 : decode cX7_lay 29 = .ok (.iload 5, 2) := by decide +kernel
theorem dX7_lay_31 : decode cX7_lay 31 = .ok (.ifCond .lt 13, 3) := by decide +kernel
theorem dX7_lay_34 : decode cX7_lay 34 = .ok (.iload 5, 2) := by decide +kernel
theorem dX7_lay_36 : decode cX7_lay 36 = .ok (.bipush 40, 2) := by decide +kernel
theorem dX7_lay_38 : decode cX7_lay 38 = .ok (.iload 4, 2) := by decide +kernel
theorem dX7_lay_40 : decode cX7_lay 40 = .ok (.isub, 1) := by decide +kernel
theorem dX7_lay_41 : decode cX7_lay 41 = .ok (.if_icmp .le 6, 3) := by decide +kernel
theorem dX7_lay_44 : decode cX7_lay 44 = .ok (.bipush (-2), 2) := by decide +kernel
theorem dX7_lay_46 : decode cX7_lay 46 = .ok (.ireturn, 1) := by decide +kernel
theorem dX7_lay_47 : decode cX7_lay 47 = .ok (.aload_n 0, 1) := by decide +kernel
theorem dX7_lay_48 : decode cX7_lay 48 = .ok (.getfield 25, 3) := by decide +kernel
theorem dX7_lay_51 : decode cX7_lay 51 = .ok (.iload_n 1, 1) := by decide +kernel
theorem dX7_lay_52 : decode cX7_lay 52 = .ok (.aaload, 1) := by decide +kernel
theorem dX7_lay_53 : decode cX7_lay 53 = .ok (.astore 6, 2) := by decide +kernel
theorem dX7_lay_55 : decode cX7_lay 55 = .ok (.aload 6, 2) := by decide +kernel
theorem dX7_lay_57 : decode cX7_lay 57 = .ok (.getfield 104, 3) := by decide +kernel
theorem dX7_lay_60 : decode cX7_lay 60 = .ok (.ifCond .ne 10, 3) := by decide +kernel
theorem dX7_lay_63 : decode cX7_lay 63 = .ok (.aload_n 0, 1) := by decide +kernel
theorem dX7_lay_64 : decode cX7_lay 64 = .ok (.bipush (-10), 2) := by decide +kernel
theorem dX7_lay_66 : decode cX7_lay 66 = .ok (.invokevirtual 96, 3) := by decide +kernel
theorem dX7_lay_69 : decode cX7_lay 69 = .ok (.ireturn, 1) := by decide +kernel
theorem dX7_lay_70 : decode cX7_lay 70 = .ok (.aload 6, 2) := by decide +kernel
theorem dX7_lay_72 : decode cX7_lay 72 = .ok (.getfield 117, 3) := by decide +kernel
theorem dX7_lay_75 : decode cX7_lay 75 = .ok (.iload_n 2, 1) := by decide +kernel
theorem dX7_lay_76 : decode cX7_lay 76 = .ok (.if_icmp .eq 10, 3) := by decide +kernel
theorem dX7_lay_79 : decode cX7_lay 79 = .ok (.aload_n 0, 1) := by decide +kernel
theorem dX7_lay_80 : decode cX7_lay 80 = .ok (.bipush (-12), 2) := by decide +kernel
theorem dX7_lay_82 : decode cX7_lay 82 = .ok (.invokevirtual 96, 3) := by decide +kernel
theorem dX7_lay_85 : decode cX7_lay 85 = .ok (.ireturn, 1) := by decide +kernel
theorem dX7_lay_86 : decode cX7_lay 86 = .ok (.iload 5, 2) := by decide +kernel
theorem dX7_lay_88 : decode cX7_lay 88 = .ok (.ifCond .le 21, 3) := by decide +kernel
theorem dX7_lay_91 : decode cX7_lay 91 = .ok (.aload 6, 2) := by decide +kernel
theorem dX7_lay_93 : decode cX7_lay 93 = .ok (.iload_n 3, 1) := by decide +kernel
theorem dX7_lay_94 : decode cX7_lay 94 = .ok (.iload 5, 2) := by decide +kernel
theorem dX7_lay_96 : decode cX7_lay 96 = .ok (.invokevirtual 107, 3) := by decide +kernel
theorem dX7_lay_99 : decode cX7_lay 99 = .ok (.ifCond .ne 10, 3) := by decide +kernel
theorem dX7_lay_102 : decode cX7_lay 102 = .ok (.aload_n 0, 1) := by decide +kernel
theorem dX7_lay_103 : decode cX7_lay 103 = .ok (.bipush (-11), 2) := by decide +kernel
theorem dX7_lay_105 : decode cX7_lay 105 = .ok (.invokevirtual 96, 3) := by decide +kernel
theorem dX7_lay_108 : decode cX7_lay 108 = .ok (.ireturn, 1) := by decide +kernel
theorem dX7_lay_109 : decode cX7_lay 109 = .ok (.iconst 0, 1) := by decide +kernel
theorem dX7_lay_110 : decode cX7_lay 110 = .ok (.istore 7, 2) := by decide +kernel
theorem dX7_lay_112 : decode cX7_lay 112 = .ok (.iconst 0, 1) := by decide +kernel
theorem dX7_lay_113 : decode cX7_lay 113 = .ok (.istore 8, 2) := by decide +kernel
theorem dX7_lay_115 : decode cX7_lay 115 = .ok (.iload 8, 2) := by decide +kernel
theorem dX7_lay_117 : decode cX7_lay 117 = .ok (.iload 5, 2) := by decide +kernel
theorem dX7_lay_119 : decode cX7_lay 119 = .ok (.if_icmp .ge 57, 3) := by decide +kernel
theorem dX7_lay_122 : decode cX7_lay 122 = .ok (.aload 6, 2) := by decide +kernel
theorem dX7_lay_124 : decode cX7_lay 124 = .ok (.getfield 111, 3) := by decide +kernel
theorem dX7_lay_127 : decode cX7_lay 127 = .ok (.iload_n 3, 1) := by decide +kernel
theorem dX7_lay_128 : decode cX7_lay 128 = .ok (.iload 8, 2) := by decide +kernel
theorem dX7_lay_130 : decode cX7_lay 130 = .ok (.iadd, 1) := by decide +kernel
theorem dX7_lay_131 : decode cX7_lay 131 = .ok (.iaload, 1) := by decide +kernel
theorem dX7_lay_132 : decode cX7_lay 132 = .ok (.istore 9, 2) := by decide +kernel
theorem dX7_lay_134 : decode cX7_lay 134 = .ok (.iload 9, 2) := by decide +kernel
theorem dX7_lay_136 : decode cX7_lay 136 = .ok (.invokestatic 77, 3) := by decide +kernel
theorem dX7_lay_139 : decode cX7_lay 139 = .ok (.ifCond .ne 6, 3) := by decide +kernel
theorem dX7_lay_142 : decode cX7_lay 142 = .ok (.iinc 7 1, 3) := by decide +kernel
theorem dX7_lay_145 : decode cX7_lay 145 = .ok (.aload_n 0, 1) := by decide +kernel
theorem dX7_lay_146 : decode cX7_lay 146 = .ok (.getfield 10, 3) := by decide +kernel
theorem dX7_lay_149 : decode cX7_lay 149 = .ok (.getfield 81, 3) := by decide +kernel
theorem dX7_lay_152 : decode cX7_lay 152 = .ok (.iload 4, 2) := by decide +kernel
theorem dX7_lay_154 : decode cX7_lay 154 = .ok (.iload 8, 2) := by decide +kernel
theorem dX7_lay_156 : decode cX7_lay 156 = .ok (.iadd, 1) := by decide +kernel
theorem dX7_lay_157 : decode cX7_lay 157 = .ok (.iconst 0, 1) := by decide +kernel
theorem dX7_lay_158 : decode cX7_lay 158 = .ok (.sipush 2000, 3) := by decide +kernel
theorem dX7_lay_161 : decode cX7_lay 161 = .ok (.iload 9, 2) := by decide +kernel
theorem dX7_lay_163 : decode cX7_lay 163 = .ok (.invokestatic 120, 3) := by decide +kernel
theorem dX7_lay_166 : decode cX7_lay 166 = .ok (.invokestatic 126, 3) := by decide +kernel
theorem dX7_lay_169 : decode cX7_lay 169 = .ok (.iastore, 1) := by decide +kernel
theorem dX7_lay_170 : decode cX7_lay 170 = .ok (.iinc 8 1, 3) := by decide +kernel
theorem dX7_lay_173 : decode cX7_lay 173 = .ok (.goto (-58), 3) := by decide +kernel
theorem dX7_lay_176 : decode cX7_lay 176 = .ok (.iload 7, 2) := by decide +kernel
theorem dX7_lay_178 : decode cX7_lay 178 = .ok (.ireturn, 1) := by decide +kernel
theorem dX7_find_0 : decode cX7_find 0 = .ok (.iload_n 1, 1) := by decide +kernel
theorem dX7_find_1 : decode cX7_find 1 = .ok (.iload_n 2, 1) := by decide +kernel
theorem dX7_find_2 : decode cX7_find 2 = .ok (.invokestatic 129, 3) := by decide +kernel
theorem dX7_find_5 : decode cX7_find 5 = .ok (.ifCond .eq 15, 3) := by decide +kernel
theorem dX7_find_8 : decode cX7_find 8 = .ok (.aload_n 0, 1) := by decide +kernel
theorem dX7_find_9 : decode cX7_find 9 = .ok (.getfield 10, 3) := by decide +kernel
theorem dX7_find_12 : decode cX7_find 12 = .ok (.getfield 132, 3) := by decide +kernel
theorem dX7_find_15 : decode cX7_find 15 = .ok (.bipush 7, 2) := by decide +kernel
theorem dX7_find_17 : decode cX7_find 17 = .ok (.if_icmp .lt 6, 3) := by decide +kernel
theorem dX7_find_20 : decode cX7_find 20 = .ok (.bipush (-2), 2) := by decide +kernel
theorem dX7_find_22 : decode cX7_find 22 = .ok (.ireturn, 1) := by decide +kernel
theorem dX7_find_23 : decode cX7_find 23 = .ok (.aload_n 0, 1) := by decide +kernel
theorem dX7_find_24 : decode cX7_find 24 = .ok (.getfield 10, 3) := by decide +kernel
theorem dX7_find_27 : decode cX7_find 27 = .ok (.getfield 132, 3) := by decide +kernel
theorem dX7_find_30 : decode cX7_find 30 = .ok (.istore_n 3, 1) := by decide +kernel
theorem dX7_find_31 : decode cX7_find 31 = .ok (.aload_n 0, 1) := by decide +kernel
theorem dX7_find_32 : decode cX7_find 32 = .ok (.getfield 10, 3) := by decide +kernel
theorem dX7_find_35 : decode cX7_find 35 = .ok (.getfield 135, 3) := by decide +kernel
theorem dX7_find_38 : decode cX7_find 38 = .ok (.iload_n 3, 1) := by decide +kernel
theorem dX7_find_39 : decode cX7_find 39 = .ok (.aaload, 1) := by decide +kernel
theorem dX7_find_40 : decode cX7_find 40 = .ok (.iload_n 1, 1) := by decide +kernel
theorem dX7_find_41 : decode cX7_find 41 = .ok (.iload_n 2, 1) := by decide +kernel
theorem dX7_find_42 : decode cX7_find 42 = .ok (.invokevirtual 139, 3) := by decide +kernel
theorem dX7_find_45 : decode cX7_find 45 = .ok (.aload_n 0, 1) := by decide +kernel
theorem dX7_find_46 : decode cX7_find 46 = .ok (.getfield 10, 3) := by decide +kernel
theorem dX7_find_49 : decode cX7_find 49 = .ok (.iload_n 3, 1) := by decide +kernel
theorem dX7_find_50 : decode cX7_find 50 = .ok (.iconst 1, 1) := by decide +kernel
theorem dX7_find_51 : decode cX7_find 51 = .ok (.iadd, 1) := by decide +kernel
theorem dX7_find_52 : decode cX7_find 52 = .ok (.putfield 132, 3) := by decide +kernel
theorem dX7_find_55 : decode cX7_find 55 = .ok (.aload_n 0, 1) := by decide +kernel
theorem dX7_find_56 : decode cX7_find 56 = .ok (.iconst 0, 1) := by decide +kernel
theorem dX7_find_57 : decode cX7_find 57 = .ok (.putfield 63, 3) := by decide +kernel
theorem dX7_find_60 : decode cX7_find 60 = .ok (.iload_n 3, 1) := by decide +kernel
theorem dX7_find_61 : decode cX7_find 61 = .ok (.ireturn, 1) := by decide +kernel
theorem dX7_ring_0 : decode cX7_ring 0 = .ok (.aload_n 0, 1) := by decide +kernel
theorem dX7_ring_1 : decode cX7_ring 1 = .ok (.iload_n 1, 1) := by decide +kernel
theorem dX7_ring_2 : decode cX7_ring 2 = .ok (.invokevirtual 142, 3) := by decide +kernel
theorem dX7_ring_5 : decode cX7_ring 5 = .ok (.ifCond .eq 20, 3) := by decide +kernel
theorem dX7_ring_8 : decode cX7_ring 8 = .ok (.iload_n 2, 1) := by decide +kernel
theorem dX7_ring_9 : decode cX7_ring 9 = .ok (.invokestatic 77, 3) := by decide +kernel
theorem dX7_ring_12 : decode cX7_ring 12 = .ok (.ifCond .eq 13, 3) := by decide +kernel
theorem dX7_ring_15 : decode cX7_ring 15 = .ok (.iload_n 3, 1) := by decide +kernel
theorem dX7_ring_16 : decode cX7_ring 16 = .ok (.ifCond .lt 9, 3) := by decide +kernel
theorem dX7_ring_19 : decode cX7_ring 19 = .ok (.iload_n 3, 1) := by decide +kernel
theorem dX7_ring_20 : decode cX7_ring 20 = .ok (.bipush 40, 2) := by decide +kernel
theorem dX7_ring_22 : decode cX7_ring 22 = .ok (.if_icmp .lt 6, 3) := by decide +kernel
theorem dX7_ring_25 : decode cX7_ring 25 = .ok (.bipush (-2), 2) := by decide +kernel
theorem dX7_ring_27 : decode cX7_ring 27 = .ok (.ireturn, 1) := by decide +kernel
theorem dX7_ring_28 : decode cX7_ring 28 = .ok (.aload_n 0, 1) := by decide +kernel
theorem dX7_ring_29 : decode cX7_ring 29 = .ok (.getfield 10, 3) := by decide +kernel
theorem dX7_ring_32 : decode cX7_ring 32 = .ok (.getfield 135, 3) := by decide +kernel
theorem dX7_ring_35 : decode cX7_ring 35 = .ok (.iload_n 1, 1) := by decide +kernel
theorem dX7_ring_36 : decode cX7_ring 36 = .ok (.aaload, 1) := by decide +kernel
theorem dX7_ring_37 : decode cX7_ring 37 = .ok (.astore 4, 2) := by decide +kernel
theorem dX7_ring_39 : decode cX7_ring 39 = .ok (.aload 4, 2) := by decide +kernel
theorem dX7_ring_41 : decode cX7_ring 41 = .ok (.getfield 145, 3) := by decide +kernel
theorem dX7_ring_44 : decode cX7_ring 44 = .ok (.iconst 1, 1) := by decide +kernel
theorem dX7_ring_45 : decode cX7_ring 45 = .ok (.if_icmp .eq 10, 3) := by decide +kernel
theorem dX7_ring_48 : decode cX7_ring 48 = .ok (.aload_n 0, 1) := by decide +kernel
theorem dX7_ring_49 : decode cX7_ring 49 = .ok (.bipush (-12), 2) := by decide +kernel
theorem dX7_ring_51 : decode cX7_ring 51 = .ok (.invokevirtual 96, 3) := by decide +kernel
theorem dX7_ring_54 : decode cX7_ring 54 = .ok (.ireturn, 1) := by decide +kernel
theorem dX7_ring_55 : decode cX7_ring 55 = .ok (.aload 4, 2) := by decide +kernel
theorem dX7_ring_57 : decode cX7_ring 57 = .ok (.getfield 148, 3) := by decide +kernel
theorem dX7_ring_60 : decode cX7_ring 60 = .ok (.iconst 5, 1) := by decide +kernel
theorem dX7_ring_61 : decode cX7_ring 61 = .ok (.if_icmp .lt 6, 3) := by decide +kernel
theorem dX7_ring_64 : decode cX7_ring 64 = .ok (.bipush (-2), 2) := by decide +kernel
theorem dX7_ring_66 : decode cX7_ring 66 = .ok (.ireturn, 1) := by decide +kernel
theorem dX7_ring_67 : decode cX7_ring 67 = .ok (.aload 4, 2) := by decide +kernel
theorem dX7_ring_69 : decode cX7_ring 69 = .ok (.iload_n 2, 1) := by decide +kernel
theorem dX7_ring_70 : decode cX7_ring 70 = .ok (.iload_n 3, 1) := by decide +kernel
theorem dX7_ring_71 : decode cX7_ring 71 = .ok (.invokevirtual 151, 3) := by decide +kernel
theorem dX7_ring_74 : decode cX7_ring 74 = .ok (.aload 4, 2) := by decide +kernel
theorem dX7_ring_76 : decode cX7_ring 76 = .ok (.getfield 148, 3) := by decide +kernel
theorem dX7_ring_79 : decode cX7_ring 79 = .ok (.ireturn, 1) := by decide +kernel
theorem dX7_odd_0 : decode cX7_odd 0 = .ok (.aload_n 0, 1) := by decide +kernel
theorem dX7_odd_1 : decode cX7_odd 1 = .ok (.iload_n 1, 1) := by decide +kernel
theorem dX7_odd_2 : decode cX7_odd 2 = .ok (.invokevirtual 142, 3) := by decide +kernel
theorem dX7_odd_5 : decode cX7_odd 5 = .ok (.ifCond .eq 10, 3) := by decide +kernel
theorem dX7_odd_8 : decode cX7_odd 8 = .ok (.iload_n 2, 1) := by decide +kernel
theorem dX7_odd_9 : decode cX7_odd 9 = .ok (.invokestatic 84, 3) := by decide +kernel
theorem dX7_odd_12 : decode cX7_odd 12 = .ok (.ifCond .ne 6, 3) := by decide +kernel
theorem dX7_odd_15 : decode cX7_odd 15 = .ok (.bipush (-2), 2) := by decide +kernel
theorem dX7_odd_17 : decode cX7_odd 17 = .ok (.ireturn, 1) := by decide +kernel
theorem dX7_odd_18 : decode cX7_odd 18 = .ok (.aload_n 0, 1) := by decide +kernel
theorem dX7_odd_19 : decode cX7_odd 19 = .ok (.getfield 10, 3) := by decide +kernel
theorem dX7_odd_22 : decode cX7_odd 22 = .ok (.getfield 135, 3) := by decide +kernel
theorem dX7_odd_25 : decode cX7_odd 25 = .ok (.iload_n 1, 1) := by decide +kernel
theorem dX7_odd_26 : decode cX7_odd 26 = .ok (.aaload, 1) := by decide +kernel
theorem dX7_odd_27 : decode cX7_odd 27 = .ok (.getfield 154, 3) := by decide +kernel
theorem dX7_odd_30 : decode cX7_odd 30 = .ok (.istore_n 3, 1) := by decide +kernel
theorem dX7_odd_31 : decode cX7_odd 31 = .ok (.aload_n 0, 1) := by decide +kernel
theorem dX7_odd_32 : decode cX7_odd 32 = .ok (.getfield 10, 3) := by decide +kernel
theorem dX7_odd_35 : decode cX7_odd 35 = .ok (.getfield 135, 3) := by decide +kernel
theorem dX7_odd_38 : decode cX7_odd 38 = .ok (.iload_n 1, 1) := by decide +kernel
theorem dX7_odd_39 : decode cX7_odd 39 = .ok (.aaload, 1) := by decide +kernel
theorem dX7_odd_40 : decode cX7_odd 40 = .ok (.iload_n 2, 1) := by decide +kernel
theorem dX7_odd_41 : decode cX7_odd 41 = .ok (.putfield 154, 3) := by decide +kernel
theorem dX7_odd_44 : decode cX7_odd 44 = .ok (.iload_n 3, 1) := by decide +kernel
theorem dX7_odd_45 : decode cX7_odd 45 = .ok (.ireturn, 1) := by decide +kernel
theorem dX7_pair_0 : decode cX7_pair 0 = .ok (.aload_n 0, 1) := by decide +kernel
theorem dX7_pair_1 : decode cX7_pair 1 = .ok (.iload_n 1, 1) := by decide +kernel
theorem dX7_pair_2 : decode cX7_pair 2 = .ok (.invokevirtual 142, 3) := by decide +kernel
theorem dX7_pair_5 : decode cX7_pair 5 = .ok (.ifCond .eq 25, 3) := by decide +kernel
theorem dX7_pair_8 : decode cX7_pair 8 = .ok (.aload_n 0, 1) := by decide +kernel
theorem dX7_pair_9 : decode cX7_pair 9 = .ok (.iload_n 2, 1) := by decide +kernel
theorem dX7_pair_10 : decode cX7_pair 10 = .ok (.invokevirtual 142, 3) := by decide +kernel
theorem dX7_pair_13 : decode cX7_pair 13 = .ok (.ifCond .eq 17, 3) := by decide +kernel
theorem dX7_pair_16 : decode cX7_pair 16 = .ok (.iload_n 1, 1) := by decide +kernel
theorem dX7_pair_17 : decode cX7_pair 17 = .ok (.iload_n 2, 1) := by decide +kernel
theorem dX7_pair_18 : decode cX7_pair 18 = .ok (.if_icmp .eq 12, 3) := by decide +kernel
theorem dX7_pair_21 : decode cX7_pair 21 = .ok (.iload_n 3, 1) := by decide +kernel
theorem dX7_pair_22 : decode cX7_pair 22 = .ok (.ifCond .lt 8, 3) := by decide +kernel
theorem dX7_pair_25 : decode cX7_pair 25 = .ok (.iload_n 3, 1) := by decide +kernel
theorem dX7_pair_26 : decode cX7_pair 26 = .ok (.iconst 2, 1) := by decide +kernel
theorem dX7_pair_27 : decode cX7_pair 27 = .ok (.if_icmp .le 6, 3) := by decide +kernel
theorem dX7_pair_30 : decode cX7_pair 30 = .ok (.bipush (-2), 2) := by decide +kernel
theorem dX7_pair_32 : decode cX7_pair 32 = .ok (.ireturn, 1) := by decide +kernel
theorem dX7_pair_33 : decode cX7_pair 33 = .ok (.aload_n 0, 1) := by decide +kernel
theorem dX7_pair_34 : decode cX7_pair 34 = .ok (.getfield 10, 3) := by decide +kernel
theorem dX7_pair_37 : decode cX7_pair 37 = .ok (.getfield 157, 3) := by decide +kernel
theorem dX7_pair_40 : decode cX7_pair 40 = .ok (.iload_n 1, 1) := by decide +kernel
theorem dX7_pair_41 : decode cX7_pair 41 = .ok (.iload_n 2, 1) := by decide +kernel
theorem dX7_pair_42 : decode cX7_pair 42 = .ok (.invokevirtual 161, 3) := by decide +kernel
theorem dX7_pair_45 : decode cX7_pair 45 = .ok (.istore 4, 2) := by decide +kernel
theorem dX7_pair_47 : decode cX7_pair 47 = .ok (.aload_n 0, 1) := by decide +kernel
theorem dX7_pair_48 : decode cX7_pair 48 = .ok (.getfield 10, 3) := by decide +kernel
theorem dX7_pair_51 : decode cX7_pair 51 = .ok (.getfield 157, 3) := by decide +kernel
theorem dX7_pair_54 : decode cX7_pair 54 = .ok (.iload_n 1, 1) := by decide +kernel
theorem dX7_pair_55 : decode cX7_pair 55 = .ok (.iload_n 2, 1) := by decide +kernel
theorem dX7_pair_56 : decode cX7_pair 56 = .ok (.iload_n 3, 1) := by decide +kernel
theorem dX7_pair_57 : decode cX7_pair 57 = .ok (.invokevirtual 166, 3) := by decide +kernel
theorem dX7_pair_60 : decode cX7_pair 60 = .ok (.iload 4, 2) := by decide +kernel
theorem dX7_pair_62 : decode cX7_pair 62 = .ok (.ireturn, 1) := by decide +kernel
theorem dX7_of_0 : decode cX7_of 0 = .ok (.aload_n 0, 1) := by decide +kernel
theorem dX7_of_1 : decode cX7_of 1 = .ok (.iload_n 1, 1) := by decide +kernel
theorem dX7_of_2 : decode cX7_of 2 = .ok (.invokevirtual 142, 3) := by decide +kernel
theorem dX7_of_5 : decode cX7_of 5 = .ok (.ifCond .ne 6, 3) := by decide +kernel
theorem dX7_of_8 : decode cX7_of 8 = .ok (.bipush (-2), 2) := by decide +kernel
theorem dX7_of_10 : decode cX7_of 10 = .ok (.ireturn, 1) := by decide +kernel
theorem dX7_of_11 : decode cX7_of 11 = .ok (.aload_n 0, 1) := by decide +kernel
theorem dX7_of_12 : decode cX7_of 12 = .ok (.getfield 10, 3) := by decide +kernel
theorem dX7_of_15 : decode cX7_of 15 = .ok (.getfield 135, 3) := by decide +kernel
theorem dX7_of_18 : decode cX7_of 18 = .ok (.iload_n 1, 1) := by decide +kernel
theorem dX7_of_19 : decode cX7_of 19 = .ok (.aaload, 1) := by decide +kernel
theorem dX7_of_20 : decode cX7_of 20 = .ok (.astore_n 3, 1) := by decide +kernel
theorem dX7_of_21 : decode cX7_of 21 = .ok (.iload_n 2, 1) := by decide +kernel
theorem dX7_of_22 : decode cX7_of 22 = .ok (.tableswitch 78 0 5 #[38, 43, 50, 55, 60, 69], 38) := by decide +kernel
theorem dX7_of_60 : decode cX7_of 60 = .ok (.aload_n 3, 1) := by decide +kernel
theorem dX7_of_61 : decode cX7_of 61 = .ok (.getfield 145, 3) := by decide +kernel
theorem dX7_of_64 : decode cX7_of 64 = .ok (.ireturn, 1) := by decide +kernel
theorem dX7_of_65 : decode cX7_of 65 = .ok (.aload_n 3, 1) := by decide +kernel
theorem dX7_of_66 : decode cX7_of 66 = .ok (.getfield 170, 3) := by decide +kernel
theorem dX7_of_69 : decode cX7_of 69 = .ok (.iconst 0, 1) := by decide +kernel
theorem dX7_of_70 : decode cX7_of 70 = .ok (.iaload, 1) := by decide +kernel
theorem dX7_of_71 : decode cX7_of 71 = .ok (.ireturn, 1) := by decide +kernel
theorem dX7_of_72 : decode cX7_of 72 = .ok (.aload_n 3, 1) := by decide +kernel
theorem dX7_of_73 : decode cX7_of 73 = .ok (.getfield 154, 3) := by decide +kernel
theorem dX7_of_76 : decode cX7_of 76 = .ok (.ireturn, 1) := by decide +kernel
theorem dX7_of_77 : decode cX7_of 77 = .ok (.aload_n 3, 1) := by decide +kernel
theorem dX7_of_78 : decode cX7_of 78 = .ok (.getfield 148, 3) := by decide +kernel
theorem dX7_of_81 : decode cX7_of 81 = .ok (.ireturn, 1) := by decide +kernel
theorem dX7_of_82 : decode cX7_of 82 = .ok (.aload_n 0, 1) := by decide +kernel
theorem dX7_of_83 : decode cX7_of 83 = .ok (.getfield 10, 3) := by decide +kernel
theorem dX7_of_86 : decode cX7_of 86 = .ok (.aload_n 3, 1) := by decide +kernel
theorem dX7_of_87 : decode cX7_of 87 = .ok (.invokevirtual 173, 3) := by decide +kernel
theorem dX7_of_90 : decode cX7_of 90 = .ok (.ireturn, 1) := by decide +kernel
theorem dX7_of_91 : decode cX7_of 91 = .ok (.aload_n 0, 1) := by decide +kernel
theorem dX7_of_92 : decode cX7_of 92 = .ok (.getfield 10, 3) := by decide +kernel
theorem dX7_of_95 : decode cX7_of 95 = .ok (.aload_n 3, 1) := by decide +kernel
theorem dX7_of_96 : decode cX7_of 96 = .ok (.invokevirtual 177, 3) := by decide +kernel
theorem dX7_of_99 : decode cX7_of 99 = .ok (.ireturn, 1) := by decide +kernel
theorem dX7_of_100 : decode cX7_of 100 = .ok (.bipush (-2), 2) := by decide +kernel
theorem dX7_of_102 : decode cX7_of 102 = .ok (.ireturn, 1) := by decide +kernel
theorem dX7_weight_0 : decode cX7_weight 0 = .ok (.aload_n 0, 1) := by decide +kernel
theorem dX7_weight_1 : decode cX7_weight 1 = .ok (.iload_n 1, 1) := by decide +kernel
theorem dX7_weight_2 : decode cX7_weight 2 = .ok (.invokevirtual 142, 3) := by decide +kernel
theorem dX7_weight_5 : decode cX7_weight 5 = .ok (.ifCond .eq 11, 3) := by decide +kernel
theorem dX7_weight_8 : decode cX7_weight 8 = .ok (.aload_n 0, 1) := by decide +kernel
theorem dX7_weight_9 : decode cX7_weight 9 = .ok (.iload_n 2, 1) := by decide +kernel
theorem dX7_weight_10 : decode cX7_weight 10 = .ok (.invokevirtual 180, 3) := by decide +kernel
theorem dX7_weight_13 : decode cX7_weight 13 = .ok (.ifCond .ne 6, 3) := by decide +kernel
theorem dX7_weight_16 : decode cX7_weight 16 = .ok (.bipush (-2), 2) := by decide +kernel
theorem dX7_weight_18 : decode cX7_weight 18 = .ok (.ireturn, 1) := by decide +kernel
theorem dX7_weight_19 : decode cX7_weight 19 = .ok (.aload_n 0, 1) := by decide +kernel
theorem dX7_weight_20 : decode cX7_weight 20 = .ok (.getfield 10, 3) := by decide +kernel
theorem dX7_weight_23 : decode cX7_weight 23 = .ok (.getfield 135, 3) := by decide +kernel
theorem dX7_weight_26 : decode cX7_weight 26 = .ok (.iload_n 1, 1) := by decide +kernel
theorem dX7_weight_27 : decode cX7_weight 27 = .ok (.aaload, 1) := by decide +kernel
theorem dX7_weight_28 : decode cX7_weight 28 = .ok (.astore_n 3, 1) := by decide +kernel
theorem dX7_weight_29 : decode cX7_weight 29 = .ok (.aload_n 3, 1) := by decide +kernel
theorem dX7_weight_30 : decode cX7_weight 30 = .ok (.aload_n 0, 1) := by decide +kernel
theorem dX7_weight_31 : decode cX7_weight 31 = .ok (.getfield 10, 3) := by decide +kernel
theorem dX7_weight_34 : decode cX7_weight 34 = .ok (.aload_n 3, 1) := by decide +kernel
theorem dX7_weight_35 : decode cX7_weight 35 = .ok (.iload_n 2, 1) := by decide +kernel
theorem dX7_weight_36 : decode cX7_weight 36 = .ok (.invokevirtual 183, 3) := by decide +kernel
theorem dX7_weight_39 : decode cX7_weight 39 = .ok (.aload_n 0, 1) := by decide +kernel
theorem dX7_weight_40 : decode cX7_weight 40 = .ok (.getfield 10, 3) := by decide +kernel
theorem dX7_weight_43 : decode cX7_weight 43 = .ok (.aload_n 3, 1) := by decide +kernel
theorem dX7_weight_44 : decode cX7_weight 44 = .ok (.invokevirtual 173, 3) := by decide +kernel
theorem dX7_weight_47 : decode cX7_weight 47 = .ok (.invokevirtual 187, 3) := by decide +kernel
theorem dX7_weight_50 : decode cX7_weight 50 = .ok (.ireturn, 1) := by decide +kernel
theorem dX7_drop_0 : decode cX7_drop 0 = .ok (.aload_n 0, 1) := by decide +kernel
theorem dX7_drop_1 : decode cX7_drop 1 = .ok (.getfield 10, 3) := by decide +kernel
theorem dX7_drop_4 : decode cX7_drop 4 = .ok (.getfield 132, 3) := by decide +kernel
theorem dX7_drop_7 : decode cX7_drop 7 = .ok (.ifCond .ne 10, 3) := by decide +kernel
theorem dX7_drop_10 : decode cX7_drop 10 = .ok (.aload_n 0, 1) := by decide +kernel
theorem dX7_drop_11 : decode cX7_drop 11 = .ok (.bipush (-10), 2) := by decide +kernel
theorem dX7_drop_13 : decode cX7_drop 13 = .ok (.invokevirtual 96, 3) := by decide +kernel
theorem dX7_drop_16 : decode cX7_drop 16 = .ok (.ireturn, 1) := by decide +kernel
theorem dX7_drop_17 : decode cX7_drop 17 = .ok (.aload_n 0, 1) := by decide +kernel
theorem dX7_drop_18 : decode cX7_drop 18 = .ok (.getfield 10, 3) := by decide +kernel
theorem dX7_drop_21 : decode cX7_drop 21 = .ok (.dup, 1) := by decide +kernel
theorem dX7_drop_22 : decode cX7_drop 22 = .ok (.getfield 132, 3) := by decide +kernel
theorem dX7_drop_25 : decode cX7_drop 25 = .ok (.iconst 1, 1) := by decide +kernel
theorem dX7_drop_26 : decode cX7_drop 26 = .ok (.isub, 1) := by decide +kernel
theorem dX7_drop_27 : decode cX7_drop 27 = .ok (.putfield 132, 3) := by decide +kernel
theorem dX7_drop_30 : decode cX7_drop 30 = .ok (.aload_n 0, 1) := by decide +kernel
theorem dX7_drop_31 : decode cX7_drop 31 = .ok (.getfield 10, 3) := by decide +kernel
theorem dX7_drop_34 : decode cX7_drop 34 = .ok (.getfield 157, 3) := by decide +kernel
theorem dX7_drop_37 : decode cX7_drop 37 = .ok (.aload_n 0, 1) := by decide +kernel
theorem dX7_drop_38 : decode cX7_drop 38 = .ok (.getfield 10, 3) := by decide +kernel
theorem dX7_drop_41 : decode cX7_drop 41 = .ok (.getfield 132, 3) := by decide +kernel
theorem dX7_drop_44 : decode cX7_drop 44 = .ok (.invokevirtual 190, 3) := by decide +kernel
theorem dX7_drop_47 : decode cX7_drop 47 = .ok (.aload_n 0, 1) := by decide +kernel
theorem dX7_drop_48 : decode cX7_drop 48 = .ok (.iconst 0, 1) := by decide +kernel
theorem dX7_drop_49 : decode cX7_drop 49 = .ok (.putfield 63, 3) := by decide +kernel
theorem dX7_drop_52 : decode cX7_drop 52 = .ok (.aload_n 0, 1) := by decide +kernel
theorem dX7_drop_53 : decode cX7_drop 53 = .ok (.getfield 10, 3) := by decide +kernel
theorem dX7_drop_56 : decode cX7_drop 56 = .ok (.getfield 132, 3) := by decide +kernel
theorem dX7_drop_59 : decode cX7_drop 59 = .ok (.ireturn, 1) := by decide +kernel
theorem dX7_feed_0 : decode cX7_feed 0 = .ok (.iload_n 3, 1) := by decide +kernel
theorem dX7_feed_1 : decode cX7_feed 1 = .ok (.iconst 1, 1) := by decide +kernel
theorem dX7_feed_2 : decode cX7_feed 2 = .ok (.if_icmp .lt 24, 3) := by decide +kernel
theorem dX7_feed_5 : decode cX7_feed 5 = .ok (.iload_n 3, 1) := by decide +kernel
theorem dX7_feed_6 : decode cX7_feed 6 = .ok (.bipush 8, 2) := by decide +kernel
theorem dX7_feed_8 : decode cX7_feed 8 = .ok (.if_icmp .gt 18, 3) := by decide +kernel
theorem dX7_feed_11 : decode cX7_feed 11 = .ok (.iload_n 3, 1) := by decide +kernel
theorem dX7_feed_12 : decode cX7_feed 12 = .ok (.sipush 200, 3) := by decide +kernel
theorem dX7_feed_15 : decode cX7_feed 15 = .ok (.aload_n 0, 1) := by decide +kernel
theorem dX7_feed_16 : decode cX7_feed 16 = .ok (.getfield 32, 3) := by decide +kernel
theorem dX7_feed_19 : decode cX7_feed 19 = .ok (.getfield 194, 3) := by decide +kernel
theorem dX7_feed_22 : decode cX7_feed 22 = .ok (.isub, 1) := by decide +kernel
theorem dX7_feed_23 : decode cX7_feed 23 = .ok (.if_icmp .le 6, 3) := by decide +kernel
theorem dX7_feed_26 : decode cX7_feed 26 = .ok (.bipush (-2), 2) := by decide +kernel
theorem dX7_feed_28 : decode cX7_feed 28 = .ok (.ireturn, 1) := by decide +kernel
theorem dX7_feed_29 : decode cX7_feed 29 = .ok (.aload_n 0, 1) := by decide +kernel
theorem dX7_feed_30 : decode cX7_feed 30 = .ok (.getfield 32, 3) := by decide +kernel
theorem dX7_feed_33 : decode cX7_feed 33 = .ok (.lload_n 1, 1) := by decide +kernel
theorem dX7_feed_34 : decode cX7_feed 34 = .ok (.iload_n 3, 1) := by decide +kernel
theorem dX7_feed_35 : decode cX7_feed 35 = .ok (.invokevirtual 197, 3) := by decide +kernel
theorem dX7_feed_38 : decode cX7_feed 38 = .ok (.aload_n 0, 1) := by decide +kernel
theorem dX7_feed_39 : decode cX7_feed 39 = .ok (.getfield 32, 3) := by decide +kernel
theorem dX7_feed_42 : decode cX7_feed 42 = .ok (.getfield 194, 3) := by decide +kernel
theorem dX7_feed_45 : decode cX7_feed 45 = .ok (.ireturn, 1) := by decide +kernel
theorem dX7_text_0 : decode cX7_text 0 = .ok (.aload_n 0, 1) := by decide +kernel
theorem dX7_text_1 : decode cX7_text 1 = .ok (.getfield 32, 3) := by decide +kernel
theorem dX7_text_4 : decode cX7_text 4 = .ok (.aload_n 0, 1) := by decide +kernel
theorem dX7_text_5 : decode cX7_text 5 = .ok (.getfield 10, 3) := by decide +kernel
theorem dX7_text_8 : decode cX7_text 8 = .ok (.getfield 132, 3) := by decide +kernel
theorem dX7_text_11 : decode cX7_text 11 = .ok (.invokevirtual 201, 3) := by decide +kernel
theorem dX7_text_14 : decode cX7_text 14 = .ok (.istore_n 1, 1) := by decide +kernel
theorem dX7_text_15 : decode cX7_text 15 = .ok (.aload_n 0, 1) := by decide +kernel
theorem dX7_text_16 : decode cX7_text 16 = .ok (.getfield 32, 3) := by decide +kernel
theorem dX7_text_19 : decode cX7_text 19 = .ok (.iconst 0, 1) := by decide +kernel
theorem dX7_text_20 : decode cX7_text 20 = .ok (.putfield 194, 3) := by decide +kernel
theorem dX7_text_23 : decode cX7_text 23 = .ok (.iload_n 1, 1) := by decide +kernel
theorem dX7_text_24 : decode cX7_text 24 = .ok (.ifCond .ne 14, 3) := by decide +kernel
theorem dX7_text_27 : decode cX7_text 27 = .ok (.bipush (-3), 2) := by decide +kernel
theorem dX7_text_29 : decode cX7_text 29 = .ok (.aload_n 0, 1) := by decide +kernel
theorem dX7_text_30 : decode cX7_text 30 = .ok (.getfield 32, 3) := by decide +kernel
theorem dX7_text_33 : decode cX7_text 33 = .ok (.getfield 204, 3) := by decide +kernel
theorem dX7_text_36 : decode cX7_text 36 = .ok (.isub, 1) := by decide +kernel
theorem dX7_text_37 : decode cX7_text 37 = .ok (.ireturn, 1) := by decide +kernel
theorem dX7_text_38 : decode cX7_text 38 = .ok (.aload_n 0, 1) := by decide +kernel
theorem dX7_text_39 : decode cX7_text 39 = .ok (.getfield 10, 3) := by decide +kernel
theorem dX7_text_42 : decode cX7_text 42 = .ok (.getfield 157, 3) := by decide +kernel
theorem dX7_text_45 : decode cX7_text 45 = .ok (.aload_n 0, 1) := by decide +kernel
theorem dX7_text_46 : decode cX7_text 46 = .ok (.getfield 32, 3) := by decide +kernel
theorem dX7_text_49 : decode cX7_text 49 = .ok (.getfield 207, 3) := by decide +kernel
theorem dX7_text_52 : decode cX7_text 52 = .ok (.invokevirtual 210, 3) := by decide +kernel
theorem dX7_text_55 : decode cX7_text 55 = .ok (.aload_n 0, 1) := by decide +kernel
theorem dX7_text_56 : decode cX7_text 56 = .ok (.getfield 10, 3) := by decide +kernel
theorem dX7_text_59 : decode cX7_text 59 = .ok (.getfield 157, 3) := by decide +kernel
theorem dX7_text_62 : decode cX7_text 62 = .ok (.invokevirtual 214, 3) := by decide +kernel
theorem dX7_text_65 : decode cX7_text 65 = .ok (.ireturn, 1) := by decide +kernel
theorem dX7_total_0 : decode cX7_total 0 = .ok (.aload_n 0, 1) := by decide +kernel
theorem dX7_total_1 : decode cX7_total 1 = .ok (.aload_n 0, 1) := by decide +kernel
theorem dX7_total_2 : decode cX7_total 2 = .ok (.getfield 10, 3) := by decide +kernel
theorem dX7_total_5 : decode cX7_total 5 = .ok (.invokevirtual 218, 3) := by decide +kernel
theorem dX7_total_8 : decode cX7_total 8 = .ok (.lreturn, 1) := by decide +kernel
theorem dX7_share_0 : decode cX7_share 0 = .ok (.aload_n 0, 1) := by decide +kernel
theorem dX7_share_1 : decode cX7_share 1 = .ok (.iload_n 1, 1) := by decide +kernel
theorem dX7_share_2 : decode cX7_share 2 = .ok (.invokevirtual 142, 3) := by decide +kernel
theorem dX7_share_5 : decode cX7_share 5 = .ok (.ifCond .eq 11, 3) := by decide +kernel
theorem dX7_share_8 : decode cX7_share 8 = .ok (.aload_n 0, 1) := by decide +kernel
theorem dX7_share_9 : decode cX7_share 9 = .ok (.iload_n 2, 1) := by decide +kernel
theorem dX7_share_10 : decode cX7_share 10 = .ok (.invokevirtual 180, 3) := by decide +kernel
theorem dX7_share_13 : decode cX7_share 13 = .ok (.ifCond .ne 7, 3) := by decide +kernel
theorem dX7_share_16 : decode cX7_share 16 = .ok (.ldc2_w 222, 3) := by decide +kernel
theorem dX7_share_19 : decode cX7_share 19 = .ok (.lreturn, 1) := by decide +kernel
theorem dX7_share_20 : decode cX7_share 20 = .ok (.aload_n 0, 1) := by decide +kernel
theorem dX7_share_21 : decode cX7_share 21 = .ok (.invokevirtual 224, 3) := by decide +kernel
theorem dX7_share_24 : decode cX7_share 24 = .ok (.lstore_n 3, 1) := by decide +kernel
theorem dX7_share_25 : decode cX7_share 25 = .ok (.lload_n 3, 1) := by decide +kernel
theorem dX7_share_26 : decode cX7_share 26 = .ok (.lconst 0, 1) := by decide +kernel
theorem dX7_share_27 : decode cX7_share 27 = .ok (.lcmp, 1) := by decide +kernel
theorem dX7_share_28 : decode cX7_share 28 = .ok (.ifCond .ge 7, 3) := by decide +kernel
theorem dX7_share_31 : decode cX7_share 31 = .ok (.lload_n 3, 1) := by decide +kernel
theorem dX7_share_32 : decode cX7_share 32 = .ok (.goto 11, 3) := by decide +kernel
theorem dX7_share_35 : decode cX7_share 35 = .ok (.aload_n 0, 1) := by decide +kernel
theorem dX7_share_36 : decode cX7_share 36 = .ok (.iload_n 1, 1) := by decide +kernel
theorem dX7_share_37 : decode cX7_share 37 = .ok (.iload_n 2, 1) := by decide +kernel
theorem dX7_share_38 : decode cX7_share 38 = .ok (.iload_n 2, 1) := by decide +kernel
theorem dX7_share_39 : decode cX7_share 39 = .ok (.lload_n 3, 1) := by decide +kernel
theorem dX7_share_40 : decode cX7_share 40 = .ok (.invokevirtual 228, 3) := by decide +kernel
theorem dX7_share_43 : decode cX7_share 43 = .ok (.lreturn, 1) := by decide +kernel
theorem dX7_below_0 : decode cX7_below 0 = .ok (.aload_n 0, 1) := by decide +kernel
theorem dX7_below_1 : decode cX7_below 1 = .ok (.getfield 66, 3) := by decide +kernel
theorem dX7_below_4 : decode cX7_below 4 = .ok (.lreturn, 1) := by decide +kernel
theorem dX7_until_0 : decode cX7_until 0 = .ok (.aload_n 0, 1) := by decide +kernel
theorem dX7_until_1 : decode cX7_until 1 = .ok (.iload_n 1, 1) := by decide +kernel
theorem dX7_until_2 : decode cX7_until 2 = .ok (.invokevirtual 142, 3) := by decide +kernel
theorem dX7_until_5 : decode cX7_until 5 = .ok (.ifCond .eq 11, 3) := by decide +kernel
theorem dX7_until_8 : decode cX7_until 8 = .ok (.aload_n 0, 1) := by decide +kernel
theorem dX7_until_9 : decode cX7_until 9 = .ok (.iload_n 2, 1) := by decide +kernel
theorem dX7_until_10 : decode cX7_until 10 = .ok (.invokevirtual 180, 3) := by decide +kernel
theorem dX7_until_13 : decode cX7_until 13 = .ok (.ifCond .ne 7, 3) := by decide +kernel
theorem dX7_until_16 : decode cX7_until 16 = .ok (.ldc2_w 222, 3) := by decide +kernel
theorem dX7_until_19 : decode cX7_until 19 = .ok (.lreturn, 1) := by decide +kernel
theorem dX7_until_20 : decode cX7_until 20 = .ok (.aload_n 0, 1) := by decide +kernel
theorem dX7_until_21 : decode cX7_until 21 = .ok (.invokevirtual 224, 3) := by decide +kernel
theorem dX7_until_24 : decode cX7_until 24 = .ok (.lstore_n 3, 1) := by decide +kernel
theorem dX7_until_25 : decode cX7_until 25 = .ok (.lload_n 3, 1) := by decide +kernel
theorem dX7_until_26 : decode cX7_until 26 = .ok (.lconst 0, 1) := by decide +kernel
theorem dX7_until_27 : decode cX7_until 27 = .ok (.lcmp, 1) := by decide +kernel
theorem dX7_until_28 : decode cX7_until 28 = .ok (.ifCond .ge 7, 3) := by decide +kernel
theorem dX7_until_31 : decode cX7_until 31 = .ok (.lload_n 3, 1) := by decide +kernel
theorem dX7_until_32 : decode cX7_until 32 = .ok (.goto 11, 3) := by decide +kernel
theorem dX7_until_35 : decode cX7_until 35 = .ok (.aload_n 0, 1) := by decide +kernel
theorem dX7_until_36 : decode cX7_until 36 = .ok (.iload_n 1, 1) := by decide +kernel
theorem dX7_until_37 : decode cX7_until 37 = .ok (.iconst 0, 1) := by decide +kernel
theorem dX7_until_38 : decode cX7_until 38 = .ok (.iload_n 2, 1) := by decide +kernel
theorem dX7_until_39 : decode cX7_until 39 = .ok (.lload_n 3, 1) := by decide +kernel
theorem dX7_until_40 : decode cX7_until 40 = .ok (.invokevirtual 228, 3) := by decide +kernel
theorem dX7_until_43 : decode cX7_until 43 = .ok (.lreturn, 1) := by decide +kernel
theorem dX7_order_0 : decode cX7_order 0 = .ok (.aload_n 0, 1) := by decide +kernel
theorem dX7_order_1 : decode cX7_order 1 = .ok (.iload_n 1, 1) := by decide +kernel
theorem dX7_order_2 : decode cX7_order 2 = .ok (.invokevirtual 142, 3) := by decide +kernel
theorem dX7_order_5 : decode cX7_order 5 = .ok (.ifCond .eq 11, 3) := by decide +kernel
theorem dX7_order_8 : decode cX7_order 8 = .ok (.aload_n 0, 1) := by decide +kernel
theorem dX7_order_9 : decode cX7_order 9 = .ok (.iload_n 2, 1) := by decide +kernel
theorem dX7_order_10 : decode cX7_order 10 = .ok (.invokevirtual 142, 3) := by decide +kernel
theorem dX7_order_13 : decode cX7_order 13 = .ok (.ifCond .ne 7, 3) := by decide +kernel
theorem dX7_order_16 : decode cX7_order 16 = .ok (.ldc2_w 222, 3) := by decide +kernel
theorem dX7_order_19 : decode cX7_order 19 = .ok (.lreturn, 1) := by decide +kernel
theorem dX7_order_20 : decode cX7_order 20 = .ok (.aload_n 0, 1) := by decide +kernel
theorem dX7_order_21 : decode cX7_order 21 = .ok (.invokevirtual 224, 3) := by decide +kernel
theorem dX7_order_24 : decode cX7_order 24 = .ok (.lstore_n 3, 1) := by decide +kernel
theorem dX7_order_25 : decode cX7_order 25 = .ok (.lload_n 3, 1) := by decide +kernel
theorem dX7_order_26 : decode cX7_order 26 = .ok (.lconst 0, 1) := by decide +kernel
theorem dX7_order_27 : decode cX7_order 27 = .ok (.lcmp, 1) := by decide +kernel
theorem dX7_order_28 : decode cX7_order 28 = .ok (.ifCond .ge 5, 3) := by decide +kernel
theorem dX7_order_31 : decode cX7_order 31 = .ok (.lload_n 3, 1) := by decide +kernel
theorem dX7_order_32 : decode cX7_order 32 = .ok (.lreturn, 1) := by decide +kernel
theorem dX7_order_33 : decode cX7_order 33 = .ok (.iload_n 1, 1) := by decide +kernel
theorem dX7_order_34 : decode cX7_order 34 = .ok (.iload_n 2, 1) := by decide +kernel
theorem dX7_order_35 : decode cX7_order 35 = .ok (.if_icmp .ne 10, 3) := by decide +kernel
theorem dX7_order_38 : decode cX7_order 38 = .ok (.aload_n 0, 1) := by decide +kernel
theorem dX7_order_39 : decode cX7_order 39 = .ok (.lconst 0, 1) := by decide +kernel
theorem dX7_order_40 : decode cX7_order 40 = .ok (.lload_n 3, 1) := by decide +kernel
theorem dX7_order_41 : decode cX7_order 41 = .ok (.invokevirtual 232, 3) := by decide +kernel
theorem dX7_order_44 : decode cX7_order 44 = .ok (.lreturn, 1) := by decide +kernel
theorem dX7_order_45 : decode cX7_order 45 = .ok (.aload_n 0, 1) := by decide +kernel
theorem dX7_order_46 : decode cX7_order 46 = .ok (.getfield 39, 3) := by decide +kernel
theorem dX7_order_49 : decode cX7_order 49 = .ok (.getfield 236, 3) := by decide +kernel
theorem dX7_order_52 : decode cX7_order 52 = .ok (.iload_n 1, 1) := by decide +kernel
theorem dX7_order_53 : decode cX7_order 53 = .ok (.iload_n 2, 1) := by decide +kernel
theorem dX7_order_54 : decode cX7_order 54 = .ok (.iconst 1, 1) := by decide +kernel
theorem dX7_order_55 : decode cX7_order 55 = .ok (.invokevirtual 166, 3) := by decide +kernel
theorem dX7_order_58 : decode cX7_order 58 = .ok (.aload_n 0, 1) := by decide +kernel
theorem dX7_order_59 : decode cX7_order 59 = .ok (.aload_n 0, 1) := by decide +kernel
theorem dX7_order_60 : decode cX7_order 60 = .ok (.getfield 48, 3) := by decide +kernel
theorem dX7_order_63 : decode cX7_order 63 = .ok (.invokevirtual 237, 3) := by decide +kernel
theorem dX7_order_66 : decode cX7_order 66 = .ok (.lload_n 3, 1) := by decide +kernel
theorem dX7_order_67 : decode cX7_order 67 = .ok (.invokevirtual 232, 3) := by decide +kernel
theorem dX7_order_70 : decode cX7_order 70 = .ok (.lreturn, 1) := by decide +kernel
theorem dX7_apart_0 : decode cX7_apart 0 = .ok (.aload_n 0, 1) := by decide +kernel
theorem dX7_apart_1 : decode cX7_apart 1 = .ok (.iload_n 1, 1) := by decide +kernel
theorem dX7_apart_2 : decode cX7_apart 2 = .ok (.invokevirtual 142, 3) := by decide +kernel
theorem dX7_apart_5 : decode cX7_apart 5 = .ok (.ifCond .eq 23, 3) := by decide +kernel
theorem dX7_apart_8 : decode cX7_apart 8 = .ok (.aload_n 0, 1) := by decide +kernel
theorem dX7_apart_9 : decode cX7_apart 9 = .ok (.iload_n 2, 1) := by decide +kernel
theorem dX7_apart_10 : decode cX7_apart 10 = .ok (.invokevirtual 142, 3) := by decide +kernel
theorem dX7_apart_13 : decode cX7_apart 13 = .ok (.ifCond .eq 15, 3) := by decide +kernel
theorem dX7_apart_16 : decode cX7_apart 16 = .ok (.iload_n 3, 1) := by decide +kernel
theorem dX7_apart_17 : decode cX7_apart 17 = .ok (.bipush (-40), 2) := by decide +kernel
theorem dX7_apart_19 : decode cX7_apart 19 = .ok (.if_icmp .le 9, 3) := by decide +kernel
theorem dX7_apart_22 : decode cX7_apart 22 = .ok (.iload_n 3, 1) := by decide +kernel
theorem dX7_apart_23 : decode cX7_apart 23 = .ok (.bipush 40, 2) := by decide +kernel
theorem dX7_apart_25 : decode cX7_apart 25 = .ok (.if_icmp .lt 7, 3) := by decide +kernel
theorem dX7_apart_28 : decode cX7_apart 28 = .ok (.ldc2_w 222, 3) := by decide +kernel
theorem dX7_apart_31 : decode cX7_apart 31 = .ok (.lreturn, 1) := by decide +kernel
theorem dX7_apart_32 : decode cX7_apart 32 = .ok (.aload_n 0, 1) := by decide +kernel
theorem dX7_apart_33 : decode cX7_apart 33 = .ok (.invokevirtual 224, 3) := by decide +kernel
theorem dX7_apart_36 : decode cX7_apart 36 = .ok (.lstore 4, 2) := by decide +kernel
theorem dX7_apart_38 : decode cX7_apart 38 = .ok (.lload 4, 2) := by decide +kernel
theorem dX7_apart_40 : decode cX7_apart 40 = .ok (.lconst 0, 1) := by decide +kernel
theorem dX7_apart_41 : decode cX7_apart 41 = .ok (.lcmp, 1) := by decide +kernel
theorem dX7_apart_42 : decode cX7_apart 42 = .ok (.ifCond .ge 6, 3) := by decide +kernel
theorem dX7_apart_45 : decode cX7_apart 45 = .ok (.lload 4, 2) := by decide +kernel
theorem dX7_apart_47 : decode cX7_apart 47 = .ok (.lreturn, 1) := by decide +kernel
theorem dX7_apart_48 : decode cX7_apart 48 = .ok (.iload_n 1, 1) := by decide +kernel
theorem dX7_apart_49 : decode cX7_apart 49 = .ok (.iload_n 2, 1) := by decide +kernel
theorem dX7_apart_50 : decode cX7_apart 50 = .ok (.if_icmp .ne 20, 3) := by decide +kernel
theorem dX7_apart_53 : decode cX7_apart 53 = .ok (.aload_n 0, 1) := by decide +kernel
theorem dX7_apart_54 : decode cX7_apart 54 = .ok (.iload_n 3, 1) := by decide +kernel
theorem dX7_apart_55 : decode cX7_apart 55 = .ok (.ifCond .ne 8, 3) := by decide +kernel
theorem dX7_apart_58 : decode cX7_apart 58 = .ok (.lload 4, 2) := by decide +kernel
theorem dX7_apart_60 : decode cX7_apart 60 = .ok (.goto 4, 3) := by decide +kernel
theorem dX7_apart_63 : decode cX7_apart 63 = .ok (.lconst 0, 1) := by decide +kernel
theorem dX7_apart_64 : decode cX7_apart 64 = .ok (.lload 4, 2) := by decide +kernel
theorem dX7_apart_66 : decode cX7_apart 66 = .ok (.invokevirtual 232, 3) := by decide +kernel
theorem dX7_apart_69 : decode cX7_apart 69 = .ok (.lreturn, 1) := by decide +kernel
theorem dX7_apart_70 : decode cX7_apart 70 = .ok (.lconst 0, 1) := by decide +kernel
theorem dX7_apart_71 : decode cX7_apart 71 = .ok (.lstore 6, 2) := by decide +kernel
theorem dX7_apart_73 : decode cX7_apart 73 = .ok (.iconst 0, 1) := by decide +kernel
theorem dX7_apart_74 : decode cX7_apart 74 = .ok (.iload_n 3, 1) := by decide +kernel
theorem dX7_apart_75 : decode cX7_apart 75 = .ok (.ineg, 1) := by decide +kernel
theorem dX7_apart_76 : decode cX7_apart 76 = .ok (.invokestatic 126, 3) := by decide +kernel
theorem dX7_apart_79 : decode cX7_apart 79 = .ok (.istore 8, 2) := by decide +kernel
theorem dX7_apart_81 : decode cX7_apart 81 = .ok (.iload 8, 2) := by decide +kernel
theorem dX7_apart_83 : decode cX7_apart 83 = .ok (.aload_n 0, 1) := by decide +kernel
theorem dX7_apart_84 : decode cX7_apart 84 = .ok (.getfield 10, 3) := by decide +kernel
theorem dX7_apart_87 : decode cX7_apart 87 = .ok (.getfield 74, 3) := by decide +kernel
theorem dX7_apart_90 : decode cX7_apart 90 = .ok (.if_icmp .ge 63, 3) := by decide +kernel
theorem dX7_apart_93 : decode cX7_apart 93 = .ok (.iload 8, 2) := by decide +kernel
theorem dX7_apart_95 : decode cX7_apart 95 = .ok (.iload_n 3, 1) := by decide +kernel
theorem dX7_apart_96 : decode cX7_apart 96 = .ok (.iadd, 1) := by decide +kernel
theorem dX7_apart_97 : decode cX7_apart 97 = .ok (.aload_n 0, 1) := by decide +kernel
theorem dX7_apart_98 : decode cX7_apart 98 = .ok (.getfield 10, 3) := by decide +kernel
theorem dX7_apart_101 : decode cX7_apart 101 = .ok (.getfield 74, 3) := by decide +kernel
theorem dX7_apart_104 : decode cX7_apart 104 = .ok (.if_icmp .ge 49, 3) := by decide +kernel
theorem dX7_apart_107 : decode cX7_apart 107 = .ok (.aload_n 0, 1) := by decide +kernel
theorem dX7_apart_108 : decode cX7_apart 108 = .ok (.getfield 39, 3) := by decide +kernel
theorem dX7_apart_111 : decode cX7_apart 111 = .ok (.iload_n 1, 1) := by decide +kernel
theorem dX7_apart_112 : decode cX7_apart 112 = .ok (.iload 8, 2) := by decide +kernel
theorem dX7_apart_114 : decode cX7_apart 114 = .ok (.iload 8, 2) := by decide +kernel
theorem dX7_apart_116 : decode cX7_apart 116 = .ok (.invokevirtual 240, 3) := by decide +kernel
theorem dX7_apart_119 : decode cX7_apart 119 = .ok (.aload_n 0, 1) := by decide +kernel
theorem dX7_apart_120 : decode cX7_apart 120 = .ok (.getfield 39, 3) := by decide +kernel
theorem dX7_apart_123 : decode cX7_apart 123 = .ok (.iload_n 2, 1) := by decide +kernel
theorem dX7_apart_124 : decode cX7_apart 124 = .ok (.iload 8, 2) := by decide +kernel
theorem dX7_apart_126 : decode cX7_apart 126 = .ok (.iload_n 3, 1) := by decide +kernel
theorem dX7_apart_127 : decode cX7_apart 127 = .ok (.iadd, 1) := by decide +kernel
theorem dX7_apart_128 : decode cX7_apart 128 = .ok (.iload 8, 2) := by decide +kernel
theorem dX7_apart_130 : decode cX7_apart 130 = .ok (.iload_n 3, 1) := by decide +kernel
theorem dX7_apart_131 : decode cX7_apart 131 = .ok (.iadd, 1) := by decide +kernel
theorem dX7_apart_132 : decode cX7_apart 132 = .ok (.invokevirtual 240, 3) := by decide +kernel
theorem dX7_apart_135 : decode cX7_apart 135 = .ok (.lload 6, 2) := by decide +kernel
theorem dX7_apart_137 : decode cX7_apart 137 = .ok (.aload_n 0, 1) := by decide +kernel
theorem dX7_apart_138 : decode cX7_apart 138 = .ok (.getfield 48, 3) := by decide +kernel
theorem dX7_apart_141 : decode cX7_apart 141 = .ok (.invokevirtual 237, 3) := by decide +kernel
theorem dX7_apart_144 : decode cX7_apart 144 = .ok (.ladd, 1) := by decide +kernel
theorem dX7_apart_145 : decode cX7_apart 145 = .ok (.lstore 6, 2) := by decide +kernel
theorem dX7_apart_147 : decode cX7_apart 147 = .ok (.iinc 8 1, 3) := by decide +kernel
theorem dX7_apart_150 : decode cX7_apart 150 = .ok (.goto (-69), 3) := by decide +kernel
theorem dX7_apart_153 : decode cX7_apart 153 = .ok (.aload_n 0, 1) := by decide +kernel
theorem dX7_apart_154 : decode cX7_apart 154 = .ok (.lload 6, 2) := by decide +kernel
theorem dX7_apart_156 : decode cX7_apart 156 = .ok (.lload 4, 2) := by decide +kernel
theorem dX7_apart_158 : decode cX7_apart 158 = .ok (.invokevirtual 232, 3) := by decide +kernel
theorem dX7_apart_161 : decode cX7_apart 161 = .ok (.lreturn, 1) := by decide +kernel
theorem dX7_mean_0 : decode cX7_mean 0 = .ok (.aload_n 0, 1) := by decide +kernel
theorem dX7_mean_1 : decode cX7_mean 1 = .ok (.iload_n 1, 1) := by decide +kernel
theorem dX7_mean_2 : decode cX7_mean 2 = .ok (.invokevirtual 142, 3) := by decide +kernel
theorem dX7_mean_5 : decode cX7_mean 5 = .ok (.ifCond .ne 7, 3) := by decide +kernel
theorem dX7_mean_8 : decode cX7_mean 8 = .ok (.ldc2_w 222, 3) := by decide +kernel
theorem dX7_mean_11 : decode cX7_mean 11 = .ok (.lreturn, 1) := by decide +kernel
theorem dX7_mean_12 : decode cX7_mean 12 = .ok (.aload_n 0, 1) := by decide +kernel
theorem dX7_mean_13 : decode cX7_mean 13 = .ok (.invokevirtual 224, 3) := by decide +kernel
theorem dX7_mean_16 : decode cX7_mean 16 = .ok (.lstore_n 2, 1) := by decide +kernel
theorem dX7_mean_17 : decode cX7_mean 17 = .ok (.lload_n 2, 1) := by decide +kernel
theorem dX7_mean_18 : decode cX7_mean 18 = .ok (.lconst 0, 1) := by decide +kernel
theorem dX7_mean_19 : decode cX7_mean 19 = .ok (.lcmp, 1) := by decide +kernel
theorem dX7_mean_20 : decode cX7_mean 20 = .ok (.ifCond .ge 5, 3) := by decide +kernel
theorem dX7_mean_23 : decode cX7_mean 23 = .ok (.lload_n 2, 1) := by decide +kernel
theorem dX7_mean_24 : decode cX7_mean 24 = .ok (.lreturn, 1) := by decide +kernel
theorem dX7_mean_25 : decode cX7_mean 25 = .ok (.aload_n 0, 1) := by decide +kernel
theorem dX7_mean_26 : decode cX7_mean 26 = .ok (.getfield 39, 3) := by decide +kernel
theorem dX7_mean_29 : decode cX7_mean 29 = .ok (.iload_n 1, 1) := by decide +kernel
theorem dX7_mean_30 : decode cX7_mean 30 = .ok (.invokevirtual 243, 3) := by decide +kernel
theorem dX7_mean_33 : decode cX7_mean 33 = .ok (.aload_n 0, 1) := by decide +kernel
theorem dX7_mean_34 : decode cX7_mean 34 = .ok (.aload_n 0, 1) := by decide +kernel
theorem dX7_mean_35 : decode cX7_mean 35 = .ok (.getfield 48, 3) := by decide +kernel
theorem dX7_mean_38 : decode cX7_mean 38 = .ok (.invokevirtual 237, 3) := by decide +kernel
theorem dX7_mean_41 : decode cX7_mean 41 = .ok (.lload_n 2, 1) := by decide +kernel
theorem dX7_mean_42 : decode cX7_mean 42 = .ok (.invokevirtual 232, 3) := by decide +kernel
theorem dX7_mean_45 : decode cX7_mean 45 = .ok (.lreturn, 1) := by decide +kernel
theorem dX7_best_0 : decode cX7_best 0 = .ok (.aload_n 0, 1) := by decide +kernel
theorem dX7_best_1 : decode cX7_best 1 = .ok (.iload_n 1, 1) := by decide +kernel
theorem dX7_best_2 : decode cX7_best 2 = .ok (.invokevirtual 142, 3) := by decide +kernel
theorem dX7_best_5 : decode cX7_best 5 = .ok (.ifCond .ne 6, 3) := by decide +kernel
theorem dX7_best_8 : decode cX7_best 8 = .ok (.bipush (-2), 2) := by decide +kernel
theorem dX7_best_10 : decode cX7_best 10 = .ok (.ireturn, 1) := by decide +kernel
theorem dX7_best_11 : decode cX7_best 11 = .ok (.aload_n 0, 1) := by decide +kernel
theorem dX7_best_12 : decode cX7_best 12 = .ok (.invokevirtual 224, 3) := by decide +kernel
theorem dX7_best_15 : decode cX7_best 15 = .ok (.lstore_n 2, 1) := by decide +kernel
theorem dX7_best_16 : decode cX7_best 16 = .ok (.lload_n 2, 1) := by decide +kernel
theorem dX7_best_17 : decode cX7_best 17 = .ok (.lconst 0, 1) := by decide +kernel
theorem dX7_best_18 : decode cX7_best 18 = .ok (.lcmp, 1) := by decide +kernel
theorem dX7_best_19 : decode cX7_best 19 = .ok (.ifCond .ge 6, 3) := by decide +kernel
theorem dX7_best_22 : decode cX7_best 22 = .ok (.lload_n 2, 1) := by decide +kernel
theorem dX7_best_23 : decode cX7_best 23 = .ok (.l2i, 1) := by decide +kernel
theorem dX7_best_24 : decode cX7_best 24 = .ok (.ireturn, 1) := by decide +kernel
theorem dX7_best_25 : decode cX7_best 25 = .ok (.aload_n 0, 1) := by decide +kernel
theorem dX7_best_26 : decode cX7_best 26 = .ok (.getfield 48, 3) := by decide +kernel
theorem dX7_best_29 : decode cX7_best 29 = .ok (.iload_n 1, 1) := by decide +kernel
theorem dX7_best_30 : decode cX7_best 30 = .ok (.invokevirtual 246, 3) := by decide +kernel
theorem dX7_best_33 : decode cX7_best 33 = .ok (.iconst 0, 1) := by decide +kernel
theorem dX7_best_34 : decode cX7_best 34 = .ok (.istore 4, 2) := by decide +kernel
theorem dX7_best_36 : decode cX7_best 36 = .ok (.iconst 1, 1) := by decide +kernel
theorem dX7_best_37 : decode cX7_best 37 = .ok (.istore 5, 2) := by decide +kernel
theorem dX7_best_39 : decode cX7_best 39 = .ok (.iload 5, 2) := by decide +kernel
theorem dX7_best_41 : decode cX7_best 41 = .ok (.aload_n 0, 1) := by decide +kernel
theorem dX7_best_42 : decode cX7_best 42 = .ok (.getfield 10, 3) := by decide +kernel
theorem dX7_best_45 : decode cX7_best 45 = .ok (.getfield 74, 3) := by decide +kernel
theorem dX7_best_48 : decode cX7_best 48 = .ok (.if_icmp .ge 37, 3) := by decide +kernel
theorem dX7_best_51 : decode cX7_best 51 = .ok (.aload_n 0, 1) := by decide +kernel
theorem dX7_best_52 : decode cX7_best 52 = .ok (.getfield 48, 3) := by decide +kernel
theorem dX7_best_55 : decode cX7_best 55 = .ok (.getfield 249, 3) := by decide +kernel
theorem dX7_best_58 : decode cX7_best 58 = .ok (.iload 5, 2) := by decide +kernel
theorem dX7_best_60 : decode cX7_best 60 = .ok (.laload, 1) := by decide +kernel
theorem dX7_best_61 : decode cX7_best 61 = .ok (.aload_n 0, 1) := by decide +kernel
theorem dX7_best_62 : decode cX7_best 62 = .ok (.getfield 48, 3) := by decide +kernel
theorem dX7_best_65 : decode cX7_best 65 = .ok (.getfield 249, 3) := by decide +kernel
theorem dX7_best_68 : decode cX7_best 68 = .ok (.iload 4, 2) := by decide +kernel
theorem dX7_best_70 : decode cX7_best 70 = .ok (.laload, 1) := by decide +kernel
theorem dX7_best_71 : decode cX7_best 71 = .ok (.lcmp, 1) := by decide +kernel
theorem dX7_best_72 : decode cX7_best 72 = .ok (.ifCond .le 7, 3) := by decide +kernel
theorem dX7_best_75 : decode cX7_best 75 = .ok (.iload 5, 2) := by decide +kernel
theorem dX7_best_77 : decode cX7_best 77 = .ok (.istore 4, 2) := by decide +kernel
theorem dX7_best_79 : decode cX7_best 79 = .ok (.iinc 5 1, 3) := by decide +kernel
theorem dX7_best_82 : decode cX7_best 82 = .ok (.goto (-43), 3) := by decide +kernel
theorem dX7_best_85 : decode cX7_best 85 = .ok (.iload 4, 2) := by decide +kernel
theorem dX7_best_87 : decode cX7_best 87 = .ok (.ireturn, 1) := by decide +kernel
theorem dX7_span_0 : decode cX7_span 0 = .ok (.aload_n 0, 1) := by decide +kernel
theorem dX7_span_1 : decode cX7_span 1 = .ok (.iload_n 1, 1) := by decide +kernel
theorem dX7_span_2 : decode cX7_span 2 = .ok (.invokevirtual 142, 3) := by decide +kernel
theorem dX7_span_5 : decode cX7_span 5 = .ok (.ifCond .eq 15, 3) := by decide +kernel
theorem dX7_span_8 : decode cX7_span 8 = .ok (.iload_n 2, 1) := by decide +kernel
theorem dX7_span_9 : decode cX7_span 9 = .ok (.iconst 1, 1) := by decide +kernel
theorem dX7_span_10 : decode cX7_span 10 = .ok (.if_icmp .lt 10, 3) := by decide +kernel
theorem dX7_span_13 : decode cX7_span 13 = .ok (.iload_n 2, 1) := by decide +kernel
theorem dX7_span_14 : decode cX7_span 14 = .ok (.sipush 1000, 3) := by decide +kernel
theorem dX7_span_17 : decode cX7_span 17 = .ok (.if_icmp .le 6, 3) := by decide +kernel
theorem dX7_span_20 : decode cX7_span 20 = .ok (.bipush (-2), 2) := by decide +kernel
theorem dX7_span_22 : decode cX7_span 22 = .ok (.ireturn, 1) := by decide +kernel
theorem dX7_span_23 : decode cX7_span 23 = .ok (.aload_n 0, 1) := by decide +kernel
theorem dX7_span_24 : decode cX7_span 24 = .ok (.invokevirtual 224, 3) := by decide +kernel
theorem dX7_span_27 : decode cX7_span 27 = .ok (.lstore_n 3, 1) := by decide +kernel
theorem dX7_span_28 : decode cX7_span 28 = .ok (.lload_n 3, 1) := by decide +kernel
theorem dX7_span_29 : decode cX7_span 29 = .ok (.lconst 0, 1) := by decide +kernel
theorem dX7_span_30 : decode cX7_span 30 = .ok (.lcmp, 1) := by decide +kernel
theorem dX7_span_31 : decode cX7_span 31 = .ok (.ifCond .ge 6, 3) := by decide +kernel
theorem dX7_span_34 : decode cX7_span 34 = .ok (.lload_n 3, 1) := by decide +kernel
theorem dX7_span_35 : decode cX7_span 35 = .ok (.l2i, 1) := by decide +kernel
theorem dX7_span_36 : decode cX7_span 36 = .ok (.ireturn, 1) := by decide +kernel
theorem dX7_span_37 : decode cX7_span 37 = .ok (.aload_n 0, 1) := by decide +kernel
theorem dX7_span_38 : decode cX7_span 38 = .ok (.getfield 48, 3) := by decide +kernel
theorem dX7_span_41 : decode cX7_span 41 = .ok (.iload_n 1, 1) := by decide +kernel
theorem dX7_span_42 : decode cX7_span 42 = .ok (.invokevirtual 246, 3) := by decide +kernel
theorem dX7_span_45 : decode cX7_span 45 = .ok (.aload_n 0, 1) := by decide +kernel
theorem dX7_span_46 : decode cX7_span 46 = .ok (.iload_n 2, 1) := by decide +kernel
theorem dX7_span_47 : decode cX7_span 47 = .ok (.i2l, 1) := by decide +kernel
theorem dX7_span_48 : decode cX7_span 48 = .ok (.lload_n 3, 1) := by decide +kernel
theorem dX7_span_49 : decode cX7_span 49 = .ok (.lmul, 1) := by decide +kernel
theorem dX7_span_50 : decode cX7_span 50 = .ok (.invokevirtual 253, 3) := by decide +kernel
theorem dX7_span_53 : decode cX7_span 53 = .ok (.ireturn, 1) := by decide +kernel
theorem dX7_strange_0 : decode cX7_strange 0 = .ok (.aload_n 0, 1) := by decide +kernel
theorem dX7_strange_1 : decode cX7_strange 1 = .ok (.iload_n 1, 1) := by decide +kernel
theorem dX7_strange_2 : decode cX7_strange 2 = .ok (.invokevirtual 142, 3) := by decide +kernel
theorem dX7_strange_5 : decode cX7_strange 5 = .ok (.ifCond .ne 7, 3) := by decide +kernel
theorem dX7_strange_8 : decode cX7_strange 8 = .ok (.ldc2_w 222, 3) := by decide +kernel
theorem dX7_strange_11 : decode cX7_strange 11 = .ok (.lreturn, 1) := by decide +kernel
theorem dX7_strange_12 : decode cX7_strange 12 = .ok (.aload_n 0, 1) := by decide +kernel
theorem dX7_strange_13 : decode cX7_strange 13 = .ok (.invokevirtual 224, 3) := by decide +kernel
theorem dX7_strange_16 : decode cX7_strange 16 = .ok (.lstore_n 2, 1) := by decide +kernel
theorem dX7_strange_17 : decode cX7_strange 17 = .ok (.lload_n 2, 1) := by decide +kernel
theorem dX7_strange_18 : decode cX7_strange 18 = .ok (.lconst 0, 1) := by decide +kernel
theorem dX7_strange_19 : decode cX7_strange 19 = .ok (.lcmp, 1) := by decide +kernel
theorem dX7_strange_20 : decode cX7_strange 20 = .ok (.ifCond .ge 5, 3) := by decide +kernel
theorem dX7_strange_23 : decode cX7_strange 23 = .ok (.lload_n 2, 1) := by decide +kernel
theorem dX7_strange_24 : decode cX7_strange 24 = .ok (.lreturn, 1) := by decide +kernel
theorem dX7_strange_25 : decode cX7_strange 25 = .ok (.aload_n 0, 1) := by decide +kernel
theorem dX7_strange_26 : decode cX7_strange 26 = .ok (.getfield 10, 3) := by decide +kernel
theorem dX7_strange_29 : decode cX7_strange 29 = .ok (.getfield 135, 3) := by decide +kernel
theorem dX7_strange_32 : decode cX7_strange 32 = .ok (.iload_n 1, 1) := by decide +kernel
theorem dX7_strange_33 : decode cX7_strange 33 = .ok (.aaload, 1) := by decide +kernel
theorem dX7_strange_34 : decode cX7_strange 34 = .ok (.astore 4, 2) := by decide +kernel
theorem dX7_strange_36 : decode cX7_strange 36 = .ok (.aload_n 0, 1) := by decide +kernel
theorem dX7_strange_37 : decode cX7_strange 37 = .ok (.getfield 39, 3) := by decide +kernel
theorem dX7_strange_40 : decode cX7_strange 40 = .ok (.iload_n 1, 1) := by decide +kernel
theorem dX7_strange_41 : decode cX7_strange 41 = .ok (.aload 4, 2) := by decide +kernel
theorem dX7_strange_43 : decode cX7_strange 43 = .ok (.getfield 154, 3) := by decide +kernel
theorem dX7_strange_46 : decode cX7_strange 46 = .ok (.aload_n 0, 1) := by decide +kernel
theorem dX7_strange_47 : decode cX7_strange 47 = .ok (.getfield 10, 3) := by decide +kernel
theorem dX7_strange_50 : decode cX7_strange 50 = .ok (.aload 4, 2) := by decide +kernel
theorem dX7_strange_52 : decode cX7_strange 52 = .ok (.invokevirtual 173, 3) := by decide +kernel
theorem dX7_strange_55 : decode cX7_strange 55 = .ok (.imul, 1) := by decide +kernel
theorem dX7_strange_56 : decode cX7_strange 56 = .ok (.i2l, 1) := by decide +kernel
theorem dX7_strange_57 : decode cX7_strange 57 = .ok (.invokevirtual 257, 3) := by decide +kernel
theorem dX7_strange_60 : decode cX7_strange 60 = .ok (.aload_n 0, 1) := by decide +kernel
theorem dX7_strange_61 : decode cX7_strange 61 = .ok (.aload_n 0, 1) := by decide +kernel
theorem dX7_strange_62 : decode cX7_strange 62 = .ok (.getfield 48, 3) := by decide +kernel
theorem dX7_strange_65 : decode cX7_strange 65 = .ok (.invokevirtual 237, 3) := by decide +kernel
theorem dX7_strange_68 : decode cX7_strange 68 = .ok (.lload_n 2, 1) := by decide +kernel
theorem dX7_strange_69 : decode cX7_strange 69 = .ok (.invokevirtual 232, 3) := by decide +kernel
theorem dX7_strange_72 : decode cX7_strange 72 = .ok (.lreturn, 1) := by decide +kernel
theorem dX7_without_0 : decode cX7_without 0 = .ok (.aload_n 0, 1) := by decide +kernel
theorem dX7_without_1 : decode cX7_without 1 = .ok (.iload_n 1, 1) := by decide +kernel
theorem dX7_without_2 : decode cX7_without 2 = .ok (.invokevirtual 142, 3) := by decide +kernel
theorem dX7_without_5 : decode cX7_without 5 = .ok (.ifCond .ne 7, 3) := by decide +kernel
theorem dX7_without_8 : decode cX7_without 8 = .ok (.ldc2_w 222, 3) := by decide +kernel
theorem dX7_without_11 : decode cX7_without 11 = .ok (.lreturn, 1) := by decide +kernel
theorem dX7_without_12 : decode cX7_without 12 = .ok (.aload_n 0, 1) := by decide +kernel
theorem dX7_without_13 : decode cX7_without 13 = .ok (.aload_n 0, 1) := by decide +kernel
theorem dX7_without_14 : decode cX7_without 14 = .ok (.getfield 10, 3) := by decide +kernel
theorem dX7_without_17 : decode cX7_without 17 = .ok (.invokevirtual 218, 3) := by decide +kernel
theorem dX7_without_20 : decode cX7_without 20 = .ok (.lstore_n 2, 1) := by decide +kernel
theorem dX7_without_21 : decode cX7_without 21 = .ok (.lload_n 2, 1) := by decide +kernel
theorem dX7_without_22 : decode cX7_without 22 = .ok (.lconst 0, 1) := by decide +kernel
theorem dX7_without_23 : decode cX7_without 23 = .ok (.lcmp, 1) := by decide +kernel
theorem dX7_without_24 : decode cX7_without 24 = .ok (.ifCond .ge 7, 3) := by decide +kernel
theorem dX7_without_27 : decode cX7_without 27 = .ok (.ldc2_w 261, 3) := by decide +kernel
theorem dX7_without_30 : decode cX7_without 30 = .ok (.lreturn, 1) := by decide +kernel
theorem dX7_without_31 : decode cX7_without 31 = .ok (.aload_n 0, 1) := by decide +kernel
theorem dX7_without_32 : decode cX7_without 32 = .ok (.getfield 39, 3) := by decide +kernel
theorem dX7_without_35 : decode cX7_without 35 = .ok (.iload_n 1, 1) := by decide +kernel
theorem dX7_without_36 : decode cX7_without 36 = .ok (.invokevirtual 263, 3) := by decide +kernel
theorem dX7_without_39 : decode cX7_without 39 = .ok (.aload_n 0, 1) := by decide +kernel
theorem dX7_without_40 : decode cX7_without 40 = .ok (.getfield 39, 3) := by decide +kernel
theorem dX7_without_43 : decode cX7_without 43 = .ok (.invokevirtual 266, 3) := by decide +kernel
theorem dX7_without_46 : decode cX7_without 46 = .ok (.ifCond .eq 7, 3) := by decide +kernel
theorem dX7_without_49 : decode cX7_without 49 = .ok (.ldc2_w 261, 3) := by decide +kernel
theorem dX7_without_52 : decode cX7_without 52 = .ok (.lreturn, 1) := by decide +kernel
theorem dX7_without_53 : decode cX7_without 53 = .ok (.aload_n 0, 1) := by decide +kernel
theorem dX7_without_54 : decode cX7_without 54 = .ok (.getfield 48, 3) := by decide +kernel
theorem dX7_without_57 : decode cX7_without 57 = .ok (.invokevirtual 237, 3) := by decide +kernel
theorem dX7_without_60 : decode cX7_without 60 = .ok (.lstore 4, 2) := by decide +kernel
theorem dX7_without_62 : decode cX7_without 62 = .ok (.lload 4, 2) := by decide +kernel
theorem dX7_without_64 : decode cX7_without 64 = .ok (.lconst 0, 1) := by decide +kernel
theorem dX7_without_65 : decode cX7_without 65 = .ok (.lcmp, 1) := by decide +kernel
theorem dX7_without_66 : decode cX7_without 66 = .ok (.ifCond .ne 9, 3) := by decide +kernel
theorem dX7_without_69 : decode cX7_without 69 = .ok (.ldc2_w 270, 3) := by decide +kernel
theorem dX7_without_72 : decode cX7_without 72 = .ok (.goto 10, 3) := by decide +kernel
theorem dX7_without_75 : decode cX7_without 75 = .ok (.aload_n 0, 1) := by decide +kernel
theorem dX7_without_76 : decode cX7_without 76 = .ok (.lload_n 2, 1) := by decide +kernel
theorem dX7_without_77 : decode cX7_without 77 = .ok (.lload 4, 2) := by decide +kernel
theorem dX7_without_79 : decode cX7_without 79 = .ok (.invokevirtual 232, 3) := by decide +kernel
theorem dX7_without_82 : decode cX7_without 82 = .ok (.lreturn, 1) := by decide +kernel
theorem dX7_draw_0 : decode cX7_draw 0 = .ok (.lload_n 1, 1) := by decide +kernel
theorem dX7_draw_1 : decode cX7_draw 1 = .ok (.lconst 0, 1) := by decide +kernel
theorem dX7_draw_2 : decode cX7_draw 2 = .ok (.lcmp, 1) := by decide +kernel
theorem dX7_draw_3 : decode cX7_draw 3 = .ok (.ifCond .ge 7, 3) := by decide +kernel
theorem dX7_draw_6 : decode cX7_draw 6 = .ok (.ldc2_w 222, 3) := by decide +kernel
theorem dX7_draw_9 : decode cX7_draw 9 = .ok (.lreturn, 1) := by decide +kernel
theorem dX7_draw_10 : decode cX7_draw 10 = .ok (.aload_n 0, 1) := by decide +kernel
theorem dX7_draw_11 : decode cX7_draw 11 = .ok (.aload_n 0, 1) := by decide +kernel
theorem dX7_draw_12 : decode cX7_draw 12 = .ok (.getfield 10, 3) := by decide +kernel
theorem dX7_draw_15 : decode cX7_draw 15 = .ok (.invokevirtual 218, 3) := by decide +kernel
theorem dX7_draw_18 : decode cX7_draw 18 = .ok (.lstore_n 3, 1) := by decide +kernel
theorem dX7_draw_19 : decode cX7_draw 19 = .ok (.lload_n 3, 1) := by decide +kernel
theorem dX7_draw_20 : decode cX7_draw 20 = .ok (.lconst 0, 1) := by decide +kernel
theorem dX7_draw_21 : decode cX7_draw 21 = .ok (.lcmp, 1) := by decide +kernel
theorem dX7_draw_22 : decode cX7_draw 22 = .ok (.ifCond .ge 7, 3) := by decide +kernel
theorem dX7_draw_25 : decode cX7_draw 25 = .ok (.ldc2_w 261, 3) := by decide +kernel
theorem dX7_draw_28 : decode cX7_draw 28 = .ok (.lreturn, 1) := by decide +kernel
theorem dX7_draw_29 : decode cX7_draw 29 = .ok (.lload_n 1, 1) := by decide +kernel
theorem dX7_draw_30 : decode cX7_draw 30 = .ok (.lload_n 3, 1) := by decide +kernel
theorem dX7_draw_31 : decode cX7_draw 31 = .ok (.lcmp, 1) := by decide +kernel
theorem dX7_draw_32 : decode cX7_draw 32 = .ok (.ifCond .lt 7, 3) := by decide +kernel
theorem dX7_draw_35 : decode cX7_draw 35 = .ok (.ldc2_w 270, 3) := by decide +kernel
theorem dX7_draw_38 : decode cX7_draw 38 = .ok (.lreturn, 1) := by decide +kernel
theorem dX7_draw_39 : decode cX7_draw 39 = .ok (.aload_n 0, 1) := by decide +kernel
theorem dX7_draw_40 : decode cX7_draw 40 = .ok (.iconst 1, 1) := by decide +kernel
theorem dX7_draw_41 : decode cX7_draw 41 = .ok (.putfield 63, 3) := by decide +kernel
theorem dX7_draw_44 : decode cX7_draw 44 = .ok (.aload_n 0, 1) := by decide +kernel
theorem dX7_draw_45 : decode cX7_draw 45 = .ok (.lload_n 1, 1) := by decide +kernel
theorem dX7_draw_46 : decode cX7_draw 46 = .ok (.invokevirtual 272, 3) := by decide +kernel
theorem dX7_draw_49 : decode cX7_draw 49 = .ok (.lreturn, 1) := by decide +kernel
theorem dX7_drawn_0 : decode cX7_drawn 0 = .ok (.aload_n 0, 1) := by decide +kernel
theorem dX7_drawn_1 : decode cX7_drawn 1 = .ok (.getfield 63, 3) := by decide +kernel
theorem dX7_drawn_4 : decode cX7_drawn 4 = .ok (.ifCond .ne 10, 3) := by decide +kernel
theorem dX7_drawn_7 : decode cX7_drawn 7 = .ok (.aload_n 0, 1) := by decide +kernel
theorem dX7_drawn_8 : decode cX7_drawn 8 = .ok (.bipush (-10), 2) := by decide +kernel
theorem dX7_drawn_10 : decode cX7_drawn 10 = .ok (.invokevirtual 96, 3) := by decide +kernel
theorem dX7_drawn_13 : decode cX7_drawn 13 = .ok (.ireturn, 1) := by decide +kernel
theorem dX7_drawn_14 : decode cX7_drawn 14 = .ok (.aload_n 0, 1) := by decide +kernel
theorem dX7_drawn_15 : decode cX7_drawn 15 = .ok (.iload_n 1, 1) := by decide +kernel
theorem dX7_drawn_16 : decode cX7_drawn 16 = .ok (.invokevirtual 142, 3) := by decide +kernel
theorem dX7_drawn_19 : decode cX7_drawn 19 = .ok (.ifCond .eq 12, 3) := by decide +kernel
theorem dX7_drawn_22 : decode cX7_drawn 22 = .ok (.aload_n 0, 1) := by decide +kernel
theorem dX7_drawn_23 : decode cX7_drawn 23 = .ok (.getfield 60, 3) := by decide +kernel
theorem dX7_drawn_26 : decode cX7_drawn 26 = .ok (.iload_n 1, 1) := by decide +kernel
theorem dX7_drawn_27 : decode cX7_drawn 27 = .ok (.iaload, 1) := by decide +kernel
theorem dX7_drawn_28 : decode cX7_drawn 28 = .ok (.goto 5, 3) := by decide +kernel
theorem dX7_drawn_31 : decode cX7_drawn 31 = .ok (.bipush (-2), 2) := by decide +kernel
theorem dX7_drawn_33 : decode cX7_drawn 33 = .ok (.ireturn, 1) := by decide +kernel
theorem dX7_tell_0 : decode cX7_tell 0 = .ok (.aload_n 0, 1) := by decide +kernel
theorem dX7_tell_1 : decode cX7_tell 1 = .ok (.getfield 56, 3) := by decide +kernel
theorem dX7_tell_4 : decode cX7_tell 4 = .ok (.bipush 20, 2) := by decide +kernel
theorem dX7_tell_6 : decode cX7_tell 6 = .ok (.if_icmp .lt 6, 3) := by decide +kernel
theorem dX7_tell_9 : decode cX7_tell 9 = .ok (.bipush (-2), 2) := by decide +kernel
theorem dX7_tell_11 : decode cX7_tell 11 = .ok (.ireturn, 1) := by decide +kernel
theorem dX7_tell_12 : decode cX7_tell 12 = .ok (.aload_n 0, 1) := by decide +kernel
theorem dX7_tell_13 : decode cX7_tell 13 = .ok (.getfield 52, 3) := by decide +kernel
theorem dX7_tell_16 : decode cX7_tell 16 = .ok (.aload_n 0, 1) := by decide +kernel
theorem dX7_tell_17 : decode cX7_tell 17 = .ok (.getfield 56, 3) := by decide +kernel
theorem dX7_tell_20 : decode cX7_tell 20 = .ok (.iload_n 1, 1) := by decide +kernel
theorem dX7_tell_21 : decode cX7_tell 21 = .ok (.iastore, 1) := by decide +kernel
theorem dX7_tell_22 : decode cX7_tell 22 = .ok (.aload_n 0, 1) := by decide +kernel
theorem dX7_tell_23 : decode cX7_tell 23 = .ok (.dup, 1) := by decide +kernel
theorem dX7_tell_24 : decode cX7_tell 24 = .ok (.getfield 56, 3) := by decide +kernel
theorem dX7_tell_27 : decode cX7_tell 27 = .ok (.iconst 1, 1) := by decide +kernel
theorem dX7_tell_28 : decode cX7_tell 28 = .ok (.iadd, 1) := by decide +kernel
theorem dX7_tell_29 : decode cX7_tell 29 = .ok (.putfield 56, 3) := by decide +kernel
theorem dX7_tell_32 : decode cX7_tell 32 = .ok (.aload_n 0, 1) := by decide +kernel
theorem dX7_tell_33 : decode cX7_tell 33 = .ok (.getfield 56, 3) := by decide +kernel
theorem dX7_tell_36 : decode cX7_tell 36 = .ok (.ireturn, 1) := by decide +kernel
theorem dX7_number_0 : decode cX7_number 0 = .ok (.aload_n 0, 1) := by decide +kernel
theorem dX7_number_1 : decode cX7_number 1 = .ok (.getfield 56, 3) := by decide +kernel
theorem dX7_number_4 : decode cX7_number 4 = .ok (.istore_n 1, 1) := by decide +kernel
theorem dX7_number_5 : decode cX7_number 5 = .ok (.aload_n 0, 1) := by decide +kernel
theorem dX7_number_6 : decode cX7_number 6 = .ok (.iconst 0, 1) := by decide +kernel
theorem dX7_number_7 : decode cX7_number 7 = .ok (.putfield 56, 3) := by decide +kernel
theorem dX7_number_10 : decode cX7_number 10 = .ok (.iload_n 1, 1) := by decide +kernel
theorem dX7_number_11 : decode cX7_number 11 = .ok (.aload_n 0, 1) := by decide +kernel
theorem dX7_number_12 : decode cX7_number 12 = .ok (.getfield 10, 3) := by decide +kernel
theorem dX7_number_15 : decode cX7_number 15 = .ok (.getfield 132, 3) := by decide +kernel
theorem dX7_number_18 : decode cX7_number 18 = .ok (.if_icmp .eq 7, 3) := by decide +kernel
theorem dX7_number_21 : decode cX7_number 21 = .ok (.ldc2_w 222, 3) := by decide +kernel
theorem dX7_number_24 : decode cX7_number 24 = .ok (.lreturn, 1) := by decide +kernel
theorem dX7_number_25 : decode cX7_number 25 = .ok (.iconst 0, 1) := by decide +kernel
theorem dX7_number_26 : decode cX7_number 26 = .ok (.istore_n 2, 1) := by decide +kernel
theorem dX7_number_27 : decode cX7_number 27 = .ok (.iload_n 2, 1) := by decide +kernel
theorem dX7_number_28 : decode cX7_number 28 = .ok (.iload_n 1, 1) := by decide +kernel
theorem dX7_number_29 : decode cX7_number 29 = .ok (.if_icmp .ge 26, 3) := by decide +kernel
theorem dX7_number_32 : decode cX7_number 32 = .ok (.aload_n 0, 1) := by decide +kernel
theorem dX7_number_33 : decode cX7_number 33 = .ok (.aload_n 0, 1) := by decide +kernel
theorem dX7_number_34 : decode cX7_number 34 = .ok (.getfield 52, 3) := by decide +kernel
theorem dX7_number_37 : decode cX7_number 37 = .ok (.iload_n 2, 1) := by decide +kernel
theorem dX7_number_38 : decode cX7_number 38 = .ok (.iaload, 1) := by decide +kernel
theorem dX7_number_39 : decode cX7_number 39 = .ok (.invokevirtual 180, 3) := by decide +kernel
theorem dX7_number_42 : decode cX7_number 42 = .ok (.ifCond .ne 7, 3) := by decide +kernel
theorem dX7_number_45 : decode cX7_number 45 = .ok (.ldc2_w 222, 3) := by decide +kernel
theorem dX7_number_48 : decode cX7_number 48 = .ok (.lreturn, 1) := by decide +kernel
theorem dX7_number_49 : decode cX7_number 49 = .ok (.iinc 2 1, 3) := by decide +kernel
theorem dX7_number_52 : decode cX7_number 52 = .ok (.goto (-25), 3) := by decide +kernel
theorem dX7_number_55 : decode cX7_number 55 = .ok (.aload_n 0, 1) := by decide +kernel
theorem dX7_number_56 : decode cX7_number 56 = .ok (.aload_n 0, 1) := by decide +kernel
theorem dX7_number_57 : decode cX7_number 57 = .ok (.getfield 10, 3) := by decide +kernel
theorem dX7_number_60 : decode cX7_number 60 = .ok (.invokevirtual 218, 3) := by decide +kernel
theorem dX7_number_63 : decode cX7_number 63 = .ok (.lconst 0, 1) := by decide +kernel
theorem dX7_number_64 : decode cX7_number 64 = .ok (.lcmp, 1) := by decide +kernel
theorem dX7_number_65 : decode cX7_number 65 = .ok (.ifCond .ge 7, 3) := by decide +kernel
theorem dX7_number_68 : decode cX7_number 68 = .ok (.ldc2_w 261, 3) := by decide +kernel
theorem dX7_number_71 : decode cX7_number 71 = .ok (.lreturn, 1) := by decide +kernel
theorem dX7_number_72 : decode cX7_number 72 = .ok (.aload_n 0, 1) := by decide +kernel
theorem dX7_number_73 : decode cX7_number 73 = .ok (.iload_n 1, 1) := by decide +kernel
theorem dX7_number_74 : decode cX7_number 74 = .ok (.invokevirtual 276, 3) := by decide +kernel
theorem dX7_number_77 : decode cX7_number 77 = .ok (.lreturn, 1) := by decide +kernel
theorem dX7_keep_0 : decode cX7_keep 0 = .ok (.aload_n 0, 1) := by decide +kernel
theorem dX7_keep_1 : decode cX7_keep 1 = .ok (.getfield 16, 3) := by decide +kernel
theorem dX7_keep_4 : decode cX7_keep 4 = .ok (.aload_n 0, 1) := by decide +kernel
theorem dX7_keep_5 : decode cX7_keep 5 = .ok (.getfield 10, 3) := by decide +kernel
theorem dX7_keep_8 : decode cX7_keep 8 = .ok (.invokevirtual 280, 3) := by decide +kernel
theorem dX7_keep_11 : decode cX7_keep 11 = .ok (.aload_n 0, 1) := by decide +kernel
theorem dX7_keep_12 : decode cX7_keep 12 = .ok (.iconst 1, 1) := by decide +kernel
theorem dX7_keep_13 : decode cX7_keep 13 = .ok (.putfield 19, 3) := by decide +kernel
theorem dX7_keep_16 : decode cX7_keep 16 = .ok (.aload_n 0, 1) := by decide +kernel
theorem dX7_keep_17 : decode cX7_keep 17 = .ok (.getfield 10, 3) := by decide +kernel
theorem dX7_keep_20 : decode cX7_keep 20 = .ok (.getfield 132, 3) := by decide +kernel
theorem dX7_keep_23 : decode cX7_keep 23 = .ok (.ireturn, 1) := by decide +kernel
theorem dX7_back_0 : decode cX7_back 0 = .ok (.aload_n 0, 1) := by decide +kernel
theorem dX7_back_1 : decode cX7_back 1 = .ok (.getfield 19, 3) := by decide +kernel
theorem dX7_back_4 : decode cX7_back 4 = .ok (.ifCond .ne 10, 3) := by decide +kernel
theorem dX7_back_7 : decode cX7_back 7 = .ok (.aload_n 0, 1) := by decide +kernel
theorem dX7_back_8 : decode cX7_back 8 = .ok (.bipush (-10), 2) := by decide +kernel
theorem dX7_back_10 : decode cX7_back 10 = .ok (.invokevirtual 96, 3) := by decide +kernel
theorem dX7_back_13 : decode cX7_back 13 = .ok (.ireturn, 1) := by decide +kernel
theorem dX7_back_14 : decode cX7_back 14 = .ok (.aload_n 0, 1) := by decide +kernel
theorem dX7_back_15 : decode cX7_back 15 = .ok (.getfield 10, 3) := by decide +kernel
theorem dX7_back_18 : decode cX7_back 18 = .ok (.aload_n 0, 1) := by decide +kernel
theorem dX7_back_19 : decode cX7_back 19 = .ok (.getfield 16, 3) := by decide +kernel
theorem dX7_back_22 : decode cX7_back 22 = .ok (.invokevirtual 280, 3) := by decide +kernel
theorem dX7_back_25 : decode cX7_back 25 = .ok (.aload_n 0, 1) := by decide +kernel
theorem dX7_back_26 : decode cX7_back 26 = .ok (.iconst 0, 1) := by decide +kernel
theorem dX7_back_27 : decode cX7_back 27 = .ok (.putfield 63, 3) := by decide +kernel
theorem dX7_back_30 : decode cX7_back 30 = .ok (.aload_n 0, 1) := by decide +kernel
theorem dX7_back_31 : decode cX7_back 31 = .ok (.getfield 10, 3) := by decide +kernel
theorem dX7_back_34 : decode cX7_back 34 = .ok (.getfield 132, 3) := by decide +kernel
theorem dX7_back_37 : decode cX7_back 37 = .ok (.ireturn, 1) := by decide +kernel
theorem dX7_bears_0 : decode cX7_bears 0 = .ok (.aload_n 0, 1) := by decide +kernel
theorem dX7_bears_1 : decode cX7_bears 1 = .ok (.getfield 19, 3) := by decide +kernel
theorem dX7_bears_4 : decode cX7_bears 4 = .ok (.ifCond .ne 11, 3) := by decide +kernel
theorem dX7_bears_7 : decode cX7_bears 7 = .ok (.aload_n 0, 1) := by decide +kernel
theorem dX7_bears_8 : decode cX7_bears 8 = .ok (.bipush (-10), 2) := by decide +kernel
theorem dX7_bears_10 : decode cX7_bears 10 = .ok (.invokevirtual 96, 3) := by decide +kernel
theorem dX7_bears_13 : decode cX7_bears 13 = .ok (.i2l, 1) := by decide +kernel
theorem dX7_bears_14 : decode cX7_bears 14 = .ok (.lreturn, 1) := by decide +kernel
theorem dX7_bears_15 : decode cX7_bears 15 = .ok (.aload_n 0, 1) := by decide +kernel
theorem dX7_bears_16 : decode cX7_bears 16 = .ok (.aload_n 0, 1) := by decide +kernel
theorem dX7_bears_17 : decode cX7_bears 17 = .ok (.getfield 16, 3) := by decide +kernel
theorem dX7_bears_20 : decode cX7_bears 20 = .ok (.invokevirtual 218, 3) := by decide +kernel
theorem dX7_bears_23 : decode cX7_bears 23 = .ok (.lstore_n 1, 1) := by decide +kernel
theorem dX7_bears_24 : decode cX7_bears 24 = .ok (.aload_n 0, 1) := by decide +kernel
theorem dX7_bears_25 : decode cX7_bears 25 = .ok (.aload_n 0, 1) := by decide +kernel
theorem dX7_bears_26 : decode cX7_bears 26 = .ok (.getfield 10, 3) := by decide +kernel
theorem dX7_bears_29 : decode cX7_bears 29 = .ok (.invokevirtual 218, 3) := by decide +kernel
theorem dX7_bears_32 : decode cX7_bears 32 = .ok (.lstore_n 3, 1) := by decide +kernel
theorem dX7_bears_33 : decode cX7_bears 33 = .ok (.lload_n 1, 1) := by decide +kernel
theorem dX7_bears_34 : decode cX7_bears 34 = .ok (.lconst 0, 1) := by decide +kernel
theorem dX7_bears_35 : decode cX7_bears 35 = .ok (.lcmp, 1) := by decide +kernel
theorem dX7_bears_36 : decode cX7_bears 36 = .ok (.ifCond .lt 9, 3) := by decide +kernel
theorem dX7_bears_39 : decode cX7_bears 39 = .ok (.lload_n 3, 1) := by decide +kernel
theorem dX7_bears_40 : decode cX7_bears 40 = .ok (.lconst 0, 1) := by decide +kernel
theorem dX7_bears_41 : decode cX7_bears 41 = .ok (.lcmp, 1) := by decide +kernel
theorem dX7_bears_42 : decode cX7_bears 42 = .ok (.ifCond .ge 7, 3) := by decide +kernel
theorem dX7_bears_45 : decode cX7_bears 45 = .ok (.ldc2_w 261, 3) := by decide +kernel
theorem dX7_bears_48 : decode cX7_bears 48 = .ok (.lreturn, 1) := by decide +kernel
theorem dX7_bears_49 : decode cX7_bears 49 = .ok (.lload_n 1, 1) := by decide +kernel
theorem dX7_bears_50 : decode cX7_bears 50 = .ok (.lconst 0, 1) := by decide +kernel
theorem dX7_bears_51 : decode cX7_bears 51 = .ok (.lcmp, 1) := by decide +kernel
theorem dX7_bears_52 : decode cX7_bears 52 = .ok (.ifCond .ne 9, 3) := by decide +kernel
theorem dX7_bears_55 : decode cX7_bears 55 = .ok (.ldc2_w 270, 3) := by decide +kernel
theorem dX7_bears_58 : decode cX7_bears 58 = .ok (.goto 9, 3) := by decide +kernel
theorem dX7_bears_61 : decode cX7_bears 61 = .ok (.aload_n 0, 1) := by decide +kernel
theorem dX7_bears_62 : decode cX7_bears 62 = .ok (.lload_n 3, 1) := by decide +kernel
theorem dX7_bears_63 : decode cX7_bears 63 = .ok (.lload_n 1, 1) := by decide +kernel
theorem dX7_bears_64 : decode cX7_bears 64 = .ok (.invokevirtual 232, 3) := by decide +kernel
theorem dX7_bears_67 : decode cX7_bears 67 = .ok (.lreturn, 1) := by decide +kernel
theorem dX7_count_0 : decode cX7_count 0 = .ok (.iload_n 1, 1) := by decide +kernel
theorem dX7_count_1 : decode cX7_count 1 = .ok (.tableswitch 72 0 4 #[35, 43, 51, 62, 67], 35) := by decide +kernel
theorem dX7_count_36 : decode cX7_count 36 = .ok (.aload_n 0, 1) := by decide +kernel
theorem dX7_count_37 : decode cX7_count 37 = .ok (.getfield 10, 3) := by decide +kernel
theorem dX7_count_40 : decode cX7_count 40 = .ok (.getfield 132, 3) := by decide +kernel
theorem dX7_count_43 : decode cX7_count 43 = .ok (.ireturn, 1) := by decide +kernel
theorem dX7_count_44 : decode cX7_count 44 = .ok (.aload_n 0, 1) := by decide +kernel
theorem dX7_count_45 : decode cX7_count 45 = .ok (.getfield 10, 3) := by decide +kernel
theorem dX7_count_48 : decode cX7_count 48 = .ok (.getfield 74, 3) := by decide +kernel
theorem dX7_count_51 : decode cX7_count 51 = .ok (.ireturn, 1) := by decide +kernel
theorem dX7_count_52 : decode cX7_count 52 = .ok (.aload_n 0, 1) := by decide +kernel
theorem dX7_count_53 : decode cX7_count 53 = .ok (.getfield 10, 3) := by decide +kernel
theorem dX7_count_56 : decode cX7_count 56 = .ok (.getfield 157, 3) := by decide +kernel
theorem dX7_count_59 : decode cX7_count 59 = .ok (.invokevirtual 214, 3) := by decide +kernel
theorem dX7_count_62 : decode cX7_count 62 = .ok (.ireturn, 1) := by decide +kernel
theorem dX7_count_63 : decode cX7_count 63 = .ok (.aload_n 0, 1) := by decide +kernel
theorem dX7_count_64 : decode cX7_count 64 = .ok (.getfield 56, 3) := by decide +kernel
theorem dX7_count_67 : decode cX7_count 67 = .ok (.ireturn, 1) := by decide +kernel
theorem dX7_count_68 : decode cX7_count 68 = .ok (.aload_n 0, 1) := by decide +kernel
theorem dX7_count_69 : decode cX7_count 69 = .ok (.getfield 70, 3) := by decide +kernel
theorem dX7_count_72 : decode cX7_count 72 = .ok (.ireturn, 1) := by decide +kernel
theorem dX7_count_73 : decode cX7_count 73 = .ok (.bipush (-2), 2) := by decide +kernel
theorem dX7_count_75 : decode cX7_count 75 = .ok (.ireturn, 1) := by decide +kernel
theorem dX7_isFind_0 : decode cX7_isFind 0 = .ok (.iload_n 1, 1) := by decide +kernel
theorem dX7_isFind_1 : decode cX7_isFind 1 = .ok (.ifCond .lt 18, 3) := by decide +kernel
theorem dX7_isFind_4 : decode cX7_isFind 4 = .ok (.iload_n 1, 1) := by decide +kernel
theorem dX7_isFind_5 : decode cX7_isFind 5 = .ok (.aload_n 0, 1) := by decide +kernel
theorem dX7_isFind_6 : decode cX7_isFind 6 = .ok (.getfield 10, 3) := by decide +kernel
theorem dX7_isFind_9 : decode cX7_isFind 9 = .ok (.getfield 132, 3) := by decide +kernel
theorem dX7_isFind_12 : decode cX7_isFind 12 = .ok (.if_icmp .ge 7, 3) := by decide +kernel
theorem dX7_isFind_15 : decode cX7_isFind 15 = .ok (.iconst 1, 1) := by decide +kernel
theorem dX7_isFind_16 : decode cX7_isFind 16 = .ok (.goto 4, 3) := by decide +kernel
theorem dX7_isFind_19 : decode cX7_isFind 19 = .ok (.iconst 0, 1) := by decide +kernel
theorem dX7_isFind_20 : decode cX7_isFind 20 = .ok (.ireturn, 1) := by decide +kernel
theorem dX7_isYear_0 : decode cX7_isYear 0 = .ok (.iload_n 1, 1) := by decide +kernel
theorem dX7_isYear_1 : decode cX7_isYear 1 = .ok (.ifCond .lt 18, 3) := by decide +kernel
theorem dX7_isYear_4 : decode cX7_isYear 4 = .ok (.iload_n 1, 1) := by decide +kernel
theorem dX7_isYear_5 : decode cX7_isYear 5 = .ok (.aload_n 0, 1) := by decide +kernel
theorem dX7_isYear_6 : decode cX7_isYear 6 = .ok (.getfield 10, 3) := by decide +kernel
theorem dX7_isYear_9 : decode cX7_isYear 9 = .ok (.getfield 74, 3) := by decide +kernel
theorem dX7_isYear_12 : decode cX7_isYear 12 = .ok (.if_icmp .ge 7, 3) := by decide +kernel
theorem dX7_isYear_15 : decode cX7_isYear 15 = .ok (.iconst 1, 1) := by decide +kernel
theorem dX7_isYear_16 : decode cX7_isYear 16 = .ok (.goto 4, 3) := by decide +kernel
theorem dX7_isYear_19 : decode cX7_isYear 19 = .ok (.iconst 0, 1) := by decide +kernel
theorem dX7_isYear_20 : decode cX7_isYear 20 = .ok (.ireturn, 1) := by decide +kernel
theorem dX7_isAge_0 : decode cX7_isAge 0 = .ok (.iload_n 0, 1) := by decide +kernel
theorem dX7_isAge_1 : decode cX7_isAge 1 = .ok (.ifCond .lt 14, 3) := by decide +kernel
theorem dX7_isAge_4 : decode cX7_isAge 4 = .ok (.iload_n 0, 1) := by decide +kernel
theorem dX7_isAge_5 : decode cX7_isAge 5 = .ok (.sipush 2000, 3) := by decide +kernel
theorem dX7_isAge_8 : decode cX7_isAge 8 = .ok (.if_icmp .gt 7, 3) := by decide +kernel
theorem dX7_isAge_11 : decode cX7_isAge 11 = .ok (.iconst 1, 1) := by decide +kernel
theorem dX7_isAge_12 : decode cX7_isAge 12 = .ok (.goto 4, 3) := by decide +kernel
theorem dX7_isAge_15 : decode cX7_isAge 15 = .ok (.iconst 0, 1) := by decide +kernel
theorem dX7_isAge_16 : decode cX7_isAge 16 = .ok (.ireturn, 1) := by decide +kernel
theorem dX7_isDigit_0 : decode cX7_isDigit 0 = .ok (.iload_n 0, 1) := by decide +kernel
theorem dX7_isDigit_1 : decode cX7_isDigit 1 = .ok (.ifCond .lt 13, 3) := by decide +kernel
theorem dX7_isDigit_4 : decode cX7_isDigit 4 = .ok (.iload_n 0, 1) := by decide +kernel
theorem dX7_isDigit_5 : decode cX7_isDigit 5 = .ok (.bipush 9, 2) := by decide +kernel
theorem dX7_isDigit_7 : decode cX7_isDigit 7 = .ok (.if_icmp .gt 7, 3) := by decide +kernel
theorem dX7_isDigit_10 : decode cX7_isDigit 10 = .ok (.iconst 1, 1) := by decide +kernel
theorem dX7_isDigit_11 : decode cX7_isDigit 11 = .ok (.goto 4, 3) := by decide +kernel
theorem dX7_isDigit_14 : decode cX7_isDigit 14 = .ok (.iconst 0, 1) := by decide +kernel
theorem dX7_isDigit_15 : decode cX7_isDigit 15 = .ok (.ireturn, 1) := by decide +kernel
theorem dX7_isSheet_0 : decode cX7_isSheet 0 = .ok (.iload_n 0, 1) := by decide +kernel
theorem dX7_isSheet_1 : decode cX7_isSheet 1 = .ok (.ifCond .lt 12, 3) := by decide +kernel
theorem dX7_isSheet_4 : decode cX7_isSheet 4 = .ok (.iload_n 0, 1) := by decide +kernel
theorem dX7_isSheet_5 : decode cX7_isSheet 5 = .ok (.iconst 4, 1) := by decide +kernel
theorem dX7_isSheet_6 : decode cX7_isSheet 6 = .ok (.if_icmp .ge 7, 3) := by decide +kernel
theorem dX7_isSheet_9 : decode cX7_isSheet 9 = .ok (.iconst 1, 1) := by decide +kernel
theorem dX7_isSheet_10 : decode cX7_isSheet 10 = .ok (.goto 4, 3) := by decide +kernel
theorem dX7_isSheet_13 : decode cX7_isSheet 13 = .ok (.iconst 0, 1) := by decide +kernel
theorem dX7_isSheet_14 : decode cX7_isSheet 14 = .ok (.ireturn, 1) := by decide +kernel
theorem dX7_isSort_0 : decode cX7_isSort 0 = .ok (.iload_n 0, 1) := by decide +kernel
theorem dX7_isSort_1 : decode cX7_isSort 1 = .ok (.ifCond .lt 12, 3) := by decide +kernel
theorem dX7_isSort_4 : decode cX7_isSort 4 = .ok (.iload_n 0, 1) := by decide +kernel
theorem dX7_isSort_5 : decode cX7_isSort 5 = .ok (.iconst 3, 1) := by decide +kernel
theorem dX7_isSort_6 : decode cX7_isSort 6 = .ok (.if_icmp .gt 7, 3) := by decide +kernel
theorem dX7_isSort_9 : decode cX7_isSort 9 = .ok (.iconst 1, 1) := by decide +kernel
theorem dX7_isSort_10 : decode cX7_isSort 10 = .ok (.goto 4, 3) := by decide +kernel
theorem dX7_isSort_13 : decode cX7_isSort 13 = .ok (.iconst 0, 1) := by decide +kernel
theorem dX7_isSort_14 : decode cX7_isSort 14 = .ok (.ireturn, 1) := by decide +kernel
theorem dX7_isOfKind_0 : decode cX7_isOfKind 0 = .ok (.iload_n 0, 1) := by decide +kernel
theorem dX7_isOfKind_1 : decode cX7_isOfKind 1 = .ok (.tableswitch 54 0 3 #[31, 31, 36, 38], 31) := by decide +kernel
theorem dX7_isOfKind_32 : decode cX7_isOfKind 32 = .ok (.iload_n 1, 1) := by decide +kernel
theorem dX7_isOfKind_33 : decode cX7_isOfKind 33 = .ok (.invokestatic 77, 3) := by decide +kernel
theorem dX7_isOfKind_36 : decode cX7_isOfKind 36 = .ok (.ireturn, 1) := by decide +kernel
theorem dX7_isOfKind_37 : decode cX7_isOfKind 37 = .ok (.iconst 1, 1) := by decide +kernel
theorem dX7_isOfKind_38 : decode cX7_isOfKind 38 = .ok (.ireturn, 1) := by decide +kernel
theorem dX7_isOfKind_39 : decode cX7_isOfKind 39 = .ok (.iload_n 1, 1) := by decide +kernel
theorem dX7_isOfKind_40 : decode cX7_isOfKind 40 = .ok (.ifCond .lt 13, 3) := by decide +kernel
theorem dX7_isOfKind_43 : decode cX7_isOfKind 43 = .ok (.iload_n 1, 1) := by decide +kernel
theorem dX7_isOfKind_44 : decode cX7_isOfKind 44 = .ok (.bipush 40, 2) := by decide +kernel
theorem dX7_isOfKind_46 : decode cX7_isOfKind 46 = .ok (.if_icmp .ge 7, 3) := by decide +kernel
theorem dX7_isOfKind_49 : decode cX7_isOfKind 49 = .ok (.iconst 1, 1) := by decide +kernel
theorem dX7_isOfKind_50 : decode cX7_isOfKind 50 = .ok (.goto 4, 3) := by decide +kernel
theorem dX7_isOfKind_53 : decode cX7_isOfKind 53 = .ok (.iconst 0, 1) := by decide +kernel
theorem dX7_isOfKind_54 : decode cX7_isOfKind 54 = .ok (.ireturn, 1) := by decide +kernel
theorem dX7_isOfKind_55 : decode cX7_isOfKind 55 = .ok (.iconst 0, 1) := by decide +kernel
theorem dX7_isOfKind_56 : decode cX7_isOfKind 56 = .ok (.ireturn, 1) := by decide +kernel
theorem dX7_hostFinding_0 : decode cX7_hostFinding 0 = .ok (.aload_n 0, 1) := by decide +kernel
theorem dX7_hostFinding_1 : decode cX7_hostFinding 1 = .ok (.dup, 1) := by decide +kernel
theorem dX7_hostFinding_2 : decode cX7_hostFinding 2 = .ok (.getfield 70, 3) := by decide +kernel
theorem dX7_hostFinding_5 : decode cX7_hostFinding 5 = .ok (.iconst 1, 1) := by decide +kernel
theorem dX7_hostFinding_6 : decode cX7_hostFinding 6 = .ok (.iadd, 1) := by decide +kernel
theorem dX7_hostFinding_7 : decode cX7_hostFinding 7 = .ok (.putfield 70, 3) := by decide +kernel
theorem dX7_hostFinding_10 : decode cX7_hostFinding 10 = .ok (.iload_n 1, 1) := by decide +kernel
theorem dX7_hostFinding_11 : decode cX7_hostFinding 11 = .ok (.ireturn, 1) := by decide +kernel
theorem dX7_weigh_0 : decode cX7_weigh 0 = .ok (.aload_n 0, 1) := by decide +kernel
theorem dX7_weigh_1 : decode cX7_weigh 1 = .ok (.getfield 39, 3) := by decide +kernel
theorem dX7_weigh_4 : decode cX7_weigh 4 = .ok (.aload_n 1, 1) := by decide +kernel
theorem dX7_weigh_5 : decode cX7_weigh 5 = .ok (.invokevirtual 283, 3) := by decide +kernel
theorem dX7_weigh_8 : decode cX7_weigh 8 = .ok (.aload_n 0, 1) := by decide +kernel
theorem dX7_weigh_9 : decode cX7_weigh 9 = .ok (.getfield 39, 3) := by decide +kernel
theorem dX7_weigh_12 : decode cX7_weigh 12 = .ok (.invokevirtual 266, 3) := by decide +kernel
theorem dX7_weigh_15 : decode cX7_weigh 15 = .ok (.ifCond .eq 9, 3) := by decide +kernel
theorem dX7_weigh_18 : decode cX7_weigh 18 = .ok (.ldc2_w 261, 3) := by decide +kernel
theorem dX7_weigh_21 : decode cX7_weigh 21 = .ok (.goto 10, 3) := by decide +kernel
theorem dX7_weigh_24 : decode cX7_weigh 24 = .ok (.aload_n 0, 1) := by decide +kernel
theorem dX7_weigh_25 : decode cX7_weigh 25 = .ok (.getfield 48, 3) := by decide +kernel
theorem dX7_weigh_28 : decode cX7_weigh 28 = .ok (.invokevirtual 237, 3) := by decide +kernel
theorem dX7_weigh_31 : decode cX7_weigh 31 = .ok (.lreturn, 1) := by decide +kernel
theorem dX7_weighForShare_0 : decode cX7_weighForShare 0 = .ok (.aload_n 0, 1) := by decide +kernel
theorem dX7_weighForShare_1 : decode cX7_weighForShare 1 = .ok (.aload_n 0, 1) := by decide +kernel
theorem dX7_weighForShare_2 : decode cX7_weighForShare 2 = .ok (.getfield 10, 3) := by decide +kernel
theorem dX7_weighForShare_5 : decode cX7_weighForShare 5 = .ok (.invokevirtual 218, 3) := by decide +kernel
theorem dX7_weighForShare_8 : decode cX7_weighForShare 8 = .ok (.lstore_n 1, 1) := by decide +kernel
theorem dX7_weighForShare_9 : decode cX7_weighForShare 9 = .ok (.lload_n 1, 1) := by decide +kernel
theorem dX7_weighForShare_10 : decode cX7_weighForShare 10 = .ok (.lconst 0, 1) := by decide +kernel
theorem dX7_weighForShare_11 : decode cX7_weighForShare 11 = .ok (.lcmp, 1) := by decide +kernel
theorem dX7_weighForShare_12 : decode cX7_weighForShare 12 = .ok (.ifCond .ne 9, 3) := by decide +kernel
theorem dX7_weighForShare_15 : decode cX7_weighForShare 15 = .ok (.ldc2_w 270, 3) := by decide +kernel
theorem dX7_weighForShare_18 : decode cX7_weighForShare 18 = .ok (.goto 4, 3) := by decide +kernel
theorem dX7_weighForShare_21 : decode cX7_weighForShare 21 = .ok (.lload_n 1, 1) := by decide +kernel
theorem dX7_weighForShare_22 : decode cX7_weighForShare 22 = .ok (.lreturn, 1) := by decide +kernel
theorem dX7_shareWithin_0 : decode cX7_shareWithin 0 = .ok (.aload_n 0, 1) := by decide +kernel
theorem dX7_shareWithin_1 : decode cX7_shareWithin 1 = .ok (.getfield 39, 3) := by decide +kernel
theorem dX7_shareWithin_4 : decode cX7_shareWithin 4 = .ok (.iload_n 1, 1) := by decide +kernel
theorem dX7_shareWithin_5 : decode cX7_shareWithin 5 = .ok (.iload_n 2, 1) := by decide +kernel
theorem dX7_shareWithin_6 : decode cX7_shareWithin 6 = .ok (.iload_n 3, 1) := by decide +kernel
theorem dX7_shareWithin_7 : decode cX7_shareWithin 7 = .ok (.invokevirtual 240, 3) := by decide +kernel
theorem dX7_shareWithin_10 : decode cX7_shareWithin 10 = .ok (.aload_n 0, 1) := by decide +kernel
theorem dX7_shareWithin_11 : decode cX7_shareWithin 11 = .ok (.aload_n 0, 1) := by decide +kernel
theorem dX7_shareWithin_12 : decode cX7_shareWithin 12 = .ok (.getfield 48, 3) := by decide +kernel
theorem dX7_shareWithin_15 : decode cX7_shareWithin 15 = .ok (.invokevirtual 237, 3) := by decide +kernel
theorem dX7_shareWithin_18 : decode cX7_shareWithin 18 = .ok (.lload 4, 2) := by decide +kernel
theorem dX7_shareWithin_20 : decode cX7_shareWithin 20 = .ok (.invokevirtual 232, 3) := by decide +kernel
theorem dX7_shareWithin_23 : decode cX7_shareWithin 23 = .ok (.lreturn, 1) := by decide +kernel
theorem dX7_fraction_0 : decode cX7_fraction 0 = .ok (.lload_n 1, 1) := by decide +kernel
theorem dX7_fraction_1 : decode cX7_fraction 1 = .ok (.lload_n 3, 1) := by decide +kernel
theorem dX7_fraction_2 : decode cX7_fraction 2 = .ok (.invokestatic 286, 3) := by decide +kernel
theorem dX7_fraction_5 : decode cX7_fraction 5 = .ok (.lstore 5, 2) := by decide +kernel
theorem dX7_fraction_7 : decode cX7_fraction 7 = .ok (.lload 5, 2) := by decide +kernel
theorem dX7_fraction_9 : decode cX7_fraction 9 = .ok (.lconst 0, 1) := by decide +kernel
theorem dX7_fraction_10 : decode cX7_fraction 10 = .ok (.lcmp, 1) := by decide +kernel
theorem dX7_fraction_11 : decode cX7_fraction 11 = .ok (.ifCond .gt 5, 3) := by decide +kernel
theorem dX7_fraction_14 : decode cX7_fraction 14 = .ok (.lconst 0, 1) := by decide +kernel
theorem dX7_fraction_15 : decode cX7_fraction 15 = .ok (.lreturn, 1) := by decide +kernel
theorem dX7_fraction_16 : decode cX7_fraction 16 = .ok (.aload_n 0, 1) := by decide +kernel
theorem dX7_fraction_17 : decode cX7_fraction 17 = .ok (.lload_n 3, 1) := by decide +kernel
theorem dX7_fraction_18 : decode cX7_fraction 18 = .ok (.lload 5, 2) := by decide +kernel
theorem dX7_fraction_20 : decode cX7_fraction 20 = .ok (.ldiv, 1) := by decide +kernel
theorem dX7_fraction_21 : decode cX7_fraction 21 = .ok (.putfield 66, 3) := by decide +kernel
theorem dX7_fraction_24 : decode cX7_fraction 24 = .ok (.lload_n 1, 1) := by decide +kernel
theorem dX7_fraction_25 : decode cX7_fraction 25 = .ok (.lload 5, 2) := by decide +kernel
theorem dX7_fraction_27 : decode cX7_fraction 27 = .ok (.ldiv, 1) := by decide +kernel
theorem dX7_fraction_28 : decode cX7_fraction 28 = .ok (.lreturn, 1) := by decide +kernel
theorem dX7_greatestDivisor_0 : decode cX7_greatestDivisor 0 = .ok (.lload_n 0, 1) := by decide +kernel
theorem dX7_greatestDivisor_1 : decode cX7_greatestDivisor 1 = .ok (.lstore 4, 2) := by decide +kernel
theorem dX7_greatestDivisor_3 : decode cX7_greatestDivisor 3 = .ok (.lload_n 2, 1) := by decide +kernel
theorem dX7_greatestDivisor_4 : decode cX7_greatestDivisor 4 = .ok (.lstore 6, 2) := by decide +kernel
theorem dX7_greatestDivisor_6 : decode cX7_greatestDivisor 6 = .ok (.iconst 0, 1) := by decide +kernel
theorem dX7_greatestDivisor_7 : decode cX7_greatestDivisor 7 = .ok (.istore 8, 2) := by decide +kernel
theorem dX7_greatestDivisor_9 : decode cX7_greatestDivisor 9 = .ok (.iload 8, 2) := by decide +kernel
theorem dX7_greatestDivisor_11 : decode cX7_greatestDivisor 11 = .ok (.sipush 200, 3) := by decide +kernel
theorem dX7_greatestDivisor_14 : decode cX7_greatestDivisor 14 = .ok (.if_icmp .ge 31, 3) := by decide +kernel
theorem dX7_greatestDivisor_17 : decode cX7_greatestDivisor 17 = .ok (.lload 6, 2) := by decide +kernel
theorem dX7_greatestDivisor_19 : decode cX7_greatestDivisor 19 = .ok (.lconst 0, 1) := by decide +kernel
theorem dX7_greatestDivisor_20 : decode cX7_greatestDivisor 20 = .ok (.lcmp, 1) := by decide +kernel
theorem dX7_greatestDivisor_21 : decode cX7_greatestDivisor 21 = .ok (.ifCond .eq 24, 3) := by decide +kernel
theorem dX7_greatestDivisor_24 : decode cX7_greatestDivisor 24 = .ok (.lload 4, 2) := by decide +kernel
theorem dX7_greatestDivisor_26 : decode cX7_greatestDivisor 26 = .ok (.lload 6, 2) := by decide +kernel
theorem dX7_greatestDivisor_28 : decode cX7_greatestDivisor 28 = .ok (.lrem, 1) := by decide +kernel
theorem dX7_greatestDivisor_29 : decode cX7_greatestDivisor 29 = .ok (.lstore 9, 2) := by decide +kernel
theorem dX7_greatestDivisor_31 : decode cX7_greatestDivisor 31 = .ok (.lload 6, 2) := by decide +kernel
theorem dX7_greatestDivisor_33 : decode cX7_greatestDivisor 33 = .ok (.lstore 4, 2) := by decide +kernel
theorem dX7_greatestDivisor_35 : decode cX7_greatestDivisor 35 = .ok (.lload 9, 2) := by decide +kernel
theorem dX7_greatestDivisor_37 : decode cX7_greatestDivisor 37 = .ok (.lstore 6, 2) := by decide +kernel
theorem dX7_greatestDivisor_39 : decode cX7_greatestDivisor 39 = .ok (.iinc 8 1, 3) := by decide +kernel
theorem dX7_greatestDivisor_42 : decode cX7_greatestDivisor 42 = .ok (.goto (-33), 3) := by decide +kernel
theorem dX7_greatestDivisor_45 : decode cX7_greatestDivisor 45 = .ok (.lload 4, 2) := by decide +kernel
theorem dX7_greatestDivisor_47 : decode cX7_greatestDivisor 47 = .ok (.lreturn, 1) := by decide +kernel
theorem dX7_shortestRow_0 : decode cX7_shortestRow 0 = .ok (.iconst 1, 1) := by decide +kernel
theorem dX7_shortestRow_1 : decode cX7_shortestRow 1 = .ok (.istore_n 3, 1) := by decide +kernel
theorem dX7_shortestRow_2 : decode cX7_shortestRow 2 = .ok (.iload_n 3, 1) := by decide +kernel
theorem dX7_shortestRow_3 : decode cX7_shortestRow 3 = .ok (.aload_n 0, 1) := by decide +kernel
theorem dX7_shortestRow_4 : decode cX7_shortestRow 4 = .ok (.getfield 10, 3) := by decide +kernel
theorem dX7_shortestRow_7 : decode cX7_shortestRow 7 = .ok (.getfield 74, 3) := by decide +kernel
theorem dX7_shortestRow_10 : decode cX7_shortestRow 10 = .ok (.if_icmp .gt 103, 3) := by decide +kernel
theorem dX7_shortestRow_13 : decode cX7_shortestRow 13 = .ok (.lconst 0, 1) := by decide +kernel
theorem dX7_shortestRow_14 : decode cX7_shortestRow 14 = .ok (.lstore 4, 2) := by decide +kernel
theorem dX7_shortestRow_16 : decode cX7_shortestRow 16 = .ok (.iconst 0, 1) := by decide +kernel
theorem dX7_shortestRow_17 : decode cX7_shortestRow 17 = .ok (.istore 6, 2) := by decide +kernel
theorem dX7_shortestRow_19 : decode cX7_shortestRow 19 = .ok (.iload 6, 2) := by decide +kernel
theorem dX7_shortestRow_21 : decode cX7_shortestRow 21 = .ok (.aload_n 0, 1) := by decide +kernel
theorem dX7_shortestRow_22 : decode cX7_shortestRow 22 = .ok (.getfield 10, 3) := by decide +kernel
theorem dX7_shortestRow_25 : decode cX7_shortestRow 25 = .ok (.getfield 74, 3) := by decide +kernel
theorem dX7_shortestRow_28 : decode cX7_shortestRow 28 = .ok (.if_icmp .ge 79, 3) := by decide +kernel
theorem dX7_shortestRow_31 : decode cX7_shortestRow 31 = .ok (.lload 4, 2) := by decide +kernel
theorem dX7_shortestRow_33 : decode cX7_shortestRow 33 = .ok (.aload_n 0, 1) := by decide +kernel
theorem dX7_shortestRow_34 : decode cX7_shortestRow 34 = .ok (.getfield 48, 3) := by decide +kernel
theorem dX7_shortestRow_37 : decode cX7_shortestRow 37 = .ok (.getfield 249, 3) := by decide +kernel
theorem dX7_shortestRow_40 : decode cX7_shortestRow 40 = .ok (.iload 6, 2) := by decide +kernel
theorem dX7_shortestRow_42 : decode cX7_shortestRow 42 = .ok (.laload, 1) := by decide +kernel
theorem dX7_shortestRow_43 : decode cX7_shortestRow 43 = .ok (.ladd, 1) := by decide +kernel
theorem dX7_shortestRow_44 : decode cX7_shortestRow 44 = .ok (.lstore 4, 2) := by decide +kernel
theorem dX7_shortestRow_46 : decode cX7_shortestRow 46 = .ok (.iload 6, 2) := by decide +kernel
theorem dX7_shortestRow_48 : decode cX7_shortestRow 48 = .ok (.iload_n 3, 1) := by decide +kernel
theorem dX7_shortestRow_49 : decode cX7_shortestRow 49 = .ok (.isub, 1) := by decide +kernel
theorem dX7_shortestRow_50 : decode cX7_shortestRow 50 = .ok (.iconst 1, 1) := by decide +kernel
theorem dX7_shortestRow_51 : decode cX7_shortestRow 51 = .ok (.iadd, 1) := by decide +kernel
theorem dX7_shortestRow_52 : decode cX7_shortestRow 52 = .ok (.istore 7, 2) := by decide +kernel
theorem dX7_shortestRow_54 : decode cX7_shortestRow 54 = .ok (.iload 7, 2) := by decide +kernel
theorem dX7_shortestRow_56 : decode cX7_shortestRow 56 = .ok (.ifCond .le 20, 3) := by decide +kernel
theorem dX7_shortestRow_59 : decode cX7_shortestRow 59 = .ok (.lload 4, 2) := by decide +kernel
theorem dX7_shortestRow_61 : decode cX7_shortestRow 61 = .ok (.aload_n 0, 1) := by decide +kernel
theorem dX7_shortestRow_62 : decode cX7_shortestRow 62 = .ok (.getfield 48, 3) := by decide +kernel
theorem dX7_shortestRow_65 : decode cX7_shortestRow 65 = .ok (.getfield 249, 3) := by decide +kernel
theorem dX7_shortestRow_68 : decode cX7_shortestRow 68 = .ok (.iload 7, 2) := by decide +kernel
theorem dX7_shortestRow_70 : decode cX7_shortestRow 70 = .ok (.iconst 1, 1) := by decide +kernel
theorem dX7_shortestRow_71 : decode cX7_shortestRow 71 = .ok (.isub, 1) := by decide +kernel
theorem dX7_shortestRow_72 : decode cX7_shortestRow 72 = .ok (.laload, 1) := by decide +kernel
theorem dX7_shortestRow_73 : decode cX7_shortestRow 73 = .ok (.lsub, 1) := by decide +kernel
theorem dX7_shortestRow_74 : decode cX7_shortestRow 74 = .ok (.lstore 4, 2) := by decide +kernel
theorem dX7_shortestRow_76 : decode cX7_shortestRow 76 = .ok (.iload 7, 2) := by decide +kernel
theorem dX7_shortestRow_78 : decode cX7_shortestRow 78 = .ok (.ifCond .lt 23, 3) := by decide +kernel
theorem dX7_shortestRow_81 : decode cX7_shortestRow 81 = .ok (.lload 4, 2) := by decide +kernel
theorem dX7_shortestRow_83 : decode cX7_shortestRow 83 = .ok (.ldc2_w 289, 3) := by decide +kernel
theorem dX7_shortestRow_86 : decode cX7_shortestRow 86 = .ok (.lmul, 1) := by decide +kernel
theorem dX7_shortestRow_87 : decode cX7_shortestRow 87 = .ok (.lload_n 1, 1) := by decide +kernel
theorem dX7_shortestRow_88 : decode cX7_shortestRow 88 = .ok (.lcmp, 1) := by decide +kernel
theorem dX7_shortestRow_89 : decode cX7_shortestRow 89 = .ok (.ifCond .lt 12, 3) := by decide +kernel
theorem dX7_shortestRow_92 : decode cX7_shortestRow 92 = .ok (.bipush 100, 2) := by decide +kernel
theorem dX7_shortestRow_94 : decode cX7_shortestRow 94 = .ok (.iload 7, 2) := by decide +kernel
theorem dX7_shortestRow_96 : decode cX7_shortestRow 96 = .ok (.imul, 1) := by decide +kernel
theorem dX7_shortestRow_97 : decode cX7_shortestRow 97 = .ok (.iload 6, 2) := by decide +kernel
theorem dX7_shortestRow_99 : decode cX7_shortestRow 99 = .ok (.iadd, 1) := by decide +kernel
theorem dX7_shortestRow_100 : decode cX7_shortestRow 100 = .ok (.ireturn, 1) := by decide +kernel
theorem dX7_shortestRow_101 : decode cX7_shortestRow 101 = .ok (.iinc 6 1, 3) := by decide +kernel
theorem dX7_shortestRow_104 : decode cX7_shortestRow 104 = .ok (.goto (-85), 3) := by decide +kernel
theorem dX7_shortestRow_107 : decode cX7_shortestRow 107 = .ok (.iinc 3 1, 3) := by decide +kernel
theorem dX7_shortestRow_110 : decode cX7_shortestRow 110 = .ok (.goto (-108), 3) := by decide +kernel
theorem dX7_shortestRow_113 : decode cX7_shortestRow 113 = .ok (.bipush (-4), 2) := by decide +kernel
theorem dX7_shortestRow_115 : decode cX7_shortestRow 115 = .ok (.ireturn, 1) := by decide +kernel
theorem dX7_settleYears_0 : decode cX7_settleYears 0 = .ok (.lload_n 1, 1) := by decide +kernel
theorem dX7_settleYears_1 : decode cX7_settleYears 1 = .ok (.lstore_n 3, 1) := by decide +kernel
theorem dX7_settleYears_2 : decode cX7_settleYears 2 = .ok (.lconst 1, 1) := by decide +kernel
theorem dX7_settleYears_3 : decode cX7_settleYears 3 = .ok (.lstore 5, 2) := by decide +kernel
theorem dX7_settleYears_5 : decode cX7_settleYears 5 = .ok (.iconst 0, 1) := by decide +kernel
theorem dX7_settleYears_6 : decode cX7_settleYears 6 = .ok (.istore 7, 2) := by decide +kernel
theorem dX7_settleYears_8 : decode cX7_settleYears 8 = .ok (.iload 7, 2) := by decide +kernel
theorem dX7_settleYears_10 : decode cX7_settleYears 10 = .ok (.aload_n 0, 1) := by decide +kernel
theorem dX7_settleYears_11 : decode cX7_settleYears 11 = .ok (.getfield 10, 3) := by decide +kernel
theorem dX7_settleYears_14 : decode cX7_settleYears 14 = .ok (.getfield 132, 3) := by decide +kernel
theorem dX7_settleYears_17 : decode cX7_settleYears 17 = .ok (.if_icmp .ge 103, 3) := by decide +kernel
theorem dX7_settleYears_20 : decode cX7_settleYears 20 = .ok (.aload_n 0, 1) := by decide +kernel
theorem dX7_settleYears_21 : decode cX7_settleYears 21 = .ok (.getfield 48, 3) := by decide +kernel
theorem dX7_settleYears_24 : decode cX7_settleYears 24 = .ok (.iload 7, 2) := by decide +kernel
theorem dX7_settleYears_26 : decode cX7_settleYears 26 = .ok (.invokevirtual 246, 3) := by decide +kernel
theorem dX7_settleYears_29 : decode cX7_settleYears 29 = .ok (.iconst 0, 1) := by decide +kernel
theorem dX7_settleYears_30 : decode cX7_settleYears 30 = .ok (.istore 8, 2) := by decide +kernel
theorem dX7_settleYears_32 : decode cX7_settleYears 32 = .ok (.iload 8, 2) := by decide +kernel
theorem dX7_settleYears_34 : decode cX7_settleYears 34 = .ok (.aload_n 0, 1) := by decide +kernel
theorem dX7_settleYears_35 : decode cX7_settleYears 35 = .ok (.getfield 10, 3) := by decide +kernel
theorem dX7_settleYears_38 : decode cX7_settleYears 38 = .ok (.getfield 74, 3) := by decide +kernel
theorem dX7_settleYears_41 : decode cX7_settleYears 41 = .ok (.iconst 1, 1) := by decide +kernel
theorem dX7_settleYears_42 : decode cX7_settleYears 42 = .ok (.isub, 1) := by decide +kernel
theorem dX7_settleYears_43 : decode cX7_settleYears 43 = .ok (.if_icmp .ge 37, 3) := by decide +kernel
theorem dX7_settleYears_46 : decode cX7_settleYears 46 = .ok (.lload_n 3, 1) := by decide +kernel
theorem dX7_settleYears_47 : decode cX7_settleYears 47 = .ok (.aload_n 0, 1) := by decide +kernel
theorem dX7_settleYears_48 : decode cX7_settleYears 48 = .ok (.getfield 48, 3) := by decide +kernel
theorem dX7_settleYears_51 : decode cX7_settleYears 51 = .ok (.getfield 249, 3) := by decide +kernel
theorem dX7_settleYears_54 : decode cX7_settleYears 54 = .ok (.iload 8, 2) := by decide +kernel
theorem dX7_settleYears_56 : decode cX7_settleYears 56 = .ok (.laload, 1) := by decide +kernel
theorem dX7_settleYears_57 : decode cX7_settleYears 57 = .ok (.lcmp, 1) := by decide +kernel
theorem dX7_settleYears_58 : decode cX7_settleYears 58 = .ok (.ifCond .lt 22, 3) := by decide +kernel
theorem dX7_settleYears_61 : decode cX7_settleYears 61 = .ok (.lload_n 3, 1) := by decide +kernel
theorem dX7_settleYears_62 : decode cX7_settleYears 62 = .ok (.aload_n 0, 1) := by decide +kernel
theorem dX7_settleYears_63 : decode cX7_settleYears 63 = .ok (.getfield 48, 3) := by decide +kernel
theorem dX7_settleYears_66 : decode cX7_settleYears 66 = .ok (.getfield 249, 3) := by decide +kernel
theorem dX7_settleYears_69 : decode cX7_settleYears 69 = .ok (.iload 8, 2) := by decide +kernel
theorem dX7_settleYears_71 : decode cX7_settleYears 71 = .ok (.laload, 1) := by decide +kernel
theorem dX7_settleYears_72 : decode cX7_settleYears 72 = .ok (.lsub, 1) := by decide +kernel
theorem dX7_settleYears_73 : decode cX7_settleYears 73 = .ok (.lstore_n 3, 1) := by decide +kernel
theorem dX7_settleYears_74 : decode cX7_settleYears 74 = .ok (.iinc 8 1, 3) := by decide +kernel
theorem dX7_settleYears_77 : decode cX7_settleYears 77 = .ok (.goto (-45), 3) := by decide +kernel
theorem dX7_settleYears_80 : decode cX7_settleYears 80 = .ok (.aload_n 0, 1) := by decide +kernel
theorem dX7_settleYears_81 : decode cX7_settleYears 81 = .ok (.getfield 48, 3) := by decide +kernel
theorem dX7_settleYears_84 : decode cX7_settleYears 84 = .ok (.getfield 249, 3) := by decide +kernel
theorem dX7_settleYears_87 : decode cX7_settleYears 87 = .ok (.iload 8, 2) := by decide +kernel
theorem dX7_settleYears_89 : decode cX7_settleYears 89 = .ok (.laload, 1) := by decide +kernel
theorem dX7_settleYears_90 : decode cX7_settleYears 90 = .ok (.lstore 5, 2) := by decide +kernel
theorem dX7_settleYears_92 : decode cX7_settleYears 92 = .ok (.aload_n 0, 1) := by decide +kernel
theorem dX7_settleYears_93 : decode cX7_settleYears 93 = .ok (.getfield 60, 3) := by decide +kernel
theorem dX7_settleYears_96 : decode cX7_settleYears 96 = .ok (.iload 7, 2) := by decide +kernel
theorem dX7_settleYears_98 : decode cX7_settleYears 98 = .ok (.iload 8, 2) := by decide +kernel
theorem dX7_settleYears_100 : decode cX7_settleYears 100 = .ok (.iastore, 1) := by decide +kernel
theorem dX7_settleYears_101 : decode cX7_settleYears 101 = .ok (.aload_n 0, 1) := by decide +kernel
theorem dX7_settleYears_102 : decode cX7_settleYears 102 = .ok (.getfield 39, 3) := by decide +kernel
theorem dX7_settleYears_105 : decode cX7_settleYears 105 = .ok (.iload 7, 2) := by decide +kernel
theorem dX7_settleYears_107 : decode cX7_settleYears 107 = .ok (.iload 8, 2) := by decide +kernel
theorem dX7_settleYears_109 : decode cX7_settleYears 109 = .ok (.iload 8, 2) := by decide +kernel
theorem dX7_settleYears_111 : decode cX7_settleYears 111 = .ok (.invokevirtual 240, 3) := by decide +kernel
theorem dX7_settleYears_114 : decode cX7_settleYears 114 = .ok (.iinc 7 1, 3) := by decide +kernel
theorem dX7_settleYears_117 : decode cX7_settleYears 117 = .ok (.goto (-109), 3) := by decide +kernel
theorem dX7_settleYears_120 : decode cX7_settleYears 120 = .ok (.lload 5, 2) := by decide +kernel
theorem dX7_settleYears_122 : decode cX7_settleYears 122 = .ok (.lreturn, 1) := by decide +kernel
theorem dX7_countAheadOfWaiting_0 : decode cX7_countAheadOfWaiting 0 = .ok (.lconst 0, 1) := by decide +kernel
theorem dX7_countAheadOfWaiting_1 : decode cX7_countAheadOfWaiting 1 = .ok (.lstore_n 2, 1) := by decide +kernel
theorem dX7_countAheadOfWaiting_2 : decode cX7_countAheadOfWaiting 2 = .ok (.iconst 0, 1) := by decide +kernel
theorem dX7_countAheadOfWaiting_3 : decode cX7_countAheadOfWaiting 3 = .ok (.istore 4, 2) := by decide +kernel
theorem dX7_countAheadOfWaiting_5 : decode cX7_countAheadOfWaiting 5 = .ok (.iload 4, 2) := by decide +kernel
theorem dX7_countAheadOfWaiting_7 : decode cX7_countAheadOfWaiting 7 = .ok (.iload_n 1, 1) := by decide +kernel
theorem dX7_countAheadOfWaiting_8 : decode cX7_countAheadOfWaiting 8 = .ok (.if_icmp .ge 61, 3) := by decide +kernel
theorem dX7_countAheadOfWaiting_11 : decode cX7_countAheadOfWaiting 11 = .ok (.aload_n 0, 1) := by decide +kernel
theorem dX7_countAheadOfWaiting_12 : decode cX7_countAheadOfWaiting 12 = .ok (.getfield 39, 3) := by decide +kernel
theorem dX7_countAheadOfWaiting_15 : decode cX7_countAheadOfWaiting 15 = .ok (.iload 4, 2) := by decide +kernel
theorem dX7_countAheadOfWaiting_17 : decode cX7_countAheadOfWaiting 17 = .ok (.iconst 0, 1) := by decide +kernel
theorem dX7_countAheadOfWaiting_18 : decode cX7_countAheadOfWaiting 18 = .ok (.aload_n 0, 1) := by decide +kernel
theorem dX7_countAheadOfWaiting_19 : decode cX7_countAheadOfWaiting 19 = .ok (.getfield 52, 3) := by decide +kernel
theorem dX7_countAheadOfWaiting_22 : decode cX7_countAheadOfWaiting 22 = .ok (.iload 4, 2) := by decide +kernel
theorem dX7_countAheadOfWaiting_24 : decode cX7_countAheadOfWaiting 24 = .ok (.iaload, 1) := by decide +kernel
theorem dX7_countAheadOfWaiting_25 : decode cX7_countAheadOfWaiting 25 = .ok (.iconst 1, 1) := by decide +kernel
theorem dX7_countAheadOfWaiting_26 : decode cX7_countAheadOfWaiting 26 = .ok (.isub, 1) := by decide +kernel
theorem dX7_countAheadOfWaiting_27 : decode cX7_countAheadOfWaiting 27 = .ok (.invokevirtual 240, 3) := by decide +kernel
theorem dX7_countAheadOfWaiting_30 : decode cX7_countAheadOfWaiting 30 = .ok (.lload_n 2, 1) := by decide +kernel
theorem dX7_countAheadOfWaiting_31 : decode cX7_countAheadOfWaiting 31 = .ok (.aload_n 0, 1) := by decide +kernel
theorem dX7_countAheadOfWaiting_32 : decode cX7_countAheadOfWaiting 32 = .ok (.getfield 48, 3) := by decide +kernel
theorem dX7_countAheadOfWaiting_35 : decode cX7_countAheadOfWaiting 35 = .ok (.invokevirtual 237, 3) := by decide +kernel
theorem dX7_countAheadOfWaiting_38 : decode cX7_countAheadOfWaiting 38 = .ok (.ladd, 1) := by decide +kernel
theorem dX7_countAheadOfWaiting_39 : decode cX7_countAheadOfWaiting 39 = .ok (.lstore_n 2, 1) := by decide +kernel
theorem dX7_countAheadOfWaiting_40 : decode cX7_countAheadOfWaiting 40 = .ok (.aload_n 0, 1) := by decide +kernel
theorem dX7_countAheadOfWaiting_41 : decode cX7_countAheadOfWaiting 41 = .ok (.getfield 39, 3) := by decide +kernel
theorem dX7_countAheadOfWaiting_44 : decode cX7_countAheadOfWaiting 44 = .ok (.iload 4, 2) := by decide +kernel
theorem dX7_countAheadOfWaiting_46 : decode cX7_countAheadOfWaiting 46 = .ok (.aload_n 0, 1) := by decide +kernel
theorem dX7_countAheadOfWaiting_47 : decode cX7_countAheadOfWaiting 47 = .ok (.getfield 52, 3) := by decide +kernel
theorem dX7_countAheadOfWaiting_50 : decode cX7_countAheadOfWaiting 50 = .ok (.iload 4, 2) := by decide +kernel
theorem dX7_countAheadOfWaiting_52 : decode cX7_countAheadOfWaiting 52 = .ok (.iaload, 1) := by decide +kernel
theorem dX7_countAheadOfWaiting_53 : decode cX7_countAheadOfWaiting 53 = .ok (.aload_n 0, 1) := by decide +kernel
theorem dX7_countAheadOfWaiting_54 : decode cX7_countAheadOfWaiting 54 = .ok (.getfield 52, 3) := by decide +kernel
theorem dX7_countAheadOfWaiting_57 : decode cX7_countAheadOfWaiting 57 = .ok (.iload 4, 2) := by decide +kernel
theorem dX7_countAheadOfWaiting_59 : decode cX7_countAheadOfWaiting 59 = .ok (.iaload, 1) := by decide +kernel
theorem dX7_countAheadOfWaiting_60 : decode cX7_countAheadOfWaiting 60 = .ok (.invokevirtual 240, 3) := by decide +kernel
theorem dX7_countAheadOfWaiting_63 : decode cX7_countAheadOfWaiting 63 = .ok (.iinc 4 1, 3) := by decide +kernel
theorem dX7_countAheadOfWaiting_66 : decode cX7_countAheadOfWaiting 66 = .ok (.goto (-61), 3) := by decide +kernel
theorem dX7_countAheadOfWaiting_69 : decode cX7_countAheadOfWaiting 69 = .ok (.aload_n 0, 1) := by decide +kernel
theorem dX7_countAheadOfWaiting_70 : decode cX7_countAheadOfWaiting 70 = .ok (.getfield 48, 3) := by decide +kernel
theorem dX7_countAheadOfWaiting_73 : decode cX7_countAheadOfWaiting 73 = .ok (.invokevirtual 237, 3) := by decide +kernel
theorem dX7_countAheadOfWaiting_76 : decode cX7_countAheadOfWaiting 76 = .ok (.lconst 0, 1) := by decide +kernel
theorem dX7_countAheadOfWaiting_77 : decode cX7_countAheadOfWaiting 77 = .ok (.lcmp, 1) := by decide +kernel
theorem dX7_countAheadOfWaiting_78 : decode cX7_countAheadOfWaiting 78 = .ok (.ifCond .ne 9, 3) := by decide +kernel
theorem dX7_countAheadOfWaiting_81 : decode cX7_countAheadOfWaiting 81 = .ok (.ldc2_w 270, 3) := by decide +kernel
theorem dX7_countAheadOfWaiting_84 : decode cX7_countAheadOfWaiting 84 = .ok (.goto 4, 3) := by decide +kernel
theorem dX7_countAheadOfWaiting_87 : decode cX7_countAheadOfWaiting 87 = .ok (.lload_n 2, 1) := by decide +kernel
theorem dX7_countAheadOfWaiting_88 : decode cX7_countAheadOfWaiting 88 = .ok (.lreturn, 1) := by decide +kernel
theorem dJ6_bitCount_0f7a4_0 : decode cJ6_bitCount_0f7a4 0 = .ok (.iload_n 0, 1) := by decide +kernel
theorem dJ6_bitCount_0f7a4_1 : decode cJ6_bitCount_0f7a4 1 = .ok (.iload_n 0, 1) := by decide +kernel
theorem dJ6_bitCount_0f7a4_2 : decode cJ6_bitCount_0f7a4 2 = .ok (.iconst 1, 1) := by decide +kernel
theorem dJ6_bitCount_0f7a4_3 : decode cJ6_bitCount_0f7a4 3 = .ok (.iushr, 1) := by decide +kernel
theorem dJ6_bitCount_0f7a4_4 : decode cJ6_bitCount_0f7a4 4 = .ok (.ldc_w 265, 3) := by decide +kernel
theorem dJ6_bitCount_0f7a4_7 : decode cJ6_bitCount_0f7a4 7 = .ok (.iand, 1) := by decide +kernel
theorem dJ6_bitCount_0f7a4_8 : decode cJ6_bitCount_0f7a4 8 = .ok (.isub, 1) := by decide +kernel
theorem dJ6_bitCount_0f7a4_9 : decode cJ6_bitCount_0f7a4 9 = .ok (.istore_n 0, 1) := by decide +kernel
theorem dJ6_bitCount_0f7a4_10 : decode cJ6_bitCount_0f7a4 10 = .ok (.iload_n 0, 1) := by decide +kernel
theorem dJ6_bitCount_0f7a4_11 : decode cJ6_bitCount_0f7a4 11 = .ok (.ldc_w 266, 3) := by decide +kernel
theorem dJ6_bitCount_0f7a4_14 : decode cJ6_bitCount_0f7a4 14 = .ok (.iand, 1) := by decide +kernel
theorem dJ6_bitCount_0f7a4_15 : decode cJ6_bitCount_0f7a4 15 = .ok (.iload_n 0, 1) := by decide +kernel
theorem dJ6_bitCount_0f7a4_16 : decode cJ6_bitCount_0f7a4 16 = .ok (.iconst 2, 1) := by decide +kernel
theorem dJ6_bitCount_0f7a4_17 : decode cJ6_bitCount_0f7a4 17 = .ok (.iushr, 1) := by decide +kernel
theorem dJ6_bitCount_0f7a4_18 : decode cJ6_bitCount_0f7a4 18 = .ok (.ldc_w 266, 3) := by decide +kernel
theorem dJ6_bitCount_0f7a4_21 : decode cJ6_bitCount_0f7a4 21 = .ok (.iand, 1) := by decide +kernel
theorem dJ6_bitCount_0f7a4_22 : decode cJ6_bitCount_0f7a4 22 = .ok (.iadd, 1) := by decide +kernel
theorem dJ6_bitCount_0f7a4_23 : decode cJ6_bitCount_0f7a4 23 = .ok (.istore_n 0, 1) := by decide +kernel
theorem dJ6_bitCount_0f7a4_24 : decode cJ6_bitCount_0f7a4 24 = .ok (.iload_n 0, 1) := by decide +kernel
theorem dJ6_bitCount_0f7a4_25 : decode cJ6_bitCount_0f7a4 25 = .ok (.iload_n 0, 1) := by decide +kernel
theorem dJ6_bitCount_0f7a4_26 : decode cJ6_bitCount_0f7a4 26 = .ok (.iconst 4, 1) := by decide +kernel
theorem dJ6_bitCount_0f7a4_27 : decode cJ6_bitCount_0f7a4 27 = .ok (.iushr, 1) := by decide +kernel
theorem dJ6_bitCount_0f7a4_28 : decode cJ6_bitCount_0f7a4 28 = .ok (.iadd, 1) := by decide +kernel
theorem dJ6_bitCount_0f7a4_29 : decode cJ6_bitCount_0f7a4 29 = .ok (.ldc_w 267, 3) := by decide +kernel
theorem dJ6_bitCount_0f7a4_32 : decode cJ6_bitCount_0f7a4 32 = .ok (.iand, 1) := by decide +kernel
theorem dJ6_bitCount_0f7a4_33 : decode cJ6_bitCount_0f7a4 33 = .ok (.istore_n 0, 1) := by decide +kernel
theorem dJ6_bitCount_0f7a4_34 : decode cJ6_bitCount_0f7a4 34 = .ok (.iload_n 0, 1) := by decide +kernel
theorem dJ6_bitCount_0f7a4_35 : decode cJ6_bitCount_0f7a4 35 = .ok (.iload_n 0, 1) := by decide +kernel
theorem dJ6_bitCount_0f7a4_36 : decode cJ6_bitCount_0f7a4 36 = .ok (.bipush 8, 2) := by decide +kernel
theorem dJ6_bitCount_0f7a4_38 : decode cJ6_bitCount_0f7a4 38 = .ok (.iushr, 1) := by decide +kernel
theorem dJ6_bitCount_0f7a4_39 : decode cJ6_bitCount_0f7a4 39 = .ok (.iadd, 1) := by decide +kernel
theorem dJ6_bitCount_0f7a4_40 : decode cJ6_bitCount_0f7a4 40 = .ok (.istore_n 0, 1) := by decide +kernel
theorem dJ6_bitCount_0f7a4_41 : decode cJ6_bitCount_0f7a4 41 = .ok (.iload_n 0, 1) := by decide +kernel
theorem dJ6_bitCount_0f7a4_42 : decode cJ6_bitCount_0f7a4 42 = .ok (.iload_n 0, 1) := by decide +kernel
theorem dJ6_bitCount_0f7a4_43 : decode cJ6_bitCount_0f7a4 43 = .ok (.bipush 16, 2) := by decide +kernel
theorem dJ6_bitCount_0f7a4_45 : decode cJ6_bitCount_0f7a4 45 = .ok (.iushr, 1) := by decide +kernel
theorem dJ6_bitCount_0f7a4_46 : decode cJ6_bitCount_0f7a4 46 = .ok (.iadd, 1) := by decide +kernel
theorem dJ6_bitCount_0f7a4_47 : decode cJ6_bitCount_0f7a4 47 = .ok (.istore_n 0, 1) := by decide +kernel
theorem dJ6_bitCount_0f7a4_48 : decode cJ6_bitCount_0f7a4 48 = .ok (.iload_n 0, 1) := by decide +kernel
theorem dJ6_bitCount_0f7a4_49 : decode cJ6_bitCount_0f7a4 49 = .ok (.bipush 63, 2) := by decide +kernel
theorem dJ6_bitCount_0f7a4_51 : decode cJ6_bitCount_0f7a4 51 = .ok (.iand, 1) := by decide +kernel
theorem dJ6_bitCount_0f7a4_52 : decode cJ6_bitCount_0f7a4 52 = .ok (.ireturn, 1) := by decide +kernel
theorem dJ9_abs_0f7a4_0 : decode cJ9_abs_0f7a4 0 = .ok (.iload_n 0, 1) := by decide +kernel
theorem dJ9_abs_0f7a4_1 : decode cJ9_abs_0f7a4 1 = .ok (.ifCond .ge 8, 3) := by decide +kernel
theorem dJ9_abs_0f7a4_4 : decode cJ9_abs_0f7a4 4 = .ok (.iload_n 0, 1) := by decide +kernel
theorem dJ9_abs_0f7a4_5 : decode cJ9_abs_0f7a4 5 = .ok (.ineg, 1) := by decide +kernel
theorem dJ9_abs_0f7a4_6 : decode cJ9_abs_0f7a4 6 = .ok (.goto 4, 3) := by decide +kernel
theorem dJ9_abs_0f7a4_9 : decode cJ9_abs_0f7a4 9 = .ok (.iload_n 0, 1) := by decide +kernel
theorem dJ9_abs_0f7a4_10 : decode cJ9_abs_0f7a4 10 = .ok (.ireturn, 1) := by decide +kernel
theorem dJ9_max_7cf53_0 : decode cJ9_max_7cf53 0 = .ok (.iload_n 0, 1) := by decide +kernel
theorem dJ9_max_7cf53_1 : decode cJ9_max_7cf53 1 = .ok (.iload_n 1, 1) := by decide +kernel
theorem dJ9_max_7cf53_2 : decode cJ9_max_7cf53 2 = .ok (.if_icmp .lt 7, 3) := by decide +kernel
theorem dJ9_max_7cf53_5 : decode cJ9_max_7cf53 5 = .ok (.iload_n 0, 1) := by decide +kernel
theorem dJ9_max_7cf53_6 : decode cJ9_max_7cf53 6 = .ok (.goto 4, 3) := by decide +kernel
theorem dJ9_max_7cf53_9 : decode cJ9_max_7cf53 9 = .ok (.iload_n 1, 1) := by decide +kernel
theorem dJ9_max_7cf53_10 : decode cJ9_max_7cf53 10 = .ok (.ireturn, 1) := by decide +kernel
theorem dJ9_min_7cf53_0 : decode cJ9_min_7cf53 0 = .ok (.iload_n 0, 1) := by decide +kernel
theorem dJ9_min_7cf53_1 : decode cJ9_min_7cf53 1 = .ok (.iload_n 1, 1) := by decide +kernel
theorem dJ9_min_7cf53_2 : decode cJ9_min_7cf53 2 = .ok (.if_icmp .gt 7, 3) := by decide +kernel
theorem dJ9_min_7cf53_5 : decode cJ9_min_7cf53 5 = .ok (.iload_n 0, 1) := by decide +kernel
theorem dJ9_min_7cf53_6 : decode cJ9_min_7cf53 6 = .ok (.goto 4, 3) := by decide +kernel
theorem dJ9_min_7cf53_9 : decode cJ9_min_7cf53 9 = .ok (.iload_n 1, 1) := by decide +kernel
theorem dJ9_min_7cf53_10 : decode cJ9_min_7cf53 10 = .ok (.ireturn, 1) := by decide +kernel
theorem dJ7_fill_d0a16_0 : decode cJ7_fill_d0a16 0 = .ok (.iconst 0, 1) := by decide +kernel
theorem dJ7_fill_d0a16_1 : decode cJ7_fill_d0a16 1 = .ok (.istore_n 3, 1) := by decide +kernel
theorem dJ7_fill_d0a16_2 : decode cJ7_fill_d0a16 2 = .ok (.aload_n 0, 1) := by decide +kernel
theorem dJ7_fill_d0a16_3 : decode cJ7_fill_d0a16 3 = .ok (.arraylength, 1) := by decide +kernel
theorem dJ7_fill_d0a16_4 : decode cJ7_fill_d0a16 4 = .ok (.istore 4, 2) := by decide +kernel
theorem dJ7_fill_d0a16_6 : decode cJ7_fill_d0a16 6 = .ok (.iload_n 3, 1) := by decide +kernel
theorem dJ7_fill_d0a16_7 : decode cJ7_fill_d0a16 7 = .ok (.iload 4, 2) := by decide +kernel
theorem dJ7_fill_d0a16_9 : decode cJ7_fill_d0a16 9 = .ok (.if_icmp .ge 13, 3) := by decide +kernel
theorem dJ7_fill_d0a16_12 : decode cJ7_fill_d0a16 12 = .ok (.aload_n 0, 1) := by decide +kernel
theorem dJ7_fill_d0a16_13 : decode cJ7_fill_d0a16 13 = .ok (.iload_n 3, 1) := by decide +kernel
theorem dJ7_fill_d0a16_14 : decode cJ7_fill_d0a16 14 = .ok (.lload_n 1, 1) := by decide +kernel
theorem dJ7_fill_d0a16_15 : decode cJ7_fill_d0a16 15 = .ok (.lastore, 1) := by decide +kernel
theorem dJ7_fill_d0a16_16 : decode cJ7_fill_d0a16 16 = .ok (.iinc 3 1, 3) := by decide +kernel
theorem dJ7_fill_d0a16_19 : decode cJ7_fill_d0a16 19 = .ok (.goto (-13), 3) := by decide +kernel
theorem dJ7_fill_d0a16_22 : decode cJ7_fill_d0a16 22 = .ok (.return_, 1) := by decide +kernel
theorem dJ7_fill_53178_0 : decode cJ7_fill_53178 0 = .ok (.iconst 0, 1) := by decide +kernel
theorem dJ7_fill_53178_1 : decode cJ7_fill_53178 1 = .ok (.istore_n 2, 1) := by decide +kernel
theorem dJ7_fill_53178_2 : decode cJ7_fill_53178 2 = .ok (.aload_n 0, 1) := by decide +kernel
theorem dJ7_fill_53178_3 : decode cJ7_fill_53178 3 = .ok (.arraylength, 1) := by decide +kernel
theorem dJ7_fill_53178_4 : decode cJ7_fill_53178 4 = .ok (.istore_n 3, 1) := by decide +kernel
theorem dJ7_fill_53178_5 : decode cJ7_fill_53178 5 = .ok (.iload_n 2, 1) := by decide +kernel
theorem dJ7_fill_53178_6 : decode cJ7_fill_53178 6 = .ok (.iload_n 3, 1) := by decide +kernel
theorem dJ7_fill_53178_7 : decode cJ7_fill_53178 7 = .ok (.if_icmp .ge 13, 3) := by decide +kernel
theorem dJ7_fill_53178_10 : decode cJ7_fill_53178 10 = .ok (.aload_n 0, 1) := by decide +kernel
theorem dJ7_fill_53178_11 : decode cJ7_fill_53178 11 = .ok (.iload_n 2, 1) := by decide +kernel
theorem dJ7_fill_53178_12 : decode cJ7_fill_53178 12 = .ok (.iload_n 1, 1) := by decide +kernel
theorem dJ7_fill_53178_13 : decode cJ7_fill_53178 13 = .ok (.iastore, 1) := by decide +kernel
theorem dJ7_fill_53178_14 : decode cJ7_fill_53178 14 = .ok (.iinc 2 1, 3) := by decide +kernel
theorem dJ7_fill_53178_17 : decode cJ7_fill_53178 17 = .ok (.goto (-12), 3) := by decide +kernel
theorem dJ7_fill_53178_20 : decode cJ7_fill_53178 20 = .ok (.return_, 1) := by decide +kernel
