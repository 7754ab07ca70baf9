theorem dX5_init_0 : decode cX5_init 0 = .ok (.aload_n 0, 1) := by decide +kernel
theorem dX5_init_1 : decode cX5_init 1 = .ok (.invokespecial 1, 3) := by decide +kernel
theorem dX5_init_4 : decode cX5_init 4 = .ok (.aload_n 0, 1) := by decide +kernel
theorem dX5_init_5 : decode cX5_init 5 = .ok (.new 7, 3) := by decide +kernel
theorem dX5_init_8 : decode cX5_init 8 = .ok (.dup, 1) := by decide +kernel
theorem dX5_init_9 : decode cX5_init 9 = .ok (.invokespecial 9, 3) := by decide +kernel
theorem dX5_init_12 : decode cX5_init 12 = .ok (.putfield 10, 3) := by decide +kernel
theorem dX5_init_15 : decode cX5_init 15 = .ok (.aload_n 0, 1) := by decide +kernel
theorem dX5_init_16 : decode cX5_init 16 = .ok (.new 16, 3) := by decide +kernel
theorem dX5_init_19 : decode cX5_init 19 = .ok (.dup, 1) := by decide +kernel
theorem dX5_init_20 : decode cX5_init 20 = .ok (.invokespecial 18, 3) := by decide +kernel
theorem dX5_init_23 : decode cX5_init 23 = .ok (.putfield 19, 3) := by decide +kernel
theorem dX5_init_26 : decode cX5_init 26 = .ok (.aload_n 0, 1) := by decide +kernel
theorem dX5_init_27 : decode cX5_init 27 = .ok (.new 23, 3) := by decide +kernel
theorem dX5_init_30 : decode cX5_init 30 = .ok (.dup, 1) := by decide +kernel
theorem dX5_init_31 : decode cX5_init 31 = .ok (.aload_n 0, 1) := by decide +kernel
theorem dX5_init_32 : decode cX5_init 32 = .ok (.getfield 10, 3) := by decide +kernel
theorem dX5_init_35 : decode cX5_init 35 = .ok (.aload_n 0, 1) := by decide +kernel
theorem dX5_init_36 : decode cX5_init 36 = .ok (.getfield 19, 3) := by decide +kernel
theorem dX5_init_39 : decode cX5_init 39 = .ok (.invokespecial 25, 3) := by decide +kernel
theorem dX5_init_42 : decode cX5_init 42 = .ok (.putfield 28, 3) := by decide +kernel
theorem dX5_init_45 : decode cX5_init 45 = .ok (.aload_n 0, 1) := by decide +kernel
theorem dX5_init_46 : decode cX5_init 46 = .ok (.new 32, 3) := by decide +kernel
theorem dX5_init_49 : decode cX5_init 49 = .ok (.dup, 1) := by decide +kernel
theorem dX5_init_50 : decode cX5_init 50 = .ok (.aload_n 0, 1) := by decide +kernel
theorem dX5_init_51 : decode cX5_init 51 = .ok (.getfield 10, 3) := by decide +kernel
theorem dX5_init_54 : decode cX5_init 54 = .ok (.aload_n 0, 1) := by decide +kernel
theorem dX5_init_55 : decode cX5_init 55 = .ok (.getfield 28, 3) := by decide +kernel
theorem dX5_init_58 : decode cX5_init 58 = .ok (.invokespecial 34, 3) := by decide +kernel
theorem dX5_init_61 : decode cX5_init 61 = .ok (.putfield 37, 3) := by decide +kernel
theorem dX5_init_64 : decode cX5_init 64 = .ok (.aload_n 0, 1) := by decide +kernel
theorem dX5_init_65 : decode cX5_init 65 = .ok (.iconst 4, 1) := by decide +kernel
theorem dX5_init_66 : decode cX5_init 66 = .ok (.anewarray 41, 3) := by decide +kernel
theorem dX5_init_69 : decode cX5_init 69 = .ok (.putfield 43, 3) := by decide +kernel
theorem dX5_init_72 : decode cX5_init 72 = .ok (.iconst 0, 1) := by decide +kernel
theorem dX5_init_73 : decode cX5_init 73 = .ok (.istore_n 1, 1) := by decide +kernel
theorem dX5_init_74 : decode cX5_init 74 = .ok (.iload_n 1, 1) := by decide +kernel
theorem dX5_init_75 : decode cX5_init 75 = .ok (.iconst 4, 1) := by decide +kernel
theorem dX5_init_76 : decode cX5_init 76 = .ok (.if_icmp .ge 22, 3) := by decide +kernel
theorem dX5_init_79 : decode cX5_init 79 = .ok (.aload_n 0, 1) := by decide +kernel
theorem dX5_init_80 : decode cX5_init 80 = .ok (.getfield 43, 3) := by decide +kernel
theorem dX5_init_83 : decode cX5_init 83 = .ok (.iload_n 1, 1) := by decide +kernel
theorem dX5_init_84 : decode cX5_init 84 = .ok (.new 41, 3) := by decide +kernel
theorem dX5_init_87 : decode cX5_init 87 = .ok (.dup, 1) := by decide +kernel
theorem dX5_init_88 : decode cX5_init 88 = .ok (.invokespecial 47, 3) := by decide +kernel
theorem dX5_init_91 : decode cX5_init 91 = .ok (.aastore, 1) := by decide +kernel
theorem dX5_init_92 : decode cX5_init 92 = .ok (.iinc 1 1, 3) := by decide +kernel
theorem dX5_init_95 : decode cX5_init 95 = .ok (.goto (-21), 3) := by decide +kernel
theorem dX5_init_98 : decode cX5_init 98 = .ok (.aload_n 0, 1) := by decide +kernel
theorem dX5_init_99 : decode cX5_init 99 = .ok (.iconst 4, 1) := by decide +kernel
theorem dX5_init_100 : decode cX5_init 100 = .ok (.newarray .int, 2) := by decide +kernel
theorem dX5_init_102 : decode cX5_init 102 = .ok (.putfield 48, 3) := by decide +kernel
theorem dX5_init_105 : decode cX5_init 105 = .ok (.aload_n 0, 1) := by decide +kernel
theorem dX5_init_106 : decode cX5_init 106 = .ok (.iconst (-1), 1) := by decide +kernel
theorem dX5_init_107 : decode cX5_init 107 = .ok (.putfield 52, 3) := by decide +kernel
theorem dX5_init_110 : decode cX5_init 110 = .ok (.return_, 1) := by decide +kernel
theorem dX5_terms_0 : decode cX5_terms 0 = .ok (.iload_n 1, 1) := by decide +kernel
theorem dX5_terms_1 : decode cX5_terms 1 = .ok (.iconst 1, 1) := by decide +kernel
theorem dX5_terms_2 : decode cX5_terms 2 = .ok (.sipush 1000, 3) := by decide +kernel
theorem dX5_terms_5 : decode cX5_terms 5 = .ok (.invokestatic 56, 3) := by decide +kernel
theorem dX5_terms_8 : decode cX5_terms 8 = .ok (.ifCond .eq 28, 3) := by decide +kernel
theorem dX5_terms_11 : decode cX5_terms 11 = .ok (.iload_n 2, 1) := by decide +kernel
theorem dX5_terms_12 : decode cX5_terms 12 = .ok (.iconst 1, 1) := by decide +kernel
theorem dX5_terms_13 : decode cX5_terms 13 = .ok (.sipush 10000, 3) := by decide +kernel
theorem dX5_terms_16 : decode cX5_terms 16 = .ok (.invokestatic 56, 3) := by decide +kernel
theorem dX5_terms_19 : decode cX5_terms 19 = .ok (.ifCond .eq 17, 3) := by decide +kernel
theorem dX5_terms_22 : decode cX5_terms 22 = .ok (.iload_n 3, 1) := by decide +kernel
theorem dX5_terms_23 : decode cX5_terms 23 = .ok (.iconst 0, 1) := by decide +kernel
theorem dX5_terms_24 : decode cX5_terms 24 = .ok (.bipush 20, 2) := by decide +kernel
theorem dX5_terms_26 : decode cX5_terms 26 = .ok (.invokestatic 56, 3) := by decide +kernel
theorem dX5_terms_29 : decode cX5_terms 29 = .ok (.ifCond .eq 7, 3) := by decide +kernel
theorem dX5_terms_32 : decode cX5_terms 32 = .ok (.iconst 1, 1) := by decide +kernel
theorem dX5_terms_33 : decode cX5_terms 33 = .ok (.goto 4, 3) := by decide +kernel
theorem dX5_terms_36 : decode cX5_terms 36 = .ok (.iconst 0, 1) := by decide +kernel
theorem dX5_terms_37 : decode cX5_terms 37 = .ok (.istore 8, 2) := by decide +kernel
theorem dX5_terms_39 : decode cX5_terms 39 = .ok (.iload 4, 2) := by decide +kernel
theorem dX5_terms_41 : decode cX5_terms 41 = .ok (.iconst 1, 1) := by decide +kernel
theorem dX5_terms_42 : decode cX5_terms 42 = .ok (.bipush 100, 2) := by decide +kernel
theorem dX5_terms_44 : decode cX5_terms 44 = .ok (.invokestatic 56, 3) := by decide +kernel
theorem dX5_terms_47 : decode cX5_terms 47 = .ok (.ifCond .eq 30, 3) := by decide +kernel
theorem dX5_terms_50 : decode cX5_terms 50 = .ok (.iload 5, 2) := by decide +kernel
theorem dX5_terms_52 : decode cX5_terms 52 = .ok (.iconst 0, 1) := by decide +kernel
theorem dX5_terms_53 : decode cX5_terms 53 = .ok (.sipush 1000, 3) := by decide +kernel
theorem dX5_terms_56 : decode cX5_terms 56 = .ok (.invokestatic 56, 3) := by decide +kernel
theorem dX5_terms_59 : decode cX5_terms 59 = .ok (.ifCond .eq 18, 3) := by decide +kernel
theorem dX5_terms_62 : decode cX5_terms 62 = .ok (.iload 6, 2) := by decide +kernel
theorem dX5_terms_64 : decode cX5_terms 64 = .ok (.iconst 1, 1) := by decide +kernel
theorem dX5_terms_65 : decode cX5_terms 65 = .ok (.bipush 100, 2) := by decide +kernel
theorem dX5_terms_67 : decode cX5_terms 67 = .ok (.invokestatic 56, 3) := by decide +kernel
theorem dX5_terms_70 : decode cX5_terms 70 = .ok (.ifCond .eq 7, 3) := by decide +kernel
theorem dX5_terms_73 : decode cX5_terms 73 = .ok (.iconst 1, 1) := by decide +kernel
theorem dX5_terms_74 : decode cX5_terms 74 = .ok (.goto 4, 3) := by decide +kernel
theorem dX5_terms_77 : decode cX5_terms 77 = .ok (.iconst 0, 1) := by decide +kernel
theorem dX5_terms_78 : decode cX5_terms 78 = .ok (.istore 9, 2) := by decide +kernel
theorem dX5_terms_80 : decode cX5_terms 80 = .ok (.iload 8, 2) := by decide +kernel
theorem dX5_terms_82 : decode cX5_terms 82 = .ok (.ifCond .eq 20, 3) := by decide +kernel
theorem dX5_terms_85 : decode cX5_terms 85 = .ok (.iload 9, 2) := by decide +kernel
theorem dX5_terms_87 : decode cX5_terms 87 = .ok (.ifCond .eq 15, 3) := by decide +kernel
theorem dX5_terms_90 : decode cX5_terms 90 = .ok (.iload 7, 2) := by decide +kernel
theorem dX5_terms_92 : decode cX5_terms 92 = .ok (.iconst 0, 1) := by decide +kernel
theorem dX5_terms_93 : decode cX5_terms 93 = .ok (.sipush 1000, 3) := by decide +kernel
theorem dX5_terms_96 : decode cX5_terms 96 = .ok (.invokestatic 56, 3) := by decide +kernel
theorem dX5_terms_99 : decode cX5_terms 99 = .ok (.ifCond .ne 5, 3) := by decide +kernel
theorem dX5_terms_102 : decode cX5_terms 102 = .ok (.iconst 0, 1) := by decide +kernel
theorem dX5_terms_103 : decode cX5_terms 103 = .ok (.ireturn, 1) := by decide +kernel
theorem dX5_terms_104 : decode cX5_terms 104 = .ok (.aload_n 0, 1) := by decide +kernel
theorem dX5_terms_105 : decode cX5_terms 105 = .ok (.getfield 10, 3) := by decide +kernel
theorem dX5_terms_108 : decode cX5_terms 108 = .ok (.iload_n 1, 1) := by decide +kernel
theorem dX5_terms_109 : decode cX5_terms 109 = .ok (.putfield 60, 3) := by decide +kernel
theorem dX5_terms_112 : decode cX5_terms 112 = .ok (.aload_n 0, 1) := by decide +kernel
theorem dX5_terms_113 : decode cX5_terms 113 = .ok (.getfield 10, 3) := by decide +kernel
theorem dX5_terms_116 : decode cX5_terms 116 = .ok (.iload_n 2, 1) := by decide +kernel
theorem dX5_terms_117 : decode cX5_terms 117 = .ok (.putfield 63, 3) := by decide +kernel
theorem dX5_terms_120 : decode cX5_terms 120 = .ok (.aload_n 0, 1) := by decide +kernel
theorem dX5_terms_121 : decode cX5_terms 121 = .ok (.getfield 10, 3) := by decide +kernel
theorem dX5_terms_124 : decode cX5_terms 124 = .ok (.iload_n 3, 1) := by decide +kernel
theorem dX5_terms_125 : decode cX5_terms 125 = .ok (.putfield 66, 3) := by decide +kernel
theorem dX5_terms_128 : decode cX5_terms 128 = .ok (.aload_n 0, 1) := by decide +kernel
theorem dX5_terms_129 : decode cX5_terms 129 = .ok (.getfield 10, 3) := by decide +kernel
theorem dX5_terms_132 : decode cX5_terms 132 = .ok (.iload 4, 2) := by decide +kernel
theorem dX5_terms_134 : decode cX5_terms 134 = .ok (.putfield 69, 3) := by decide +kernel
theorem dX5_terms_137 : decode cX5_terms 137 = .ok (.aload_n 0, 1) := by decide +kernel
theorem dX5_terms_138 : decode cX5_terms 138 = .ok (.getfield 10, 3) := by decide +kernel
theorem dX5_terms_141 : decode cX5_terms 141 = .ok (.iload 5, 2) := by decide +kernel
theorem dX5_terms_143 : decode cX5_terms 143 = .ok (.putfield 72, 3) := by decide +kernel
theorem dX5_terms_146 : decode cX5_terms 146 = .ok (.aload_n 0, 1) := by decide +kernel
theorem dX5_terms_147 : decode cX5_terms 147 = .ok (.getfield 10, 3) := by decide +kernel
theorem dX5_terms_150 : decode cX5_terms 150 = .ok (.iload 6, 2) := by decide +kernel
theorem dX5_terms_152 : decode cX5_terms 152 = .ok (.putfield 75, 3) := by decide +kernel
theorem dX5_terms_155 : decode cX5_terms 155 = .ok (.aload_n 0, 1) := by decide +kernel
theorem dX5_terms_156 : decode cX5_terms 156 = .ok (.getfield 10, 3) := by decide +kernel
theorem dX5_terms_159 : decode cX5_terms 159 = .ok (.iload 7, 2) := by decide +kernel
theorem dX5_terms_161 : decode cX5_terms 161 = .ok (.putfield 78, 3) := by decide +kernel
theorem dX5_terms_164 : decode cX5_terms 164 = .ok (.iconst 1, 1) := by decide +kernel
theorem dX5_terms_165 : decode cX5_terms 165 = .ok (.ireturn, 1) := by decide +kernel
theorem dX5_checks_0 : decode cX5_checks 0 = .ok (.iload_n 1, 1) := by decide +kernel
theorem dX5_checks_1 : decode cX5_checks 1 = .ok (.iconst 0, 1) := by decide +kernel
theorem dX5_checks_2 : decode cX5_checks 2 = .ok (.sipush 255, 3) := by decide +kernel
theorem dX5_checks_5 : decode cX5_checks 5 = .ok (.invokestatic 56, 3) := by decide +kernel
theorem dX5_checks_8 : decode cX5_checks 8 = .ok (.ifCond .ne 6, 3) := by decide +kernel
theorem dX5_checks_11 : decode cX5_checks 11 = .ok (.bipush (-2), 2) := by decide +kernel
theorem dX5_checks_13 : decode cX5_checks 13 = .ok (.ireturn, 1) := by decide +kernel
theorem dX5_checks_14 : decode cX5_checks 14 = .ok (.aload_n 0, 1) := by decide +kernel
theorem dX5_checks_15 : decode cX5_checks 15 = .ok (.getfield 10, 3) := by decide +kernel
theorem dX5_checks_18 : decode cX5_checks 18 = .ok (.getfield 81, 3) := by decide +kernel
theorem dX5_checks_21 : decode cX5_checks 21 = .ok (.istore_n 2, 1) := by decide +kernel
theorem dX5_checks_22 : decode cX5_checks 22 = .ok (.aload_n 0, 1) := by decide +kernel
theorem dX5_checks_23 : decode cX5_checks 23 = .ok (.getfield 10, 3) := by decide +kernel
theorem dX5_checks_26 : decode cX5_checks 26 = .ok (.iload_n 1, 1) := by decide +kernel
theorem dX5_checks_27 : decode cX5_checks 27 = .ok (.putfield 81, 3) := by decide +kernel
theorem dX5_checks_30 : decode cX5_checks 30 = .ok (.iload_n 2, 1) := by decide +kernel
theorem dX5_checks_31 : decode cX5_checks 31 = .ok (.ireturn, 1) := by decide +kernel
theorem dX5_house_0 : decode cX5_house 0 = .ok (.iload_n 1, 1) := by decide +kernel
theorem dX5_house_1 : decode cX5_house 1 = .ok (.bipush (-20), 2) := by decide +kernel
theorem dX5_house_3 : decode cX5_house 3 = .ok (.bipush 20, 2) := by decide +kernel
theorem dX5_house_5 : decode cX5_house 5 = .ok (.invokestatic 56, 3) := by decide +kernel
theorem dX5_house_8 : decode cX5_house 8 = .ok (.ifCond .eq 14, 3) := by decide +kernel
theorem dX5_house_11 : decode cX5_house 11 = .ok (.iload_n 3, 1) := by decide +kernel
theorem dX5_house_12 : decode cX5_house 12 = .ok (.iconst 0, 1) := by decide +kernel
theorem dX5_house_13 : decode cX5_house 13 = .ok (.sipush 255, 3) := by decide +kernel
theorem dX5_house_16 : decode cX5_house 16 = .ok (.invokestatic 56, 3) := by decide +kernel
theorem dX5_house_19 : decode cX5_house 19 = .ok (.ifCond .ne 6, 3) := by decide +kernel
theorem dX5_house_22 : decode cX5_house 22 = .ok (.bipush (-2), 2) := by decide +kernel
theorem dX5_house_24 : decode cX5_house 24 = .ok (.ireturn, 1) := by decide +kernel
theorem dX5_house_25 : decode cX5_house 25 = .ok (.aload_n 0, 1) := by decide +kernel
theorem dX5_house_26 : decode cX5_house 26 = .ok (.getfield 10, 3) := by decide +kernel
theorem dX5_house_29 : decode cX5_house 29 = .ok (.getfield 84, 3) := by decide +kernel
theorem dX5_house_32 : decode cX5_house 32 = .ok (.istore 4, 2) := by decide +kernel
theorem dX5_house_34 : decode cX5_house 34 = .ok (.iload 4, 2) := by decide +kernel
theorem dX5_house_36 : decode cX5_house 36 = .ok (.iconst 4, 1) := by decide +kernel
theorem dX5_house_37 : decode cX5_house 37 = .ok (.if_icmp .lt 6, 3) := by decide +kernel
theorem dX5_house_40 : decode cX5_house 40 = .ok (.bipush (-3), 2) := by decide +kernel
theorem dX5_house_42 : decode cX5_house 42 = .ok (.ireturn, 1) := by decide +kernel
theorem dX5_house_43 : decode cX5_house 43 = .ok (.aload_n 0, 1) := by decide +kernel
theorem dX5_house_44 : decode cX5_house 44 = .ok (.getfield 10, 3) := by decide +kernel
theorem dX5_house_47 : decode cX5_house 47 = .ok (.iload 4, 2) := by decide +kernel
theorem dX5_house_49 : decode cX5_house 49 = .ok (.iload_n 1, 1) := by decide +kernel
theorem dX5_house_50 : decode cX5_house 50 = .ok (.iload_n 2, 1) := by decide +kernel
theorem dX5_house_51 : decode cX5_house 51 = .ok (.iload_n 3, 1) := by decide +kernel
theorem dX5_house_52 : decode cX5_house 52 = .ok (.invokevirtual 87, 3) := by decide +kernel
theorem dX5_house_55 : decode cX5_house 55 = .ok (.aload_n 0, 1) := by decide +kernel
theorem dX5_house_56 : decode cX5_house 56 = .ok (.getfield 28, 3) := by decide +kernel
theorem dX5_house_59 : decode cX5_house 59 = .ok (.iload 4, 2) := by decide +kernel
theorem dX5_house_61 : decode cX5_house 61 = .ok (.invokevirtual 91, 3) := by decide +kernel
theorem dX5_house_64 : decode cX5_house 64 = .ok (.iload 4, 2) := by decide +kernel
theorem dX5_house_66 : decode cX5_house 66 = .ok (.ireturn, 1) := by decide +kernel
theorem dX5_throwOut_0 : decode cX5_throwOut 0 = .ok (.aload_n 0, 1) := by decide +kernel
theorem dX5_throwOut_1 : decode cX5_throwOut 1 = .ok (.getfield 10, 3) := by decide +kernel
theorem dX5_throwOut_4 : decode cX5_throwOut 4 = .ok (.iload_n 1, 1) := by decide +kernel
theorem dX5_throwOut_5 : decode cX5_throwOut 5 = .ok (.invokevirtual 95, 3) := by decide +kernel
theorem dX5_throwOut_8 : decode cX5_throwOut 8 = .ok (.ifCond .ne 5, 3) := by decide +kernel
theorem dX5_throwOut_11 : decode cX5_throwOut 11 = .ok (.iconst 0, 1) := by decide +kernel
theorem dX5_throwOut_12 : decode cX5_throwOut 12 = .ok (.ireturn, 1) := by decide +kernel
theorem dX5_throwOut_13 : decode cX5_throwOut 13 = .ok (.aload_n 0, 1) := by decide +kernel
theorem dX5_throwOut_14 : decode cX5_throwOut 14 = .ok (.getfield 10, 3) := by decide +kernel
theorem dX5_throwOut_17 : decode cX5_throwOut 17 = .ok (.dup, 1) := by decide +kernel
theorem dX5_throwOut_18 : decode cX5_throwOut 18 = .ok (.getfield 99, 3) := by decide +kernel
theorem dX5_throwOut_21 : decode cX5_throwOut 21 = .ok (.iconst 1, 1) := by decide +kernel
theorem dX5_throwOut_22 : decode cX5_throwOut 22 = .ok (.iload_n 1, 1) := by decide +kernel
theorem dX5_throwOut_23 : decode cX5_throwOut 23 = .ok (.ishl, 1) := by decide +kernel
theorem dX5_throwOut_24 : decode cX5_throwOut 24 = .ok (.iconst (-1), 1) := by decide +kernel
theorem dX5_throwOut_25 : decode cX5_throwOut 25 = .ok (.ixor, 1) := by decide +kernel
theorem dX5_throwOut_26 : decode cX5_throwOut 26 = .ok (.iand, 1) := by decide +kernel
theorem dX5_throwOut_27 : decode cX5_throwOut 27 = .ok (.putfield 99, 3) := by decide +kernel
theorem dX5_throwOut_30 : decode cX5_throwOut 30 = .ok (.iconst 1, 1) := by decide +kernel
theorem dX5_throwOut_31 : decode cX5_throwOut 31 = .ok (.ireturn, 1) := by decide +kernel
theorem dX5_keeper_0 : decode cX5_keeper 0 = .ok (.aload_n 0, 1) := by decide +kernel
theorem dX5_keeper_1 : decode cX5_keeper 1 = .ok (.getfield 10, 3) := by decide +kernel
theorem dX5_keeper_4 : decode cX5_keeper 4 = .ok (.getfield 102, 3) := by decide +kernel
theorem dX5_keeper_7 : decode cX5_keeper 7 = .ok (.istore_n 2, 1) := by decide +kernel
theorem dX5_keeper_8 : decode cX5_keeper 8 = .ok (.aload_n 0, 1) := by decide +kernel
theorem dX5_keeper_9 : decode cX5_keeper 9 = .ok (.getfield 10, 3) := by decide +kernel
theorem dX5_keeper_12 : decode cX5_keeper 12 = .ok (.iload_n 1, 1) := by decide +kernel
theorem dX5_keeper_13 : decode cX5_keeper 13 = .ok (.putfield 102, 3) := by decide +kernel
theorem dX5_keeper_16 : decode cX5_keeper 16 = .ok (.iload_n 2, 1) := by decide +kernel
theorem dX5_keeper_17 : decode cX5_keeper 17 = .ok (.ireturn, 1) := by decide +kernel
theorem dX5_tap_0 : decode cX5_tap 0 = .ok (.iload_n 1, 1) := by decide +kernel
theorem dX5_tap_1 : decode cX5_tap 1 = .ok (.iconst 0, 1) := by decide +kernel
theorem dX5_tap_2 : decode cX5_tap 2 = .ok (.sipush 511, 3) := by decide +kernel
theorem dX5_tap_5 : decode cX5_tap 5 = .ok (.invokestatic 56, 3) := by decide +kernel
theorem dX5_tap_8 : decode cX5_tap 8 = .ok (.ifCond .ne 6, 3) := by decide +kernel
theorem dX5_tap_11 : decode cX5_tap 11 = .ok (.bipush (-2), 2) := by decide +kernel
theorem dX5_tap_13 : decode cX5_tap 13 = .ok (.ireturn, 1) := by decide +kernel
theorem dX5_tap_14 : decode cX5_tap 14 = .ok (.aload_n 0, 1) := by decide +kernel
theorem dX5_tap_15 : decode cX5_tap 15 = .ok (.getfield 10, 3) := by decide +kernel
theorem dX5_tap_18 : decode cX5_tap 18 = .ok (.getfield 106, 3) := by decide +kernel
theorem dX5_tap_21 : decode cX5_tap 21 = .ok (.istore_n 2, 1) := by decide +kernel
theorem dX5_tap_22 : decode cX5_tap 22 = .ok (.aload_n 0, 1) := by decide +kernel
theorem dX5_tap_23 : decode cX5_tap 23 = .ok (.getfield 10, 3) := by decide +kernel
theorem dX5_tap_26 : decode cX5_tap 26 = .ok (.iload_n 1, 1) := by decide +kernel
theorem dX5_tap_27 : decode cX5_tap 27 = .ok (.putfield 106, 3) := by decide +kernel
theorem dX5_tap_30 : decode cX5_tap 30 = .ok (.iload_n 2, 1) := by decide +kernel
theorem dX5_tap_31 : decode cX5_tap 31 = .ok (.ireturn, 1) := by decide +kernel
theorem dX5_prove_0 : decode cX5_prove 0 = .ok (.iload_n 1, 1) := by decide +kernel
theorem dX5_prove_1 : decode cX5_prove 1 = .ok (.invokestatic 109, 3) := by decide +kernel
theorem dX5_prove_4 : decode cX5_prove 4 = .ok (.ifCond .eq 13, 3) := by decide +kernel
theorem dX5_prove_7 : decode cX5_prove 7 = .ok (.aload_n 0, 1) := by decide +kernel
theorem dX5_prove_8 : decode cX5_prove 8 = .ok (.getfield 10, 3) := by decide +kernel
theorem dX5_prove_11 : decode cX5_prove 11 = .ok (.getfield 102, 3) := by decide +kernel
theorem dX5_prove_14 : decode cX5_prove 14 = .ok (.ifCond .ne 5, 3) := by decide +kernel
theorem dX5_prove_17 : decode cX5_prove 17 = .ok (.iconst 0, 1) := by decide +kernel
theorem dX5_prove_18 : decode cX5_prove 18 = .ok (.ireturn, 1) := by decide +kernel
theorem dX5_prove_19 : decode cX5_prove 19 = .ok (.aload_n 0, 1) := by decide +kernel
theorem dX5_prove_20 : decode cX5_prove 20 = .ok (.getfield 10, 3) := by decide +kernel
theorem dX5_prove_23 : decode cX5_prove 23 = .ok (.getfield 112, 3) := by decide +kernel
theorem dX5_prove_26 : decode cX5_prove 26 = .ok (.iload_n 1, 1) := by decide +kernel
theorem dX5_prove_27 : decode cX5_prove 27 = .ok (.aload_n 0, 1) := by decide +kernel
theorem dX5_prove_28 : decode cX5_prove 28 = .ok (.getfield 28, 3) := by decide +kernel
theorem dX5_prove_31 : decode cX5_prove 31 = .ok (.invokevirtual 115, 3) := by decide +kernel
theorem dX5_prove_34 : decode cX5_prove 34 = .ok (.iastore, 1) := by decide +kernel
theorem dX5_prove_35 : decode cX5_prove 35 = .ok (.iconst 1, 1) := by decide +kernel
theorem dX5_prove_36 : decode cX5_prove 36 = .ok (.ireturn, 1) := by decide +kernel
theorem dX5_leave_0 : decode cX5_leave 0 = .ok (.iload_n 1, 1) := by decide +kernel
theorem dX5_leave_1 : decode cX5_leave 1 = .ok (.invokestatic 109, 3) := by decide +kernel
theorem dX5_leave_4 : decode cX5_leave 4 = .ok (.ifCond .ne 6, 3) := by decide +kernel
theorem dX5_leave_7 : decode cX5_leave 7 = .ok (.bipush (-2), 2) := by decide +kernel
theorem dX5_leave_9 : decode cX5_leave 9 = .ok (.ireturn, 1) := by decide +kernel
theorem dX5_leave_10 : decode cX5_leave 10 = .ok (.aload_n 0, 1) := by decide +kernel
theorem dX5_leave_11 : decode cX5_leave 11 = .ok (.getfield 10, 3) := by decide +kernel
theorem dX5_leave_14 : decode cX5_leave 14 = .ok (.getfield 102, 3) := by decide +kernel
theorem dX5_leave_17 : decode cX5_leave 17 = .ok (.ifCond .ne 6, 3) := by decide +kernel
theorem dX5_leave_20 : decode cX5_leave 20 = .ok (.bipush (-3), 2) := by decide +kernel
theorem dX5_leave_22 : decode cX5_leave 22 = .ok (.ireturn, 1) := by decide +kernel
theorem dX5_leave_23 : decode cX5_leave 23 = .ok (.aload_n 0, 1) := by decide +kernel
theorem dX5_leave_24 : decode cX5_leave 24 = .ok (.getfield 10, 3) := by decide +kernel
theorem dX5_leave_27 : decode cX5_leave 27 = .ok (.getfield 112, 3) := by decide +kernel
theorem dX5_leave_30 : decode cX5_leave 30 = .ok (.iload_n 1, 1) := by decide +kernel
theorem dX5_leave_31 : decode cX5_leave 31 = .ok (.iconst (-1), 1) := by decide +kernel
theorem dX5_leave_32 : decode cX5_leave 32 = .ok (.iastore, 1) := by decide +kernel
theorem dX5_leave_33 : decode cX5_leave 33 = .ok (.aload_n 0, 1) := by decide +kernel
theorem dX5_leave_34 : decode cX5_leave 34 = .ok (.getfield 28, 3) := by decide +kernel
theorem dX5_leave_37 : decode cX5_leave 37 = .ok (.iload_n 1, 1) := by decide +kernel
theorem dX5_leave_38 : decode cX5_leave 38 = .ok (.invokevirtual 119, 3) := by decide +kernel
theorem dX5_leave_41 : decode cX5_leave 41 = .ok (.ireturn, 1) := by decide +kernel
theorem dX5_end_0 : decode cX5_end 0 = .ok (.aload_n 0, 1) := by decide +kernel
theorem dX5_end_1 : decode cX5_end 1 = .ok (.getfield 10, 3) := by decide +kernel
theorem dX5_end_4 : decode cX5_end 4 = .ok (.getfield 102, 3) := by decide +kernel
theorem dX5_end_7 : decode cX5_end 7 = .ok (.ifCond .eq 25, 3) := by decide +kernel
theorem dX5_end_10 : decode cX5_end 10 = .ok (.aload_n 0, 1) := by decide +kernel
theorem dX5_end_11 : decode cX5_end 11 = .ok (.getfield 28, 3) := by decide +kernel
theorem dX5_end_14 : decode cX5_end 14 = .ok (.iload_n 1, 1) := by decide +kernel
theorem dX5_end_15 : decode cX5_end 15 = .ok (.invokevirtual 123, 3) := by decide +kernel
theorem dX5_end_18 : decode cX5_end 18 = .ok (.ifCond .eq 14, 3) := by decide +kernel
theorem dX5_end_21 : decode cX5_end 21 = .ok (.aload_n 0, 1) := by decide +kernel
theorem dX5_end_22 : decode cX5_end 22 = .ok (.getfield 28, 3) := by decide +kernel
theorem dX5_end_25 : decode cX5_end 25 = .ok (.iload_n 1, 1) := by decide +kernel
theorem dX5_end_26 : decode cX5_end 26 = .ok (.invokevirtual 126, 3) := by decide +kernel
theorem dX5_end_29 : decode cX5_end 29 = .ok (.ifCond .eq 5, 3) := by decide +kernel
theorem dX5_end_32 : decode cX5_end 32 = .ok (.iconst 0, 1) := by decide +kernel
theorem dX5_end_33 : decode cX5_end 33 = .ok (.ireturn, 1) := by decide +kernel
theorem dX5_end_34 : decode cX5_end 34 = .ok (.aload_n 0, 1) := by decide +kernel
theorem dX5_end_35 : decode cX5_end 35 = .ok (.getfield 28, 3) := by decide +kernel
theorem dX5_end_38 : decode cX5_end 38 = .ok (.iload_n 1, 1) := by decide +kernel
theorem dX5_end_39 : decode cX5_end 39 = .ok (.invokevirtual 129, 3) := by decide +kernel
theorem dX5_end_42 : decode cX5_end 42 = .ok (.iconst 1, 1) := by decide +kernel
theorem dX5_end_43 : decode cX5_end 43 = .ok (.ireturn, 1) := by decide +kernel
theorem dX5_ask_0 : decode cX5_ask 0 = .ok (.iload_n 1, 1) := by decide +kernel
theorem dX5_ask_1 : decode cX5_ask 1 = .ok (.invokestatic 109, 3) := by decide +kernel
theorem dX5_ask_4 : decode cX5_ask 4 = .ok (.ifCond .eq 25, 3) := by decide +kernel
theorem dX5_ask_7 : decode cX5_ask 7 = .ok (.aload_n 0, 1) := by decide +kernel
theorem dX5_ask_8 : decode cX5_ask 8 = .ok (.getfield 10, 3) := by decide +kernel
theorem dX5_ask_11 : decode cX5_ask 11 = .ok (.iload_n 2, 1) := by decide +kernel
theorem dX5_ask_12 : decode cX5_ask 12 = .ok (.invokevirtual 132, 3) := by decide +kernel
theorem dX5_ask_15 : decode cX5_ask 15 = .ok (.ifCond .eq 14, 3) := by decide +kernel
theorem dX5_ask_18 : decode cX5_ask 18 = .ok (.iload_n 3, 1) := by decide +kernel
theorem dX5_ask_19 : decode cX5_ask 19 = .ok (.iconst 1, 1) := by decide +kernel
theorem dX5_ask_20 : decode cX5_ask 20 = .ok (.sipush 255, 3) := by decide +kernel
theorem dX5_ask_23 : decode cX5_ask 23 = .ok (.invokestatic 56, 3) := by decide +kernel
theorem dX5_ask_26 : decode cX5_ask 26 = .ok (.ifCond .ne 6, 3) := by decide +kernel
theorem dX5_ask_29 : decode cX5_ask 29 = .ok (.bipush (-2), 2) := by decide +kernel
theorem dX5_ask_31 : decode cX5_ask 31 = .ok (.ireturn, 1) := by decide +kernel
theorem dX5_ask_32 : decode cX5_ask 32 = .ok (.aload_n 0, 1) := by decide +kernel
theorem dX5_ask_33 : decode cX5_ask 33 = .ok (.getfield 28, 3) := by decide +kernel
theorem dX5_ask_36 : decode cX5_ask 36 = .ok (.iload_n 1, 1) := by decide +kernel
theorem dX5_ask_37 : decode cX5_ask 37 = .ok (.invokevirtual 135, 3) := by decide +kernel
theorem dX5_ask_40 : decode cX5_ask 40 = .ok (.istore 4, 2) := by decide +kernel
theorem dX5_ask_42 : decode cX5_ask 42 = .ok (.aload_n 0, 1) := by decide +kernel
theorem dX5_ask_43 : decode cX5_ask 43 = .ok (.getfield 28, 3) := by decide +kernel
theorem dX5_ask_46 : decode cX5_ask 46 = .ok (.iload_n 1, 1) := by decide +kernel
theorem dX5_ask_47 : decode cX5_ask 47 = .ok (.bipush 9, 2) := by decide +kernel
theorem dX5_ask_49 : decode cX5_ask 49 = .ok (.iconst 0, 1) := by decide +kernel
theorem dX5_ask_50 : decode cX5_ask 50 = .ok (.iload_n 2, 1) := by decide +kernel
theorem dX5_ask_51 : decode cX5_ask 51 = .ok (.iload_n 3, 1) := by decide +kernel
theorem dX5_ask_52 : decode cX5_ask 52 = .ok (.iload 4, 2) := by decide +kernel
theorem dX5_ask_54 : decode cX5_ask 54 = .ok (.invokevirtual 138, 3) := by decide +kernel
theorem dX5_ask_57 : decode cX5_ask 57 = .ok (.iload 4, 2) := by decide +kernel
theorem dX5_ask_59 : decode cX5_ask 59 = .ok (.ireturn, 1) := by decide +kernel
theorem dX5_turn_0 : decode cX5_turn 0 = .ok (.iload_n 1, 1) := by decide +kernel
theorem dX5_turn_1 : decode cX5_turn 1 = .ok (.invokestatic 109, 3) := by decide +kernel
theorem dX5_turn_4 : decode cX5_turn 4 = .ok (.ifCond .eq 14, 3) := by decide +kernel
theorem dX5_turn_7 : decode cX5_turn 7 = .ok (.aload_n 0, 1) := by decide +kernel
theorem dX5_turn_8 : decode cX5_turn 8 = .ok (.getfield 28, 3) := by decide +kernel
theorem dX5_turn_11 : decode cX5_turn 11 = .ok (.iload_n 2, 1) := by decide +kernel
theorem dX5_turn_12 : decode cX5_turn 12 = .ok (.invokevirtual 142, 3) := by decide +kernel
theorem dX5_turn_15 : decode cX5_turn 15 = .ok (.ifCond .ne 6, 3) := by decide +kernel
theorem dX5_turn_18 : decode cX5_turn 18 = .ok (.bipush (-2), 2) := by decide +kernel
theorem dX5_turn_20 : decode cX5_turn 20 = .ok (.ireturn, 1) := by decide +kernel
theorem dX5_turn_21 : decode cX5_turn 21 = .ok (.aload_n 0, 1) := by decide +kernel
theorem dX5_turn_22 : decode cX5_turn 22 = .ok (.getfield 28, 3) := by decide +kernel
theorem dX5_turn_25 : decode cX5_turn 25 = .ok (.iload_n 1, 1) := by decide +kernel
theorem dX5_turn_26 : decode cX5_turn 26 = .ok (.iload_n 2, 1) := by decide +kernel
theorem dX5_turn_27 : decode cX5_turn 27 = .ok (.invokevirtual 145, 3) := by decide +kernel
theorem dX5_turn_30 : decode cX5_turn 30 = .ok (.ifCond .eq 16, 3) := by decide +kernel
theorem dX5_turn_33 : decode cX5_turn 33 = .ok (.aload_n 0, 1) := by decide +kernel
theorem dX5_turn_34 : decode cX5_turn 34 = .ok (.getfield 28, 3) := by decide +kernel
theorem dX5_turn_37 : decode cX5_turn 37 = .ok (.iload_n 2, 1) := by decide +kernel
theorem dX5_turn_38 : decode cX5_turn 38 = .ok (.iconst 0, 1) := by decide +kernel
theorem dX5_turn_39 : decode cX5_turn 39 = .ok (.invokevirtual 149, 3) := by decide +kernel
theorem dX5_turn_42 : decode cX5_turn 42 = .ok (.iconst 1, 1) := by decide +kernel
theorem dX5_turn_43 : decode cX5_turn 43 = .ok (.if_icmp .eq 6, 3) := by decide +kernel
theorem dX5_turn_46 : decode cX5_turn 46 = .ok (.bipush (-3), 2) := by decide +kernel
theorem dX5_turn_48 : decode cX5_turn 48 = .ok (.ireturn, 1) := by decide +kernel
theorem dX5_turn_49 : decode cX5_turn 49 = .ok (.aload_n 0, 1) := by decide +kernel
theorem dX5_turn_50 : decode cX5_turn 50 = .ok (.getfield 28, 3) := by decide +kernel
theorem dX5_turn_53 : decode cX5_turn 53 = .ok (.iload_n 1, 1) := by decide +kernel
theorem dX5_turn_54 : decode cX5_turn 54 = .ok (.invokevirtual 135, 3) := by decide +kernel
theorem dX5_turn_57 : decode cX5_turn 57 = .ok (.istore_n 3, 1) := by decide +kernel
theorem dX5_turn_58 : decode cX5_turn 58 = .ok (.aload_n 0, 1) := by decide +kernel
theorem dX5_turn_59 : decode cX5_turn 59 = .ok (.getfield 28, 3) := by decide +kernel
theorem dX5_turn_62 : decode cX5_turn 62 = .ok (.iload_n 1, 1) := by decide +kernel
theorem dX5_turn_63 : decode cX5_turn 63 = .ok (.bipush 9, 2) := by decide +kernel
theorem dX5_turn_65 : decode cX5_turn 65 = .ok (.iconst 3, 1) := by decide +kernel
theorem dX5_turn_66 : decode cX5_turn 66 = .ok (.iload_n 2, 1) := by decide +kernel
theorem dX5_turn_67 : decode cX5_turn 67 = .ok (.iconst (-1), 1) := by decide +kernel
theorem dX5_turn_68 : decode cX5_turn 68 = .ok (.iload_n 3, 1) := by decide +kernel
theorem dX5_turn_69 : decode cX5_turn 69 = .ok (.invokevirtual 138, 3) := by decide +kernel
theorem dX5_turn_72 : decode cX5_turn 72 = .ok (.iload_n 3, 1) := by decide +kernel
theorem dX5_turn_73 : decode cX5_turn 73 = .ok (.ireturn, 1) := by decide +kernel
theorem dX5_show_0 : decode cX5_show 0 = .ok (.aload_n 0, 1) := by decide +kernel
theorem dX5_show_1 : decode cX5_show 1 = .ok (.getfield 10, 3) := by decide +kernel
theorem dX5_show_4 : decode cX5_show 4 = .ok (.iload_n 2, 1) := by decide +kernel
theorem dX5_show_5 : decode cX5_show 5 = .ok (.invokevirtual 132, 3) := by decide +kernel
theorem dX5_show_8 : decode cX5_show 8 = .ok (.ifCond .eq 23, 3) := by decide +kernel
theorem dX5_show_11 : decode cX5_show 11 = .ok (.iload 4, 2) := by decide +kernel
theorem dX5_show_13 : decode cX5_show 13 = .ok (.invokestatic 153, 3) := by decide +kernel
theorem dX5_show_16 : decode cX5_show 16 = .ok (.ifCond .eq 15, 3) := by decide +kernel
theorem dX5_show_19 : decode cX5_show 19 = .ok (.aload_n 0, 1) := by decide +kernel
theorem dX5_show_20 : decode cX5_show 20 = .ok (.getfield 28, 3) := by decide +kernel
theorem dX5_show_23 : decode cX5_show 23 = .ok (.iload_n 1, 1) := by decide +kernel
theorem dX5_show_24 : decode cX5_show 24 = .ok (.iload_n 3, 1) := by decide +kernel
theorem dX5_show_25 : decode cX5_show 25 = .ok (.invokevirtual 145, 3) := by decide +kernel
theorem dX5_show_28 : decode cX5_show 28 = .ok (.ifCond .ne 5, 3) := by decide +kernel
theorem dX5_show_31 : decode cX5_show 31 = .ok (.iconst 0, 1) := by decide +kernel
theorem dX5_show_32 : decode cX5_show 32 = .ok (.ireturn, 1) := by decide +kernel
theorem dX5_show_33 : decode cX5_show 33 = .ok (.aload_n 0, 1) := by decide +kernel
theorem dX5_show_34 : decode cX5_show 34 = .ok (.getfield 28, 3) := by decide +kernel
theorem dX5_show_37 : decode cX5_show 37 = .ok (.iload_n 1, 1) := by decide +kernel
theorem dX5_show_38 : decode cX5_show 38 = .ok (.iconst 5, 1) := by decide +kernel
theorem dX5_show_39 : decode cX5_show 39 = .ok (.iload_n 2, 1) := by decide +kernel
theorem dX5_show_40 : decode cX5_show 40 = .ok (.iadd, 1) := by decide +kernel
theorem dX5_show_41 : decode cX5_show 41 = .ok (.iconst 2, 1) := by decide +kernel
theorem dX5_show_42 : decode cX5_show 42 = .ok (.iload_n 3, 1) := by decide +kernel
theorem dX5_show_43 : decode cX5_show 43 = .ok (.iload 4, 2) := by decide +kernel
theorem dX5_show_45 : decode cX5_show 45 = .ok (.iconst 0, 1) := by decide +kernel
theorem dX5_show_46 : decode cX5_show 46 = .ok (.invokevirtual 138, 3) := by decide +kernel
theorem dX5_show_49 : decode cX5_show 49 = .ok (.iconst 1, 1) := by decide +kernel
theorem dX5_show_50 : decode cX5_show 50 = .ok (.ireturn, 1) := by decide +kernel
theorem dX5_hand_0 : decode cX5_hand 0 = .ok (.aload_n 0, 1) := by decide +kernel
theorem dX5_hand_1 : decode cX5_hand 1 = .ok (.getfield 10, 3) := by decide +kernel
theorem dX5_hand_4 : decode cX5_hand 4 = .ok (.iload_n 1, 1) := by decide +kernel
theorem dX5_hand_5 : decode cX5_hand 5 = .ok (.invokevirtual 132, 3) := by decide +kernel
theorem dX5_hand_8 : decode cX5_hand 8 = .ok (.ifCond .eq 19, 3) := by decide +kernel
theorem dX5_hand_11 : decode cX5_hand 11 = .ok (.aload_n 0, 1) := by decide +kernel
theorem dX5_hand_12 : decode cX5_hand 12 = .ok (.getfield 10, 3) := by decide +kernel
theorem dX5_hand_15 : decode cX5_hand 15 = .ok (.iload_n 3, 1) := by decide +kernel
theorem dX5_hand_16 : decode cX5_hand 16 = .ok (.invokevirtual 132, 3) := by decide +kernel
theorem dX5_hand_19 : decode cX5_hand 19 = .ok (.ifCond .eq 8, 3) := by decide +kernel
theorem dX5_hand_22 : decode cX5_hand 22 = .ok (.iload_n 1, 1) := by decide +kernel
theorem dX5_hand_23 : decode cX5_hand 23 = .ok (.iload_n 3, 1) := by decide +kernel
theorem dX5_hand_24 : decode cX5_hand 24 = .ok (.if_icmp .ne 5, 3) := by decide +kernel
theorem dX5_hand_27 : decode cX5_hand 27 = .ok (.iconst 0, 1) := by decide +kernel
theorem dX5_hand_28 : decode cX5_hand 28 = .ok (.ireturn, 1) := by decide +kernel
theorem dX5_hand_29 : decode cX5_hand 29 = .ok (.iconst 5, 1) := by decide +kernel
theorem dX5_hand_30 : decode cX5_hand 30 = .ok (.iload_n 1, 1) := by decide +kernel
theorem dX5_hand_31 : decode cX5_hand 31 = .ok (.iadd, 1) := by decide +kernel
theorem dX5_hand_32 : decode cX5_hand 32 = .ok (.istore 5, 2) := by decide +kernel
theorem dX5_hand_34 : decode cX5_hand 34 = .ok (.iload 4, 2) := by decide +kernel
theorem dX5_hand_36 : decode cX5_hand 36 = .ok (.iconst 1, 1) := by decide +kernel
theorem dX5_hand_37 : decode cX5_hand 37 = .ok (.sipush 255, 3) := by decide +kernel
theorem dX5_hand_40 : decode cX5_hand 40 = .ok (.invokestatic 56, 3) := by decide +kernel
theorem dX5_hand_43 : decode cX5_hand 43 = .ok (.ifCond .eq 16, 3) := by decide +kernel
theorem dX5_hand_46 : decode cX5_hand 46 = .ok (.aload_n 0, 1) := by decide +kernel
theorem dX5_hand_47 : decode cX5_hand 47 = .ok (.getfield 28, 3) := by decide +kernel
theorem dX5_hand_50 : decode cX5_hand 50 = .ok (.iload 5, 2) := by decide +kernel
theorem dX5_hand_52 : decode cX5_hand 52 = .ok (.iload_n 2, 1) := by decide +kernel
theorem dX5_hand_53 : decode cX5_hand 53 = .ok (.invokevirtual 145, 3) := by decide +kernel
theorem dX5_hand_56 : decode cX5_hand 56 = .ok (.ifCond .ne 5, 3) := by decide +kernel
theorem dX5_hand_59 : decode cX5_hand 59 = .ok (.iconst 0, 1) := by decide +kernel
theorem dX5_hand_60 : decode cX5_hand 60 = .ok (.ireturn, 1) := by decide +kernel
theorem dX5_hand_61 : decode cX5_hand 61 = .ok (.aload_n 0, 1) := by decide +kernel
theorem dX5_hand_62 : decode cX5_hand 62 = .ok (.getfield 28, 3) := by decide +kernel
theorem dX5_hand_65 : decode cX5_hand 65 = .ok (.iload 5, 2) := by decide +kernel
theorem dX5_hand_67 : decode cX5_hand 67 = .ok (.bipush 9, 2) := by decide +kernel
theorem dX5_hand_69 : decode cX5_hand 69 = .ok (.iconst 4, 1) := by decide +kernel
theorem dX5_hand_70 : decode cX5_hand 70 = .ok (.iload_n 2, 1) := by decide +kernel
theorem dX5_hand_71 : decode cX5_hand 71 = .ok (.iload_n 3, 1) := by decide +kernel
theorem dX5_hand_72 : decode cX5_hand 72 = .ok (.iload 4, 2) := by decide +kernel
theorem dX5_hand_74 : decode cX5_hand 74 = .ok (.invokevirtual 138, 3) := by decide +kernel
theorem dX5_hand_77 : decode cX5_hand 77 = .ok (.iconst 1, 1) := by decide +kernel
theorem dX5_hand_78 : decode cX5_hand 78 = .ok (.ireturn, 1) := by decide +kernel
theorem dX5_fake_0 : decode cX5_fake 0 = .ok (.iload_n 1, 1) := by decide +kernel
theorem dX5_fake_1 : decode cX5_fake 1 = .ok (.iconst 0, 1) := by decide +kernel
theorem dX5_fake_2 : decode cX5_fake 2 = .ok (.iconst 3, 1) := by decide +kernel
theorem dX5_fake_3 : decode cX5_fake 3 = .ok (.invokestatic 56, 3) := by decide +kernel
theorem dX5_fake_6 : decode cX5_fake 6 = .ok (.ifCond .eq 15, 3) := by decide +kernel
theorem dX5_fake_9 : decode cX5_fake 9 = .ok (.aload_n 0, 1) := by decide +kernel
theorem dX5_fake_10 : decode cX5_fake 10 = .ok (.getfield 28, 3) := by decide +kernel
theorem dX5_fake_13 : decode cX5_fake 13 = .ok (.iconst 4, 1) := by decide +kernel
theorem dX5_fake_14 : decode cX5_fake 14 = .ok (.iload_n 2, 1) := by decide +kernel
theorem dX5_fake_15 : decode cX5_fake 15 = .ok (.invokevirtual 145, 3) := by decide +kernel
theorem dX5_fake_18 : decode cX5_fake 18 = .ok (.ifCond .ne 5, 3) := by decide +kernel
theorem dX5_fake_21 : decode cX5_fake 21 = .ok (.iconst 0, 1) := by decide +kernel
theorem dX5_fake_22 : decode cX5_fake 22 = .ok (.ireturn, 1) := by decide +kernel
theorem dX5_fake_23 : decode cX5_fake 23 = .ok (.aload_n 0, 1) := by decide +kernel
theorem dX5_fake_24 : decode cX5_fake 24 = .ok (.getfield 28, 3) := by decide +kernel
theorem dX5_fake_27 : decode cX5_fake 27 = .ok (.iconst 4, 1) := by decide +kernel
theorem dX5_fake_28 : decode cX5_fake 28 = .ok (.iload_n 1, 1) := by decide +kernel
theorem dX5_fake_29 : decode cX5_fake 29 = .ok (.iconst 1, 1) := by decide +kernel
theorem dX5_fake_30 : decode cX5_fake 30 = .ok (.iload_n 2, 1) := by decide +kernel
theorem dX5_fake_31 : decode cX5_fake 31 = .ok (.iconst (-1), 1) := by decide +kernel
theorem dX5_fake_32 : decode cX5_fake 32 = .ok (.aload_n 0, 1) := by decide +kernel
theorem dX5_fake_33 : decode cX5_fake 33 = .ok (.getfield 28, 3) := by decide +kernel
theorem dX5_fake_36 : decode cX5_fake 36 = .ok (.iload_n 1, 1) := by decide +kernel
theorem dX5_fake_37 : decode cX5_fake 37 = .ok (.invokevirtual 156, 3) := by decide +kernel
theorem dX5_fake_40 : decode cX5_fake 40 = .ok (.invokevirtual 138, 3) := by decide +kernel
theorem dX5_fake_43 : decode cX5_fake 43 = .ok (.iconst 1, 1) := by decide +kernel
theorem dX5_fake_44 : decode cX5_fake 44 = .ok (.ireturn, 1) := by decide +kernel
theorem dX5_deliver_0 : decode cX5_deliver 0 = .ok (.aload_n 0, 1) := by decide +kernel
theorem dX5_deliver_1 : decode cX5_deliver 1 = .ok (.getfield 28, 3) := by decide +kernel
theorem dX5_deliver_4 : decode cX5_deliver 4 = .ok (.iload_n 1, 1) := by decide +kernel
theorem dX5_deliver_5 : decode cX5_deliver 5 = .ok (.invokevirtual 159, 3) := by decide +kernel
theorem dX5_deliver_8 : decode cX5_deliver 8 = .ok (.ireturn, 1) := by decide +kernel
theorem dX5_copy_0 : decode cX5_copy 0 = .ok (.aload_n 0, 1) := by decide +kernel
theorem dX5_copy_1 : decode cX5_copy 1 = .ok (.getfield 28, 3) := by decide +kernel
theorem dX5_copy_4 : decode cX5_copy 4 = .ok (.iload_n 1, 1) := by decide +kernel
theorem dX5_copy_5 : decode cX5_copy 5 = .ok (.invokevirtual 162, 3) := by decide +kernel
theorem dX5_copy_8 : decode cX5_copy 8 = .ok (.ireturn, 1) := by decide +kernel
theorem dX5_lose_0 : decode cX5_lose 0 = .ok (.aload_n 0, 1) := by decide +kernel
theorem dX5_lose_1 : decode cX5_lose 1 = .ok (.getfield 28, 3) := by decide +kernel
theorem dX5_lose_4 : decode cX5_lose 4 = .ok (.iload_n 1, 1) := by decide +kernel
theorem dX5_lose_5 : decode cX5_lose 5 = .ok (.invokevirtual 165, 3) := by decide +kernel
theorem dX5_lose_8 : decode cX5_lose 8 = .ok (.ifCond .ne 5, 3) := by decide +kernel
theorem dX5_lose_11 : decode cX5_lose 11 = .ok (.iconst 0, 1) := by decide +kernel
theorem dX5_lose_12 : decode cX5_lose 12 = .ok (.ireturn, 1) := by decide +kernel
theorem dX5_lose_13 : decode cX5_lose 13 = .ok (.aload_n 0, 1) := by decide +kernel
theorem dX5_lose_14 : decode cX5_lose 14 = .ok (.getfield 28, 3) := by decide +kernel
theorem dX5_lose_17 : decode cX5_lose 17 = .ok (.iload_n 1, 1) := by decide +kernel
theorem dX5_lose_18 : decode cX5_lose 18 = .ok (.invokevirtual 168, 3) := by decide +kernel
theorem dX5_lose_21 : decode cX5_lose 21 = .ok (.iconst 1, 1) := by decide +kernel
theorem dX5_lose_22 : decode cX5_lose 22 = .ok (.ireturn, 1) := by decide +kernel
theorem dX5_tick_0 : decode cX5_tick 0 = .ok (.iload_n 1, 1) := by decide +kernel
theorem dX5_tick_1 : decode cX5_tick 1 = .ok (.iconst 1, 1) := by decide +kernel
theorem dX5_tick_2 : decode cX5_tick 2 = .ok (.sipush 500, 3) := by decide +kernel
theorem dX5_tick_5 : decode cX5_tick 5 = .ok (.invokestatic 56, 3) := by decide +kernel
theorem dX5_tick_8 : decode cX5_tick 8 = .ok (.ifCond .ne 6, 3) := by decide +kernel
theorem dX5_tick_11 : decode cX5_tick 11 = .ok (.bipush (-2), 2) := by decide +kernel
theorem dX5_tick_13 : decode cX5_tick 13 = .ok (.ireturn, 1) := by decide +kernel
theorem dX5_tick_14 : decode cX5_tick 14 = .ok (.aload_n 0, 1) := by decide +kernel
theorem dX5_tick_15 : decode cX5_tick 15 = .ok (.getfield 28, 3) := by decide +kernel
theorem dX5_tick_18 : decode cX5_tick 18 = .ok (.invokevirtual 115, 3) := by decide +kernel
theorem dX5_tick_21 : decode cX5_tick 21 = .ok (.iload_n 1, 1) := by decide +kernel
theorem dX5_tick_22 : decode cX5_tick 22 = .ok (.iadd, 1) := by decide +kernel
theorem dX5_tick_23 : decode cX5_tick 23 = .ok (.sipush 30000, 3) := by decide +kernel
theorem dX5_tick_26 : decode cX5_tick 26 = .ok (.if_icmp .le 6, 3) := by decide +kernel
theorem dX5_tick_29 : decode cX5_tick 29 = .ok (.bipush (-3), 2) := by decide +kernel
theorem dX5_tick_31 : decode cX5_tick 31 = .ok (.ireturn, 1) := by decide +kernel
theorem dX5_tick_32 : decode cX5_tick 32 = .ok (.iconst 0, 1) := by decide +kernel
theorem dX5_tick_33 : decode cX5_tick 33 = .ok (.istore_n 2, 1) := by decide +kernel
theorem dX5_tick_34 : decode cX5_tick 34 = .ok (.iload_n 2, 1) := by decide +kernel
theorem dX5_tick_35 : decode cX5_tick 35 = .ok (.iload_n 1, 1) := by decide +kernel
theorem dX5_tick_36 : decode cX5_tick 36 = .ok (.if_icmp .ge 16, 3) := by decide +kernel
theorem dX5_tick_39 : decode cX5_tick 39 = .ok (.aload_n 0, 1) := by decide +kernel
theorem dX5_tick_40 : decode cX5_tick 40 = .ok (.getfield 28, 3) := by decide +kernel
theorem dX5_tick_43 : decode cX5_tick 43 = .ok (.invokevirtual 171, 3) := by decide +kernel
theorem dX5_tick_46 : decode cX5_tick 46 = .ok (.iinc 2 1, 3) := by decide +kernel
theorem dX5_tick_49 : decode cX5_tick 49 = .ok (.goto (-15), 3) := by decide +kernel
theorem dX5_tick_52 : decode cX5_tick 52 = .ok (.aload_n 0, 1) := by decide +kernel
theorem dX5_tick_53 : decode cX5_tick 53 = .ok (.getfield 28, 3) := by decide +kernel
theorem dX5_tick_56 : decode cX5_tick 56 = .ok (.invokevirtual 115, 3) := by decide +kernel
theorem dX5_tick_59 : decode cX5_tick 59 = .ok (.ireturn, 1) := by decide +kernel
theorem dX5_judge_0 : decode cX5_judge 0 = .ok (.aload_n 0, 1) := by decide +kernel
theorem dX5_judge_1 : decode cX5_judge 1 = .ok (.iload_n 1, 1) := by decide +kernel
theorem dX5_judge_2 : decode cX5_judge 2 = .ok (.iload_n 2, 1) := by decide +kernel
theorem dX5_judge_3 : decode cX5_judge 3 = .ok (.iload_n 3, 1) := by decide +kernel
theorem dX5_judge_4 : decode cX5_judge 4 = .ok (.iload 4, 2) := by decide +kernel
theorem dX5_judge_6 : decode cX5_judge 6 = .ok (.iload 5, 2) := by decide +kernel
theorem dX5_judge_8 : decode cX5_judge 8 = .ok (.invokevirtual 174, 3) := by decide +kernel
theorem dX5_judge_11 : decode cX5_judge 11 = .ok (.ifCond .ne 6, 3) := by decide +kernel
theorem dX5_judge_14 : decode cX5_judge 14 = .ok (.bipush (-2), 2) := by decide +kernel
theorem dX5_judge_16 : decode cX5_judge 16 = .ok (.ireturn, 1) := by decide +kernel
theorem dX5_judge_17 : decode cX5_judge 17 = .ok (.aload_n 0, 1) := by decide +kernel
theorem dX5_judge_18 : decode cX5_judge 18 = .ok (.getfield 37, 3) := by decide +kernel
theorem dX5_judge_21 : decode cX5_judge 21 = .ok (.iload_n 1, 1) := by decide +kernel
theorem dX5_judge_22 : decode cX5_judge 22 = .ok (.iload_n 2, 1) := by decide +kernel
theorem dX5_judge_23 : decode cX5_judge 23 = .ok (.iload_n 3, 1) := by decide +kernel
theorem dX5_judge_24 : decode cX5_judge 24 = .ok (.iload 4, 2) := by decide +kernel
theorem dX5_judge_26 : decode cX5_judge 26 = .ok (.invokevirtual 178, 3) := by decide +kernel
theorem dX5_judge_29 : decode cX5_judge 29 = .ok (.aload_n 0, 1) := by decide +kernel
theorem dX5_judge_30 : decode cX5_judge 30 = .ok (.getfield 37, 3) := by decide +kernel
theorem dX5_judge_33 : decode cX5_judge 33 = .ok (.iload 5, 2) := by decide +kernel
theorem dX5_judge_35 : decode cX5_judge 35 = .ok (.invokevirtual 182, 3) := by decide +kernel
theorem dX5_judge_38 : decode cX5_judge 38 = .ok (.istore 6, 2) := by decide +kernel
theorem dX5_judge_40 : decode cX5_judge 40 = .ok (.aload_n 0, 1) := by decide +kernel
theorem dX5_judge_41 : decode cX5_judge 41 = .ok (.getfield 37, 3) := by decide +kernel
theorem dX5_judge_44 : decode cX5_judge 44 = .ok (.iload 6, 2) := by decide +kernel
theorem dX5_judge_46 : decode cX5_judge 46 = .ok (.invokevirtual 185, 3) := by decide +kernel
theorem dX5_judge_49 : decode cX5_judge 49 = .ok (.iload 6, 2) := by decide +kernel
theorem dX5_judge_51 : decode cX5_judge 51 = .ok (.ireturn, 1) := by decide +kernel
theorem dX5_found_0 : decode cX5_found 0 = .ok (.aload_n 0, 1) := by decide +kernel
theorem dX5_found_1 : decode cX5_found 1 = .ok (.getfield 37, 3) := by decide +kernel
theorem dX5_found_4 : decode cX5_found 4 = .ok (.iload_n 1, 1) := by decide +kernel
theorem dX5_found_5 : decode cX5_found 5 = .ok (.invokevirtual 188, 3) := by decide +kernel
theorem dX5_found_8 : decode cX5_found 8 = .ok (.ireturn, 1) := by decide +kernel
theorem dX5_stops_0 : decode cX5_stops 0 = .ok (.aload_n 0, 1) := by decide +kernel
theorem dX5_stops_1 : decode cX5_stops 1 = .ok (.iload_n 1, 1) := by decide +kernel
theorem dX5_stops_2 : decode cX5_stops 2 = .ok (.iload_n 2, 1) := by decide +kernel
theorem dX5_stops_3 : decode cX5_stops 3 = .ok (.iload_n 3, 1) := by decide +kernel
theorem dX5_stops_4 : decode cX5_stops 4 = .ok (.iload 4, 2) := by decide +kernel
theorem dX5_stops_6 : decode cX5_stops 6 = .ok (.iload 5, 2) := by decide +kernel
theorem dX5_stops_8 : decode cX5_stops 8 = .ok (.invokevirtual 174, 3) := by decide +kernel
theorem dX5_stops_11 : decode cX5_stops 11 = .ok (.ifCond .ne 6, 3) := by decide +kernel
theorem dX5_stops_14 : decode cX5_stops 14 = .ok (.bipush (-2), 2) := by decide +kernel
theorem dX5_stops_16 : decode cX5_stops 16 = .ok (.ireturn, 1) := by decide +kernel
theorem dX5_stops_17 : decode cX5_stops 17 = .ok (.aload_n 0, 1) := by decide +kernel
theorem dX5_stops_18 : decode cX5_stops 18 = .ok (.getfield 37, 3) := by decide +kernel
theorem dX5_stops_21 : decode cX5_stops 21 = .ok (.iload_n 1, 1) := by decide +kernel
theorem dX5_stops_22 : decode cX5_stops 22 = .ok (.iload_n 2, 1) := by decide +kernel
theorem dX5_stops_23 : decode cX5_stops 23 = .ok (.iload_n 3, 1) := by decide +kernel
theorem dX5_stops_24 : decode cX5_stops 24 = .ok (.iload 4, 2) := by decide +kernel
theorem dX5_stops_26 : decode cX5_stops 26 = .ok (.invokevirtual 178, 3) := by decide +kernel
theorem dX5_stops_29 : decode cX5_stops 29 = .ok (.aload_n 0, 1) := by decide +kernel
theorem dX5_stops_30 : decode cX5_stops 30 = .ok (.getfield 10, 3) := by decide +kernel
theorem dX5_stops_33 : decode cX5_stops 33 = .ok (.getfield 81, 3) := by decide +kernel
theorem dX5_stops_36 : decode cX5_stops 36 = .ok (.istore 6, 2) := by decide +kernel
theorem dX5_stops_38 : decode cX5_stops 38 = .ok (.iconst 0, 1) := by decide +kernel
theorem dX5_stops_39 : decode cX5_stops 39 = .ok (.istore 7, 2) := by decide +kernel
theorem dX5_stops_41 : decode cX5_stops 41 = .ok (.iconst 0, 1) := by decide +kernel
theorem dX5_stops_42 : decode cX5_stops 42 = .ok (.istore 8, 2) := by decide +kernel
theorem dX5_stops_44 : decode cX5_stops 44 = .ok (.iconst 0, 1) := by decide +kernel
theorem dX5_stops_45 : decode cX5_stops 45 = .ok (.istore 9, 2) := by decide +kernel
theorem dX5_stops_47 : decode cX5_stops 47 = .ok (.iload 9, 2) := by decide +kernel
theorem dX5_stops_49 : decode cX5_stops 49 = .ok (.bipush 8, 2) := by decide +kernel
theorem dX5_stops_51 : decode cX5_stops 51 = .ok (.if_icmp .ge 82, 3) := by decide +kernel
theorem dX5_stops_54 : decode cX5_stops 54 = .ok (.iload 8, 2) := by decide +kernel
theorem dX5_stops_56 : decode cX5_stops 56 = .ok (.ifCond .ne 77, 3) := by decide +kernel
theorem dX5_stops_59 : decode cX5_stops 59 = .ok (.iload 6, 2) := by decide +kernel
theorem dX5_stops_61 : decode cX5_stops 61 = .ok (.iload 9, 2) := by decide +kernel
theorem dX5_stops_63 : decode cX5_stops 63 = .ok (.ishr, 1) := by decide +kernel
theorem dX5_stops_64 : decode cX5_stops 64 = .ok (.iconst 1, 1) := by decide +kernel
theorem dX5_stops_65 : decode cX5_stops 65 = .ok (.iand, 1) := by decide +kernel
theorem dX5_stops_66 : decode cX5_stops 66 = .ok (.ifCond .ne 61, 3) := by decide +kernel
theorem dX5_stops_69 : decode cX5_stops 69 = .ok (.aload_n 0, 1) := by decide +kernel
theorem dX5_stops_70 : decode cX5_stops 70 = .ok (.getfield 10, 3) := by decide +kernel
theorem dX5_stops_73 : decode cX5_stops 73 = .ok (.iload 6, 2) := by decide +kernel
theorem dX5_stops_75 : decode cX5_stops 75 = .ok (.iconst 1, 1) := by decide +kernel
theorem dX5_stops_76 : decode cX5_stops 76 = .ok (.iload 9, 2) := by decide +kernel
theorem dX5_stops_78 : decode cX5_stops 78 = .ok (.ishl, 1) := by decide +kernel
theorem dX5_stops_79 : decode cX5_stops 79 = .ok (.ior, 1) := by decide +kernel
theorem dX5_stops_80 : decode cX5_stops 80 = .ok (.putfield 81, 3) := by decide +kernel
theorem dX5_stops_83 : decode cX5_stops 83 = .ok (.aload_n 0, 1) := by decide +kernel
theorem dX5_stops_84 : decode cX5_stops 84 = .ok (.getfield 37, 3) := by decide +kernel
theorem dX5_stops_87 : decode cX5_stops 87 = .ok (.iload 5, 2) := by decide +kernel
theorem dX5_stops_89 : decode cX5_stops 89 = .ok (.invokevirtual 182, 3) := by decide +kernel
theorem dX5_stops_92 : decode cX5_stops 92 = .ok (.istore 10, 2) := by decide +kernel
theorem dX5_stops_94 : decode cX5_stops 94 = .ok (.iload 7, 2) := by decide +kernel
theorem dX5_stops_96 : decode cX5_stops 96 = .ok (.iload 10, 2) := by decide +kernel
theorem dX5_stops_98 : decode cX5_stops 98 = .ok (.iconst (-1), 1) := by decide +kernel
theorem dX5_stops_99 : decode cX5_stops 99 = .ok (.if_icmp .ne 10, 3) := by decide +kernel
theorem dX5_stops_102 : decode cX5_stops 102 = .ok (.iconst 1, 1) := by decide +kernel
theorem dX5_stops_103 : decode cX5_stops 103 = .ok (.iload 9, 2) := by decide +kernel
theorem dX5_stops_105 : decode cX5_stops 105 = .ok (.ishl, 1) := by decide +kernel
theorem dX5_stops_106 : decode cX5_stops 106 = .ok (.goto 4, 3) := by decide +kernel
theorem dX5_stops_109 : decode cX5_stops 109 = .ok (.iconst 0, 1) := by decide +kernel
theorem dX5_stops_110 : decode cX5_stops 110 = .ok (.ior, 1) := by decide +kernel
theorem dX5_stops_111 : decode cX5_stops 111 = .ok (.istore 7, 2) := by decide +kernel
theorem dX5_stops_113 : decode cX5_stops 113 = .ok (.iload 10, 2) := by decide +kernel
theorem dX5_stops_115 : decode cX5_stops 115 = .ok (.bipush (-4), 2) := by decide +kernel
theorem dX5_stops_117 : decode cX5_stops 117 = .ok (.if_icmp .ne 7, 3) := by decide +kernel
theorem dX5_stops_120 : decode cX5_stops 120 = .ok (.iconst 1, 1) := by decide +kernel
theorem dX5_stops_121 : decode cX5_stops 121 = .ok (.goto 4, 3) := by decide +kernel
theorem dX5_stops_124 : decode cX5_stops 124 = .ok (.iconst 0, 1) := by decide +kernel
theorem dX5_stops_125 : decode cX5_stops 125 = .ok (.istore 8, 2) := by decide +kernel
theorem dX5_stops_127 : decode cX5_stops 127 = .ok (.iinc 9 1, 3) := by decide +kernel
theorem dX5_stops_130 : decode cX5_stops 130 = .ok (.goto (-83), 3) := by decide +kernel
theorem dX5_stops_133 : decode cX5_stops 133 = .ok (.aload_n 0, 1) := by decide +kernel
theorem dX5_stops_134 : decode cX5_stops 134 = .ok (.getfield 10, 3) := by decide +kernel
theorem dX5_stops_137 : decode cX5_stops 137 = .ok (.iload 6, 2) := by decide +kernel
theorem dX5_stops_139 : decode cX5_stops 139 = .ok (.putfield 81, 3) := by decide +kernel
theorem dX5_stops_142 : decode cX5_stops 142 = .ok (.iload 8, 2) := by decide +kernel
theorem dX5_stops_144 : decode cX5_stops 144 = .ok (.ifCond .eq 8, 3) := by decide +kernel
theorem dX5_stops_147 : decode cX5_stops 147 = .ok (.bipush (-4), 2) := by decide +kernel
theorem dX5_stops_149 : decode cX5_stops 149 = .ok (.goto 5, 3) := by decide +kernel
theorem dX5_stops_152 : decode cX5_stops 152 = .ok (.iload 7, 2) := by decide +kernel
theorem dX5_stops_154 : decode cX5_stops 154 = .ok (.ireturn, 1) := by decide +kernel
theorem dX5_longest_0 : decode cX5_longest 0 = .ok (.aload_n 0, 1) := by decide +kernel
theorem dX5_longest_1 : decode cX5_longest 1 = .ok (.getfield 28, 3) := by decide +kernel
theorem dX5_longest_4 : decode cX5_longest 4 = .ok (.iload_n 1, 1) := by decide +kernel
theorem dX5_longest_5 : decode cX5_longest 5 = .ok (.invokevirtual 142, 3) := by decide +kernel
theorem dX5_longest_8 : decode cX5_longest 8 = .ok (.ifCond .eq 21, 3) := by decide +kernel
theorem dX5_longest_11 : decode cX5_longest 11 = .ok (.aload_n 0, 1) := by decide +kernel
theorem dX5_longest_12 : decode cX5_longest 12 = .ok (.getfield 10, 3) := by decide +kernel
theorem dX5_longest_15 : decode cX5_longest 15 = .ok (.iload_n 2, 1) := by decide +kernel
theorem dX5_longest_16 : decode cX5_longest 16 = .ok (.invokevirtual 132, 3) := by decide +kernel
theorem dX5_longest_19 : decode cX5_longest 19 = .ok (.ifCond .eq 10, 3) := by decide +kernel
theorem dX5_longest_22 : decode cX5_longest 22 = .ok (.iload_n 3, 1) := by decide +kernel
theorem dX5_longest_23 : decode cX5_longest 23 = .ok (.invokestatic 153, 3) := by decide +kernel
theorem dX5_longest_26 : decode cX5_longest 26 = .ok (.ifCond .ne 6, 3) := by decide +kernel
theorem dX5_longest_29 : decode cX5_longest 29 = .ok (.bipush (-2), 2) := by decide +kernel
theorem dX5_longest_31 : decode cX5_longest 31 = .ok (.ireturn, 1) := by decide +kernel
theorem dX5_longest_32 : decode cX5_longest 32 = .ok (.aload_n 0, 1) := by decide +kernel
theorem dX5_longest_33 : decode cX5_longest 33 = .ok (.getfield 37, 3) := by decide +kernel
theorem dX5_longest_36 : decode cX5_longest 36 = .ok (.iload_n 1, 1) := by decide +kernel
theorem dX5_longest_37 : decode cX5_longest 37 = .ok (.iload_n 2, 1) := by decide +kernel
theorem dX5_longest_38 : decode cX5_longest 38 = .ok (.iload_n 3, 1) := by decide +kernel
theorem dX5_longest_39 : decode cX5_longest 39 = .ok (.invokevirtual 191, 3) := by decide +kernel
theorem dX5_longest_42 : decode cX5_longest 42 = .ok (.ireturn, 1) := by decide +kernel
theorem dX5_note_0 : decode cX5_note 0 = .ok (.aload_n 0, 1) := by decide +kernel
theorem dX5_note_1 : decode cX5_note 1 = .ok (.getfield 28, 3) := by decide +kernel
theorem dX5_note_4 : decode cX5_note 4 = .ok (.iload_n 1, 1) := by decide +kernel
theorem dX5_note_5 : decode cX5_note 5 = .ok (.invokevirtual 142, 3) := by decide +kernel
theorem dX5_note_8 : decode cX5_note 8 = .ok (.ifCond .eq 13, 3) := by decide +kernel
theorem dX5_note_11 : decode cX5_note 11 = .ok (.iload_n 2, 1) := by decide +kernel
theorem dX5_note_12 : decode cX5_note 12 = .ok (.iconst 0, 1) := by decide +kernel
theorem dX5_note_13 : decode cX5_note 13 = .ok (.bipush 10, 2) := by decide +kernel
theorem dX5_note_15 : decode cX5_note 15 = .ok (.invokestatic 56, 3) := by decide +kernel
theorem dX5_note_18 : decode cX5_note 18 = .ok (.ifCond .ne 6, 3) := by decide +kernel
theorem dX5_note_21 : decode cX5_note 21 = .ok (.bipush (-2), 2) := by decide +kernel
theorem dX5_note_23 : decode cX5_note 23 = .ok (.ireturn, 1) := by decide +kernel
theorem dX5_note_24 : decode cX5_note 24 = .ok (.aload_n 0, 1) := by decide +kernel
theorem dX5_note_25 : decode cX5_note 25 = .ok (.getfield 28, 3) := by decide +kernel
theorem dX5_note_28 : decode cX5_note 28 = .ok (.iload_n 1, 1) := by decide +kernel
theorem dX5_note_29 : decode cX5_note 29 = .ok (.iload_n 2, 1) := by decide +kernel
theorem dX5_note_30 : decode cX5_note 30 = .ok (.invokevirtual 149, 3) := by decide +kernel
theorem dX5_note_33 : decode cX5_note 33 = .ok (.ireturn, 1) := by decide +kernel
theorem dX5_letter_0 : decode cX5_letter 0 = .ok (.aload_n 0, 1) := by decide +kernel
theorem dX5_letter_1 : decode cX5_letter 1 = .ok (.getfield 28, 3) := by decide +kernel
theorem dX5_letter_4 : decode cX5_letter 4 = .ok (.iload_n 1, 1) := by decide +kernel
theorem dX5_letter_5 : decode cX5_letter 5 = .ok (.invokevirtual 165, 3) := by decide +kernel
theorem dX5_letter_8 : decode cX5_letter 8 = .ok (.ifCond .eq 13, 3) := by decide +kernel
theorem dX5_letter_11 : decode cX5_letter 11 = .ok (.iload_n 2, 1) := by decide +kernel
theorem dX5_letter_12 : decode cX5_letter 12 = .ok (.iconst 0, 1) := by decide +kernel
theorem dX5_letter_13 : decode cX5_letter 13 = .ok (.bipush 6, 2) := by decide +kernel
theorem dX5_letter_15 : decode cX5_letter 15 = .ok (.invokestatic 56, 3) := by decide +kernel
theorem dX5_letter_18 : decode cX5_letter 18 = .ok (.ifCond .ne 6, 3) := by decide +kernel
theorem dX5_letter_21 : decode cX5_letter 21 = .ok (.bipush (-2), 2) := by decide +kernel
theorem dX5_letter_23 : decode cX5_letter 23 = .ok (.ireturn, 1) := by decide +kernel
theorem dX5_letter_24 : decode cX5_letter 24 = .ok (.aload_n 0, 1) := by decide +kernel
theorem dX5_letter_25 : decode cX5_letter 25 = .ok (.getfield 28, 3) := by decide +kernel
theorem dX5_letter_28 : decode cX5_letter 28 = .ok (.iload_n 1, 1) := by decide +kernel
theorem dX5_letter_29 : decode cX5_letter 29 = .ok (.iload_n 2, 1) := by decide +kernel
theorem dX5_letter_30 : decode cX5_letter 30 = .ok (.invokevirtual 195, 3) := by decide +kernel
theorem dX5_letter_33 : decode cX5_letter 33 = .ok (.ireturn, 1) := by decide +kernel
theorem dX5_family_0 : decode cX5_family 0 = .ok (.aload_n 0, 1) := by decide +kernel
theorem dX5_family_1 : decode cX5_family 1 = .ok (.getfield 28, 3) := by decide +kernel
theorem dX5_family_4 : decode cX5_family 4 = .ok (.iload_n 1, 1) := by decide +kernel
theorem dX5_family_5 : decode cX5_family 5 = .ok (.invokevirtual 123, 3) := by decide +kernel
theorem dX5_family_8 : decode cX5_family 8 = .ok (.ifCond .eq 12, 3) := by decide +kernel
theorem dX5_family_11 : decode cX5_family 11 = .ok (.iload_n 2, 1) := by decide +kernel
theorem dX5_family_12 : decode cX5_family 12 = .ok (.iconst 0, 1) := by decide +kernel
theorem dX5_family_13 : decode cX5_family 13 = .ok (.iconst 1, 1) := by decide +kernel
theorem dX5_family_14 : decode cX5_family 14 = .ok (.invokestatic 56, 3) := by decide +kernel
theorem dX5_family_17 : decode cX5_family 17 = .ok (.ifCond .ne 6, 3) := by decide +kernel
theorem dX5_family_20 : decode cX5_family 20 = .ok (.bipush (-2), 2) := by decide +kernel
theorem dX5_family_22 : decode cX5_family 22 = .ok (.ireturn, 1) := by decide +kernel
theorem dX5_family_23 : decode cX5_family 23 = .ok (.aload_n 0, 1) := by decide +kernel
theorem dX5_family_24 : decode cX5_family 24 = .ok (.getfield 28, 3) := by decide +kernel
theorem dX5_family_27 : decode cX5_family 27 = .ok (.iload_n 1, 1) := by decide +kernel
theorem dX5_family_28 : decode cX5_family 28 = .ok (.iload_n 2, 1) := by decide +kernel
theorem dX5_family_29 : decode cX5_family 29 = .ok (.invokevirtual 198, 3) := by decide +kernel
theorem dX5_family_32 : decode cX5_family 32 = .ok (.ireturn, 1) := by decide +kernel
theorem dX5_houseOf_0 : decode cX5_houseOf 0 = .ok (.aload_n 0, 1) := by decide +kernel
theorem dX5_houseOf_1 : decode cX5_houseOf 1 = .ok (.getfield 10, 3) := by decide +kernel
theorem dX5_houseOf_4 : decode cX5_houseOf 4 = .ok (.iload_n 1, 1) := by decide +kernel
theorem dX5_houseOf_5 : decode cX5_houseOf 5 = .ok (.invokevirtual 132, 3) := by decide +kernel
theorem dX5_houseOf_8 : decode cX5_houseOf 8 = .ok (.ifCond .ne 6, 3) := by decide +kernel
theorem dX5_houseOf_11 : decode cX5_houseOf 11 = .ok (.bipush (-100), 2) := by decide +kernel
theorem dX5_houseOf_13 : decode cX5_houseOf 13 = .ok (.ireturn, 1) := by decide +kernel
theorem dX5_houseOf_14 : decode cX5_houseOf 14 = .ok (.iload_n 2, 1) := by decide +kernel
theorem dX5_houseOf_15 : decode cX5_houseOf 15 = .ok (.tableswitch 147 0 7 #[45, 62, 72, 89, 99, 109, 119, 129], 45) := by decide +kernel
theorem dX5_houseOf_60 : decode cX5_houseOf 60 = .ok (.aload_n 0, 1) := by decide +kernel
theorem dX5_houseOf_61 : decode cX5_houseOf 61 = .ok (.getfield 10, 3) := by decide +kernel
theorem dX5_houseOf_64 : decode cX5_houseOf 64 = .ok (.iload_n 1, 1) := by decide +kernel
theorem dX5_houseOf_65 : decode cX5_houseOf 65 = .ok (.invokevirtual 95, 3) := by decide +kernel
theorem dX5_houseOf_68 : decode cX5_houseOf 68 = .ok (.ifCond .eq 7, 3) := by decide +kernel
theorem dX5_houseOf_71 : decode cX5_houseOf 71 = .ok (.iconst 1, 1) := by decide +kernel
theorem dX5_houseOf_72 : decode cX5_houseOf 72 = .ok (.goto 4, 3) := by decide +kernel
theorem dX5_houseOf_75 : decode cX5_houseOf 75 = .ok (.iconst 0, 1) := by decide +kernel
theorem dX5_houseOf_76 : decode cX5_houseOf 76 = .ok (.ireturn, 1) := by decide +kernel
theorem dX5_houseOf_77 : decode cX5_houseOf 77 = .ok (.aload_n 0, 1) := by decide +kernel
theorem dX5_houseOf_78 : decode cX5_houseOf 78 = .ok (.getfield 10, 3) := by decide +kernel
theorem dX5_houseOf_81 : decode cX5_houseOf 81 = .ok (.getfield 201, 3) := by decide +kernel
theorem dX5_houseOf_84 : decode cX5_houseOf 84 = .ok (.iload_n 1, 1) := by decide +kernel
theorem dX5_houseOf_85 : decode cX5_houseOf 85 = .ok (.iaload, 1) := by decide +kernel
theorem dX5_houseOf_86 : decode cX5_houseOf 86 = .ok (.ireturn, 1) := by decide +kernel
theorem dX5_houseOf_87 : decode cX5_houseOf 87 = .ok (.aload_n 0, 1) := by decide +kernel
theorem dX5_houseOf_88 : decode cX5_houseOf 88 = .ok (.getfield 10, 3) := by decide +kernel
theorem dX5_houseOf_91 : decode cX5_houseOf 91 = .ok (.iload_n 1, 1) := by decide +kernel
theorem dX5_houseOf_92 : decode cX5_houseOf 92 = .ok (.invokevirtual 204, 3) := by decide +kernel
theorem dX5_houseOf_95 : decode cX5_houseOf 95 = .ok (.ifCond .eq 7, 3) := by decide +kernel
theorem dX5_houseOf_98 : decode cX5_houseOf 98 = .ok (.iconst 1, 1) := by decide +kernel
theorem dX5_houseOf_99 : decode cX5_houseOf 99 = .ok (.goto 4, 3) := by decide +kernel
theorem dX5_houseOf_102 : decode cX5_houseOf 102 = .ok (.iconst 0, 1) := by decide +kernel
theorem dX5_houseOf_103 : decode cX5_houseOf 103 = .ok (.ireturn, 1) := by decide +kernel
theorem dX5_houseOf_104 : decode cX5_houseOf 104 = .ok (.aload_n 0, 1) := by decide +kernel
theorem dX5_houseOf_105 : decode cX5_houseOf 105 = .ok (.getfield 10, 3) := by decide +kernel
theorem dX5_houseOf_108 : decode cX5_houseOf 108 = .ok (.getfield 207, 3) := by decide +kernel
theorem dX5_houseOf_111 : decode cX5_houseOf 111 = .ok (.iload_n 1, 1) := by decide +kernel
theorem dX5_houseOf_112 : decode cX5_houseOf 112 = .ok (.iaload, 1) := by decide +kernel
theorem dX5_houseOf_113 : decode cX5_houseOf 113 = .ok (.ireturn, 1) := by decide +kernel
theorem dX5_houseOf_114 : decode cX5_houseOf 114 = .ok (.aload_n 0, 1) := by decide +kernel
theorem dX5_houseOf_115 : decode cX5_houseOf 115 = .ok (.getfield 28, 3) := by decide +kernel
theorem dX5_houseOf_118 : decode cX5_houseOf 118 = .ok (.iload_n 1, 1) := by decide +kernel
theorem dX5_houseOf_119 : decode cX5_houseOf 119 = .ok (.iconst 0, 1) := by decide +kernel
theorem dX5_houseOf_120 : decode cX5_houseOf 120 = .ok (.invokevirtual 210, 3) := by decide +kernel
theorem dX5_houseOf_123 : decode cX5_houseOf 123 = .ok (.ireturn, 1) := by decide +kernel
theorem dX5_houseOf_124 : decode cX5_houseOf 124 = .ok (.aload_n 0, 1) := by decide +kernel
theorem dX5_houseOf_125 : decode cX5_houseOf 125 = .ok (.getfield 28, 3) := by decide +kernel
theorem dX5_houseOf_128 : decode cX5_houseOf 128 = .ok (.iload_n 1, 1) := by decide +kernel
theorem dX5_houseOf_129 : decode cX5_houseOf 129 = .ok (.iconst 1, 1) := by decide +kernel
theorem dX5_houseOf_130 : decode cX5_houseOf 130 = .ok (.invokevirtual 210, 3) := by decide +kernel
theorem dX5_houseOf_133 : decode cX5_houseOf 133 = .ok (.ireturn, 1) := by decide +kernel
theorem dX5_houseOf_134 : decode cX5_houseOf 134 = .ok (.aload_n 0, 1) := by decide +kernel
theorem dX5_houseOf_135 : decode cX5_houseOf 135 = .ok (.getfield 28, 3) := by decide +kernel
theorem dX5_houseOf_138 : decode cX5_houseOf 138 = .ok (.iload_n 1, 1) := by decide +kernel
theorem dX5_houseOf_139 : decode cX5_houseOf 139 = .ok (.iconst 2, 1) := by decide +kernel
theorem dX5_houseOf_140 : decode cX5_houseOf 140 = .ok (.invokevirtual 210, 3) := by decide +kernel
theorem dX5_houseOf_143 : decode cX5_houseOf 143 = .ok (.ireturn, 1) := by decide +kernel
theorem dX5_houseOf_144 : decode cX5_houseOf 144 = .ok (.aload_n 0, 1) := by decide +kernel
theorem dX5_houseOf_145 : decode cX5_houseOf 145 = .ok (.getfield 28, 3) := by decide +kernel
theorem dX5_houseOf_148 : decode cX5_houseOf 148 = .ok (.invokevirtual 115, 3) := by decide +kernel
theorem dX5_houseOf_151 : decode cX5_houseOf 151 = .ok (.aload_n 0, 1) := by decide +kernel
theorem dX5_houseOf_152 : decode cX5_houseOf 152 = .ok (.getfield 10, 3) := by decide +kernel
theorem dX5_houseOf_155 : decode cX5_houseOf 155 = .ok (.getfield 201, 3) := by decide +kernel
theorem dX5_houseOf_158 : decode cX5_houseOf 158 = .ok (.iload_n 1, 1) := by decide +kernel
theorem dX5_houseOf_159 : decode cX5_houseOf 159 = .ok (.iaload, 1) := by decide +kernel
theorem dX5_houseOf_160 : decode cX5_houseOf 160 = .ok (.iadd, 1) := by decide +kernel
theorem dX5_houseOf_161 : decode cX5_houseOf 161 = .ok (.ireturn, 1) := by decide +kernel
theorem dX5_houseOf_162 : decode cX5_houseOf 162 = .ok (.bipush (-100), 2) := by decide +kernel
theorem dX5_houseOf_164 : decode cX5_houseOf 164 = .ok (.ireturn, 1) := by decide +kernel
theorem dX5_browser_0 : decode cX5_browser 0 = .ok (.iload_n 1, 1) := by decide +kernel
theorem dX5_browser_1 : decode cX5_browser 1 = .ok (.invokestatic 109, 3) := by decide +kernel
theorem dX5_browser_4 : decode cX5_browser 4 = .ok (.ifCond .ne 6, 3) := by decide +kernel
theorem dX5_browser_7 : decode cX5_browser 7 = .ok (.bipush (-2), 2) := by decide +kernel
theorem dX5_browser_9 : decode cX5_browser 9 = .ok (.ireturn, 1) := by decide +kernel
theorem dX5_browser_10 : decode cX5_browser 10 = .ok (.iload_n 2, 1) := by decide +kernel
theorem dX5_browser_11 : decode cX5_browser 11 = .ok (.tableswitch 53 0 2 #[25, 35, 44], 25) := by decide +kernel
theorem dX5_browser_36 : decode cX5_browser 36 = .ok (.aload_n 0, 1) := by decide +kernel
theorem dX5_browser_37 : decode cX5_browser 37 = .ok (.getfield 10, 3) := by decide +kernel
theorem dX5_browser_40 : decode cX5_browser 40 = .ok (.getfield 112, 3) := by decide +kernel
theorem dX5_browser_43 : decode cX5_browser 43 = .ok (.iload_n 1, 1) := by decide +kernel
theorem dX5_browser_44 : decode cX5_browser 44 = .ok (.iaload, 1) := by decide +kernel
theorem dX5_browser_45 : decode cX5_browser 45 = .ok (.ireturn, 1) := by decide +kernel
theorem dX5_browser_46 : decode cX5_browser 46 = .ok (.aload_n 0, 1) := by decide +kernel
theorem dX5_browser_47 : decode cX5_browser 47 = .ok (.getfield 28, 3) := by decide +kernel
theorem dX5_browser_50 : decode cX5_browser 50 = .ok (.iload_n 1, 1) := by decide +kernel
theorem dX5_browser_51 : decode cX5_browser 51 = .ok (.invokevirtual 213, 3) := by decide +kernel
theorem dX5_browser_54 : decode cX5_browser 54 = .ok (.ireturn, 1) := by decide +kernel
theorem dX5_browser_55 : decode cX5_browser 55 = .ok (.aload_n 0, 1) := by decide +kernel
theorem dX5_browser_56 : decode cX5_browser 56 = .ok (.getfield 28, 3) := by decide +kernel
theorem dX5_browser_59 : decode cX5_browser 59 = .ok (.iload_n 1, 1) := by decide +kernel
theorem dX5_browser_60 : decode cX5_browser 60 = .ok (.invokevirtual 156, 3) := by decide +kernel
theorem dX5_browser_63 : decode cX5_browser 63 = .ok (.ireturn, 1) := by decide +kernel
theorem dX5_browser_64 : decode cX5_browser 64 = .ok (.bipush (-2), 2) := by decide +kernel
theorem dX5_browser_66 : decode cX5_browser 66 = .ok (.ireturn, 1) := by decide +kernel
theorem dX5_log_0 : decode cX5_log 0 = .ok (.iload_n 1, 1) := by decide +kernel
theorem dX5_log_1 : decode cX5_log 1 = .ok (.iconst 0, 1) := by decide +kernel
theorem dX5_log_2 : decode cX5_log 2 = .ok (.aload_n 0, 1) := by decide +kernel
theorem dX5_log_3 : decode cX5_log 3 = .ok (.getfield 19, 3) := by decide +kernel
theorem dX5_log_6 : decode cX5_log 6 = .ok (.getfield 216, 3) := by decide +kernel
theorem dX5_log_9 : decode cX5_log 9 = .ok (.iconst 1, 1) := by decide +kernel
theorem dX5_log_10 : decode cX5_log 10 = .ok (.isub, 1) := by decide +kernel
theorem dX5_log_11 : decode cX5_log 11 = .ok (.invokestatic 56, 3) := by decide +kernel
theorem dX5_log_14 : decode cX5_log 14 = .ok (.ifCond .eq 12, 3) := by decide +kernel
theorem dX5_log_17 : decode cX5_log 17 = .ok (.iload_n 2, 1) := by decide +kernel
theorem dX5_log_18 : decode cX5_log 18 = .ok (.iconst 0, 1) := by decide +kernel
theorem dX5_log_19 : decode cX5_log 19 = .ok (.iconst 5, 1) := by decide +kernel
theorem dX5_log_20 : decode cX5_log 20 = .ok (.invokestatic 56, 3) := by decide +kernel
theorem dX5_log_23 : decode cX5_log 23 = .ok (.ifCond .ne 6, 3) := by decide +kernel
theorem dX5_log_26 : decode cX5_log 26 = .ok (.bipush (-2), 2) := by decide +kernel
theorem dX5_log_28 : decode cX5_log 28 = .ok (.ireturn, 1) := by decide +kernel
theorem dX5_log_29 : decode cX5_log 29 = .ok (.aload_n 0, 1) := by decide +kernel
theorem dX5_log_30 : decode cX5_log 30 = .ok (.getfield 19, 3) := by decide +kernel
theorem dX5_log_33 : decode cX5_log 33 = .ok (.iload_n 1, 1) := by decide +kernel
theorem dX5_log_34 : decode cX5_log 34 = .ok (.iload_n 2, 1) := by decide +kernel
theorem dX5_log_35 : decode cX5_log 35 = .ok (.invokevirtual 219, 3) := by decide +kernel
theorem dX5_log_38 : decode cX5_log 38 = .ok (.ireturn, 1) := by decide +kernel
theorem dX5_where_0 : decode cX5_where 0 = .ok (.iload_n 1, 1) := by decide +kernel
theorem dX5_where_1 : decode cX5_where 1 = .ok (.invokestatic 109, 3) := by decide +kernel
theorem dX5_where_4 : decode cX5_where 4 = .ok (.ifCond .eq 14, 3) := by decide +kernel
theorem dX5_where_7 : decode cX5_where 7 = .ok (.aload_n 0, 1) := by decide +kernel
theorem dX5_where_8 : decode cX5_where 8 = .ok (.getfield 10, 3) := by decide +kernel
theorem dX5_where_11 : decode cX5_where 11 = .ok (.iload_n 2, 1) := by decide +kernel
theorem dX5_where_12 : decode cX5_where 12 = .ok (.invokevirtual 132, 3) := by decide +kernel
theorem dX5_where_15 : decode cX5_where 15 = .ok (.ifCond .ne 6, 3) := by decide +kernel
theorem dX5_where_18 : decode cX5_where 18 = .ok (.bipush (-2), 2) := by decide +kernel
theorem dX5_where_20 : decode cX5_where 20 = .ok (.ireturn, 1) := by decide +kernel
theorem dX5_where_21 : decode cX5_where 21 = .ok (.aload_n 0, 1) := by decide +kernel
theorem dX5_where_22 : decode cX5_where 22 = .ok (.getfield 19, 3) := by decide +kernel
theorem dX5_where_25 : decode cX5_where 25 = .ok (.getfield 216, 3) := by decide +kernel
theorem dX5_where_28 : decode cX5_where 28 = .ok (.iconst 1, 1) := by decide +kernel
theorem dX5_where_29 : decode cX5_where 29 = .ok (.isub, 1) := by decide +kernel
theorem dX5_where_30 : decode cX5_where 30 = .ok (.istore_n 3, 1) := by decide +kernel
theorem dX5_where_31 : decode cX5_where 31 = .ok (.iload_n 3, 1) := by decide +kernel
theorem dX5_where_32 : decode cX5_where 32 = .ok (.ifCond .lt 77, 3) := by decide +kernel
theorem dX5_where_35 : decode cX5_where 35 = .ok (.aload_n 0, 1) := by decide +kernel
theorem dX5_where_36 : decode cX5_where 36 = .ok (.getfield 19, 3) := by decide +kernel
theorem dX5_where_39 : decode cX5_where 39 = .ok (.iload_n 3, 1) := by decide +kernel
theorem dX5_where_40 : decode cX5_where 40 = .ok (.iconst 5, 1) := by decide +kernel
theorem dX5_where_41 : decode cX5_where 41 = .ok (.invokevirtual 219, 3) := by decide +kernel
theorem dX5_where_44 : decode cX5_where 44 = .ok (.ifCond .ne 20, 3) := by decide +kernel
theorem dX5_where_47 : decode cX5_where 47 = .ok (.aload_n 0, 1) := by decide +kernel
theorem dX5_where_48 : decode cX5_where 48 = .ok (.getfield 19, 3) := by decide +kernel
theorem dX5_where_51 : decode cX5_where 51 = .ok (.iload_n 3, 1) := by decide +kernel
theorem dX5_where_52 : decode cX5_where 52 = .ok (.iconst 1, 1) := by decide +kernel
theorem dX5_where_53 : decode cX5_where 53 = .ok (.invokevirtual 219, 3) := by decide +kernel
theorem dX5_where_56 : decode cX5_where 56 = .ok (.iload_n 2, 1) := by decide +kernel
theorem dX5_where_57 : decode cX5_where 57 = .ok (.if_icmp .ne 7, 3) := by decide +kernel
theorem dX5_where_60 : decode cX5_where 60 = .ok (.iconst 1, 1) := by decide +kernel
theorem dX5_where_61 : decode cX5_where 61 = .ok (.goto 4, 3) := by decide +kernel
theorem dX5_where_64 : decode cX5_where 64 = .ok (.iconst 0, 1) := by decide +kernel
theorem dX5_where_65 : decode cX5_where 65 = .ok (.istore 4, 2) := by decide +kernel
theorem dX5_where_67 : decode cX5_where 67 = .ok (.iload 4, 2) := by decide +kernel
theorem dX5_where_69 : decode cX5_where 69 = .ok (.ifCond .eq 34, 3) := by decide +kernel
theorem dX5_where_72 : decode cX5_where 72 = .ok (.aload_n 0, 1) := by decide +kernel
theorem dX5_where_73 : decode cX5_where 73 = .ok (.getfield 28, 3) := by decide +kernel
theorem dX5_where_76 : decode cX5_where 76 = .ok (.aload_n 0, 1) := by decide +kernel
theorem dX5_where_77 : decode cX5_where 77 = .ok (.getfield 19, 3) := by decide +kernel
theorem dX5_where_80 : decode cX5_where 80 = .ok (.iload_n 3, 1) := by decide +kernel
theorem dX5_where_81 : decode cX5_where 81 = .ok (.iconst 3, 1) := by decide +kernel
theorem dX5_where_82 : decode cX5_where 82 = .ok (.invokevirtual 219, 3) := by decide +kernel
theorem dX5_where_85 : decode cX5_where 85 = .ok (.iconst 1, 1) := by decide +kernel
theorem dX5_where_86 : decode cX5_where 86 = .ok (.invokevirtual 149, 3) := by decide +kernel
theorem dX5_where_89 : decode cX5_where 89 = .ok (.iload_n 1, 1) := by decide +kernel
theorem dX5_where_90 : decode cX5_where 90 = .ok (.if_icmp .ne 13, 3) := by decide +kernel
theorem dX5_where_93 : decode cX5_where 93 = .ok (.aload_n 0, 1) := by decide +kernel
theorem dX5_where_94 : decode cX5_where 94 = .ok (.getfield 19, 3) := by decide +kernel
theorem dX5_where_97 : decode cX5_where 97 = .ok (.iload_n 3, 1) := by decide +kernel
theorem dX5_where_98 : decode cX5_where 98 = .ok (.iconst 0, 1) := by decide +kernel
theorem dX5_where_99 : decode cX5_where 99 = .ok (.invokevirtual 219, 3) := by decide +kernel
theorem dX5_where_102 : decode cX5_where 102 = .ok (.ireturn, 1) := by decide +kernel
theorem dX5_where_103 : decode cX5_where 103 = .ok (.iinc 3 (-1), 3) := by decide +kernel
theorem dX5_where_106 : decode cX5_where 106 = .ok (.goto (-75), 3) := by decide +kernel
theorem dX5_where_109 : decode cX5_where 109 = .ok (.iconst (-1), 1) := by decide +kernel
theorem dX5_where_110 : decode cX5_where 110 = .ok (.ireturn, 1) := by decide +kernel
theorem dX5_count_0 : decode cX5_count 0 = .ok (.iload_n 1, 1) := by decide +kernel
theorem dX5_count_1 : decode cX5_count 1 = .ok (.tableswitch 176 0 12 #[67, 75, 83, 91, 99, 107, 115, 123, 131, 147, 155, 163, 171], 67) := by decide +kernel
theorem dX5_count_68 : decode cX5_count 68 = .ok (.aload_n 0, 1) := by decide +kernel
theorem dX5_count_69 : decode cX5_count 69 = .ok (.getfield 28, 3) := by decide +kernel
theorem dX5_count_72 : decode cX5_count 72 = .ok (.invokevirtual 115, 3) := by decide +kernel
theorem dX5_count_75 : decode cX5_count 75 = .ok (.ireturn, 1) := by decide +kernel
theorem dX5_count_76 : decode cX5_count 76 = .ok (.aload_n 0, 1) := by decide +kernel
theorem dX5_count_77 : decode cX5_count 77 = .ok (.getfield 10, 3) := by decide +kernel
theorem dX5_count_80 : decode cX5_count 80 = .ok (.getfield 84, 3) := by decide +kernel
theorem dX5_count_83 : decode cX5_count 83 = .ok (.ireturn, 1) := by decide +kernel
theorem dX5_count_84 : decode cX5_count 84 = .ok (.aload_n 0, 1) := by decide +kernel
theorem dX5_count_85 : decode cX5_count 85 = .ok (.getfield 28, 3) := by decide +kernel
theorem dX5_count_88 : decode cX5_count 88 = .ok (.invokevirtual 222, 3) := by decide +kernel
theorem dX5_count_91 : decode cX5_count 91 = .ok (.ireturn, 1) := by decide +kernel
theorem dX5_count_92 : decode cX5_count 92 = .ok (.aload_n 0, 1) := by decide +kernel
theorem dX5_count_93 : decode cX5_count 93 = .ok (.getfield 28, 3) := by decide +kernel
theorem dX5_count_96 : decode cX5_count 96 = .ok (.invokevirtual 225, 3) := by decide +kernel
theorem dX5_count_99 : decode cX5_count 99 = .ok (.ireturn, 1) := by decide +kernel
theorem dX5_count_100 : decode cX5_count 100 = .ok (.aload_n 0, 1) := by decide +kernel
theorem dX5_count_101 : decode cX5_count 101 = .ok (.getfield 28, 3) := by decide +kernel
theorem dX5_count_104 : decode cX5_count 104 = .ok (.invokevirtual 228, 3) := by decide +kernel
theorem dX5_count_107 : decode cX5_count 107 = .ok (.ireturn, 1) := by decide +kernel
theorem dX5_count_108 : decode cX5_count 108 = .ok (.aload_n 0, 1) := by decide +kernel
theorem dX5_count_109 : decode cX5_count 109 = .ok (.getfield 19, 3) := by decide +kernel
theorem dX5_count_112 : decode cX5_count 112 = .ok (.getfield 216, 3) := by decide +kernel
theorem dX5_count_115 : decode cX5_count 115 = .ok (.ireturn, 1) := by decide +kernel
theorem dX5_count_116 : decode cX5_count 116 = .ok (.aload_n 0, 1) := by decide +kernel
theorem dX5_count_117 : decode cX5_count 117 = .ok (.getfield 19, 3) := by decide +kernel
theorem dX5_count_120 : decode cX5_count 120 = .ok (.getfield 231, 3) := by decide +kernel
theorem dX5_count_123 : decode cX5_count 123 = .ok (.ireturn, 1) := by decide +kernel
theorem dX5_count_124 : decode cX5_count 124 = .ok (.aload_n 0, 1) := by decide +kernel
theorem dX5_count_125 : decode cX5_count 125 = .ok (.getfield 10, 3) := by decide +kernel
theorem dX5_count_128 : decode cX5_count 128 = .ok (.getfield 81, 3) := by decide +kernel
theorem dX5_count_131 : decode cX5_count 131 = .ok (.ireturn, 1) := by decide +kernel
theorem dX5_count_132 : decode cX5_count 132 = .ok (.aload_n 0, 1) := by decide +kernel
theorem dX5_count_133 : decode cX5_count 133 = .ok (.getfield 10, 3) := by decide +kernel
theorem dX5_count_136 : decode cX5_count 136 = .ok (.getfield 102, 3) := by decide +kernel
theorem dX5_count_139 : decode cX5_count 139 = .ok (.ifCond .eq 7, 3) := by decide +kernel
theorem dX5_count_142 : decode cX5_count 142 = .ok (.iconst 1, 1) := by decide +kernel
theorem dX5_count_143 : decode cX5_count 143 = .ok (.goto 4, 3) := by decide +kernel
theorem dX5_count_146 : decode cX5_count 146 = .ok (.iconst 0, 1) := by decide +kernel
theorem dX5_count_147 : decode cX5_count 147 = .ok (.ireturn, 1) := by decide +kernel
theorem dX5_count_148 : decode cX5_count 148 = .ok (.aload_n 0, 1) := by decide +kernel
theorem dX5_count_149 : decode cX5_count 149 = .ok (.getfield 10, 3) := by decide +kernel
theorem dX5_count_152 : decode cX5_count 152 = .ok (.getfield 106, 3) := by decide +kernel
theorem dX5_count_155 : decode cX5_count 155 = .ok (.ireturn, 1) := by decide +kernel
theorem dX5_count_156 : decode cX5_count 156 = .ok (.aload_n 0, 1) := by decide +kernel
theorem dX5_count_157 : decode cX5_count 157 = .ok (.getfield 19, 3) := by decide +kernel
theorem dX5_count_160 : decode cX5_count 160 = .ok (.getfield 234, 3) := by decide +kernel
theorem dX5_count_163 : decode cX5_count 163 = .ok (.ireturn, 1) := by decide +kernel
theorem dX5_count_164 : decode cX5_count 164 = .ok (.aload_n 0, 1) := by decide +kernel
theorem dX5_count_165 : decode cX5_count 165 = .ok (.getfield 37, 3) := by decide +kernel
theorem dX5_count_168 : decode cX5_count 168 = .ok (.getfield 237, 3) := by decide +kernel
theorem dX5_count_171 : decode cX5_count 171 = .ok (.ireturn, 1) := by decide +kernel
theorem dX5_count_172 : decode cX5_count 172 = .ok (.aload_n 0, 1) := by decide +kernel
theorem dX5_count_173 : decode cX5_count 173 = .ok (.invokevirtual 240, 3) := by decide +kernel
theorem dX5_count_176 : decode cX5_count 176 = .ok (.ireturn, 1) := by decide +kernel
theorem dX5_count_177 : decode cX5_count 177 = .ok (.iconst (-1), 1) := by decide +kernel
theorem dX5_count_178 : decode cX5_count 178 = .ok (.ireturn, 1) := by decide +kernel
theorem dX5_row_0 : decode cX5_row 0 = .ok (.aload_n 0, 1) := by decide +kernel
theorem dX5_row_1 : decode cX5_row 1 = .ok (.iload_n 1, 1) := by decide +kernel
theorem dX5_row_2 : decode cX5_row 2 = .ok (.invokevirtual 243, 3) := by decide +kernel
theorem dX5_row_5 : decode cX5_row 5 = .ok (.ifCond .eq 18, 3) := by decide +kernel
theorem dX5_row_8 : decode cX5_row 8 = .ok (.iload_n 2, 1) := by decide +kernel
theorem dX5_row_9 : decode cX5_row 9 = .ok (.iconst 0, 1) := by decide +kernel
theorem dX5_row_10 : decode cX5_row 10 = .ok (.iconst 3, 1) := by decide +kernel
theorem dX5_row_11 : decode cX5_row 11 = .ok (.invokestatic 56, 3) := by decide +kernel
theorem dX5_row_14 : decode cX5_row 14 = .ok (.ifCond .eq 9, 3) := by decide +kernel
theorem dX5_row_17 : decode cX5_row 17 = .ok (.iload_n 3, 1) := by decide +kernel
theorem dX5_row_18 : decode cX5_row 18 = .ok (.bipush 60, 2) := by decide +kernel
theorem dX5_row_20 : decode cX5_row 20 = .ok (.if_icmp .le 6, 3) := by decide +kernel
theorem dX5_row_23 : decode cX5_row 23 = .ok (.bipush (-2), 2) := by decide +kernel
theorem dX5_row_25 : decode cX5_row 25 = .ok (.ireturn, 1) := by decide +kernel
theorem dX5_row_26 : decode cX5_row 26 = .ok (.iload_n 3, 1) := by decide +kernel
theorem dX5_row_27 : decode cX5_row 27 = .ok (.ifCond .ge 6, 3) := by decide +kernel
theorem dX5_row_30 : decode cX5_row 30 = .ok (.bipush (-3), 2) := by decide +kernel
theorem dX5_row_32 : decode cX5_row 32 = .ok (.ireturn, 1) := by decide +kernel
theorem dX5_row_33 : decode cX5_row 33 = .ok (.aload_n 0, 1) := by decide +kernel
theorem dX5_row_34 : decode cX5_row 34 = .ok (.getfield 43, 3) := by decide +kernel
theorem dX5_row_37 : decode cX5_row 37 = .ok (.iload_n 1, 1) := by decide +kernel
theorem dX5_row_38 : decode cX5_row 38 = .ok (.aaload, 1) := by decide +kernel
theorem dX5_row_39 : decode cX5_row 39 = .ok (.iload_n 2, 1) := by decide +kernel
theorem dX5_row_40 : decode cX5_row 40 = .ok (.iload_n 3, 1) := by decide +kernel
theorem dX5_row_41 : decode cX5_row 41 = .ok (.invokevirtual 246, 3) := by decide +kernel
theorem dX5_row_44 : decode cX5_row 44 = .ok (.iconst 0, 1) := by decide +kernel
theorem dX5_row_45 : decode cX5_row 45 = .ok (.ireturn, 1) := by decide +kernel
theorem dX5_tear_0 : decode cX5_tear 0 = .ok (.aload_n 0, 1) := by decide +kernel
theorem dX5_tear_1 : decode cX5_tear 1 = .ok (.iload_n 1, 1) := by decide +kernel
theorem dX5_tear_2 : decode cX5_tear 2 = .ok (.invokevirtual 243, 3) := by decide +kernel
theorem dX5_tear_5 : decode cX5_tear 5 = .ok (.ifCond .eq 15, 3) := by decide +kernel
theorem dX5_tear_8 : decode cX5_tear 8 = .ok (.aload_n 0, 1) := by decide +kernel
theorem dX5_tear_9 : decode cX5_tear 9 = .ok (.getfield 43, 3) := by decide +kernel
theorem dX5_tear_12 : decode cX5_tear 12 = .ok (.iload_n 1, 1) := by decide +kernel
theorem dX5_tear_13 : decode cX5_tear 13 = .ok (.aaload, 1) := by decide +kernel
theorem dX5_tear_14 : decode cX5_tear 14 = .ok (.invokevirtual 250, 3) := by decide +kernel
theorem dX5_tear_17 : decode cX5_tear 17 = .ok (.ifCond .ne 5, 3) := by decide +kernel
theorem dX5_tear_20 : decode cX5_tear 20 = .ok (.iconst 0, 1) := by decide +kernel
theorem dX5_tear_21 : decode cX5_tear 21 = .ok (.ireturn, 1) := by decide +kernel
theorem dX5_tear_22 : decode cX5_tear 22 = .ok (.aload_n 0, 1) := by decide +kernel
theorem dX5_tear_23 : decode cX5_tear 23 = .ok (.getfield 43, 3) := by decide +kernel
theorem dX5_tear_26 : decode cX5_tear 26 = .ok (.iload_n 1, 1) := by decide +kernel
theorem dX5_tear_27 : decode cX5_tear 27 = .ok (.aaload, 1) := by decide +kernel
theorem dX5_tear_28 : decode cX5_tear 28 = .ok (.iconst (-1), 1) := by decide +kernel
theorem dX5_tear_29 : decode cX5_tear 29 = .ok (.putfield 254, 3) := by decide +kernel
theorem dX5_tear_32 : decode cX5_tear 32 = .ok (.iconst 1, 1) := by decide +kernel
theorem dX5_tear_33 : decode cX5_tear 33 = .ok (.ireturn, 1) := by decide +kernel
theorem dX5_write_0 : decode cX5_write 0 = .ok (.aload_n 0, 1) := by decide +kernel
theorem dX5_write_1 : decode cX5_write 1 = .ok (.iload_n 1, 1) := by decide +kernel
theorem dX5_write_2 : decode cX5_write 2 = .ok (.invokevirtual 243, 3) := by decide +kernel
theorem dX5_write_5 : decode cX5_write 5 = .ok (.ifCond .ne 6, 3) := by decide +kernel
theorem dX5_write_8 : decode cX5_write 8 = .ok (.bipush (-2), 2) := by decide +kernel
theorem dX5_write_10 : decode cX5_write 10 = .ok (.ireturn, 1) := by decide +kernel
theorem dX5_write_11 : decode cX5_write 11 = .ok (.aload_n 0, 1) := by decide +kernel
theorem dX5_write_12 : decode cX5_write 12 = .ok (.getfield 43, 3) := by decide +kernel
theorem dX5_write_15 : decode cX5_write 15 = .ok (.iload_n 1, 1) := by decide +kernel
theorem dX5_write_16 : decode cX5_write 16 = .ok (.aaload, 1) := by decide +kernel
theorem dX5_write_17 : decode cX5_write 17 = .ok (.invokevirtual 250, 3) := by decide +kernel
theorem dX5_write_20 : decode cX5_write 20 = .ok (.ifCond .ne 6, 3) := by decide +kernel
theorem dX5_write_23 : decode cX5_write 23 = .ok (.bipush (-5), 2) := by decide +kernel
theorem dX5_write_25 : decode cX5_write 25 = .ok (.ireturn, 1) := by decide +kernel
theorem dX5_write_26 : decode cX5_write 26 = .ok (.aload_n 0, 1) := by decide +kernel
theorem dX5_write_27 : decode cX5_write 27 = .ok (.getfield 43, 3) := by decide +kernel
theorem dX5_write_30 : decode cX5_write 30 = .ok (.iload_n 1, 1) := by decide +kernel
theorem dX5_write_31 : decode cX5_write 31 = .ok (.aaload, 1) := by decide +kernel
theorem dX5_write_32 : decode cX5_write 32 = .ok (.iload_n 2, 1) := by decide +kernel
theorem dX5_write_33 : decode cX5_write 33 = .ok (.lload_n 3, 1) := by decide +kernel
theorem dX5_write_34 : decode cX5_write 34 = .ok (.invokevirtual 257, 3) := by decide +kernel
theorem dX5_write_37 : decode cX5_write 37 = .ok (.ifCond .eq 7, 3) := by decide +kernel
theorem dX5_write_40 : decode cX5_write 40 = .ok (.iconst 0, 1) := by decide +kernel
theorem dX5_write_41 : decode cX5_write 41 = .ok (.goto 5, 3) := by decide +kernel
theorem dX5_write_44 : decode cX5_write 44 = .ok (.bipush (-6), 2) := by decide +kernel
theorem dX5_write_46 : decode cX5_write 46 = .ok (.ireturn, 1) := by decide +kernel
theorem dX5_paste_0 : decode cX5_paste 0 = .ok (.aload_n 0, 1) := by decide +kernel
theorem dX5_paste_1 : decode cX5_paste 1 = .ok (.iload_n 1, 1) := by decide +kernel
theorem dX5_paste_2 : decode cX5_paste 2 = .ok (.invokevirtual 243, 3) := by decide +kernel
theorem dX5_paste_5 : decode cX5_paste 5 = .ok (.ifCond .eq 11, 3) := by decide +kernel
theorem dX5_paste_8 : decode cX5_paste 8 = .ok (.aload_n 0, 1) := by decide +kernel
theorem dX5_paste_9 : decode cX5_paste 9 = .ok (.iload_n 3, 1) := by decide +kernel
theorem dX5_paste_10 : decode cX5_paste 10 = .ok (.invokevirtual 243, 3) := by decide +kernel
theorem dX5_paste_13 : decode cX5_paste 13 = .ok (.ifCond .ne 6, 3) := by decide +kernel
theorem dX5_paste_16 : decode cX5_paste 16 = .ok (.bipush (-2), 2) := by decide +kernel
theorem dX5_paste_18 : decode cX5_paste 18 = .ok (.ireturn, 1) := by decide +kernel
theorem dX5_paste_19 : decode cX5_paste 19 = .ok (.aload_n 0, 1) := by decide +kernel
theorem dX5_paste_20 : decode cX5_paste 20 = .ok (.getfield 43, 3) := by decide +kernel
theorem dX5_paste_23 : decode cX5_paste 23 = .ok (.iload_n 1, 1) := by decide +kernel
theorem dX5_paste_24 : decode cX5_paste 24 = .ok (.aaload, 1) := by decide +kernel
theorem dX5_paste_25 : decode cX5_paste 25 = .ok (.astore 6, 2) := by decide +kernel
theorem dX5_paste_27 : decode cX5_paste 27 = .ok (.aload_n 0, 1) := by decide +kernel
theorem dX5_paste_28 : decode cX5_paste 28 = .ok (.getfield 43, 3) := by decide +kernel
theorem dX5_paste_31 : decode cX5_paste 31 = .ok (.iload_n 3, 1) := by decide +kernel
theorem dX5_paste_32 : decode cX5_paste 32 = .ok (.aaload, 1) := by decide +kernel
theorem dX5_paste_33 : decode cX5_paste 33 = .ok (.astore 7, 2) := by decide +kernel
theorem dX5_paste_35 : decode cX5_paste 35 = .ok (.aload 6, 2) := by decide +kernel
theorem dX5_paste_37 : decode cX5_paste 37 = .ok (.invokevirtual 250, 3) := by decide +kernel
theorem dX5_paste_40 : decode cX5_paste 40 = .ok (.ifCond .eq 11, 3) := by decide +kernel
theorem dX5_paste_43 : decode cX5_paste 43 = .ok (.aload 7, 2) := by decide +kernel
theorem dX5_paste_45 : decode cX5_paste 45 = .ok (.invokevirtual 250, 3) := by decide +kernel
theorem dX5_paste_48 : decode cX5_paste 48 = .ok (.ifCond .ne 6, 3) := by decide +kernel
theorem dX5_paste_51 : decode cX5_paste 51 = .ok (.bipush (-5), 2) := by decide +kernel
theorem dX5_paste_53 : decode cX5_paste 53 = .ok (.ireturn, 1) := by decide +kernel
theorem dX5_paste_54 : decode cX5_paste 54 = .ok (.aload 6, 2) := by decide +kernel
theorem dX5_paste_56 : decode cX5_paste 56 = .ok (.getfield 254, 3) := by decide +kernel
theorem dX5_paste_59 : decode cX5_paste 59 = .ok (.aload 7, 2) := by decide +kernel
theorem dX5_paste_61 : decode cX5_paste 61 = .ok (.getfield 254, 3) := by decide +kernel
theorem dX5_paste_64 : decode cX5_paste 64 = .ok (.if_icmp .eq 6, 3) := by decide +kernel
theorem dX5_paste_67 : decode cX5_paste 67 = .ok (.bipush (-7), 2) := by decide +kernel
theorem dX5_paste_69 : decode cX5_paste 69 = .ok (.ireturn, 1) := by decide +kernel
theorem dX5_paste_70 : decode cX5_paste 70 = .ok (.aload 6, 2) := by decide +kernel
theorem dX5_paste_72 : decode cX5_paste 72 = .ok (.iload_n 2, 1) := by decide +kernel
theorem dX5_paste_73 : decode cX5_paste 73 = .ok (.iload 5, 2) := by decide +kernel
theorem dX5_paste_75 : decode cX5_paste 75 = .ok (.invokevirtual 261, 3) := by decide +kernel
theorem dX5_paste_78 : decode cX5_paste 78 = .ok (.ifCond .eq 15, 3) := by decide +kernel
theorem dX5_paste_81 : decode cX5_paste 81 = .ok (.aload 7, 2) := by decide +kernel
theorem dX5_paste_83 : decode cX5_paste 83 = .ok (.iload 4, 2) := by decide +kernel
theorem dX5_paste_85 : decode cX5_paste 85 = .ok (.iload 5, 2) := by decide +kernel
theorem dX5_paste_87 : decode cX5_paste 87 = .ok (.invokevirtual 261, 3) := by decide +kernel
theorem dX5_paste_90 : decode cX5_paste 90 = .ok (.ifCond .ne 6, 3) := by decide +kernel
theorem dX5_paste_93 : decode cX5_paste 93 = .ok (.bipush (-6), 2) := by decide +kernel
theorem dX5_paste_95 : decode cX5_paste 95 = .ok (.ireturn, 1) := by decide +kernel
theorem dX5_paste_96 : decode cX5_paste 96 = .ok (.aload 6, 2) := by decide +kernel
theorem dX5_paste_98 : decode cX5_paste 98 = .ok (.getfield 264, 3) := by decide +kernel
theorem dX5_paste_101 : decode cX5_paste 101 = .ok (.iload_n 2, 1) := by decide +kernel
theorem dX5_paste_102 : decode cX5_paste 102 = .ok (.aload 7, 2) := by decide +kernel
theorem dX5_paste_104 : decode cX5_paste 104 = .ok (.getfield 264, 3) := by decide +kernel
theorem dX5_paste_107 : decode cX5_paste 107 = .ok (.iload 4, 2) := by decide +kernel
theorem dX5_paste_109 : decode cX5_paste 109 = .ok (.iload 5, 2) := by decide +kernel
theorem dX5_paste_111 : decode cX5_paste 111 = .ok (.invokestatic 268, 3) := by decide +kernel
theorem dX5_paste_114 : decode cX5_paste 114 = .ok (.iconst 0, 1) := by decide +kernel
theorem dX5_paste_115 : decode cX5_paste 115 = .ok (.ireturn, 1) := by decide +kernel
theorem dX5_script_0 : decode cX5_script 0 = .ok (.aload_n 0, 1) := by decide +kernel
theorem dX5_script_1 : decode cX5_script 1 = .ok (.iload_n 1, 1) := by decide +kernel
theorem dX5_script_2 : decode cX5_script 2 = .ok (.invokevirtual 243, 3) := by decide +kernel
theorem dX5_script_5 : decode cX5_script 5 = .ok (.ifCond .ne 6, 3) := by decide +kernel
theorem dX5_script_8 : decode cX5_script 8 = .ok (.bipush (-2), 2) := by decide +kernel
theorem dX5_script_10 : decode cX5_script 10 = .ok (.ireturn, 1) := by decide +kernel
theorem dX5_script_11 : decode cX5_script 11 = .ok (.aload_n 0, 1) := by decide +kernel
theorem dX5_script_12 : decode cX5_script 12 = .ok (.getfield 43, 3) := by decide +kernel
theorem dX5_script_15 : decode cX5_script 15 = .ok (.iload_n 1, 1) := by decide +kernel
theorem dX5_script_16 : decode cX5_script 16 = .ok (.aaload, 1) := by decide +kernel
theorem dX5_script_17 : decode cX5_script 17 = .ok (.astore_n 2, 1) := by decide +kernel
theorem dX5_script_18 : decode cX5_script 18 = .ok (.aload_n 2, 1) := by decide +kernel
theorem dX5_script_19 : decode cX5_script 19 = .ok (.invokevirtual 250, 3) := by decide +kernel
theorem dX5_script_22 : decode cX5_script 22 = .ok (.ifCond .ne 6, 3) := by decide +kernel
theorem dX5_script_25 : decode cX5_script 25 = .ok (.bipush (-5), 2) := by decide +kernel
theorem dX5_script_27 : decode cX5_script 27 = .ok (.ireturn, 1) := by decide +kernel
theorem dX5_script_28 : decode cX5_script 28 = .ok (.aload_n 0, 1) := by decide +kernel
theorem dX5_script_29 : decode cX5_script 29 = .ok (.iconst 0, 1) := by decide +kernel
theorem dX5_script_30 : decode cX5_script 30 = .ok (.putfield 52, 3) := by decide +kernel
theorem dX5_script_33 : decode cX5_script 33 = .ok (.iconst 0, 1) := by decide +kernel
theorem dX5_script_34 : decode cX5_script 34 = .ok (.istore_n 3, 1) := by decide +kernel
theorem dX5_script_35 : decode cX5_script 35 = .ok (.iconst 0, 1) := by decide +kernel
theorem dX5_script_36 : decode cX5_script 36 = .ok (.istore 4, 2) := by decide +kernel
theorem dX5_script_38 : decode cX5_script 38 = .ok (.iload 4, 2) := by decide +kernel
theorem dX5_script_40 : decode cX5_script 40 = .ok (.aload_n 2, 1) := by decide +kernel
theorem dX5_script_41 : decode cX5_script 41 = .ok (.getfield 274, 3) := by decide +kernel
theorem dX5_script_44 : decode cX5_script 44 = .ok (.if_icmp .ge 71, 3) := by decide +kernel
theorem dX5_script_47 : decode cX5_script 47 = .ok (.iload_n 3, 1) := by decide +kernel
theorem dX5_script_48 : decode cX5_script 48 = .ok (.bipush 60, 2) := by decide +kernel
theorem dX5_script_50 : decode cX5_script 50 = .ok (.if_icmp .ge 65, 3) := by decide +kernel
theorem dX5_script_53 : decode cX5_script 53 = .ok (.aload_n 0, 1) := by decide +kernel
theorem dX5_script_54 : decode cX5_script 54 = .ok (.aload_n 0, 1) := by decide +kernel
theorem dX5_script_55 : decode cX5_script 55 = .ok (.aload_n 2, 1) := by decide +kernel
theorem dX5_script_56 : decode cX5_script 56 = .ok (.iload 4, 2) := by decide +kernel
theorem dX5_script_58 : decode cX5_script 58 = .ok (.invokevirtual 277, 3) := by decide +kernel
theorem dX5_script_61 : decode cX5_script 61 = .ok (.putfield 52, 3) := by decide +kernel
theorem dX5_script_64 : decode cX5_script 64 = .ok (.aload_n 0, 1) := by decide +kernel
theorem dX5_script_65 : decode cX5_script 65 = .ok (.getfield 52, 3) := by decide +kernel
theorem dX5_script_68 : decode cX5_script 68 = .ok (.ifCond .eq 5, 3) := by decide +kernel
theorem dX5_script_71 : decode cX5_script 71 = .ok (.iload_n 3, 1) := by decide +kernel
theorem dX5_script_72 : decode cX5_script 72 = .ok (.ireturn, 1) := by decide +kernel
theorem dX5_script_73 : decode cX5_script 73 = .ok (.aload_n 2, 1) := by decide +kernel
theorem dX5_script_74 : decode cX5_script 74 = .ok (.iload 4, 2) := by decide +kernel
theorem dX5_script_76 : decode cX5_script 76 = .ok (.invokevirtual 281, 3) := by decide +kernel
theorem dX5_script_79 : decode cX5_script 79 = .ok (.istore 5, 2) := by decide +kernel
theorem dX5_script_81 : decode cX5_script 81 = .ok (.aload_n 0, 1) := by decide +kernel
theorem dX5_script_82 : decode cX5_script 82 = .ok (.iload 5, 2) := by decide +kernel
theorem dX5_script_84 : decode cX5_script 84 = .ok (.invokevirtual 284, 3) := by decide +kernel
theorem dX5_script_87 : decode cX5_script 87 = .ok (.ifCond .ne 10, 3) := by decide +kernel
theorem dX5_script_90 : decode cX5_script 90 = .ok (.aload_n 0, 1) := by decide +kernel
theorem dX5_script_91 : decode cX5_script 91 = .ok (.iconst 3, 1) := by decide +kernel
theorem dX5_script_92 : decode cX5_script 92 = .ok (.putfield 52, 3) := by decide +kernel
theorem dX5_script_95 : decode cX5_script 95 = .ok (.iload_n 3, 1) := by decide +kernel
theorem dX5_script_96 : decode cX5_script 96 = .ok (.ireturn, 1) := by decide +kernel
theorem dX5_script_97 : decode cX5_script 97 = .ok (.iinc 3 1, 3) := by decide +kernel
theorem dX5_script_100 : decode cX5_script 100 = .ok (.iload 4, 2) := by decide +kernel
theorem dX5_script_102 : decode cX5_script 102 = .ok (.iconst 1, 1) := by decide +kernel
theorem dX5_script_103 : decode cX5_script 103 = .ok (.iload 5, 2) := by decide +kernel
theorem dX5_script_105 : decode cX5_script 105 = .ok (.invokestatic 287, 3) := by decide +kernel
theorem dX5_script_108 : decode cX5_script 108 = .ok (.iadd, 1) := by decide +kernel
theorem dX5_script_109 : decode cX5_script 109 = .ok (.iadd, 1) := by decide +kernel
theorem dX5_script_110 : decode cX5_script 110 = .ok (.istore 4, 2) := by decide +kernel
theorem dX5_script_112 : decode cX5_script 112 = .ok (.goto (-74), 3) := by decide +kernel
theorem dX5_script_115 : decode cX5_script 115 = .ok (.iload_n 3, 1) := by decide +kernel
theorem dX5_script_116 : decode cX5_script 116 = .ok (.ireturn, 1) := by decide +kernel
theorem dX5_why_0 : decode cX5_why 0 = .ok (.aload_n 0, 1) := by decide +kernel
theorem dX5_why_1 : decode cX5_why 1 = .ok (.getfield 52, 3) := by decide +kernel
theorem dX5_why_4 : decode cX5_why 4 = .ok (.ireturn, 1) := by decide +kernel
theorem dX5_within_0 : decode cX5_within 0 = .ok (.iload_n 0, 1) := by decide +kernel
theorem dX5_within_1 : decode cX5_within 1 = .ok (.iload_n 1, 1) := by decide +kernel
theorem dX5_within_2 : decode cX5_within 2 = .ok (.if_icmp .lt 12, 3) := by decide +kernel
theorem dX5_within_5 : decode cX5_within 5 = .ok (.iload_n 0, 1) := by decide +kernel
theorem dX5_within_6 : decode cX5_within 6 = .ok (.iload_n 2, 1) := by decide +kernel
theorem dX5_within_7 : decode cX5_within 7 = .ok (.if_icmp .gt 7, 3) := by decide +kernel
theorem dX5_within_10 : decode cX5_within 10 = .ok (.iconst 1, 1) := by decide +kernel
theorem dX5_within_11 : decode cX5_within 11 = .ok (.goto 4, 3) := by decide +kernel
theorem dX5_within_14 : decode cX5_within 14 = .ok (.iconst 0, 1) := by decide +kernel
theorem dX5_within_15 : decode cX5_within 15 = .ok (.ireturn, 1) := by decide +kernel
theorem dX5_isBrowser_0 : decode cX5_isBrowser 0 = .ok (.iload_n 0, 1) := by decide +kernel
theorem dX5_isBrowser_1 : decode cX5_isBrowser 1 = .ok (.ifCond .lt 12, 3) := by decide +kernel
theorem dX5_isBrowser_4 : decode cX5_isBrowser 4 = .ok (.iload_n 0, 1) := by decide +kernel
theorem dX5_isBrowser_5 : decode cX5_isBrowser 5 = .ok (.iconst 5, 1) := by decide +kernel
theorem dX5_isBrowser_6 : decode cX5_isBrowser 6 = .ok (.if_icmp .ge 7, 3) := by decide +kernel
theorem dX5_isBrowser_9 : decode cX5_isBrowser 9 = .ok (.iconst 1, 1) := by decide +kernel
theorem dX5_isBrowser_10 : decode cX5_isBrowser 10 = .ok (.goto 4, 3) := by decide +kernel
theorem dX5_isBrowser_13 : decode cX5_isBrowser 13 = .ok (.iconst 0, 1) := by decide +kernel
theorem dX5_isBrowser_14 : decode cX5_isBrowser 14 = .ok (.ireturn, 1) := by decide +kernel
theorem dX5_isRight_0 : decode cX5_isRight 0 = .ok (.iload_n 0, 1) := by decide +kernel
theorem dX5_isRight_1 : decode cX5_isRight 1 = .ok (.ifCond .lt 13, 3) := by decide +kernel
theorem dX5_isRight_4 : decode cX5_isRight 4 = .ok (.iload_n 0, 1) := by decide +kernel
theorem dX5_isRight_5 : decode cX5_isRight 5 = .ok (.bipush 8, 2) := by decide +kernel
theorem dX5_isRight_7 : decode cX5_isRight 7 = .ok (.if_icmp .ge 7, 3) := by decide +kernel
theorem dX5_isRight_10 : decode cX5_isRight 10 = .ok (.iconst 1, 1) := by decide +kernel
theorem dX5_isRight_11 : decode cX5_isRight 11 = .ok (.goto 4, 3) := by decide +kernel
theorem dX5_isRight_14 : decode cX5_isRight 14 = .ok (.iconst 0, 1) := by decide +kernel
theorem dX5_isRight_15 : decode cX5_isRight 15 = .ok (.ireturn, 1) := by decide +kernel
theorem dX5_isSlot_0 : decode cX5_isSlot 0 = .ok (.iload_n 1, 1) := by decide +kernel
theorem dX5_isSlot_1 : decode cX5_isSlot 1 = .ok (.ifCond .lt 21, 3) := by decide +kernel
theorem dX5_isSlot_4 : decode cX5_isSlot 4 = .ok (.iload_n 1, 1) := by decide +kernel
theorem dX5_isSlot_5 : decode cX5_isSlot 5 = .ok (.iconst 4, 1) := by decide +kernel
theorem dX5_isSlot_6 : decode cX5_isSlot 6 = .ok (.if_icmp .ge 16, 3) := by decide +kernel
theorem dX5_isSlot_9 : decode cX5_isSlot 9 = .ok (.aload_n 0, 1) := by decide +kernel
theorem dX5_isSlot_10 : decode cX5_isSlot 10 = .ok (.getfield 43, 3) := by decide +kernel
theorem dX5_isSlot_13 : decode cX5_isSlot 13 = .ok (.iload_n 1, 1) := by decide +kernel
theorem dX5_isSlot_14 : decode cX5_isSlot 14 = .ok (.aaload, 1) := by decide +kernel
theorem dX5_isSlot_15 : decode cX5_isSlot 15 = .ok (.ifnull 7, 3) := by decide +kernel
theorem dX5_isSlot_18 : decode cX5_isSlot 18 = .ok (.iconst 1, 1) := by decide +kernel
theorem dX5_isSlot_19 : decode cX5_isSlot 19 = .ok (.goto 4, 3) := by decide +kernel
theorem dX5_isSlot_22 : decode cX5_isSlot 22 = .ok (.iconst 0, 1) := by decide +kernel
theorem dX5_isSlot_23 : decode cX5_isSlot 23 = .ok (.ireturn, 1) := by decide +kernel
theorem dX5_isQuestion_0 : decode cX5_isQuestion 0 = .ok (.iload 4, 2) := by decide +kernel
theorem dX5_isQuestion_2 : decode cX5_isQuestion 2 = .ok (.invokestatic 153, 3) := by decide +kernel
theorem dX5_isQuestion_5 : decode cX5_isQuestion 5 = .ok (.ifCond .eq 14, 3) := by decide +kernel
theorem dX5_isQuestion_8 : decode cX5_isQuestion 8 = .ok (.iload 5, 2) := by decide +kernel
theorem dX5_isQuestion_10 : decode cX5_isQuestion 10 = .ok (.iconst 0, 1) := by decide +kernel
theorem dX5_isQuestion_11 : decode cX5_isQuestion 11 = .ok (.bipush 6, 2) := by decide +kernel
theorem dX5_isQuestion_13 : decode cX5_isQuestion 13 = .ok (.invokestatic 56, 3) := by decide +kernel
theorem dX5_isQuestion_16 : decode cX5_isQuestion 16 = .ok (.ifCond .ne 5, 3) := by decide +kernel
theorem dX5_isQuestion_19 : decode cX5_isQuestion 19 = .ok (.iconst 0, 1) := by decide +kernel
theorem dX5_isQuestion_20 : decode cX5_isQuestion 20 = .ok (.ireturn, 1) := by decide +kernel
theorem dX5_isQuestion_21 : decode cX5_isQuestion 21 = .ok (.iload_n 1, 1) := by decide +kernel
theorem dX5_isQuestion_22 : decode cX5_isQuestion 22 = .ok (.ifCond .ne 29, 3) := by decide +kernel
theorem dX5_isQuestion_25 : decode cX5_isQuestion 25 = .ok (.aload_n 0, 1) := by decide +kernel
theorem dX5_isQuestion_26 : decode cX5_isQuestion 26 = .ok (.getfield 10, 3) := by decide +kernel
theorem dX5_isQuestion_29 : decode cX5_isQuestion 29 = .ok (.iload_n 2, 1) := by decide +kernel
theorem dX5_isQuestion_30 : decode cX5_isQuestion 30 = .ok (.invokevirtual 132, 3) := by decide +kernel
theorem dX5_isQuestion_33 : decode cX5_isQuestion 33 = .ok (.ifCond .eq 16, 3) := by decide +kernel
theorem dX5_isQuestion_36 : decode cX5_isQuestion 36 = .ok (.iload_n 3, 1) := by decide +kernel
theorem dX5_isQuestion_37 : decode cX5_isQuestion 37 = .ok (.iconst 0, 1) := by decide +kernel
theorem dX5_isQuestion_38 : decode cX5_isQuestion 38 = .ok (.iconst 3, 1) := by decide +kernel
theorem dX5_isQuestion_39 : decode cX5_isQuestion 39 = .ok (.invokestatic 56, 3) := by decide +kernel
theorem dX5_isQuestion_42 : decode cX5_isQuestion 42 = .ok (.ifCond .eq 7, 3) := by decide +kernel
theorem dX5_isQuestion_45 : decode cX5_isQuestion 45 = .ok (.iconst 1, 1) := by decide +kernel
theorem dX5_isQuestion_46 : decode cX5_isQuestion 46 = .ok (.goto 4, 3) := by decide +kernel
theorem dX5_isQuestion_49 : decode cX5_isQuestion 49 = .ok (.iconst 0, 1) := by decide +kernel
theorem dX5_isQuestion_50 : decode cX5_isQuestion 50 = .ok (.ireturn, 1) := by decide +kernel
theorem dX5_isQuestion_51 : decode cX5_isQuestion 51 = .ok (.iload_n 1, 1) := by decide +kernel
theorem dX5_isQuestion_52 : decode cX5_isQuestion 52 = .ok (.iconst 1, 1) := by decide +kernel
theorem dX5_isQuestion_53 : decode cX5_isQuestion 53 = .ok (.if_icmp .ne 20, 3) := by decide +kernel
theorem dX5_isQuestion_56 : decode cX5_isQuestion 56 = .ok (.iload_n 2, 1) := by decide +kernel
theorem dX5_isQuestion_57 : decode cX5_isQuestion 57 = .ok (.iconst 0, 1) := by decide +kernel
theorem dX5_isQuestion_58 : decode cX5_isQuestion 58 = .ok (.iconst 3, 1) := by decide +kernel
theorem dX5_isQuestion_59 : decode cX5_isQuestion 59 = .ok (.invokestatic 56, 3) := by decide +kernel
theorem dX5_isQuestion_62 : decode cX5_isQuestion 62 = .ok (.ifCond .eq 11, 3) := by decide +kernel
theorem dX5_isQuestion_65 : decode cX5_isQuestion 65 = .ok (.iload_n 3, 1) := by decide +kernel
theorem dX5_isQuestion_66 : decode cX5_isQuestion 66 = .ok (.ifCond .ne 7, 3) := by decide +kernel
theorem dX5_isQuestion_69 : decode cX5_isQuestion 69 = .ok (.iconst 1, 1) := by decide +kernel
theorem dX5_isQuestion_70 : decode cX5_isQuestion 70 = .ok (.goto 4, 3) := by decide +kernel
theorem dX5_isQuestion_73 : decode cX5_isQuestion 73 = .ok (.iconst 0, 1) := by decide +kernel
theorem dX5_isQuestion_74 : decode cX5_isQuestion 74 = .ok (.ireturn, 1) := by decide +kernel
theorem dX5_fullSlots_0 : decode cX5_fullSlots 0 = .ok (.iconst 0, 1) := by decide +kernel
theorem dX5_fullSlots_1 : decode cX5_fullSlots 1 = .ok (.istore_n 1, 1) := by decide +kernel
theorem dX5_fullSlots_2 : decode cX5_fullSlots 2 = .ok (.iconst 0, 1) := by decide +kernel
theorem dX5_fullSlots_3 : decode cX5_fullSlots 3 = .ok (.istore_n 2, 1) := by decide +kernel
theorem dX5_fullSlots_4 : decode cX5_fullSlots 4 = .ok (.iload_n 2, 1) := by decide +kernel
theorem dX5_fullSlots_5 : decode cX5_fullSlots 5 = .ok (.iconst 4, 1) := by decide +kernel
theorem dX5_fullSlots_6 : decode cX5_fullSlots 6 = .ok (.if_icmp .ge 32, 3) := by decide +kernel
theorem dX5_fullSlots_9 : decode cX5_fullSlots 9 = .ok (.aload_n 0, 1) := by decide +kernel
theorem dX5_fullSlots_10 : decode cX5_fullSlots 10 = .ok (.iload_n 2, 1) := by decide +kernel
theorem dX5_fullSlots_11 : decode cX5_fullSlots 11 = .ok (.invokevirtual 243, 3) := by decide +kernel
theorem dX5_fullSlots_14 : decode cX5_fullSlots 14 = .ok (.ifCond .eq 18, 3) := by decide +kernel
theorem dX5_fullSlots_17 : decode cX5_fullSlots 17 = .ok (.aload_n 0, 1) := by decide +kernel
theorem dX5_fullSlots_18 : decode cX5_fullSlots 18 = .ok (.getfield 43, 3) := by decide +kernel
theorem dX5_fullSlots_21 : decode cX5_fullSlots 21 = .ok (.iload_n 2, 1) := by decide +kernel
theorem dX5_fullSlots_22 : decode cX5_fullSlots 22 = .ok (.aaload, 1) := by decide +kernel
theorem dX5_fullSlots_23 : decode cX5_fullSlots 23 = .ok (.invokevirtual 250, 3) := by decide +kernel
theorem dX5_fullSlots_26 : decode cX5_fullSlots 26 = .ok (.ifCond .eq 6, 3) := by decide +kernel
theorem dX5_fullSlots_29 : decode cX5_fullSlots 29 = .ok (.iinc 1 1, 3) := by decide +kernel
theorem dX5_fullSlots_32 : decode cX5_fullSlots 32 = .ok (.iinc 2 1, 3) := by decide +kernel
theorem dX5_fullSlots_35 : decode cX5_fullSlots 35 = .ok (.goto (-31), 3) := by decide +kernel
theorem dX5_fullSlots_38 : decode cX5_fullSlots 38 = .ok (.iload_n 1, 1) := by decide +kernel
theorem dX5_fullSlots_39 : decode cX5_fullSlots 39 = .ok (.ireturn, 1) := by decide +kernel
theorem dX5_needs_0 : decode cX5_needs 0 = .ok (.iload_n 0, 1) := by decide +kernel
theorem dX5_needs_1 : decode cX5_needs 1 = .ok (.ifCond .lt 19, 3) := by decide +kernel
theorem dX5_needs_4 : decode cX5_needs 4 = .ok (.iload_n 0, 1) := by decide +kernel
theorem dX5_needs_5 : decode cX5_needs 5 = .ok (.getstatic 290, 3) := by decide +kernel
theorem dX5_needs_8 : decode cX5_needs 8 = .ok (.arraylength, 1) := by decide +kernel
theorem dX5_needs_9 : decode cX5_needs 9 = .ok (.if_icmp .ge 11, 3) := by decide +kernel
theorem dX5_needs_12 : decode cX5_needs 12 = .ok (.getstatic 290, 3) := by decide +kernel
theorem dX5_needs_15 : decode cX5_needs 15 = .ok (.iload_n 0, 1) := by decide +kernel
theorem dX5_needs_16 : decode cX5_needs 16 = .ok (.iaload, 1) := by decide +kernel
theorem dX5_needs_17 : decode cX5_needs 17 = .ok (.goto 4, 3) := by decide +kernel
theorem dX5_needs_20 : decode cX5_needs 20 = .ok (.iconst 0, 1) := by decide +kernel
theorem dX5_needs_21 : decode cX5_needs 21 = .ok (.ireturn, 1) := by decide +kernel
theorem dX5_readAct_0 : decode cX5_readAct 0 = .ok (.aload_n 1, 1) := by decide +kernel
theorem dX5_readAct_1 : decode cX5_readAct 1 = .ok (.iload_n 2, 1) := by decide +kernel
theorem dX5_readAct_2 : decode cX5_readAct 2 = .ok (.invokevirtual 293, 3) := by decide +kernel
theorem dX5_readAct_5 : decode cX5_readAct 5 = .ok (.ifCond .eq 21, 3) := by decide +kernel
theorem dX5_readAct_8 : decode cX5_readAct 8 = .ok (.aload_n 1, 1) := by decide +kernel
theorem dX5_readAct_9 : decode cX5_readAct 9 = .ok (.iload_n 2, 1) := by decide +kernel
theorem dX5_readAct_10 : decode cX5_readAct 10 = .ok (.invokevirtual 281, 3) := by decide +kernel
theorem dX5_readAct_13 : decode cX5_readAct 13 = .ok (.iconst 0, 1) := by decide +kernel
theorem dX5_readAct_14 : decode cX5_readAct 14 = .ok (.getstatic 290, 3) := by decide +kernel
theorem dX5_readAct_17 : decode cX5_readAct 17 = .ok (.arraylength, 1) := by decide +kernel
theorem dX5_readAct_18 : decode cX5_readAct 18 = .ok (.iconst 1, 1) := by decide +kernel
theorem dX5_readAct_19 : decode cX5_readAct 19 = .ok (.isub, 1) := by decide +kernel
theorem dX5_readAct_20 : decode cX5_readAct 20 = .ok (.invokestatic 56, 3) := by decide +kernel
theorem dX5_readAct_23 : decode cX5_readAct 23 = .ok (.ifCond .ne 5, 3) := by decide +kernel
theorem dX5_readAct_26 : decode cX5_readAct 26 = .ok (.iconst 4, 1) := by decide +kernel
theorem dX5_readAct_27 : decode cX5_readAct 27 = .ok (.ireturn, 1) := by decide +kernel
theorem dX5_readAct_28 : decode cX5_readAct 28 = .ok (.aload_n 1, 1) := by decide +kernel
theorem dX5_readAct_29 : decode cX5_readAct 29 = .ok (.iload_n 2, 1) := by decide +kernel
theorem dX5_readAct_30 : decode cX5_readAct 30 = .ok (.invokevirtual 281, 3) := by decide +kernel
theorem dX5_readAct_33 : decode cX5_readAct 33 = .ok (.invokestatic 287, 3) := by decide +kernel
theorem dX5_readAct_36 : decode cX5_readAct 36 = .ok (.istore_n 3, 1) := by decide +kernel
theorem dX5_readAct_37 : decode cX5_readAct 37 = .ok (.iconst 0, 1) := by decide +kernel
theorem dX5_readAct_38 : decode cX5_readAct 38 = .ok (.istore 4, 2) := by decide +kernel
theorem dX5_readAct_40 : decode cX5_readAct 40 = .ok (.iload 4, 2) := by decide +kernel
theorem dX5_readAct_42 : decode cX5_readAct 42 = .ok (.iload_n 3, 1) := by decide +kernel
theorem dX5_readAct_43 : decode cX5_readAct 43 = .ok (.if_icmp .ge 63, 3) := by decide +kernel
theorem dX5_readAct_46 : decode cX5_readAct 46 = .ok (.iload 4, 2) := by decide +kernel
theorem dX5_readAct_48 : decode cX5_readAct 48 = .ok (.aload_n 0, 1) := by decide +kernel
theorem dX5_readAct_49 : decode cX5_readAct 49 = .ok (.getfield 48, 3) := by decide +kernel
theorem dX5_readAct_52 : decode cX5_readAct 52 = .ok (.arraylength, 1) := by decide +kernel
theorem dX5_readAct_53 : decode cX5_readAct 53 = .ok (.if_icmp .ge 53, 3) := by decide +kernel
theorem dX5_readAct_56 : decode cX5_readAct 56 = .ok (.iload_n 2, 1) := by decide +kernel
theorem dX5_readAct_57 : decode cX5_readAct 57 = .ok (.iconst 1, 1) := by decide +kernel
theorem dX5_readAct_58 : decode cX5_readAct 58 = .ok (.iadd, 1) := by decide +kernel
theorem dX5_readAct_59 : decode cX5_readAct 59 = .ok (.iload 4, 2) := by decide +kernel
theorem dX5_readAct_61 : decode cX5_readAct 61 = .ok (.iadd, 1) := by decide +kernel
theorem dX5_readAct_62 : decode cX5_readAct 62 = .ok (.istore 5, 2) := by decide +kernel
theorem dX5_readAct_64 : decode cX5_readAct 64 = .ok (.iload 5, 2) := by decide +kernel
theorem dX5_readAct_66 : decode cX5_readAct 66 = .ok (.aload_n 1, 1) := by decide +kernel
theorem dX5_readAct_67 : decode cX5_readAct 67 = .ok (.getfield 274, 3) := by decide +kernel
theorem dX5_readAct_70 : decode cX5_readAct 70 = .ok (.if_icmp .lt 6, 3) := by decide +kernel
theorem dX5_readAct_73 : decode cX5_readAct 73 = .ok (.bipush 6, 2) := by decide +kernel
theorem dX5_readAct_75 : decode cX5_readAct 75 = .ok (.ireturn, 1) := by decide +kernel
theorem dX5_readAct_76 : decode cX5_readAct 76 = .ok (.aload_n 1, 1) := by decide +kernel
theorem dX5_readAct_77 : decode cX5_readAct 77 = .ok (.iload 5, 2) := by decide +kernel
theorem dX5_readAct_79 : decode cX5_readAct 79 = .ok (.invokevirtual 293, 3) := by decide +kernel
theorem dX5_readAct_82 : decode cX5_readAct 82 = .ok (.ifCond .ne 5, 3) := by decide +kernel
theorem dX5_readAct_85 : decode cX5_readAct 85 = .ok (.iconst 4, 1) := by decide +kernel
theorem dX5_readAct_86 : decode cX5_readAct 86 = .ok (.ireturn, 1) := by decide +kernel
theorem dX5_readAct_87 : decode cX5_readAct 87 = .ok (.aload_n 0, 1) := by decide +kernel
theorem dX5_readAct_88 : decode cX5_readAct 88 = .ok (.getfield 48, 3) := by decide +kernel
theorem dX5_readAct_91 : decode cX5_readAct 91 = .ok (.iload 4, 2) := by decide +kernel
theorem dX5_readAct_93 : decode cX5_readAct 93 = .ok (.aload_n 1, 1) := by decide +kernel
theorem dX5_readAct_94 : decode cX5_readAct 94 = .ok (.iload 5, 2) := by decide +kernel
theorem dX5_readAct_96 : decode cX5_readAct 96 = .ok (.invokevirtual 281, 3) := by decide +kernel
theorem dX5_readAct_99 : decode cX5_readAct 99 = .ok (.iastore, 1) := by decide +kernel
theorem dX5_readAct_100 : decode cX5_readAct 100 = .ok (.iinc 4 1, 3) := by decide +kernel
theorem dX5_readAct_103 : decode cX5_readAct 103 = .ok (.goto (-63), 3) := by decide +kernel
theorem dX5_readAct_106 : decode cX5_readAct 106 = .ok (.iconst 0, 1) := by decide +kernel
theorem dX5_readAct_107 : decode cX5_readAct 107 = .ok (.ireturn, 1) := by decide +kernel
theorem dX5_isDone_0 : decode cX5_isDone 0 = .ok (.iload_n 1, 1) := by decide +kernel
theorem dX5_isDone_1 : decode cX5_isDone 1 = .ok (.tableswitch 227 0 7 #[47, 78, 103, 132, 161, 180, 199, 210], 47) := by decide +kernel
theorem dX5_isDone_48 : decode cX5_isDone 48 = .ok (.aload_n 0, 1) := by decide +kernel
theorem dX5_isDone_49 : decode cX5_isDone 49 = .ok (.aload_n 0, 1) := by decide +kernel
theorem dX5_isDone_50 : decode cX5_isDone 50 = .ok (.getfield 48, 3) := by decide +kernel
theorem dX5_isDone_53 : decode cX5_isDone 53 = .ok (.iconst 0, 1) := by decide +kernel
theorem dX5_isDone_54 : decode cX5_isDone 54 = .ok (.iaload, 1) := by decide +kernel
theorem dX5_isDone_55 : decode cX5_isDone 55 = .ok (.aload_n 0, 1) := by decide +kernel
theorem dX5_isDone_56 : decode cX5_isDone 56 = .ok (.getfield 48, 3) := by decide +kernel
theorem dX5_isDone_59 : decode cX5_isDone 59 = .ok (.iconst 1, 1) := by decide +kernel
theorem dX5_isDone_60 : decode cX5_isDone 60 = .ok (.iaload, 1) := by decide +kernel
theorem dX5_isDone_61 : decode cX5_isDone 61 = .ok (.aload_n 0, 1) := by decide +kernel
theorem dX5_isDone_62 : decode cX5_isDone 62 = .ok (.getfield 48, 3) := by decide +kernel
theorem dX5_isDone_65 : decode cX5_isDone 65 = .ok (.iconst 2, 1) := by decide +kernel
theorem dX5_isDone_66 : decode cX5_isDone 66 = .ok (.iaload, 1) := by decide +kernel
theorem dX5_isDone_67 : decode cX5_isDone 67 = .ok (.invokevirtual 296, 3) := by decide +kernel
theorem dX5_isDone_70 : decode cX5_isDone 70 = .ok (.ifCond .lt 7, 3) := by decide +kernel
theorem dX5_isDone_73 : decode cX5_isDone 73 = .ok (.iconst 1, 1) := by decide +kernel
theorem dX5_isDone_74 : decode cX5_isDone 74 = .ok (.goto 4, 3) := by decide +kernel
theorem dX5_isDone_77 : decode cX5_isDone 77 = .ok (.iconst 0, 1) := by decide +kernel
theorem dX5_isDone_78 : decode cX5_isDone 78 = .ok (.ireturn, 1) := by decide +kernel
theorem dX5_isDone_79 : decode cX5_isDone 79 = .ok (.aload_n 0, 1) := by decide +kernel
theorem dX5_isDone_80 : decode cX5_isDone 80 = .ok (.aload_n 0, 1) := by decide +kernel
theorem dX5_isDone_81 : decode cX5_isDone 81 = .ok (.getfield 48, 3) := by decide +kernel
theorem dX5_isDone_84 : decode cX5_isDone 84 = .ok (.iconst 0, 1) := by decide +kernel
theorem dX5_isDone_85 : decode cX5_isDone 85 = .ok (.iaload, 1) := by decide +kernel
theorem dX5_isDone_86 : decode cX5_isDone 86 = .ok (.aload_n 0, 1) := by decide +kernel
theorem dX5_isDone_87 : decode cX5_isDone 87 = .ok (.getfield 48, 3) := by decide +kernel
theorem dX5_isDone_90 : decode cX5_isDone 90 = .ok (.iconst 1, 1) := by decide +kernel
theorem dX5_isDone_91 : decode cX5_isDone 91 = .ok (.iaload, 1) := by decide +kernel
theorem dX5_isDone_92 : decode cX5_isDone 92 = .ok (.invokevirtual 299, 3) := by decide +kernel
theorem dX5_isDone_95 : decode cX5_isDone 95 = .ok (.ifCond .lt 7, 3) := by decide +kernel
theorem dX5_isDone_98 : decode cX5_isDone 98 = .ok (.iconst 1, 1) := by decide +kernel
theorem dX5_isDone_99 : decode cX5_isDone 99 = .ok (.goto 4, 3) := by decide +kernel
theorem dX5_isDone_102 : decode cX5_isDone 102 = .ok (.iconst 0, 1) := by decide +kernel
theorem dX5_isDone_103 : decode cX5_isDone 103 = .ok (.ireturn, 1) := by decide +kernel
theorem dX5_isDone_104 : decode cX5_isDone 104 = .ok (.aload_n 0, 1) := by decide +kernel
theorem dX5_isDone_105 : decode cX5_isDone 105 = .ok (.aload_n 0, 1) := by decide +kernel
theorem dX5_isDone_106 : decode cX5_isDone 106 = .ok (.getfield 48, 3) := by decide +kernel
theorem dX5_isDone_109 : decode cX5_isDone 109 = .ok (.iconst 0, 1) := by decide +kernel
theorem dX5_isDone_110 : decode cX5_isDone 110 = .ok (.iaload, 1) := by decide +kernel
theorem dX5_isDone_111 : decode cX5_isDone 111 = .ok (.aload_n 0, 1) := by decide +kernel
theorem dX5_isDone_112 : decode cX5_isDone 112 = .ok (.getfield 48, 3) := by decide +kernel
theorem dX5_isDone_115 : decode cX5_isDone 115 = .ok (.iconst 1, 1) := by decide +kernel
theorem dX5_isDone_116 : decode cX5_isDone 116 = .ok (.iaload, 1) := by decide +kernel
theorem dX5_isDone_117 : decode cX5_isDone 117 = .ok (.aload_n 0, 1) := by decide +kernel
theorem dX5_isDone_118 : decode cX5_isDone 118 = .ok (.getfield 48, 3) := by decide +kernel
theorem dX5_isDone_121 : decode cX5_isDone 121 = .ok (.iconst 2, 1) := by decide +kernel
theorem dX5_isDone_122 : decode cX5_isDone 122 = .ok (.iaload, 1) := by decide +kernel
theorem dX5_isDone_123 : decode cX5_isDone 123 = .ok (.aload_n 0, 1) := by decide +kernel
theorem dX5_isDone_124 : decode cX5_isDone 124 = .ok (.getfield 48, 3) := by decide +kernel
theorem dX5_isDone_127 : decode cX5_isDone 127 = .ok (.iconst 3, 1) := by decide +kernel
theorem dX5_isDone_128 : decode cX5_isDone 128 = .ok (.iaload, 1) := by decide +kernel
theorem dX5_isDone_129 : decode cX5_isDone 129 = .ok (.invokevirtual 302, 3) := by decide +kernel
theorem dX5_isDone_132 : decode cX5_isDone 132 = .ok (.ireturn, 1) := by decide +kernel
theorem dX5_isDone_133 : decode cX5_isDone 133 = .ok (.aload_n 0, 1) := by decide +kernel
theorem dX5_isDone_134 : decode cX5_isDone 134 = .ok (.aload_n 0, 1) := by decide +kernel
theorem dX5_isDone_135 : decode cX5_isDone 135 = .ok (.getfield 48, 3) := by decide +kernel
theorem dX5_isDone_138 : decode cX5_isDone 138 = .ok (.iconst 0, 1) := by decide +kernel
theorem dX5_isDone_139 : decode cX5_isDone 139 = .ok (.iaload, 1) := by decide +kernel
theorem dX5_isDone_140 : decode cX5_isDone 140 = .ok (.aload_n 0, 1) := by decide +kernel
theorem dX5_isDone_141 : decode cX5_isDone 141 = .ok (.getfield 48, 3) := by decide +kernel
theorem dX5_isDone_144 : decode cX5_isDone 144 = .ok (.iconst 1, 1) := by decide +kernel
theorem dX5_isDone_145 : decode cX5_isDone 145 = .ok (.iaload, 1) := by decide +kernel
theorem dX5_isDone_146 : decode cX5_isDone 146 = .ok (.aload_n 0, 1) := by decide +kernel
theorem dX5_isDone_147 : decode cX5_isDone 147 = .ok (.getfield 48, 3) := by decide +kernel
theorem dX5_isDone_150 : decode cX5_isDone 150 = .ok (.iconst 2, 1) := by decide +kernel
theorem dX5_isDone_151 : decode cX5_isDone 151 = .ok (.iaload, 1) := by decide +kernel
theorem dX5_isDone_152 : decode cX5_isDone 152 = .ok (.aload_n 0, 1) := by decide +kernel
theorem dX5_isDone_153 : decode cX5_isDone 153 = .ok (.getfield 48, 3) := by decide +kernel
theorem dX5_isDone_156 : decode cX5_isDone 156 = .ok (.iconst 3, 1) := by decide +kernel
theorem dX5_isDone_157 : decode cX5_isDone 157 = .ok (.iaload, 1) := by decide +kernel
theorem dX5_isDone_158 : decode cX5_isDone 158 = .ok (.invokevirtual 306, 3) := by decide +kernel
theorem dX5_isDone_161 : decode cX5_isDone 161 = .ok (.ireturn, 1) := by decide +kernel
theorem dX5_isDone_162 : decode cX5_isDone 162 = .ok (.aload_n 0, 1) := by decide +kernel
theorem dX5_isDone_163 : decode cX5_isDone 163 = .ok (.aload_n 0, 1) := by decide +kernel
theorem dX5_isDone_164 : decode cX5_isDone 164 = .ok (.getfield 48, 3) := by decide +kernel
theorem dX5_isDone_167 : decode cX5_isDone 167 = .ok (.iconst 0, 1) := by decide +kernel
theorem dX5_isDone_168 : decode cX5_isDone 168 = .ok (.iaload, 1) := by decide +kernel
theorem dX5_isDone_169 : decode cX5_isDone 169 = .ok (.invokevirtual 309, 3) := by decide +kernel
theorem dX5_isDone_172 : decode cX5_isDone 172 = .ok (.ifCond .lt 7, 3) := by decide +kernel
theorem dX5_isDone_175 : decode cX5_isDone 175 = .ok (.iconst 1, 1) := by decide +kernel
theorem dX5_isDone_176 : decode cX5_isDone 176 = .ok (.goto 4, 3) := by decide +kernel
theorem dX5_isDone_179 : decode cX5_isDone 179 = .ok (.iconst 0, 1) := by decide +kernel
theorem dX5_isDone_180 : decode cX5_isDone 180 = .ok (.ireturn, 1) := by decide +kernel
theorem dX5_isDone_181 : decode cX5_isDone 181 = .ok (.aload_n 0, 1) := by decide +kernel
theorem dX5_isDone_182 : decode cX5_isDone 182 = .ok (.aload_n 0, 1) := by decide +kernel
theorem dX5_isDone_183 : decode cX5_isDone 183 = .ok (.getfield 48, 3) := by decide +kernel
theorem dX5_isDone_186 : decode cX5_isDone 186 = .ok (.iconst 0, 1) := by decide +kernel
theorem dX5_isDone_187 : decode cX5_isDone 187 = .ok (.iaload, 1) := by decide +kernel
theorem dX5_isDone_188 : decode cX5_isDone 188 = .ok (.invokevirtual 312, 3) := by decide +kernel
theorem dX5_isDone_191 : decode cX5_isDone 191 = .ok (.ifCond .lt 7, 3) := by decide +kernel
theorem dX5_isDone_194 : decode cX5_isDone 194 = .ok (.iconst 1, 1) := by decide +kernel
theorem dX5_isDone_195 : decode cX5_isDone 195 = .ok (.goto 4, 3) := by decide +kernel
theorem dX5_isDone_198 : decode cX5_isDone 198 = .ok (.iconst 0, 1) := by decide +kernel
theorem dX5_isDone_199 : decode cX5_isDone 199 = .ok (.ireturn, 1) := by decide +kernel
theorem dX5_isDone_200 : decode cX5_isDone 200 = .ok (.aload_n 0, 1) := by decide +kernel
theorem dX5_isDone_201 : decode cX5_isDone 201 = .ok (.aload_n 0, 1) := by decide +kernel
theorem dX5_isDone_202 : decode cX5_isDone 202 = .ok (.getfield 48, 3) := by decide +kernel
theorem dX5_isDone_205 : decode cX5_isDone 205 = .ok (.iconst 0, 1) := by decide +kernel
theorem dX5_isDone_206 : decode cX5_isDone 206 = .ok (.iaload, 1) := by decide +kernel
theorem dX5_isDone_207 : decode cX5_isDone 207 = .ok (.invokevirtual 315, 3) := by decide +kernel
theorem dX5_isDone_210 : decode cX5_isDone 210 = .ok (.ireturn, 1) := by decide +kernel
theorem dX5_isDone_211 : decode cX5_isDone 211 = .ok (.aload_n 0, 1) := by decide +kernel
theorem dX5_isDone_212 : decode cX5_isDone 212 = .ok (.aload_n 0, 1) := by decide +kernel
theorem dX5_isDone_213 : decode cX5_isDone 213 = .ok (.getfield 48, 3) := by decide +kernel
theorem dX5_isDone_216 : decode cX5_isDone 216 = .ok (.iconst 0, 1) := by decide +kernel
theorem dX5_isDone_217 : decode cX5_isDone 217 = .ok (.iaload, 1) := by decide +kernel
theorem dX5_isDone_218 : decode cX5_isDone 218 = .ok (.aload_n 0, 1) := by decide +kernel
theorem dX5_isDone_219 : decode cX5_isDone 219 = .ok (.getfield 48, 3) := by decide +kernel
theorem dX5_isDone_222 : decode cX5_isDone 222 = .ok (.iconst 1, 1) := by decide +kernel
theorem dX5_isDone_223 : decode cX5_isDone 223 = .ok (.iaload, 1) := by decide +kernel
theorem dX5_isDone_224 : decode cX5_isDone 224 = .ok (.invokevirtual 318, 3) := by decide +kernel
theorem dX5_isDone_227 : decode cX5_isDone 227 = .ok (.ireturn, 1) := by decide +kernel
theorem dX5_isDone_228 : decode cX5_isDone 228 = .ok (.iconst 0, 1) := by decide +kernel
theorem dX5_isDone_229 : decode cX5_isDone 229 = .ok (.ireturn, 1) := by decide +kernel
